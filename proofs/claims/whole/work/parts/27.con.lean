def K_Draft_translate (l : Launch) (D : va_G) (cI cC : ClassId) : Prop :=
  ∀ (ht ht_row ht_made ht_row_row ht_made_ops ht_made_numbers ht_made_heights : Nat) (t_at : Int32) (t_row_size : Int32) (t_row_row : Nat → Int32) (t_made_size : Int32) (t_made_ops : Nat → Int32) (t_made_numbers : Nat → Int32) (t_made_heights : Nat → Int32) (q : Int32 × (Nat → Int32) × (Nat → Int32) × (Nat → Int32) × Int32 × Int32), g_Draft_translate t_row_row t_row_size t_made_ops t_made_numbers t_made_heights t_made_size t_at = some q → ∀ (sz : Nat), Met l y_Draft_translate w_Draft_translate ({ frames := 207, cells := 0, slots := 0, locals := 4653 }) (va_Pc [.ref ht] (gB D (gT cI cC) [(ht, .inr (1, [.ref ht_row, .ref ht_made, .int t_at])), (ht_row, .inr (0, [.ref ht_row_row, .int t_row_size])), (ht_row_row, .inl (cC, 120, .inl t_row_row)), (ht_made, .inr (2, [.ref ht_made_ops, .ref ht_made_numbers, .ref ht_made_heights, .int t_made_size])), (ht_made_ops, .inl (cI, 31, .inl t_made_ops)), (ht_made_numbers, .inl (cI, 31, .inl t_made_numbers)), (ht_made_heights, .inl (cI, (31 + 1), .inl t_made_heights))] sz)) (gQi D (gT cI cC) q.1 [(ht, .inr (1, [.ref ht_row, .ref ht_made, .int q.2.2.2.2.2])), (ht_row, .inr (0, [.ref ht_row_row, .int t_row_size])), (ht_row_row, .inl (cC, 120, .inl t_row_row)), (ht_made, .inr (2, [.ref ht_made_ops, .ref ht_made_numbers, .ref ht_made_heights, .int q.2.2.2.2.1])), (ht_made_ops, .inl (cI, 31, .inl q.2.1)), (ht_made_numbers, .inl (cI, 31, .inl q.2.2.1)), (ht_made_heights, .inl (cI, (31 + 1), .inl q.2.2.2.1))] (va_A [(ht, .inr (1, [.ref ht_row, .ref ht_made, .int t_at])), (ht_row, .inr (0, [.ref ht_row_row, .int t_row_size])), (ht_row_row, .inl (cC, 120, .inl t_row_row)), (ht_made, .inr (2, [.ref ht_made_ops, .ref ht_made_numbers, .ref ht_made_heights, .int t_made_size])), (ht_made_ops, .inl (cI, 31, .inl t_made_ops)), (ht_made_numbers, .inl (cI, 31, .inl t_made_numbers)), (ht_made_heights, .inl (cI, (31 + 1), .inl t_made_heights))] sz)) 0 0 (va_A [(ht, .inr (1, [.ref ht_row, .ref ht_made, .int t_at])), (ht_row, .inr (0, [.ref ht_row_row, .int t_row_size])), (ht_row_row, .inl (cC, 120, .inl t_row_row)), (ht_made, .inr (2, [.ref ht_made_ops, .ref ht_made_numbers, .ref ht_made_heights, .int t_made_size])), (ht_made_ops, .inl (cI, 31, .inl t_made_ops)), (ht_made_numbers, .inl (cI, 31, .inl t_made_numbers)), (ht_made_heights, .inl (cI, (31 + 1), .inl t_made_heights))] sz)
set_option maxHeartbeats 4000000 in
set_option maxRecDepth 100000 in
theorem c_Draft_translate (l : Launch) (D : va_G) (cI cC : ClassId) : K_Draft_translate l D cI cC := by
  intro ht ht_row ht_made ht_row_row ht_made_ops ht_made_numbers ht_made_heights t_at t_row_size t_row_row t_made_size t_made_ops t_made_numbers t_made_heights q h sz
  refine Met.ofW (cc := k_Draft_translate) (maxL := 2) (ret := (some .int)) (by decide) rfl ?_
  intro p e s m args below meth c s₁ B hml hv
  obtain ⟨rfl, hsz, hP, hK, hD0⟩ := hv
  have hx := B.exec
  have hb := B.bytes
  have hr := B.returns
  have hts : ∀ w ∈ lw_t, w.before ([.ref ht] : List Value).toArray s = true := fun w h => atoms_spec (ws := w_Draft_translate) B.pre w (List.mem_cons_of_mem _ h)
  have hown : s.vm.findClass R_Draft = some m.cls := findClass_of_methodNamed B.named
  have hlocks := B.notSynchronized
  subst hsz
  have hD := hD0.self (sz := s.heap.size)
  generalize hAe : va_A [(ht, .inr (1, [.ref ht_row, .ref ht_made, .int t_at])), (ht_row, .inr (0, [.ref ht_row_row, .int t_row_size])), (ht_row_row, .inl (cC, 120, .inl t_row_row)), (ht_made, .inr (2, [.ref ht_made_ops, .ref ht_made_numbers, .ref ht_made_heights, .int t_made_size])), (ht_made_ops, .inl (cI, 31, .inl t_made_ops)), (ht_made_numbers, .inl (cI, 31, .inl t_made_numbers)), (ht_made_heights, .inl (cI, (31 + 1), .inl t_made_heights))] s.heap.size = A at hD ⊢
  have hA : ∀ q : Nat, s.heap.size ≤ q → A q := fun q h => by rw [← hAe]; exact Or.inr h
  have hS : va_S A s.heap s.heap [] := va_S.rf
  have f_14 := hts _ mt_1_62
  have f_23 := hts _ mt_1_63
  have f_27 := hts _ mt_1_64
  have J_39 : ∀ (t_made_ops : Nat → Int32) (t_made_numbers : Nat → Int32) (t_made_heights : Nat → Int32) (t_made_size : Int32) (t_at : Int32) (k0 : Int32), b_Draft_translate_39 t_row_row t_row_size t_made_ops t_made_numbers t_made_heights t_made_size t_at k0 = some q → gJ p l e (headSpec w_Draft_translate ({ frames := 207, cells := 0, slots := 0, locals := 4653 })).room s m ([.ref ht] : List Value).toArray below meth c D A 2 (MQ below (gQi D (gT cI cC) q.1 [(ht, .inr (1, [.ref ht_row, .ref ht_made, .int q.2.2.2.2.2])), (ht_row, .inr (0, [.ref ht_row_row, .int t_row_size])), (ht_row_row, .inl (cC, 120, .inl t_row_row)), (ht_made, .inr (2, [.ref ht_made_ops, .ref ht_made_numbers, .ref ht_made_heights, .int q.2.2.2.2.1])), (ht_made_ops, .inl (cI, 31, .inl q.2.1)), (ht_made_numbers, .inl (cI, 31, .inl q.2.2.1)), (ht_made_heights, .inl (cI, (31 + 1), .inl q.2.2.2.1))] A) ([.ref ht] : List Value).toArray s 0 0 A) 39 [(ht, .inr (1, [.ref ht_row, .ref ht_made, .int t_at])), (ht_row, .inr (0, [.ref ht_row_row, .int t_row_size])), (ht_row_row, .inl (cC, 120, .inl t_row_row)), (ht_made, .inr (2, [.ref ht_made_ops, .ref ht_made_numbers, .ref ht_made_heights, .int t_made_size])), (ht_made_ops, .inl (cI, 31, .inl t_made_ops)), (ht_made_numbers, .inl (cI, 31, .inl t_made_numbers)), (ht_made_heights, .inl (cI, (31 + 1), .inl t_made_heights))] [(0, .ref ht)] [.int k0] := by
    intro t_made_ops t_made_numbers t_made_heights t_made_size t_at k0 h H locs ls hP hD hS hl
    unfold b_Draft_translate_39 at h
    refine lv_istore_n (lv' := [(1, .int k0), (0, .ref ht)]) hx hb d_Draft_translate_39 rfl hl (by decide) rfl (fun ls hl => ?_)
    refine lv_iload_n hx hb d_Draft_translate_40 rfl (lv_at hl 0 rfl) ?_
    refine lv_if_eq (tgt := 61) hx hb d_Draft_translate_41 (by decide) (fun ec => ?_) (fun ec => ?_)
    · have h := g_t ec h
      refine lv_aload_n hx hb d_Draft_translate_61 rfl (lv_at hl 1 rfl) ?_
      refine va_get (D := D) (ci := 1) (v := .int t_at) (C := R_Draft) (T := F_Draft) (N := 3) hx hb hts u_Draft hown hK hP 0 rfl rfl 2 (by decide) f_27 (fun _ h9 => h9) rfl d_Draft_translate_62 ?_
      cases h
      exact gr_i hx hb hr hlocks hK hP hD hS d_Draft_translate_65
    · have h := g_f ec h
      refine lv_aload_n hx hb d_Draft_translate_44 rfl (lv_at hl 1 rfl) ?_
      refine va_get (D := D) (ci := 1) (v := .ref ht_made) (C := R_Draft) (T := F_Draft) (N := 3) hx hb hts u_Draft hown hK hP 0 rfl rfl 1 (by decide) f_23 (fun _ h9 => h9) rfl d_Draft_translate_45 ?_
      obtain ⟨q1, hc, h⟩ := g_bd h
      refine gk_i (va_runV (As := []) (rest := []) ⟨hx, hb, hml, hown, hts⟩ (c_Listing_size l D cI cC ht_made ht_made_ops ht_made_numbers ht_made_heights t_made_size q1 hc _) (cwV 0 hts (gG_V mt_2_237 mt_1_195 mt_1_196 mt_1_2 mt_1_197) rfl rfl rfl (by decide +kernel) ⟨Nat.le_of_ble_eq_true rfl, Nat.le_of_ble_eq_true rfl⟩) (gpV hK hP hD [3] rfl (by decide) (ci := 2) 3 rfl rfl) rfl rfl hl.1 rfl (lv_room (Nat.le_of_ble_eq_true rfl)) d_Draft_translate_48 ⟨Nat.zero_le _, Nat.zero_le _⟩) hK hP hD hS hA [3] rfl (by decide) rfl rfl (fun H locs (hP : va_P D vwCl [(ht, .inr (1, [.ref ht_row, .ref ht_made, .int t_at])), (ht_row, .inr (0, [.ref ht_row_row, .int t_row_size])), (ht_row_row, .inl (cC, 120, .inl t_row_row)), (ht_made, .inr (2, [.ref ht_made_ops, .ref ht_made_numbers, .ref ht_made_heights, .int t_made_size])), (ht_made_ops, .inl (cI, 31, .inl t_made_ops)), (ht_made_numbers, .inl (cI, 31, .inl t_made_numbers)), (ht_made_heights, .inl (cI, (31 + 1), .inl t_made_heights))] H) (hD : va_D A [(ht, .inr (1, [.ref ht_row, .ref ht_made, .int t_at])), (ht_row, .inr (0, [.ref ht_row_row, .int t_row_size])), (ht_row_row, .inl (cC, 120, .inl t_row_row)), (ht_made, .inr (2, [.ref ht_made_ops, .ref ht_made_numbers, .ref ht_made_heights, .int t_made_size])), (ht_made_ops, .inl (cI, 31, .inl t_made_ops)), (ht_made_numbers, .inl (cI, 31, .inl t_made_numbers)), (ht_made_heights, .inl (cI, (31 + 1), .inl t_made_heights))]) hS => ?_)
      refine lv_bipush (v := (30 : Int32)) hx hb d_Draft_translate_51 (by decide) ?_
      refine lv_icmp_gt (tgt := 61) hx hb d_Draft_translate_53 (by decide) (fun ec => ?_) (fun ec => ?_)
      · have h := g_t ec h
        refine lv_aload_n hx hb d_Draft_translate_61 rfl (lv_at hl 1 rfl) ?_
        refine va_get (D := D) (ci := 1) (v := .int t_at) (C := R_Draft) (T := F_Draft) (N := 3) hx hb hts u_Draft hown hK hP 0 rfl rfl 2 (by decide) f_27 (fun _ h9 => h9) rfl d_Draft_translate_62 ?_
        cases h
        exact gr_i hx hb hr hlocks hK hP hD hS d_Draft_translate_65
      · have h := g_f ec h
        refine lv_bipush (v := (-2 : Int32)) hx hb d_Draft_translate_56 (by decide) ?_
        refine lv_goto (tgt := 65) hx hb d_Draft_translate_58 (by decide) ?_
        cases h
        exact gr_i hx hb hr hlocks hK hP hD hS d_Draft_translate_65
  have hP : va_P D vwCl [(ht, .inr (1, [.ref ht_row, .ref ht_made, .int t_at])), (ht_row, .inr (0, [.ref ht_row_row, .int t_row_size])), (ht_row_row, .inl (cC, 120, .inl t_row_row)), (ht_made, .inr (2, [.ref ht_made_ops, .ref ht_made_numbers, .ref ht_made_heights, .int t_made_size])), (ht_made_ops, .inl (cI, 31, .inl t_made_ops)), (ht_made_numbers, .inl (cI, 31, .inl t_made_numbers)), (ht_made_heights, .inl (cI, (31 + 1), .inl t_made_heights))] s.heap := hP
  have hl := lv_entry ([.ref ht]) (n := 2) (Nat.le_of_ble_eq_true rfl)
  rw [lg_entry_eq]
  generalize (lg_sl ([.ref ht]) ++ List.replicate (2 - (lg_sl ([.ref ht])).length) Slot.unset).toArray = ls at hl ⊢
  have hl : lv_has ls 2 [(0, .ref ht)] := hl
  unfold g_Draft_translate at h
  refine lv_aload_n hx hb d_Draft_translate_0 rfl (lv_at hl 0 rfl) ?_
  refine va_get (D := D) (ci := 1) (v := .ref ht_made) (C := R_Draft) (T := F_Draft) (N := 3) hx hb hts u_Draft hown hK hP 0 rfl rfl 1 (by decide) f_23 (fun _ h9 => h9) rfl d_Draft_translate_1 ?_
  obtain ⟨q1, hc, h⟩ := g_bd h
  refine gk_v (va_runV (As := []) (rest := []) ⟨hx, hb, hml, hown, hts⟩ (c_Listing_drop l D cI cC ht_made ht_made_ops ht_made_numbers ht_made_heights t_made_size q1 hc _) (cwV 0 hts (gG_V mt_2_184 mt_1_209 mt_1_210 mt_1_2 mt_1_211) rfl rfl rfl (by decide +kernel) ⟨Nat.le_of_ble_eq_true rfl, Nat.le_of_ble_eq_true rfl⟩) (gpV hK hP hD [3] rfl (by decide) (ci := 2) 3 rfl rfl) rfl rfl hl.1 rfl (lv_room (Nat.le_of_ble_eq_true rfl)) d_Draft_translate_4 ⟨Nat.zero_le _, Nat.zero_le _⟩) hK hP hD hS hA [3] rfl (by decide) rfl rfl (fun H locs (hP : va_P D vwCl [(ht, .inr (1, [.ref ht_row, .ref ht_made, .int t_at])), (ht_row, .inr (0, [.ref ht_row_row, .int t_row_size])), (ht_row_row, .inl (cC, 120, .inl t_row_row)), (ht_made, .inr (2, [.ref ht_made_ops, .ref ht_made_numbers, .ref ht_made_heights, .int q1])), (ht_made_ops, .inl (cI, 31, .inl t_made_ops)), (ht_made_numbers, .inl (cI, 31, .inl t_made_numbers)), (ht_made_heights, .inl (cI, (31 + 1), .inl t_made_heights))] H) (hD : va_D A [(ht, .inr (1, [.ref ht_row, .ref ht_made, .int t_at])), (ht_row, .inr (0, [.ref ht_row_row, .int t_row_size])), (ht_row_row, .inl (cC, 120, .inl t_row_row)), (ht_made, .inr (2, [.ref ht_made_ops, .ref ht_made_numbers, .ref ht_made_heights, .int q1])), (ht_made_ops, .inl (cI, 31, .inl t_made_ops)), (ht_made_numbers, .inl (cI, 31, .inl t_made_numbers)), (ht_made_heights, .inl (cI, (31 + 1), .inl t_made_heights))]) hS => ?_)
  refine lv_aload_n hx hb d_Draft_translate_7 rfl (lv_at hl 0 rfl) ?_
  refine lv_iconst (v := (0 : Int32)) hx hb d_Draft_translate_8 (by decide) ?_
  refine va_put (D := D) (ci := 1) (v := .int (0 : Int32)) (ty := .int) (C := R_Draft) (T := F_Draft) (N := 3) hx hb hts u_Draft t_Draft t_Draft_ok n_Draft hown hK hP hD hS 0 rfl rfl 2 (by decide) f_27 (fun _ h9 => h9) rfl (by decide +kernel) rfl rfl (Nat.le_of_ble_eq_true rfl) d_Draft_translate_9 (fun H locs (hP : va_P D vwCl [(ht, .inr (1, [.ref ht_row, .ref ht_made, .int (0 : Int32)])), (ht_row, .inr (0, [.ref ht_row_row, .int t_row_size])), (ht_row_row, .inl (cC, 120, .inl t_row_row)), (ht_made, .inr (2, [.ref ht_made_ops, .ref ht_made_numbers, .ref ht_made_heights, .int q1])), (ht_made_ops, .inl (cI, 31, .inl t_made_ops)), (ht_made_numbers, .inl (cI, 31, .inl t_made_numbers)), (ht_made_heights, .inl (cI, (31 + 1), .inl t_made_heights))] H) (hD : va_D A [(ht, .inr (1, [.ref ht_row, .ref ht_made, .int (0 : Int32)])), (ht_row, .inr (0, [.ref ht_row_row, .int t_row_size])), (ht_row_row, .inl (cC, 120, .inl t_row_row)), (ht_made, .inr (2, [.ref ht_made_ops, .ref ht_made_numbers, .ref ht_made_heights, .int q1])), (ht_made_ops, .inl (cI, 31, .inl t_made_ops)), (ht_made_numbers, .inl (cI, 31, .inl t_made_numbers)), (ht_made_heights, .inl (cI, (31 + 1), .inl t_made_heights))]) hS => ?_)
  refine lv_aload_n hx hb d_Draft_translate_12 rfl (lv_at hl 0 rfl) ?_
  refine lv_iconst (v := (0 : Int32)) hx hb d_Draft_translate_13 (by decide) ?_
  obtain ⟨q2, hc, h⟩ := g_bd h
  refine gk_i (va_runV (As := [.int (0 : Int32)]) (rest := []) ⟨hx, hb, hml, hown, hts⟩ ((c_Draft_takeStatements l D cI cC 100) ht ht_row ht_made ht_row_row ht_made_ops ht_made_numbers ht_made_heights (0 : Int32) t_row_size t_row_row q1 t_made_ops t_made_numbers t_made_heights (0 : Int32) q2 hc _) (cwV 1 hts (gG_V mt_2_185 mt_2_187 mp_9 mt_1_3 mt_2_188) rfl rfl rfl (by decide +kernel) ⟨Nat.le_of_ble_eq_true rfl, Nat.le_of_ble_eq_true rfl⟩) (gpV hK hP hD [0, 1, 2, 3, 4, 5, 6] rfl (by decide) (ci := 1) 0 rfl rfl) rfl rfl hl.1 rfl (lv_room (Nat.le_of_ble_eq_true rfl)) d_Draft_translate_14 ⟨Nat.zero_le _, Nat.zero_le _⟩) hK hP hD hS hA [0, 1, 2, 3, 4, 5, 6] rfl (by decide) rfl rfl (fun H locs (hP : va_P D vwCl [(ht, .inr (1, [.ref ht_row, .ref ht_made, .int q2.2.2.2.2.2])), (ht_row, .inr (0, [.ref ht_row_row, .int t_row_size])), (ht_row_row, .inl (cC, 120, .inl t_row_row)), (ht_made, .inr (2, [.ref ht_made_ops, .ref ht_made_numbers, .ref ht_made_heights, .int q2.2.2.2.2.1])), (ht_made_ops, .inl (cI, 31, .inl q2.2.1)), (ht_made_numbers, .inl (cI, 31, .inl q2.2.2.1)), (ht_made_heights, .inl (cI, (31 + 1), .inl q2.2.2.2.1))] H) (hD : va_D A [(ht, .inr (1, [.ref ht_row, .ref ht_made, .int q2.2.2.2.2.2])), (ht_row, .inr (0, [.ref ht_row_row, .int t_row_size])), (ht_row_row, .inl (cC, 120, .inl t_row_row)), (ht_made, .inr (2, [.ref ht_made_ops, .ref ht_made_numbers, .ref ht_made_heights, .int q2.2.2.2.2.1])), (ht_made_ops, .inl (cI, 31, .inl q2.2.1)), (ht_made_numbers, .inl (cI, 31, .inl q2.2.2.1)), (ht_made_heights, .inl (cI, (31 + 1), .inl q2.2.2.2.1))]) hS => ?_)
  refine lv_if_eq (tgt := 38) hx hb d_Draft_translate_17 (by decide) (fun ec => ?_) (fun ec => ?_)
  · have h := g_t ec h
    refine lv_iconst (v := (0 : Int32)) hx hb d_Draft_translate_38 (by decide) ?_
    exact J_39 _ _ _ _ _ _ h _ _ _ hP hD hS (lv_sub hl [0] rfl)
  · have h := g_f ec h
    refine lv_aload_n hx hb d_Draft_translate_20 rfl (lv_at hl 0 rfl) ?_
    refine va_get (D := D) (ci := 1) (v := .int q2.2.2.2.2.2) (C := R_Draft) (T := F_Draft) (N := 3) hx hb hts u_Draft hown hK hP 0 rfl rfl 2 (by decide) f_27 (fun _ h9 => h9) rfl d_Draft_translate_21 ?_
    refine lv_aload_n hx hb d_Draft_translate_24 rfl (lv_at hl 0 rfl) ?_
    refine va_get (D := D) (ci := 1) (v := .ref ht_row) (C := R_Draft) (T := F_Draft) (N := 3) hx hb hts u_Draft hown hK hP 0 rfl rfl 0 (by decide) f_14 (fun _ h9 => h9) rfl d_Draft_translate_25 ?_
    obtain ⟨q3, hc, h⟩ := g_bd h
    refine gk_i (va_runV (As := []) (rest := [.int q2.2.2.2.2.2]) ⟨hx, hb, hml, hown, hts⟩ (c_Characters_size l D cI cC ht_row ht_row_row t_row_size q3 hc _) (cwV 0 hts (gG_V mt_2_189 mt_1_217 mt_1_218 mt_1_4 mt_1_219) rfl rfl rfl (by decide +kernel) ⟨Nat.le_of_ble_eq_true rfl, Nat.le_of_ble_eq_true rfl⟩) (gpV hK hP hD [1] rfl (by decide) (ci := 0) 1 rfl rfl) rfl rfl hl.1 rfl (lv_room (Nat.le_of_ble_eq_true rfl)) d_Draft_translate_28 ⟨Nat.zero_le _, Nat.zero_le _⟩) hK hP hD hS hA [1] rfl (by decide) rfl rfl (fun H locs (hP : va_P D vwCl [(ht, .inr (1, [.ref ht_row, .ref ht_made, .int q2.2.2.2.2.2])), (ht_row, .inr (0, [.ref ht_row_row, .int t_row_size])), (ht_row_row, .inl (cC, 120, .inl t_row_row)), (ht_made, .inr (2, [.ref ht_made_ops, .ref ht_made_numbers, .ref ht_made_heights, .int q2.2.2.2.2.1])), (ht_made_ops, .inl (cI, 31, .inl q2.2.1)), (ht_made_numbers, .inl (cI, 31, .inl q2.2.2.1)), (ht_made_heights, .inl (cI, (31 + 1), .inl q2.2.2.2.1))] H) (hD : va_D A [(ht, .inr (1, [.ref ht_row, .ref ht_made, .int q2.2.2.2.2.2])), (ht_row, .inr (0, [.ref ht_row_row, .int t_row_size])), (ht_row_row, .inl (cC, 120, .inl t_row_row)), (ht_made, .inr (2, [.ref ht_made_ops, .ref ht_made_numbers, .ref ht_made_heights, .int q2.2.2.2.2.1])), (ht_made_ops, .inl (cI, 31, .inl q2.2.1)), (ht_made_numbers, .inl (cI, 31, .inl q2.2.2.1)), (ht_made_heights, .inl (cI, (31 + 1), .inl q2.2.2.2.1))]) hS => ?_)
    refine lv_icmp_ne (tgt := 38) hx hb d_Draft_translate_31 (by decide) (fun ec => ?_) (fun ec => ?_)
    · have h := g_f ec h
      refine lv_iconst (v := (0 : Int32)) hx hb d_Draft_translate_38 (by decide) ?_
      exact J_39 _ _ _ _ _ _ h _ _ _ hP hD hS (lv_sub hl [0] rfl)
    · have h := g_t ec h
      refine lv_iconst (v := (1 : Int32)) hx hb d_Draft_translate_34 (by decide) ?_
      refine lv_goto (tgt := 39) hx hb d_Draft_translate_35 (by decide) ?_
      exact J_39 _ _ _ _ _ _ h _ _ _ hP hD hS (lv_sub hl [0] rfl)
def K_S_read (l : Launch) (D : va_G) (cI cC : ClassId) : Prop :=
  ∀ (ht ht_listing ht_draft ht_written ht_tree ht_machine ht_listing_ops ht_listing_numbers ht_listing_heights ht_draft_row ht_draft_made ht_draft_row_row ht_draft_made_ops ht_draft_made_numbers ht_draft_made_heights : Nat) (t_trouble : Int32) (t_listing_size : Int32) (t_listing_ops : Nat → Int32) (t_listing_numbers : Nat → Int32) (t_listing_heights : Nat → Int32) (t_draft_at : Int32) (t_draft_row_size : Int32) (t_draft_row_row : Nat → Int32) (t_draft_made_size : Int32) (t_draft_made_ops : Nat → Int32) (t_draft_made_numbers : Nat → Int32) (t_draft_made_heights : Nat → Int32) (q : Int32 × (Nat → Int32) × (Nat → Int32) × (Nat → Int32) × Int32 × (Nat → Int32) × (Nat → Int32) × (Nat → Int32) × Int32 × Int32 × Int32), g_S_read t_listing_ops t_listing_numbers t_listing_heights t_listing_size t_draft_row_row t_draft_row_size t_draft_made_ops t_draft_made_numbers t_draft_made_heights t_draft_made_size t_draft_at t_trouble = some q → ∀ (sz : Nat), Met l y_S_read w_S_read ({ frames := 208, cells := 0, slots := 0, locals := 4674 }) (va_Pc [.ref ht] (gB D (gT cI cC) [(ht, .inr (5, [.ref ht_listing, .ref ht_draft, .ref ht_written, .ref ht_tree, .ref ht_machine, .int t_trouble])), (ht_listing, .inr (2, [.ref ht_listing_ops, .ref ht_listing_numbers, .ref ht_listing_heights, .int t_listing_size])), (ht_listing_ops, .inl (cI, 30, .inl t_listing_ops)), (ht_listing_numbers, .inl (cI, 30, .inl t_listing_numbers)), (ht_listing_heights, .inl (cI, (30 + 1), .inl t_listing_heights)), (ht_draft, .inr (1, [.ref ht_draft_row, .ref ht_draft_made, .int t_draft_at])), (ht_draft_row, .inr (0, [.ref ht_draft_row_row, .int t_draft_row_size])), (ht_draft_row_row, .inl (cC, 120, .inl t_draft_row_row)), (ht_draft_made, .inr (2, [.ref ht_draft_made_ops, .ref ht_draft_made_numbers, .ref ht_draft_made_heights, .int t_draft_made_size])), (ht_draft_made_ops, .inl (cI, 31, .inl t_draft_made_ops)), (ht_draft_made_numbers, .inl (cI, 31, .inl t_draft_made_numbers)), (ht_draft_made_heights, .inl (cI, (31 + 1), .inl t_draft_made_heights))] sz)) (gQi D (gT cI cC) q.1 [(ht, .inr (5, [.ref ht_listing, .ref ht_draft, .ref ht_written, .ref ht_tree, .ref ht_machine, .int q.2.2.2.2.2.2.2.2.2.2])), (ht_listing, .inr (2, [.ref ht_listing_ops, .ref ht_listing_numbers, .ref ht_listing_heights, .int q.2.2.2.2.1])), (ht_listing_ops, .inl (cI, 30, .inl q.2.1)), (ht_listing_numbers, .inl (cI, 30, .inl q.2.2.1)), (ht_listing_heights, .inl (cI, (30 + 1), .inl q.2.2.2.1)), (ht_draft, .inr (1, [.ref ht_draft_row, .ref ht_draft_made, .int q.2.2.2.2.2.2.2.2.2.1])), (ht_draft_row, .inr (0, [.ref ht_draft_row_row, .int t_draft_row_size])), (ht_draft_row_row, .inl (cC, 120, .inl t_draft_row_row)), (ht_draft_made, .inr (2, [.ref ht_draft_made_ops, .ref ht_draft_made_numbers, .ref ht_draft_made_heights, .int q.2.2.2.2.2.2.2.2.1])), (ht_draft_made_ops, .inl (cI, 31, .inl q.2.2.2.2.2.1)), (ht_draft_made_numbers, .inl (cI, 31, .inl q.2.2.2.2.2.2.1)), (ht_draft_made_heights, .inl (cI, (31 + 1), .inl q.2.2.2.2.2.2.2.1))] (va_A [(ht, .inr (5, [.ref ht_listing, .ref ht_draft, .ref ht_written, .ref ht_tree, .ref ht_machine, .int t_trouble])), (ht_listing, .inr (2, [.ref ht_listing_ops, .ref ht_listing_numbers, .ref ht_listing_heights, .int t_listing_size])), (ht_listing_ops, .inl (cI, 30, .inl t_listing_ops)), (ht_listing_numbers, .inl (cI, 30, .inl t_listing_numbers)), (ht_listing_heights, .inl (cI, (30 + 1), .inl t_listing_heights)), (ht_draft, .inr (1, [.ref ht_draft_row, .ref ht_draft_made, .int t_draft_at])), (ht_draft_row, .inr (0, [.ref ht_draft_row_row, .int t_draft_row_size])), (ht_draft_row_row, .inl (cC, 120, .inl t_draft_row_row)), (ht_draft_made, .inr (2, [.ref ht_draft_made_ops, .ref ht_draft_made_numbers, .ref ht_draft_made_heights, .int t_draft_made_size])), (ht_draft_made_ops, .inl (cI, 31, .inl t_draft_made_ops)), (ht_draft_made_numbers, .inl (cI, 31, .inl t_draft_made_numbers)), (ht_draft_made_heights, .inl (cI, (31 + 1), .inl t_draft_made_heights))] sz)) 0 0 (va_A [(ht, .inr (5, [.ref ht_listing, .ref ht_draft, .ref ht_written, .ref ht_tree, .ref ht_machine, .int t_trouble])), (ht_listing, .inr (2, [.ref ht_listing_ops, .ref ht_listing_numbers, .ref ht_listing_heights, .int t_listing_size])), (ht_listing_ops, .inl (cI, 30, .inl t_listing_ops)), (ht_listing_numbers, .inl (cI, 30, .inl t_listing_numbers)), (ht_listing_heights, .inl (cI, (30 + 1), .inl t_listing_heights)), (ht_draft, .inr (1, [.ref ht_draft_row, .ref ht_draft_made, .int t_draft_at])), (ht_draft_row, .inr (0, [.ref ht_draft_row_row, .int t_draft_row_size])), (ht_draft_row_row, .inl (cC, 120, .inl t_draft_row_row)), (ht_draft_made, .inr (2, [.ref ht_draft_made_ops, .ref ht_draft_made_numbers, .ref ht_draft_made_heights, .int t_draft_made_size])), (ht_draft_made_ops, .inl (cI, 31, .inl t_draft_made_ops)), (ht_draft_made_numbers, .inl (cI, 31, .inl t_draft_made_numbers)), (ht_draft_made_heights, .inl (cI, (31 + 1), .inl t_draft_made_heights))] sz)
set_option maxHeartbeats 4000000 in
set_option maxRecDepth 100000 in
theorem c_S_read (l : Launch) (D : va_G) (cI cC : ClassId) : K_S_read l D cI cC := by
  intro ht ht_listing ht_draft ht_written ht_tree ht_machine ht_listing_ops ht_listing_numbers ht_listing_heights ht_draft_row ht_draft_made ht_draft_row_row ht_draft_made_ops ht_draft_made_numbers ht_draft_made_heights t_trouble t_listing_size t_listing_ops t_listing_numbers t_listing_heights t_draft_at t_draft_row_size t_draft_row_row t_draft_made_size t_draft_made_ops t_draft_made_numbers t_draft_made_heights q h sz
  refine Met.ofW (cc := k_S_read) (maxL := 1) (ret := (some .int)) (by decide) rfl ?_
  intro p e s m args below meth c s₁ B hml hv
  obtain ⟨rfl, hsz, hP, hK, hD0⟩ := hv
  have hx := B.exec
  have hb := B.bytes
  have hr := B.returns
  have hts : ∀ w ∈ lw_t, w.before ([.ref ht] : List Value).toArray s = true := fun w h => atoms_spec (ws := w_S_read) B.pre w (List.mem_cons_of_mem _ h)
  have hown : s.vm.findClass R_S = some m.cls := findClass_of_methodNamed B.named
  have hlocks := B.notSynchronized
  subst hsz
  have hD := hD0.self (sz := s.heap.size)
  generalize hAe : va_A [(ht, .inr (5, [.ref ht_listing, .ref ht_draft, .ref ht_written, .ref ht_tree, .ref ht_machine, .int t_trouble])), (ht_listing, .inr (2, [.ref ht_listing_ops, .ref ht_listing_numbers, .ref ht_listing_heights, .int t_listing_size])), (ht_listing_ops, .inl (cI, 30, .inl t_listing_ops)), (ht_listing_numbers, .inl (cI, 30, .inl t_listing_numbers)), (ht_listing_heights, .inl (cI, (30 + 1), .inl t_listing_heights)), (ht_draft, .inr (1, [.ref ht_draft_row, .ref ht_draft_made, .int t_draft_at])), (ht_draft_row, .inr (0, [.ref ht_draft_row_row, .int t_draft_row_size])), (ht_draft_row_row, .inl (cC, 120, .inl t_draft_row_row)), (ht_draft_made, .inr (2, [.ref ht_draft_made_ops, .ref ht_draft_made_numbers, .ref ht_draft_made_heights, .int t_draft_made_size])), (ht_draft_made_ops, .inl (cI, 31, .inl t_draft_made_ops)), (ht_draft_made_numbers, .inl (cI, 31, .inl t_draft_made_numbers)), (ht_draft_made_heights, .inl (cI, (31 + 1), .inl t_draft_made_heights))] s.heap.size = A at hD ⊢
  have hA : ∀ q : Nat, s.heap.size ≤ q → A q := fun q h => by rw [← hAe]; exact Or.inr h
  have hS : va_S A s.heap s.heap [] := va_S.rf
  have f_14 := hts _ mt_1_150
  have f_21 := hts _ mt_1_151
  have f_46 := hts _ mt_1_155
  have hP : va_P D vwCl [(ht, .inr (5, [.ref ht_listing, .ref ht_draft, .ref ht_written, .ref ht_tree, .ref ht_machine, .int t_trouble])), (ht_listing, .inr (2, [.ref ht_listing_ops, .ref ht_listing_numbers, .ref ht_listing_heights, .int t_listing_size])), (ht_listing_ops, .inl (cI, 30, .inl t_listing_ops)), (ht_listing_numbers, .inl (cI, 30, .inl t_listing_numbers)), (ht_listing_heights, .inl (cI, (30 + 1), .inl t_listing_heights)), (ht_draft, .inr (1, [.ref ht_draft_row, .ref ht_draft_made, .int t_draft_at])), (ht_draft_row, .inr (0, [.ref ht_draft_row_row, .int t_draft_row_size])), (ht_draft_row_row, .inl (cC, 120, .inl t_draft_row_row)), (ht_draft_made, .inr (2, [.ref ht_draft_made_ops, .ref ht_draft_made_numbers, .ref ht_draft_made_heights, .int t_draft_made_size])), (ht_draft_made_ops, .inl (cI, 31, .inl t_draft_made_ops)), (ht_draft_made_numbers, .inl (cI, 31, .inl t_draft_made_numbers)), (ht_draft_made_heights, .inl (cI, (31 + 1), .inl t_draft_made_heights))] s.heap := hP
  have hl := lv_entry ([.ref ht]) (n := 1) (Nat.le_of_ble_eq_true rfl)
  rw [lg_entry_eq]
  generalize (lg_sl ([.ref ht]) ++ List.replicate (1 - (lg_sl ([.ref ht])).length) Slot.unset).toArray = ls at hl ⊢
  have hl : lv_has ls 1 [(0, .ref ht)] := hl
  unfold g_S_read at h
  refine lv_aload_n hx hb d_S_read_0 rfl (lv_at hl 0 rfl) ?_
  refine lv_aload_n hx hb d_S_read_1 rfl (lv_at hl 0 rfl) ?_
  refine va_get (D := D) (ci := 5) (v := .ref ht_draft) (C := R_S) (T := F_S) (N := 6) hx hb hts u_S hown hK hP 0 rfl rfl 1 (by decide) f_21 (fun _ h9 => h9) rfl d_S_read_2 ?_
  obtain ⟨q1, hc, h⟩ := g_bd h
  refine gk_i (va_runV (As := []) (rest := [.ref ht]) ⟨hx, hb, hml, hown, hts⟩ (c_Draft_translate l D cI cC ht_draft ht_draft_row ht_draft_made ht_draft_row_row ht_draft_made_ops ht_draft_made_numbers ht_draft_made_heights t_draft_at t_draft_row_size t_draft_row_row t_draft_made_size t_draft_made_ops t_draft_made_numbers t_draft_made_heights q1 hc _) (cwV 0 hts (gG_V mt_2_180 mt_2_181 mt_2_182 mt_1_3 mt_2_183) rfl rfl rfl (by decide +kernel) ⟨Nat.le_of_ble_eq_true rfl, Nat.le_of_ble_eq_true rfl⟩) (gpV hK hP hD [5, 6, 7, 8, 9, 10, 11] rfl (by decide) (ci := 1) 5 rfl rfl) rfl rfl hl.1 rfl (lv_room (Nat.le_of_ble_eq_true rfl)) d_S_read_5 ⟨Nat.zero_le _, Nat.zero_le _⟩) hK hP hD hS hA [5, 6, 7, 8, 9, 10, 11] rfl (by decide) rfl rfl (fun H locs (hP : va_P D vwCl [(ht, .inr (5, [.ref ht_listing, .ref ht_draft, .ref ht_written, .ref ht_tree, .ref ht_machine, .int t_trouble])), (ht_listing, .inr (2, [.ref ht_listing_ops, .ref ht_listing_numbers, .ref ht_listing_heights, .int t_listing_size])), (ht_listing_ops, .inl (cI, 30, .inl t_listing_ops)), (ht_listing_numbers, .inl (cI, 30, .inl t_listing_numbers)), (ht_listing_heights, .inl (cI, (30 + 1), .inl t_listing_heights)), (ht_draft, .inr (1, [.ref ht_draft_row, .ref ht_draft_made, .int q1.2.2.2.2.2])), (ht_draft_row, .inr (0, [.ref ht_draft_row_row, .int t_draft_row_size])), (ht_draft_row_row, .inl (cC, 120, .inl t_draft_row_row)), (ht_draft_made, .inr (2, [.ref ht_draft_made_ops, .ref ht_draft_made_numbers, .ref ht_draft_made_heights, .int q1.2.2.2.2.1])), (ht_draft_made_ops, .inl (cI, 31, .inl q1.2.1)), (ht_draft_made_numbers, .inl (cI, 31, .inl q1.2.2.1)), (ht_draft_made_heights, .inl (cI, (31 + 1), .inl q1.2.2.2.1))] H) (hD : va_D A [(ht, .inr (5, [.ref ht_listing, .ref ht_draft, .ref ht_written, .ref ht_tree, .ref ht_machine, .int t_trouble])), (ht_listing, .inr (2, [.ref ht_listing_ops, .ref ht_listing_numbers, .ref ht_listing_heights, .int t_listing_size])), (ht_listing_ops, .inl (cI, 30, .inl t_listing_ops)), (ht_listing_numbers, .inl (cI, 30, .inl t_listing_numbers)), (ht_listing_heights, .inl (cI, (30 + 1), .inl t_listing_heights)), (ht_draft, .inr (1, [.ref ht_draft_row, .ref ht_draft_made, .int q1.2.2.2.2.2])), (ht_draft_row, .inr (0, [.ref ht_draft_row_row, .int t_draft_row_size])), (ht_draft_row_row, .inl (cC, 120, .inl t_draft_row_row)), (ht_draft_made, .inr (2, [.ref ht_draft_made_ops, .ref ht_draft_made_numbers, .ref ht_draft_made_heights, .int q1.2.2.2.2.1])), (ht_draft_made_ops, .inl (cI, 31, .inl q1.2.1)), (ht_draft_made_numbers, .inl (cI, 31, .inl q1.2.2.1)), (ht_draft_made_heights, .inl (cI, (31 + 1), .inl q1.2.2.2.1))]) hS => ?_)
  refine va_put (D := D) (ci := 5) (v := .int q1.1) (ty := .int) (C := R_S) (T := F_S) (N := 6) hx hb hts u_S t_S t_S_ok n_S hown hK hP hD hS 0 rfl rfl 5 (by decide) f_46 (fun _ h9 => h9) rfl (by decide +kernel) rfl rfl (Nat.le_of_ble_eq_true rfl) d_S_read_8 (fun H locs (hP : va_P D vwCl [(ht, .inr (5, [.ref ht_listing, .ref ht_draft, .ref ht_written, .ref ht_tree, .ref ht_machine, .int q1.1])), (ht_listing, .inr (2, [.ref ht_listing_ops, .ref ht_listing_numbers, .ref ht_listing_heights, .int t_listing_size])), (ht_listing_ops, .inl (cI, 30, .inl t_listing_ops)), (ht_listing_numbers, .inl (cI, 30, .inl t_listing_numbers)), (ht_listing_heights, .inl (cI, (30 + 1), .inl t_listing_heights)), (ht_draft, .inr (1, [.ref ht_draft_row, .ref ht_draft_made, .int q1.2.2.2.2.2])), (ht_draft_row, .inr (0, [.ref ht_draft_row_row, .int t_draft_row_size])), (ht_draft_row_row, .inl (cC, 120, .inl t_draft_row_row)), (ht_draft_made, .inr (2, [.ref ht_draft_made_ops, .ref ht_draft_made_numbers, .ref ht_draft_made_heights, .int q1.2.2.2.2.1])), (ht_draft_made_ops, .inl (cI, 31, .inl q1.2.1)), (ht_draft_made_numbers, .inl (cI, 31, .inl q1.2.2.1)), (ht_draft_made_heights, .inl (cI, (31 + 1), .inl q1.2.2.2.1))] H) (hD : va_D A [(ht, .inr (5, [.ref ht_listing, .ref ht_draft, .ref ht_written, .ref ht_tree, .ref ht_machine, .int q1.1])), (ht_listing, .inr (2, [.ref ht_listing_ops, .ref ht_listing_numbers, .ref ht_listing_heights, .int t_listing_size])), (ht_listing_ops, .inl (cI, 30, .inl t_listing_ops)), (ht_listing_numbers, .inl (cI, 30, .inl t_listing_numbers)), (ht_listing_heights, .inl (cI, (30 + 1), .inl t_listing_heights)), (ht_draft, .inr (1, [.ref ht_draft_row, .ref ht_draft_made, .int q1.2.2.2.2.2])), (ht_draft_row, .inr (0, [.ref ht_draft_row_row, .int t_draft_row_size])), (ht_draft_row_row, .inl (cC, 120, .inl t_draft_row_row)), (ht_draft_made, .inr (2, [.ref ht_draft_made_ops, .ref ht_draft_made_numbers, .ref ht_draft_made_heights, .int q1.2.2.2.2.1])), (ht_draft_made_ops, .inl (cI, 31, .inl q1.2.1)), (ht_draft_made_numbers, .inl (cI, 31, .inl q1.2.2.1)), (ht_draft_made_heights, .inl (cI, (31 + 1), .inl q1.2.2.2.1))]) hS => ?_)
  refine lv_aload_n hx hb d_S_read_11 rfl (lv_at hl 0 rfl) ?_
  refine va_get (D := D) (ci := 5) (v := .int q1.1) (C := R_S) (T := F_S) (N := 6) hx hb hts u_S hown hK hP 0 rfl rfl 5 (by decide) f_46 (fun _ h9 => h9) rfl d_S_read_12 ?_
  refine lv_bipush (v := (-2 : Int32)) hx hb d_S_read_15 (by decide) ?_
  refine lv_icmp_eq (tgt := 23) hx hb d_S_read_17 (by decide) (fun ec => ?_) (fun ec => ?_)
  · have h := g_t ec h
    refine lv_aload_n hx hb d_S_read_23 rfl (lv_at hl 0 rfl) ?_
    refine va_get (D := D) (ci := 5) (v := .ref ht_listing) (C := R_S) (T := F_S) (N := 6) hx hb hts u_S hown hK hP 0 rfl rfl 0 (by decide) f_14 (fun _ h9 => h9) rfl d_S_read_24 ?_
    refine lv_aload_n hx hb d_S_read_27 rfl (lv_at hl 0 rfl) ?_
    refine va_get (D := D) (ci := 5) (v := .ref ht_draft) (C := R_S) (T := F_S) (N := 6) hx hb hts u_S hown hK hP 0 rfl rfl 1 (by decide) f_21 (fun _ h9 => h9) rfl d_S_read_28 ?_
    refine gk_r (va_runV (As := []) (rest := [.ref ht_listing]) ⟨hx, hb, hml, hown, hts⟩ (c_Draft_made l D cI cC ht_draft ht_draft_row ht_draft_made q1.2.2.2.2.2 _) (cwV 0 hts (gG_V mt_3_11 mt_3_12 mt_3_13 mt_1_3 mt_3_14) rfl rfl rfl (by decide +kernel) ⟨Nat.le_of_ble_eq_true rfl, Nat.le_of_ble_eq_true rfl⟩) (gpV hK hP hD [5] rfl (by decide) (ci := 1) 5 rfl rfl) rfl rfl hl.1 rfl (lv_room (Nat.le_of_ble_eq_true rfl)) d_S_read_31 ⟨Nat.zero_le _, Nat.zero_le _⟩) hK hP hD hS hA [5] rfl (by decide) rfl rfl (fun H locs (hP : va_P D vwCl [(ht, .inr (5, [.ref ht_listing, .ref ht_draft, .ref ht_written, .ref ht_tree, .ref ht_machine, .int q1.1])), (ht_listing, .inr (2, [.ref ht_listing_ops, .ref ht_listing_numbers, .ref ht_listing_heights, .int t_listing_size])), (ht_listing_ops, .inl (cI, 30, .inl t_listing_ops)), (ht_listing_numbers, .inl (cI, 30, .inl t_listing_numbers)), (ht_listing_heights, .inl (cI, (30 + 1), .inl t_listing_heights)), (ht_draft, .inr (1, [.ref ht_draft_row, .ref ht_draft_made, .int q1.2.2.2.2.2])), (ht_draft_row, .inr (0, [.ref ht_draft_row_row, .int t_draft_row_size])), (ht_draft_row_row, .inl (cC, 120, .inl t_draft_row_row)), (ht_draft_made, .inr (2, [.ref ht_draft_made_ops, .ref ht_draft_made_numbers, .ref ht_draft_made_heights, .int q1.2.2.2.2.1])), (ht_draft_made_ops, .inl (cI, 31, .inl q1.2.1)), (ht_draft_made_numbers, .inl (cI, 31, .inl q1.2.2.1)), (ht_draft_made_heights, .inl (cI, (31 + 1), .inl q1.2.2.2.1))] H) (hD : va_D A [(ht, .inr (5, [.ref ht_listing, .ref ht_draft, .ref ht_written, .ref ht_tree, .ref ht_machine, .int q1.1])), (ht_listing, .inr (2, [.ref ht_listing_ops, .ref ht_listing_numbers, .ref ht_listing_heights, .int t_listing_size])), (ht_listing_ops, .inl (cI, 30, .inl t_listing_ops)), (ht_listing_numbers, .inl (cI, 30, .inl t_listing_numbers)), (ht_listing_heights, .inl (cI, (30 + 1), .inl t_listing_heights)), (ht_draft, .inr (1, [.ref ht_draft_row, .ref ht_draft_made, .int q1.2.2.2.2.2])), (ht_draft_row, .inr (0, [.ref ht_draft_row_row, .int t_draft_row_size])), (ht_draft_row_row, .inl (cC, 120, .inl t_draft_row_row)), (ht_draft_made, .inr (2, [.ref ht_draft_made_ops, .ref ht_draft_made_numbers, .ref ht_draft_made_heights, .int q1.2.2.2.2.1])), (ht_draft_made_ops, .inl (cI, 31, .inl q1.2.1)), (ht_draft_made_numbers, .inl (cI, 31, .inl q1.2.2.1)), (ht_draft_made_heights, .inl (cI, (31 + 1), .inl q1.2.2.2.1))]) hS => ?_)
    obtain ⟨q3, hc, h⟩ := g_bd h
    refine gk_v (va_runV (As := [.ref ht_draft_made]) (rest := []) ⟨hx, hb, hml, hown, hts⟩ (c_Listing_become l D cI cC ht_listing ht_draft_made ht_listing_ops ht_listing_numbers ht_listing_heights ht_draft_made_ops ht_draft_made_numbers ht_draft_made_heights 30 31 t_listing_size t_listing_ops t_listing_numbers t_listing_heights q1.2.2.2.2.1 q1.2.1 q1.2.2.1 q1.2.2.2.1 q3 hc _) (cwV 1 hts (gG_V mt_3_15 mt_2_33 mt_2_34 mt_1_2 mt_2_35) rfl rfl rfl (by decide +kernel) ⟨Nat.le_of_ble_eq_true rfl, Nat.le_of_ble_eq_true rfl⟩) (gpV hK hP hD [1, 2, 3, 4, 8, 9, 10, 11] rfl (by decide) (ci := 2) 1 rfl rfl) rfl rfl hl.1 rfl (lv_room (Nat.le_of_ble_eq_true rfl)) d_S_read_34 ⟨Nat.zero_le _, Nat.zero_le _⟩) hK hP hD hS hA [1, 2, 3, 4, 8, 9, 10, 11] rfl (by decide) rfl rfl (fun H locs (hP : va_P D vwCl [(ht, .inr (5, [.ref ht_listing, .ref ht_draft, .ref ht_written, .ref ht_tree, .ref ht_machine, .int q1.1])), (ht_listing, .inr (2, [.ref ht_listing_ops, .ref ht_listing_numbers, .ref ht_listing_heights, .int q3.2.2.2])), (ht_listing_ops, .inl (cI, 30, .inl q3.1)), (ht_listing_numbers, .inl (cI, 30, .inl q3.2.1)), (ht_listing_heights, .inl (cI, (30 + 1), .inl q3.2.2.1)), (ht_draft, .inr (1, [.ref ht_draft_row, .ref ht_draft_made, .int q1.2.2.2.2.2])), (ht_draft_row, .inr (0, [.ref ht_draft_row_row, .int t_draft_row_size])), (ht_draft_row_row, .inl (cC, 120, .inl t_draft_row_row)), (ht_draft_made, .inr (2, [.ref ht_draft_made_ops, .ref ht_draft_made_numbers, .ref ht_draft_made_heights, .int q1.2.2.2.2.1])), (ht_draft_made_ops, .inl (cI, 31, .inl q1.2.1)), (ht_draft_made_numbers, .inl (cI, 31, .inl q1.2.2.1)), (ht_draft_made_heights, .inl (cI, (31 + 1), .inl q1.2.2.2.1))] H) (hD : va_D A [(ht, .inr (5, [.ref ht_listing, .ref ht_draft, .ref ht_written, .ref ht_tree, .ref ht_machine, .int q1.1])), (ht_listing, .inr (2, [.ref ht_listing_ops, .ref ht_listing_numbers, .ref ht_listing_heights, .int q3.2.2.2])), (ht_listing_ops, .inl (cI, 30, .inl q3.1)), (ht_listing_numbers, .inl (cI, 30, .inl q3.2.1)), (ht_listing_heights, .inl (cI, (30 + 1), .inl q3.2.2.1)), (ht_draft, .inr (1, [.ref ht_draft_row, .ref ht_draft_made, .int q1.2.2.2.2.2])), (ht_draft_row, .inr (0, [.ref ht_draft_row_row, .int t_draft_row_size])), (ht_draft_row_row, .inl (cC, 120, .inl t_draft_row_row)), (ht_draft_made, .inr (2, [.ref ht_draft_made_ops, .ref ht_draft_made_numbers, .ref ht_draft_made_heights, .int q1.2.2.2.2.1])), (ht_draft_made_ops, .inl (cI, 31, .inl q1.2.1)), (ht_draft_made_numbers, .inl (cI, 31, .inl q1.2.2.1)), (ht_draft_made_heights, .inl (cI, (31 + 1), .inl q1.2.2.2.1))]) hS => ?_)
    refine lv_aload_n hx hb d_S_read_37 rfl (lv_at hl 0 rfl) ?_
    refine va_get (D := D) (ci := 5) (v := .ref ht_listing) (C := R_S) (T := F_S) (N := 6) hx hb hts u_S hown hK hP 0 rfl rfl 0 (by decide) f_14 (fun _ h9 => h9) rfl d_S_read_38 ?_
    obtain ⟨q4, hc, h⟩ := g_bd h
    refine gk_i (va_runV (As := []) (rest := []) ⟨hx, hb, hml, hown, hts⟩ (c_Listing_size l D cI cC ht_listing ht_listing_ops ht_listing_numbers ht_listing_heights q3.2.2.2 q4 hc _) (cwV 0 hts (gG_V mt_1_194 mt_1_195 mt_1_196 mt_1_2 mt_1_197) rfl rfl rfl (by decide +kernel) ⟨Nat.le_of_ble_eq_true rfl, Nat.le_of_ble_eq_true rfl⟩) (gpV hK hP hD [1] rfl (by decide) (ci := 2) 1 rfl rfl) rfl rfl hl.1 rfl (lv_room (Nat.le_of_ble_eq_true rfl)) d_S_read_41 ⟨Nat.zero_le _, Nat.zero_le _⟩) hK hP hD hS hA [1] rfl (by decide) rfl rfl (fun H locs (hP : va_P D vwCl [(ht, .inr (5, [.ref ht_listing, .ref ht_draft, .ref ht_written, .ref ht_tree, .ref ht_machine, .int q1.1])), (ht_listing, .inr (2, [.ref ht_listing_ops, .ref ht_listing_numbers, .ref ht_listing_heights, .int q3.2.2.2])), (ht_listing_ops, .inl (cI, 30, .inl q3.1)), (ht_listing_numbers, .inl (cI, 30, .inl q3.2.1)), (ht_listing_heights, .inl (cI, (30 + 1), .inl q3.2.2.1)), (ht_draft, .inr (1, [.ref ht_draft_row, .ref ht_draft_made, .int q1.2.2.2.2.2])), (ht_draft_row, .inr (0, [.ref ht_draft_row_row, .int t_draft_row_size])), (ht_draft_row_row, .inl (cC, 120, .inl t_draft_row_row)), (ht_draft_made, .inr (2, [.ref ht_draft_made_ops, .ref ht_draft_made_numbers, .ref ht_draft_made_heights, .int q1.2.2.2.2.1])), (ht_draft_made_ops, .inl (cI, 31, .inl q1.2.1)), (ht_draft_made_numbers, .inl (cI, 31, .inl q1.2.2.1)), (ht_draft_made_heights, .inl (cI, (31 + 1), .inl q1.2.2.2.1))] H) (hD : va_D A [(ht, .inr (5, [.ref ht_listing, .ref ht_draft, .ref ht_written, .ref ht_tree, .ref ht_machine, .int q1.1])), (ht_listing, .inr (2, [.ref ht_listing_ops, .ref ht_listing_numbers, .ref ht_listing_heights, .int q3.2.2.2])), (ht_listing_ops, .inl (cI, 30, .inl q3.1)), (ht_listing_numbers, .inl (cI, 30, .inl q3.2.1)), (ht_listing_heights, .inl (cI, (30 + 1), .inl q3.2.2.1)), (ht_draft, .inr (1, [.ref ht_draft_row, .ref ht_draft_made, .int q1.2.2.2.2.2])), (ht_draft_row, .inr (0, [.ref ht_draft_row_row, .int t_draft_row_size])), (ht_draft_row_row, .inl (cC, 120, .inl t_draft_row_row)), (ht_draft_made, .inr (2, [.ref ht_draft_made_ops, .ref ht_draft_made_numbers, .ref ht_draft_made_heights, .int q1.2.2.2.2.1])), (ht_draft_made_ops, .inl (cI, 31, .inl q1.2.1)), (ht_draft_made_numbers, .inl (cI, 31, .inl q1.2.2.1)), (ht_draft_made_heights, .inl (cI, (31 + 1), .inl q1.2.2.2.1))]) hS => ?_)
    cases h
    exact gr_i hx hb hr hlocks hK hP hD hS d_S_read_44
  · have h := g_f ec h
    refine lv_bipush (v := (-6 : Int32)) hx hb d_S_read_20 (by decide) ?_
    cases h
    exact gr_i hx hb hr hlocks hK hP hD hS d_S_read_22
def K_Machine_spend (l : Launch) (D : va_G) (cI cC : ClassId) : Prop :=
  ∀ (ht ht_stack ht_variables ht_kept : Nat) (t_height : Int32) (t_printed : Int32) (t_done : Int32) (t_limit : Int32) (q : Int32 × Int32), g_Machine_spend t_done t_limit = some q → ∀ (sz : Nat), Met l y_Machine_spend w_Machine_spend ({ frames := 0, cells := 0, slots := 0, locals := 0 }) (va_Pc [.ref ht] (gB D (gT cI cC) [(ht, .inr (3, [.ref ht_stack, .ref ht_variables, .ref ht_kept, .int t_height, .int t_printed, .int t_done, .int t_limit]))] sz)) (gQi D (gT cI cC) q.1 [(ht, .inr (3, [.ref ht_stack, .ref ht_variables, .ref ht_kept, .int t_height, .int t_printed, .int q.2, .int t_limit]))] (va_A [(ht, .inr (3, [.ref ht_stack, .ref ht_variables, .ref ht_kept, .int t_height, .int t_printed, .int t_done, .int t_limit]))] sz)) 0 0 (va_A [(ht, .inr (3, [.ref ht_stack, .ref ht_variables, .ref ht_kept, .int t_height, .int t_printed, .int t_done, .int t_limit]))] sz)
set_option maxHeartbeats 4000000 in
set_option maxRecDepth 100000 in
theorem c_Machine_spend (l : Launch) (D : va_G) (cI cC : ClassId) : K_Machine_spend l D cI cC := by
  intro ht ht_stack ht_variables ht_kept t_height t_printed t_done t_limit q h sz
  refine Met.ofW (cc := k_Machine_spend) (maxL := 1) (ret := (some .boolean)) (by decide) rfl ?_
  intro p e s m args below meth c s₁ B hml hv
  obtain ⟨rfl, hsz, hP, hK, hD0⟩ := hv
  have hx := B.exec
  have hb := B.bytes
  have hr := B.returns
  have hts : ∀ w ∈ lw_t, w.before ([.ref ht] : List Value).toArray s = true := fun w h => atoms_spec (ws := w_Machine_spend) B.pre w (List.mem_cons_of_mem _ h)
  have hown : s.vm.findClass R_Machine = some m.cls := findClass_of_methodNamed B.named
  have hlocks := B.notSynchronized
  subst hsz
  have hD := hD0.self (sz := s.heap.size)
  generalize hAe : va_A [(ht, .inr (3, [.ref ht_stack, .ref ht_variables, .ref ht_kept, .int t_height, .int t_printed, .int t_done, .int t_limit]))] s.heap.size = A at hD ⊢
  have hA : ∀ q : Nat, s.heap.size ≤ q → A q := fun q h => by rw [← hAe]; exact Or.inr h
  have hS : va_S A s.heap s.heap [] := va_S.rf
  have f_28 := hts _ mt_1_133
  have f_31 := hts _ mt_1_134
  have hP : va_P D vwCl [(ht, .inr (3, [.ref ht_stack, .ref ht_variables, .ref ht_kept, .int t_height, .int t_printed, .int t_done, .int t_limit]))] s.heap := hP
  have hl := lv_entry ([.ref ht]) (n := 1) (Nat.le_of_ble_eq_true rfl)
  rw [lg_entry_eq]
  generalize (lg_sl ([.ref ht]) ++ List.replicate (1 - (lg_sl ([.ref ht])).length) Slot.unset).toArray = ls at hl ⊢
  have hl : lv_has ls 1 [(0, .ref ht)] := hl
  unfold g_Machine_spend at h
  refine lv_aload_n hx hb d_Machine_spend_0 rfl (lv_at hl 0 rfl) ?_
  refine va_get (D := D) (ci := 3) (v := .int t_done) (C := R_Machine) (T := F_Machine) (N := 7) hx hb hts u_Machine hown hK hP 0 rfl rfl 5 (by decide) f_28 (fun _ h9 => h9) rfl d_Machine_spend_1 ?_
  refine lv_aload_n hx hb d_Machine_spend_4 rfl (lv_at hl 0 rfl) ?_
  refine va_get (D := D) (ci := 3) (v := .int t_limit) (C := R_Machine) (T := F_Machine) (N := 7) hx hb hts u_Machine hown hK hP 0 rfl rfl 6 (by decide) f_31 (fun _ h9 => h9) rfl d_Machine_spend_5 ?_
  refine lv_icmp_lt (tgt := 13) hx hb d_Machine_spend_8 (by decide) (fun ec => ?_) (fun ec => ?_)
  · have h := g_t ec h
    refine lv_aload_n hx hb d_Machine_spend_13 rfl (lv_at hl 0 rfl) ?_
    refine lv_dup hx hb d_Machine_spend_14 rfl ?_
    refine va_get (D := D) (ci := 3) (v := .int t_done) (C := R_Machine) (T := F_Machine) (N := 7) hx hb hts u_Machine hown hK hP 0 rfl rfl 5 (by decide) f_28 (fun _ h9 => h9) rfl d_Machine_spend_15 ?_
    refine lv_iconst (v := (1 : Int32)) hx hb d_Machine_spend_18 (by decide) ?_
    refine lv_iadd hx hb d_Machine_spend_19 ?_
    refine va_put (D := D) (ci := 3) (v := .int (t_done + (1 : Int32))) (ty := .int) (C := R_Machine) (T := F_Machine) (N := 7) hx hb hts u_Machine t_Machine t_Machine_ok n_Machine hown hK hP hD hS 0 rfl rfl 5 (by decide) f_28 (fun _ h9 => h9) rfl (by decide +kernel) rfl rfl (Nat.le_of_ble_eq_true rfl) d_Machine_spend_20 (fun H locs (hP : va_P D vwCl [(ht, .inr (3, [.ref ht_stack, .ref ht_variables, .ref ht_kept, .int t_height, .int t_printed, .int (t_done + (1 : Int32)), .int t_limit]))] H) (hD : va_D A [(ht, .inr (3, [.ref ht_stack, .ref ht_variables, .ref ht_kept, .int t_height, .int t_printed, .int (t_done + (1 : Int32)), .int t_limit]))]) hS => ?_)
    refine lv_iconst (v := (1 : Int32)) hx hb d_Machine_spend_23 (by decide) ?_
    cases h
    exact gr_z (v := (1 : Int32)) (by decide) hx hb hr hlocks hK hP hD hS d_Machine_spend_24
  · have h := g_f ec h
    refine lv_iconst (v := (0 : Int32)) hx hb d_Machine_spend_11 (by decide) ?_
    cases h
    exact gr_z (v := (0 : Int32)) (by decide) hx hb hr hlocks hK hP hD hS d_Machine_spend_12
def K_Machine_combined (l : Launch) (D : va_G) (cI cC : ClassId) : Prop :=
  ∀ (a0 a1 a2 : Int32) (q : Int32), g_Machine_combined a0 a1 a2 = some q → ∀ (sz : Nat), Met l y_Machine_combined w_Machine_combined ({ frames := 0, cells := 0, slots := 0, locals := 0 }) (va_Pc [.int a0, .int a1, .int a2] (gB D (gT cI cC) [] sz)) (gQi D (gT cI cC) q [] (va_A [] sz)) 0 0 (va_A [] sz)
set_option maxHeartbeats 4000000 in
set_option maxRecDepth 100000 in
theorem c_Machine_combined (l : Launch) (D : va_G) (cI cC : ClassId) : K_Machine_combined l D cI cC := by
  intro a0 a1 a2 q h sz
  refine Met.ofW (cc := k_Machine_combined) (maxL := 3) (ret := (some .int)) (by decide) rfl ?_
  intro p e s m args below meth c s₁ B hml hv
  obtain ⟨rfl, hsz, hP, hK, hD0⟩ := hv
  have hx := B.exec
  have hb := B.bytes
  have hr := B.returns
  have hts : ∀ w ∈ lw_t, w.before ([.int a0, .int a1, .int a2] : List Value).toArray s = true := fun w h => atoms_spec (ws := w_Machine_combined) B.pre w (List.mem_cons_of_mem _ h)
  have hown : s.vm.findClass R_Machine = some m.cls := findClass_of_methodNamed B.named
  have hlocks := B.notSynchronized
  subst hsz
  have hD := hD0.self (sz := s.heap.size)
  generalize hAe : va_A [] s.heap.size = A at hD ⊢
  have hA : ∀ q : Nat, s.heap.size ≤ q → A q := fun q h => by rw [← hAe]; exact Or.inr h
  have hS : va_S A s.heap s.heap [] := va_S.rf
  have hP : va_P D vwCl [] s.heap := hP
  have hl := lv_entry ([.int a0, .int a1, .int a2]) (n := 3) (Nat.le_of_ble_eq_true rfl)
  rw [lg_entry_eq]
  generalize (lg_sl ([.int a0, .int a1, .int a2]) ++ List.replicate (3 - (lg_sl ([.int a0, .int a1, .int a2])).length) Slot.unset).toArray = ls at hl ⊢
  have hl : lv_has ls 3 [(0, .int a0), (1, .int a1), (2, .int a2)] := hl
  unfold g_Machine_combined at h
  refine lv_iload_n hx hb d_Machine_combined_0 rfl (lv_at hl 0 rfl) ?_
  by_cases e_3 : a0 = (3 : Int32)
  · have h := g_t e_3 h
    have ei : (a0).toInt = 3 := by rw [e_3]; decide
    refine lv_tableIn (tgt := 28) (off := 27) hx hb d_Machine_combined_1 (by rw [ei]; decide) (by rw [ei]; decide) (by rw [ei]; rfl) (by decide) ?_
    refine lv_iload_n hx hb d_Machine_combined_28 rfl (lv_at hl 1 rfl) ?_
    refine lv_iload_n hx hb d_Machine_combined_29 rfl (lv_at hl 2 rfl) ?_
    refine lv_iadd hx hb d_Machine_combined_30 ?_
    cases h
    exact gr_i hx hb hr hlocks hK hP hD hS d_Machine_combined_31
  · have h := g_f e_3 h
    have n_3 := lv_neT (a := 3) e_3 (by decide)
    by_cases e_4 : a0 = (4 : Int32)
    · have h := g_t e_4 h
      have ei : (a0).toInt = 4 := by rw [e_4]; decide
      refine lv_tableIn (tgt := 32) (off := 31) hx hb d_Machine_combined_1 (by rw [ei]; decide) (by rw [ei]; decide) (by rw [ei]; rfl) (by decide) ?_
      refine lv_iload_n hx hb d_Machine_combined_32 rfl (lv_at hl 1 rfl) ?_
      refine lv_iload_n hx hb d_Machine_combined_33 rfl (lv_at hl 2 rfl) ?_
      refine lv_isub hx hb d_Machine_combined_34 ?_
      cases h
      exact gr_i hx hb hr hlocks hK hP hD hS d_Machine_combined_35
    · have h := g_f e_4 h
      have n_4 := lv_neT (a := 4) e_4 (by decide)
      by_cases e_5 : a0 = (5 : Int32)
      · have h := g_t e_5 h
        have ei : (a0).toInt = 5 := by rw [e_5]; decide
        refine lv_tableIn (tgt := 36) (off := 35) hx hb d_Machine_combined_1 (by rw [ei]; decide) (by rw [ei]; decide) (by rw [ei]; rfl) (by decide) ?_
        refine lv_iload_n hx hb d_Machine_combined_36 rfl (lv_at hl 1 rfl) ?_
        refine lv_iload_n hx hb d_Machine_combined_37 rfl (lv_at hl 2 rfl) ?_
        refine lv_imul hx hb d_Machine_combined_38 ?_
        cases h
        exact gr_i hx hb hr hlocks hK hP hD hS d_Machine_combined_39
      · have h := g_f e_5 h
        have n_5 := lv_neT (a := 5) e_5 (by decide)
        refine lv_tableOut (tgt := 40) hx hb d_Machine_combined_1 (by omega) (by decide) ?_
        refine lv_iload_n hx hb d_Machine_combined_40 rfl (lv_at hl 1 rfl) ?_
        refine lv_iload_n hx hb d_Machine_combined_41 rfl (lv_at hl 2 rfl) ?_
        refine lv_icmp_ge (tgt := 49) hx hb d_Machine_combined_42 (by decide) (fun ec => ?_) (fun ec => ?_)
        · have h := g_t ec h
          refine lv_iconst (v := (0 : Int32)) hx hb d_Machine_combined_49 (by decide) ?_
          cases h
          exact gr_i hx hb hr hlocks hK hP hD hS d_Machine_combined_50
        · have h := g_f ec h
          refine lv_iconst (v := (1 : Int32)) hx hb d_Machine_combined_45 (by decide) ?_
          refine lv_goto (tgt := 50) hx hb d_Machine_combined_46 (by decide) ?_
          cases h
          exact gr_i hx hb hr hlocks hK hP hD hS d_Machine_combined_50
def K_Machine_keepVariable (l : Launch) (D : va_G) (cI cC : ClassId) : Prop :=
  ∀ (ht ht_stack ht_variables ht_kept : Nat) (t_height : Int32) (t_printed : Int32) (t_done : Int32) (t_limit : Int32) (t_variables : Nat → Int32) (a1 a2 : Int32) (q : (Nat → Int32)), g_Machine_keepVariable t_variables a1 a2 = some q → ∀ (sz : Nat), Met l y_Machine_keepVariable w_Machine_keepVariable ({ frames := 0, cells := 0, slots := 0, locals := 0 }) (va_Pc [.ref ht, .int a1, .int a2] (gB D (gT cI cC) [(ht, .inr (3, [.ref ht_stack, .ref ht_variables, .ref ht_kept, .int t_height, .int t_printed, .int t_done, .int t_limit])), (ht_variables, .inl (cI, 6, .inl t_variables))] sz)) (gQv D (gT cI cC) [(ht, .inr (3, [.ref ht_stack, .ref ht_variables, .ref ht_kept, .int t_height, .int t_printed, .int t_done, .int t_limit])), (ht_variables, .inl (cI, 6, .inl q))] (va_A [(ht, .inr (3, [.ref ht_stack, .ref ht_variables, .ref ht_kept, .int t_height, .int t_printed, .int t_done, .int t_limit])), (ht_variables, .inl (cI, 6, .inl t_variables))] sz)) 0 0 (va_A [(ht, .inr (3, [.ref ht_stack, .ref ht_variables, .ref ht_kept, .int t_height, .int t_printed, .int t_done, .int t_limit])), (ht_variables, .inl (cI, 6, .inl t_variables))] sz)
set_option maxHeartbeats 4000000 in
set_option maxRecDepth 100000 in
theorem c_Machine_keepVariable (l : Launch) (D : va_G) (cI cC : ClassId) : K_Machine_keepVariable l D cI cC := by
  intro ht ht_stack ht_variables ht_kept t_height t_printed t_done t_limit t_variables a1 a2 q h sz
  refine Met.ofW (cc := k_Machine_keepVariable) (maxL := 3) (ret := none) (by decide) rfl ?_
  intro p e s m args below meth c s₁ B hml hv
  obtain ⟨rfl, hsz, hP, hK, hD0⟩ := hv
  have hx := B.exec
  have hb := B.bytes
  have hr := B.returns
  have hts : ∀ w ∈ lw_t, w.before ([.ref ht, .int a1, .int a2] : List Value).toArray s = true := fun w h => atoms_spec (ws := w_Machine_keepVariable) B.pre w (List.mem_cons_of_mem _ h)
  have hown : s.vm.findClass R_Machine = some m.cls := findClass_of_methodNamed B.named
  have hlocks := B.notSynchronized
  subst hsz
  have hD := hD0.self (sz := s.heap.size)
  generalize hAe : va_A [(ht, .inr (3, [.ref ht_stack, .ref ht_variables, .ref ht_kept, .int t_height, .int t_printed, .int t_done, .int t_limit])), (ht_variables, .inl (cI, 6, .inl t_variables))] s.heap.size = A at hD ⊢
  have hA : ∀ q : Nat, s.heap.size ≤ q → A q := fun q h => by rw [← hAe]; exact Or.inr h
  have hS : va_S A s.heap s.heap [] := va_S.rf
  have f_15 := hts _ mt_1_129
  have hP : va_P D vwCl [(ht, .inr (3, [.ref ht_stack, .ref ht_variables, .ref ht_kept, .int t_height, .int t_printed, .int t_done, .int t_limit])), (ht_variables, .inl (cI, 6, .inl t_variables))] s.heap := hP
  have hl := lv_entry ([.ref ht, .int a1, .int a2]) (n := 3) (Nat.le_of_ble_eq_true rfl)
  rw [lg_entry_eq]
  generalize (lg_sl ([.ref ht, .int a1, .int a2]) ++ List.replicate (3 - (lg_sl ([.ref ht, .int a1, .int a2])).length) Slot.unset).toArray = ls at hl ⊢
  have hl : lv_has ls 3 [(0, .ref ht), (1, .int a1), (2, .int a2)] := hl
  unfold g_Machine_keepVariable at h
  refine lv_iload_n hx hb d_Machine_keepVariable_0 rfl (lv_at hl 1 rfl) ?_
  refine lv_if_lt (tgt := 17) hx hb d_Machine_keepVariable_1 (by decide) (fun ec => ?_) (fun ec => ?_)
  · have h := g_t ec h
    cases h
    exact gr_v hx hb hr hlocks hK hP hD hS d_Machine_keepVariable_17
  · have h := g_f ec h
    refine lv_iload_n hx hb d_Machine_keepVariable_4 rfl (lv_at hl 1 rfl) ?_
    refine lv_bipush (v := (6 : Int32)) hx hb d_Machine_keepVariable_5 (by decide) ?_
    refine lv_icmp_ge (tgt := 17) hx hb d_Machine_keepVariable_7 (by decide) (fun ec => ?_) (fun ec => ?_)
    · have h := g_t ec h
      cases h
      exact gr_v hx hb hr hlocks hK hP hD hS d_Machine_keepVariable_17
    · have h := g_f ec h
      refine lv_aload_n hx hb d_Machine_keepVariable_10 rfl (lv_at hl 0 rfl) ?_
      refine va_get (D := D) (ci := 3) (v := .ref ht_variables) (C := R_Machine) (T := F_Machine) (N := 7) hx hb hts u_Machine hown hK hP 0 rfl rfl 1 (by decide) f_15 (fun _ h9 => h9) rfl d_Machine_keepVariable_11 ?_
      refine lv_iload_n hx hb d_Machine_keepVariable_14 rfl (lv_at hl 1 rfl) ?_
      refine lv_iload_n hx hb d_Machine_keepVariable_15 rfl (lv_at hl 2 rfl) ?_
      obtain ⟨hi, h⟩ := g_ck h
      refine va_iast hx hb hK hP hD hS 1 0 rfl rfl hi d_Machine_keepVariable_16 (fun H locs (hP : va_P D vwCl [(ht, .inr (3, [.ref ht_stack, .ref ht_variables, .ref ht_kept, .int t_height, .int t_printed, .int t_done, .int t_limit])), (ht_variables, .inl (cI, 6, .inl (upd t_variables a1.toNatClampNeg a2)))] H) (hD : va_D A [(ht, .inr (3, [.ref ht_stack, .ref ht_variables, .ref ht_kept, .int t_height, .int t_printed, .int t_done, .int t_limit])), (ht_variables, .inl (cI, 6, .inl (upd t_variables a1.toNatClampNeg a2)))]) hS => ?_)
      cases h
      exact gr_v hx hb hr hlocks hK hP hD hS d_Machine_keepVariable_17
def K_Machine_pop (l : Launch) (D : va_G) (cI cC : ClassId) : Prop :=
  ∀ (ht ht_stack ht_variables ht_kept : Nat) (t_height : Int32) (t_printed : Int32) (t_done : Int32) (t_limit : Int32) (t_stack : Nat → Int32) (q : Int32 × Int32), g_Machine_pop t_stack t_height = some q → ∀ (sz : Nat), Met l y_Machine_pop w_Machine_pop ({ frames := 0, cells := 0, slots := 0, locals := 0 }) (va_Pc [.ref ht] (gB D (gT cI cC) [(ht, .inr (3, [.ref ht_stack, .ref ht_variables, .ref ht_kept, .int t_height, .int t_printed, .int t_done, .int t_limit])), (ht_stack, .inl (cI, 16, .inl t_stack))] sz)) (gQi D (gT cI cC) q.1 [(ht, .inr (3, [.ref ht_stack, .ref ht_variables, .ref ht_kept, .int q.2, .int t_printed, .int t_done, .int t_limit])), (ht_stack, .inl (cI, 16, .inl t_stack))] (va_A [(ht, .inr (3, [.ref ht_stack, .ref ht_variables, .ref ht_kept, .int t_height, .int t_printed, .int t_done, .int t_limit])), (ht_stack, .inl (cI, 16, .inl t_stack))] sz)) 0 0 (va_A [(ht, .inr (3, [.ref ht_stack, .ref ht_variables, .ref ht_kept, .int t_height, .int t_printed, .int t_done, .int t_limit])), (ht_stack, .inl (cI, 16, .inl t_stack))] sz)
set_option maxHeartbeats 4000000 in
set_option maxRecDepth 100000 in
theorem c_Machine_pop (l : Launch) (D : va_G) (cI cC : ClassId) : K_Machine_pop l D cI cC := by
  intro ht ht_stack ht_variables ht_kept t_height t_printed t_done t_limit t_stack q h sz
  refine Met.ofW (cc := k_Machine_pop) (maxL := 1) (ret := (some .int)) (by decide) rfl ?_
  intro p e s m args below meth c s₁ B hml hv
  obtain ⟨rfl, hsz, hP, hK, hD0⟩ := hv
  have hx := B.exec
  have hb := B.bytes
  have hr := B.returns
  have hts : ∀ w ∈ lw_t, w.before ([.ref ht] : List Value).toArray s = true := fun w h => atoms_spec (ws := w_Machine_pop) B.pre w (List.mem_cons_of_mem _ h)
  have hown : s.vm.findClass R_Machine = some m.cls := findClass_of_methodNamed B.named
  have hlocks := B.notSynchronized
  subst hsz
  have hD := hD0.self (sz := s.heap.size)
  generalize hAe : va_A [(ht, .inr (3, [.ref ht_stack, .ref ht_variables, .ref ht_kept, .int t_height, .int t_printed, .int t_done, .int t_limit])), (ht_stack, .inl (cI, 16, .inl t_stack))] s.heap.size = A at hD ⊢
  have hA : ∀ q : Nat, s.heap.size ≤ q → A q := fun q h => by rw [← hAe]; exact Or.inr h
  have hS : va_S A s.heap s.heap [] := va_S.rf
  have f_21 := hts _ mt_1_131
  have f_9 := hts _ mt_1_128
  have hP : va_P D vwCl [(ht, .inr (3, [.ref ht_stack, .ref ht_variables, .ref ht_kept, .int t_height, .int t_printed, .int t_done, .int t_limit])), (ht_stack, .inl (cI, 16, .inl t_stack))] s.heap := hP
  have hl := lv_entry ([.ref ht]) (n := 1) (Nat.le_of_ble_eq_true rfl)
  rw [lg_entry_eq]
  generalize (lg_sl ([.ref ht]) ++ List.replicate (1 - (lg_sl ([.ref ht])).length) Slot.unset).toArray = ls at hl ⊢
  have hl : lv_has ls 1 [(0, .ref ht)] := hl
  unfold g_Machine_pop at h
  refine lv_aload_n hx hb d_Machine_pop_0 rfl (lv_at hl 0 rfl) ?_
  refine va_get (D := D) (ci := 3) (v := .int t_height) (C := R_Machine) (T := F_Machine) (N := 7) hx hb hts u_Machine hown hK hP 0 rfl rfl 3 (by decide) f_21 (fun _ h9 => h9) rfl d_Machine_pop_1 ?_
  refine lv_if_gt (tgt := 9) hx hb d_Machine_pop_4 (by decide) (fun ec => ?_) (fun ec => ?_)
  · have h := g_t ec h
    refine lv_aload_n hx hb d_Machine_pop_9 rfl (lv_at hl 0 rfl) ?_
    refine lv_dup hx hb d_Machine_pop_10 rfl ?_
    refine va_get (D := D) (ci := 3) (v := .int t_height) (C := R_Machine) (T := F_Machine) (N := 7) hx hb hts u_Machine hown hK hP 0 rfl rfl 3 (by decide) f_21 (fun _ h9 => h9) rfl d_Machine_pop_11 ?_
    refine lv_iconst (v := (1 : Int32)) hx hb d_Machine_pop_14 (by decide) ?_
    refine lv_isub hx hb d_Machine_pop_15 ?_
    refine va_put (D := D) (ci := 3) (v := .int (t_height - (1 : Int32))) (ty := .int) (C := R_Machine) (T := F_Machine) (N := 7) hx hb hts u_Machine t_Machine t_Machine_ok n_Machine hown hK hP hD hS 0 rfl rfl 3 (by decide) f_21 (fun _ h9 => h9) rfl (by decide +kernel) rfl rfl (Nat.le_of_ble_eq_true rfl) d_Machine_pop_16 (fun H locs (hP : va_P D vwCl [(ht, .inr (3, [.ref ht_stack, .ref ht_variables, .ref ht_kept, .int (t_height - (1 : Int32)), .int t_printed, .int t_done, .int t_limit])), (ht_stack, .inl (cI, 16, .inl t_stack))] H) (hD : va_D A [(ht, .inr (3, [.ref ht_stack, .ref ht_variables, .ref ht_kept, .int (t_height - (1 : Int32)), .int t_printed, .int t_done, .int t_limit])), (ht_stack, .inl (cI, 16, .inl t_stack))]) hS => ?_)
    refine lv_aload_n hx hb d_Machine_pop_19 rfl (lv_at hl 0 rfl) ?_
    refine va_get (D := D) (ci := 3) (v := .ref ht_stack) (C := R_Machine) (T := F_Machine) (N := 7) hx hb hts u_Machine hown hK hP 0 rfl rfl 0 (by decide) f_9 (fun _ h9 => h9) rfl d_Machine_pop_20 ?_
    refine lv_aload_n hx hb d_Machine_pop_23 rfl (lv_at hl 0 rfl) ?_
    refine va_get (D := D) (ci := 3) (v := .int (t_height - (1 : Int32))) (C := R_Machine) (T := F_Machine) (N := 7) hx hb hts u_Machine hown hK hP 0 rfl rfl 3 (by decide) f_21 (fun _ h9 => h9) rfl d_Machine_pop_24 ?_
    obtain ⟨hi, h⟩ := g_ck h
    refine va_iald hx hb hK hP 1 0 rfl rfl hi d_Machine_pop_27 ?_
    cases h
    exact gr_i hx hb hr hlocks hK hP hD hS d_Machine_pop_28
  · have h := g_f ec h
    refine lv_iconst (v := (0 : Int32)) hx hb d_Machine_pop_7 (by decide) ?_
    cases h
    exact gr_i hx hb hr hlocks hK hP hD hS d_Machine_pop_8
def K_Machine_print (l : Launch) (D : va_G) (cI cC : ClassId) : Prop :=
  ∀ (ht ht_stack ht_variables ht_kept : Nat) (t_height : Int32) (t_printed : Int32) (t_done : Int32) (t_limit : Int32) (t_kept : Nat → Int32) (a1 : Int32) (q : (Nat → Int32) × Int32), g_Machine_print t_kept t_printed a1 = some q → ∀ (sz : Nat), Met l y_Machine_print w_Machine_print ({ frames := 0, cells := 0, slots := 0, locals := 0 }) (va_Pc [.ref ht, .int a1] (gB D (gT cI cC) [(ht, .inr (3, [.ref ht_stack, .ref ht_variables, .ref ht_kept, .int t_height, .int t_printed, .int t_done, .int t_limit])), (ht_kept, .inl (cI, 20, .inl t_kept))] sz)) (gQv D (gT cI cC) [(ht, .inr (3, [.ref ht_stack, .ref ht_variables, .ref ht_kept, .int t_height, .int q.2, .int t_done, .int t_limit])), (ht_kept, .inl (cI, 20, .inl q.1))] (va_A [(ht, .inr (3, [.ref ht_stack, .ref ht_variables, .ref ht_kept, .int t_height, .int t_printed, .int t_done, .int t_limit])), (ht_kept, .inl (cI, 20, .inl t_kept))] sz)) 0 0 (va_A [(ht, .inr (3, [.ref ht_stack, .ref ht_variables, .ref ht_kept, .int t_height, .int t_printed, .int t_done, .int t_limit])), (ht_kept, .inl (cI, 20, .inl t_kept))] sz)
set_option maxHeartbeats 4000000 in
set_option maxRecDepth 100000 in
theorem c_Machine_print (l : Launch) (D : va_G) (cI cC : ClassId) : K_Machine_print l D cI cC := by
  intro ht ht_stack ht_variables ht_kept t_height t_printed t_done t_limit t_kept a1 q h sz
  refine Met.ofW (cc := k_Machine_print) (maxL := 2) (ret := none) (by decide) rfl ?_
  intro p e s m args below meth c s₁ B hml hv
  obtain ⟨rfl, hsz, hP, hK, hD0⟩ := hv
  have hx := B.exec
  have hb := B.bytes
  have hr := B.returns
  have hts : ∀ w ∈ lw_t, w.before ([.ref ht, .int a1] : List Value).toArray s = true := fun w h => atoms_spec (ws := w_Machine_print) B.pre w (List.mem_cons_of_mem _ h)
  have hown : s.vm.findClass R_Machine = some m.cls := findClass_of_methodNamed B.named
  have hlocks := B.notSynchronized
  subst hsz
  have hD := hD0.self (sz := s.heap.size)
  generalize hAe : va_A [(ht, .inr (3, [.ref ht_stack, .ref ht_variables, .ref ht_kept, .int t_height, .int t_printed, .int t_done, .int t_limit])), (ht_kept, .inl (cI, 20, .inl t_kept))] s.heap.size = A at hD ⊢
  have hA : ∀ q : Nat, s.heap.size ≤ q → A q := fun q h => by rw [← hAe]; exact Or.inr h
  have hS : va_S A s.heap s.heap [] := va_S.rf
  have f_18 := hts _ mt_1_130
  have f_25 := hts _ mt_1_132
  have hP : va_P D vwCl [(ht, .inr (3, [.ref ht_stack, .ref ht_variables, .ref ht_kept, .int t_height, .int t_printed, .int t_done, .int t_limit])), (ht_kept, .inl (cI, 20, .inl t_kept))] s.heap := hP
  have hl := lv_entry ([.ref ht, .int a1]) (n := 2) (Nat.le_of_ble_eq_true rfl)
  rw [lg_entry_eq]
  generalize (lg_sl ([.ref ht, .int a1]) ++ List.replicate (2 - (lg_sl ([.ref ht, .int a1])).length) Slot.unset).toArray = ls at hl ⊢
  have hl : lv_has ls 2 [(0, .ref ht), (1, .int a1)] := hl
  unfold g_Machine_print at h
  refine lv_aload_n hx hb d_Machine_print_0 rfl (lv_at hl 0 rfl) ?_
  refine va_get (D := D) (ci := 3) (v := .int t_printed) (C := R_Machine) (T := F_Machine) (N := 7) hx hb hts u_Machine hown hK hP 0 rfl rfl 4 (by decide) f_25 (fun _ h9 => h9) rfl d_Machine_print_1 ?_
  refine lv_bipush (v := (20 : Int32)) hx hb d_Machine_print_4 (by decide) ?_
  refine lv_icmp_ge (tgt := 19) hx hb d_Machine_print_6 (by decide) (fun ec => ?_) (fun ec => ?_)
  · have h := g_t ec h
    refine lv_aload_n hx hb d_Machine_print_19 rfl (lv_at hl 0 rfl) ?_
    refine lv_dup hx hb d_Machine_print_20 rfl ?_
    refine va_get (D := D) (ci := 3) (v := .int t_printed) (C := R_Machine) (T := F_Machine) (N := 7) hx hb hts u_Machine hown hK hP 0 rfl rfl 4 (by decide) f_25 (fun _ h9 => h9) rfl d_Machine_print_21 ?_
    refine lv_iconst (v := (1 : Int32)) hx hb d_Machine_print_24 (by decide) ?_
    refine lv_iadd hx hb d_Machine_print_25 ?_
    refine va_put (D := D) (ci := 3) (v := .int (t_printed + (1 : Int32))) (ty := .int) (C := R_Machine) (T := F_Machine) (N := 7) hx hb hts u_Machine t_Machine t_Machine_ok n_Machine hown hK hP hD hS 0 rfl rfl 4 (by decide) f_25 (fun _ h9 => h9) rfl (by decide +kernel) rfl rfl (Nat.le_of_ble_eq_true rfl) d_Machine_print_26 (fun H locs (hP : va_P D vwCl [(ht, .inr (3, [.ref ht_stack, .ref ht_variables, .ref ht_kept, .int t_height, .int (t_printed + (1 : Int32)), .int t_done, .int t_limit])), (ht_kept, .inl (cI, 20, .inl t_kept))] H) (hD : va_D A [(ht, .inr (3, [.ref ht_stack, .ref ht_variables, .ref ht_kept, .int t_height, .int (t_printed + (1 : Int32)), .int t_done, .int t_limit])), (ht_kept, .inl (cI, 20, .inl t_kept))]) hS => ?_)
    cases h
    exact gr_v hx hb hr hlocks hK hP hD hS d_Machine_print_29
  · have h := g_f ec h
    refine lv_aload_n hx hb d_Machine_print_9 rfl (lv_at hl 0 rfl) ?_
    refine va_get (D := D) (ci := 3) (v := .ref ht_kept) (C := R_Machine) (T := F_Machine) (N := 7) hx hb hts u_Machine hown hK hP 0 rfl rfl 2 (by decide) f_18 (fun _ h9 => h9) rfl d_Machine_print_10 ?_
    refine lv_aload_n hx hb d_Machine_print_13 rfl (lv_at hl 0 rfl) ?_
    refine va_get (D := D) (ci := 3) (v := .int t_printed) (C := R_Machine) (T := F_Machine) (N := 7) hx hb hts u_Machine hown hK hP 0 rfl rfl 4 (by decide) f_25 (fun _ h9 => h9) rfl d_Machine_print_14 ?_
    refine lv_iload_n hx hb d_Machine_print_17 rfl (lv_at hl 1 rfl) ?_
    obtain ⟨hi, h⟩ := g_ck h
    refine va_iast hx hb hK hP hD hS 1 0 rfl rfl hi d_Machine_print_18 (fun H locs (hP : va_P D vwCl [(ht, .inr (3, [.ref ht_stack, .ref ht_variables, .ref ht_kept, .int t_height, .int t_printed, .int t_done, .int t_limit])), (ht_kept, .inl (cI, 20, .inl (upd t_kept t_printed.toNatClampNeg a1)))] H) (hD : va_D A [(ht, .inr (3, [.ref ht_stack, .ref ht_variables, .ref ht_kept, .int t_height, .int t_printed, .int t_done, .int t_limit])), (ht_kept, .inl (cI, 20, .inl (upd t_kept t_printed.toNatClampNeg a1)))]) hS => ?_)
    refine lv_aload_n hx hb d_Machine_print_19 rfl (lv_at hl 0 rfl) ?_
    refine lv_dup hx hb d_Machine_print_20 rfl ?_
    refine va_get (D := D) (ci := 3) (v := .int t_printed) (C := R_Machine) (T := F_Machine) (N := 7) hx hb hts u_Machine hown hK hP 0 rfl rfl 4 (by decide) f_25 (fun _ h9 => h9) rfl d_Machine_print_21 ?_
    refine lv_iconst (v := (1 : Int32)) hx hb d_Machine_print_24 (by decide) ?_
    refine lv_iadd hx hb d_Machine_print_25 ?_
    refine va_put (D := D) (ci := 3) (v := .int (t_printed + (1 : Int32))) (ty := .int) (C := R_Machine) (T := F_Machine) (N := 7) hx hb hts u_Machine t_Machine t_Machine_ok n_Machine hown hK hP hD hS 0 rfl rfl 4 (by decide) f_25 (fun _ h9 => h9) rfl (by decide +kernel) rfl rfl (Nat.le_of_ble_eq_true rfl) d_Machine_print_26 (fun H locs (hP : va_P D vwCl [(ht, .inr (3, [.ref ht_stack, .ref ht_variables, .ref ht_kept, .int t_height, .int (t_printed + (1 : Int32)), .int t_done, .int t_limit])), (ht_kept, .inl (cI, 20, .inl (upd t_kept t_printed.toNatClampNeg a1)))] H) (hD : va_D A [(ht, .inr (3, [.ref ht_stack, .ref ht_variables, .ref ht_kept, .int t_height, .int (t_printed + (1 : Int32)), .int t_done, .int t_limit])), (ht_kept, .inl (cI, 20, .inl (upd t_kept t_printed.toNatClampNeg a1)))]) hS => ?_)
    cases h
    exact gr_v hx hb hr hlocks hK hP hD hS d_Machine_print_29
def K_Machine_push (l : Launch) (D : va_G) (cI cC : ClassId) : Prop :=
  ∀ (ht ht_stack ht_variables ht_kept : Nat) (t_height : Int32) (t_printed : Int32) (t_done : Int32) (t_limit : Int32) (t_stack : Nat → Int32) (a1 : Int32) (q : (Nat → Int32) × Int32), g_Machine_push t_stack t_height a1 = some q → ∀ (sz : Nat), Met l y_Machine_push w_Machine_push ({ frames := 0, cells := 0, slots := 0, locals := 0 }) (va_Pc [.ref ht, .int a1] (gB D (gT cI cC) [(ht, .inr (3, [.ref ht_stack, .ref ht_variables, .ref ht_kept, .int t_height, .int t_printed, .int t_done, .int t_limit])), (ht_stack, .inl (cI, 16, .inl t_stack))] sz)) (gQv D (gT cI cC) [(ht, .inr (3, [.ref ht_stack, .ref ht_variables, .ref ht_kept, .int q.2, .int t_printed, .int t_done, .int t_limit])), (ht_stack, .inl (cI, 16, .inl q.1))] (va_A [(ht, .inr (3, [.ref ht_stack, .ref ht_variables, .ref ht_kept, .int t_height, .int t_printed, .int t_done, .int t_limit])), (ht_stack, .inl (cI, 16, .inl t_stack))] sz)) 0 0 (va_A [(ht, .inr (3, [.ref ht_stack, .ref ht_variables, .ref ht_kept, .int t_height, .int t_printed, .int t_done, .int t_limit])), (ht_stack, .inl (cI, 16, .inl t_stack))] sz)
set_option maxHeartbeats 4000000 in
set_option maxRecDepth 100000 in
theorem c_Machine_push (l : Launch) (D : va_G) (cI cC : ClassId) : K_Machine_push l D cI cC := by
  intro ht ht_stack ht_variables ht_kept t_height t_printed t_done t_limit t_stack a1 q h sz
  refine Met.ofW (cc := k_Machine_push) (maxL := 2) (ret := none) (by decide) rfl ?_
  intro p e s m args below meth c s₁ B hml hv
  obtain ⟨rfl, hsz, hP, hK, hD0⟩ := hv
  have hx := B.exec
  have hb := B.bytes
  have hr := B.returns
  have hts : ∀ w ∈ lw_t, w.before ([.ref ht, .int a1] : List Value).toArray s = true := fun w h => atoms_spec (ws := w_Machine_push) B.pre w (List.mem_cons_of_mem _ h)
  have hown : s.vm.findClass R_Machine = some m.cls := findClass_of_methodNamed B.named
  have hlocks := B.notSynchronized
  subst hsz
  have hD := hD0.self (sz := s.heap.size)
  generalize hAe : va_A [(ht, .inr (3, [.ref ht_stack, .ref ht_variables, .ref ht_kept, .int t_height, .int t_printed, .int t_done, .int t_limit])), (ht_stack, .inl (cI, 16, .inl t_stack))] s.heap.size = A at hD ⊢
  have hA : ∀ q : Nat, s.heap.size ≤ q → A q := fun q h => by rw [← hAe]; exact Or.inr h
  have hS : va_S A s.heap s.heap [] := va_S.rf
  have f_21 := hts _ mt_1_131
  have f_9 := hts _ mt_1_128
  have hP : va_P D vwCl [(ht, .inr (3, [.ref ht_stack, .ref ht_variables, .ref ht_kept, .int t_height, .int t_printed, .int t_done, .int t_limit])), (ht_stack, .inl (cI, 16, .inl t_stack))] s.heap := hP
  have hl := lv_entry ([.ref ht, .int a1]) (n := 2) (Nat.le_of_ble_eq_true rfl)
  rw [lg_entry_eq]
  generalize (lg_sl ([.ref ht, .int a1]) ++ List.replicate (2 - (lg_sl ([.ref ht, .int a1])).length) Slot.unset).toArray = ls at hl ⊢
  have hl : lv_has ls 2 [(0, .ref ht), (1, .int a1)] := hl
  unfold g_Machine_push at h
  refine lv_aload_n hx hb d_Machine_push_0 rfl (lv_at hl 0 rfl) ?_
  refine va_get (D := D) (ci := 3) (v := .int t_height) (C := R_Machine) (T := F_Machine) (N := 7) hx hb hts u_Machine hown hK hP 0 rfl rfl 3 (by decide) f_21 (fun _ h9 => h9) rfl d_Machine_push_1 ?_
  refine lv_bipush (v := (16 : Int32)) hx hb d_Machine_push_4 (by decide) ?_
  refine lv_icmp_ge (tgt := 29) hx hb d_Machine_push_6 (by decide) (fun ec => ?_) (fun ec => ?_)
  · have h := g_t ec h
    cases h
    exact gr_v hx hb hr hlocks hK hP hD hS d_Machine_push_29
  · have h := g_f ec h
    refine lv_aload_n hx hb d_Machine_push_9 rfl (lv_at hl 0 rfl) ?_
    refine va_get (D := D) (ci := 3) (v := .ref ht_stack) (C := R_Machine) (T := F_Machine) (N := 7) hx hb hts u_Machine hown hK hP 0 rfl rfl 0 (by decide) f_9 (fun _ h9 => h9) rfl d_Machine_push_10 ?_
    refine lv_aload_n hx hb d_Machine_push_13 rfl (lv_at hl 0 rfl) ?_
    refine va_get (D := D) (ci := 3) (v := .int t_height) (C := R_Machine) (T := F_Machine) (N := 7) hx hb hts u_Machine hown hK hP 0 rfl rfl 3 (by decide) f_21 (fun _ h9 => h9) rfl d_Machine_push_14 ?_
    refine lv_iload_n hx hb d_Machine_push_17 rfl (lv_at hl 1 rfl) ?_
    obtain ⟨hi, h⟩ := g_ck h
    refine va_iast hx hb hK hP hD hS 1 0 rfl rfl hi d_Machine_push_18 (fun H locs (hP : va_P D vwCl [(ht, .inr (3, [.ref ht_stack, .ref ht_variables, .ref ht_kept, .int t_height, .int t_printed, .int t_done, .int t_limit])), (ht_stack, .inl (cI, 16, .inl (upd t_stack t_height.toNatClampNeg a1)))] H) (hD : va_D A [(ht, .inr (3, [.ref ht_stack, .ref ht_variables, .ref ht_kept, .int t_height, .int t_printed, .int t_done, .int t_limit])), (ht_stack, .inl (cI, 16, .inl (upd t_stack t_height.toNatClampNeg a1)))]) hS => ?_)
    refine lv_aload_n hx hb d_Machine_push_19 rfl (lv_at hl 0 rfl) ?_
    refine lv_dup hx hb d_Machine_push_20 rfl ?_
    refine va_get (D := D) (ci := 3) (v := .int t_height) (C := R_Machine) (T := F_Machine) (N := 7) hx hb hts u_Machine hown hK hP 0 rfl rfl 3 (by decide) f_21 (fun _ h9 => h9) rfl d_Machine_push_21 ?_
    refine lv_iconst (v := (1 : Int32)) hx hb d_Machine_push_24 (by decide) ?_
    refine lv_iadd hx hb d_Machine_push_25 ?_
    refine va_put (D := D) (ci := 3) (v := .int (t_height + (1 : Int32))) (ty := .int) (C := R_Machine) (T := F_Machine) (N := 7) hx hb hts u_Machine t_Machine t_Machine_ok n_Machine hown hK hP hD hS 0 rfl rfl 3 (by decide) f_21 (fun _ h9 => h9) rfl (by decide +kernel) rfl rfl (Nat.le_of_ble_eq_true rfl) d_Machine_push_26 (fun H locs (hP : va_P D vwCl [(ht, .inr (3, [.ref ht_stack, .ref ht_variables, .ref ht_kept, .int (t_height + (1 : Int32)), .int t_printed, .int t_done, .int t_limit])), (ht_stack, .inl (cI, 16, .inl (upd t_stack t_height.toNatClampNeg a1)))] H) (hD : va_D A [(ht, .inr (3, [.ref ht_stack, .ref ht_variables, .ref ht_kept, .int (t_height + (1 : Int32)), .int t_printed, .int t_done, .int t_limit])), (ht_stack, .inl (cI, 16, .inl (upd t_stack t_height.toNatClampNeg a1)))]) hS => ?_)
    cases h
    exact gr_v hx hb hr hlocks hK hP hD hS d_Machine_push_29
def K_Machine_variable (l : Launch) (D : va_G) (cI cC : ClassId) : Prop :=
  ∀ (ht ht_stack ht_variables ht_kept : Nat) (t_height : Int32) (t_printed : Int32) (t_done : Int32) (t_limit : Int32) (t_variables : Nat → Int32) (a1 : Int32) (q : Int32), g_Machine_variable t_variables a1 = some q → ∀ (sz : Nat), Met l y_Machine_variable w_Machine_variable ({ frames := 0, cells := 0, slots := 0, locals := 0 }) (va_Pc [.ref ht, .int a1] (gB D (gT cI cC) [(ht, .inr (3, [.ref ht_stack, .ref ht_variables, .ref ht_kept, .int t_height, .int t_printed, .int t_done, .int t_limit])), (ht_variables, .inl (cI, 6, .inl t_variables))] sz)) (gQi D (gT cI cC) q [(ht, .inr (3, [.ref ht_stack, .ref ht_variables, .ref ht_kept, .int t_height, .int t_printed, .int t_done, .int t_limit])), (ht_variables, .inl (cI, 6, .inl t_variables))] (va_A [(ht, .inr (3, [.ref ht_stack, .ref ht_variables, .ref ht_kept, .int t_height, .int t_printed, .int t_done, .int t_limit])), (ht_variables, .inl (cI, 6, .inl t_variables))] sz)) 0 0 (va_A [(ht, .inr (3, [.ref ht_stack, .ref ht_variables, .ref ht_kept, .int t_height, .int t_printed, .int t_done, .int t_limit])), (ht_variables, .inl (cI, 6, .inl t_variables))] sz)
set_option maxHeartbeats 4000000 in
set_option maxRecDepth 100000 in
theorem c_Machine_variable (l : Launch) (D : va_G) (cI cC : ClassId) : K_Machine_variable l D cI cC := by
  intro ht ht_stack ht_variables ht_kept t_height t_printed t_done t_limit t_variables a1 q h sz
  refine Met.ofW (cc := k_Machine_variable) (maxL := 2) (ret := (some .int)) (by decide) rfl ?_
  intro p e s m args below meth c s₁ B hml hv
  obtain ⟨rfl, hsz, hP, hK, hD0⟩ := hv
  have hx := B.exec
  have hb := B.bytes
  have hr := B.returns
  have hts : ∀ w ∈ lw_t, w.before ([.ref ht, .int a1] : List Value).toArray s = true := fun w h => atoms_spec (ws := w_Machine_variable) B.pre w (List.mem_cons_of_mem _ h)
  have hown : s.vm.findClass R_Machine = some m.cls := findClass_of_methodNamed B.named
  have hlocks := B.notSynchronized
  subst hsz
  have hD := hD0.self (sz := s.heap.size)
  generalize hAe : va_A [(ht, .inr (3, [.ref ht_stack, .ref ht_variables, .ref ht_kept, .int t_height, .int t_printed, .int t_done, .int t_limit])), (ht_variables, .inl (cI, 6, .inl t_variables))] s.heap.size = A at hD ⊢
  have hA : ∀ q : Nat, s.heap.size ≤ q → A q := fun q h => by rw [← hAe]; exact Or.inr h
  have hS : va_S A s.heap s.heap [] := va_S.rf
  have f_15 := hts _ mt_1_129
  have hP : va_P D vwCl [(ht, .inr (3, [.ref ht_stack, .ref ht_variables, .ref ht_kept, .int t_height, .int t_printed, .int t_done, .int t_limit])), (ht_variables, .inl (cI, 6, .inl t_variables))] s.heap := hP
  have hl := lv_entry ([.ref ht, .int a1]) (n := 2) (Nat.le_of_ble_eq_true rfl)
  rw [lg_entry_eq]
  generalize (lg_sl ([.ref ht, .int a1]) ++ List.replicate (2 - (lg_sl ([.ref ht, .int a1])).length) Slot.unset).toArray = ls at hl ⊢
  have hl : lv_has ls 2 [(0, .ref ht), (1, .int a1)] := hl
  unfold g_Machine_variable at h
  refine lv_iload_n hx hb d_Machine_variable_0 rfl (lv_at hl 1 rfl) ?_
  refine lv_if_lt (tgt := 19) hx hb d_Machine_variable_1 (by decide) (fun ec => ?_) (fun ec => ?_)
  · have h := g_t ec h
    refine lv_iconst (v := (0 : Int32)) hx hb d_Machine_variable_19 (by decide) ?_
    cases h
    exact gr_i hx hb hr hlocks hK hP hD hS d_Machine_variable_20
  · have h := g_f ec h
    refine lv_iload_n hx hb d_Machine_variable_4 rfl (lv_at hl 1 rfl) ?_
    refine lv_bipush (v := (6 : Int32)) hx hb d_Machine_variable_5 (by decide) ?_
    refine lv_icmp_ge (tgt := 19) hx hb d_Machine_variable_7 (by decide) (fun ec => ?_) (fun ec => ?_)
    · have h := g_t ec h
      refine lv_iconst (v := (0 : Int32)) hx hb d_Machine_variable_19 (by decide) ?_
      cases h
      exact gr_i hx hb hr hlocks hK hP hD hS d_Machine_variable_20
    · have h := g_f ec h
      refine lv_aload_n hx hb d_Machine_variable_10 rfl (lv_at hl 0 rfl) ?_
      refine va_get (D := D) (ci := 3) (v := .ref ht_variables) (C := R_Machine) (T := F_Machine) (N := 7) hx hb hts u_Machine hown hK hP 0 rfl rfl 1 (by decide) f_15 (fun _ h9 => h9) rfl d_Machine_variable_11 ?_
      refine lv_iload_n hx hb d_Machine_variable_14 rfl (lv_at hl 1 rfl) ?_
      obtain ⟨hi, h⟩ := g_ck h
      refine va_iald hx hb hK hP 1 0 rfl rfl hi d_Machine_variable_15 ?_
      refine lv_goto (tgt := 20) hx hb d_Machine_variable_16 (by decide) ?_
      cases h
      exact gr_i hx hb hr hlocks hK hP hD hS d_Machine_variable_20
def K_Machine_perform (l : Launch) (D : va_G) (cI cC : ClassId) : Prop :=
  ∀ (ht ht_stack ht_variables ht_kept : Nat) (t_height : Int32) (t_printed : Int32) (t_done : Int32) (t_limit : Int32) (t_stack : Nat → Int32) (t_variables : Nat → Int32) (t_kept : Nat → Int32) (a1 a2 : Int32) (q : (Nat → Int32) × (Nat → Int32) × (Nat → Int32) × Int32 × Int32), g_Machine_perform t_stack t_variables t_kept t_height t_printed a1 a2 = some q → ∀ (sz : Nat), Met l y_Machine_perform w_Machine_perform ({ frames := 1, cells := 0, slots := 0, locals := 22 }) (va_Pc [.ref ht, .int a1, .int a2] (gB D (gT cI cC) [(ht, .inr (3, [.ref ht_stack, .ref ht_variables, .ref ht_kept, .int t_height, .int t_printed, .int t_done, .int t_limit])), (ht_stack, .inl (cI, 16, .inl t_stack)), (ht_variables, .inl (cI, 6, .inl t_variables)), (ht_kept, .inl (cI, 20, .inl t_kept))] sz)) (gQv D (gT cI cC) [(ht, .inr (3, [.ref ht_stack, .ref ht_variables, .ref ht_kept, .int q.2.2.2.1, .int q.2.2.2.2, .int t_done, .int t_limit])), (ht_stack, .inl (cI, 16, .inl q.1)), (ht_variables, .inl (cI, 6, .inl q.2.1)), (ht_kept, .inl (cI, 20, .inl q.2.2.1))] (va_A [(ht, .inr (3, [.ref ht_stack, .ref ht_variables, .ref ht_kept, .int t_height, .int t_printed, .int t_done, .int t_limit])), (ht_stack, .inl (cI, 16, .inl t_stack)), (ht_variables, .inl (cI, 6, .inl t_variables)), (ht_kept, .inl (cI, 20, .inl t_kept))] sz)) 0 0 (va_A [(ht, .inr (3, [.ref ht_stack, .ref ht_variables, .ref ht_kept, .int t_height, .int t_printed, .int t_done, .int t_limit])), (ht_stack, .inl (cI, 16, .inl t_stack)), (ht_variables, .inl (cI, 6, .inl t_variables)), (ht_kept, .inl (cI, 20, .inl t_kept))] sz)
set_option maxHeartbeats 4000000 in
set_option maxRecDepth 100000 in
theorem c_Machine_perform (l : Launch) (D : va_G) (cI cC : ClassId) : K_Machine_perform l D cI cC := by
  intro ht ht_stack ht_variables ht_kept t_height t_printed t_done t_limit t_stack t_variables t_kept a1 a2 q h sz
  refine Met.ofW (cc := k_Machine_perform) (maxL := 4) (ret := none) (by decide) rfl ?_
  intro p e s m args below meth c s₁ B hml hv
  obtain ⟨rfl, hsz, hP, hK, hD0⟩ := hv
  have hx := B.exec
  have hb := B.bytes
  have hr := B.returns
  have hts : ∀ w ∈ lw_t, w.before ([.ref ht, .int a1, .int a2] : List Value).toArray s = true := fun w h => atoms_spec (ws := w_Machine_perform) B.pre w (List.mem_cons_of_mem _ h)
  have hown : s.vm.findClass R_Machine = some m.cls := findClass_of_methodNamed B.named
  have hlocks := B.notSynchronized
  subst hsz
  have hD := hD0.self (sz := s.heap.size)
  generalize hAe : va_A [(ht, .inr (3, [.ref ht_stack, .ref ht_variables, .ref ht_kept, .int t_height, .int t_printed, .int t_done, .int t_limit])), (ht_stack, .inl (cI, 16, .inl t_stack)), (ht_variables, .inl (cI, 6, .inl t_variables)), (ht_kept, .inl (cI, 20, .inl t_kept))] s.heap.size = A at hD ⊢
  have hA : ∀ q : Nat, s.heap.size ≤ q → A q := fun q h => by rw [← hAe]; exact Or.inr h
  have hS : va_S A s.heap s.heap [] := va_S.rf
  have hP : va_P D vwCl [(ht, .inr (3, [.ref ht_stack, .ref ht_variables, .ref ht_kept, .int t_height, .int t_printed, .int t_done, .int t_limit])), (ht_stack, .inl (cI, 16, .inl t_stack)), (ht_variables, .inl (cI, 6, .inl t_variables)), (ht_kept, .inl (cI, 20, .inl t_kept))] s.heap := hP
  have hl := lv_entry ([.ref ht, .int a1, .int a2]) (n := 4) (Nat.le_of_ble_eq_true rfl)
  rw [lg_entry_eq]
  generalize (lg_sl ([.ref ht, .int a1, .int a2]) ++ List.replicate (4 - (lg_sl ([.ref ht, .int a1, .int a2])).length) Slot.unset).toArray = ls at hl ⊢
  have hl : lv_has ls 4 [(0, .ref ht), (1, .int a1), (2, .int a2)] := hl
  unfold g_Machine_perform at h
  refine lv_iload_n hx hb d_Machine_perform_0 rfl (lv_at hl 1 rfl) ?_
  by_cases e_0 : a1 = (0 : Int32)
  · have h := g_t e_0 h
    have ei : (a1).toInt = 0 := by rw [e_0]; decide
    refine lv_tableIn (tgt := 60) (off := 59) hx hb d_Machine_perform_1 (by rw [ei]; decide) (by rw [ei]; decide) (by rw [ei]; rfl) (by decide) ?_
    refine lv_aload_n hx hb d_Machine_perform_60 rfl (lv_at hl 0 rfl) ?_
    refine lv_iload_n hx hb d_Machine_perform_61 rfl (lv_at hl 2 rfl) ?_
    obtain ⟨q1, hc, h⟩ := g_bd h
    refine gk_v (va_runV (As := [.int a2]) (rest := []) ⟨hx, hb, hml, hown, hts⟩ (c_Machine_push l D cI cC ht ht_stack ht_variables ht_kept t_height t_printed t_done t_limit t_stack a2 q1 hc _) (cwV 1 hts (gG_V mt_3_47 mt_3_49 mp_23 mt_1_6 mt_3_50) rfl rfl rfl (by decide +kernel) ⟨Nat.le_of_ble_eq_true rfl, Nat.le_of_ble_eq_true rfl⟩) (gpV hK hP hD [0, 1] rfl (by decide) (ci := 3) 0 rfl rfl) rfl rfl hl.1 rfl (lv_room (Nat.le_of_ble_eq_true rfl)) d_Machine_perform_62 ⟨Nat.zero_le _, Nat.zero_le _⟩) hK hP hD hS hA [0, 1] rfl (by decide) rfl rfl (fun H locs (hP : va_P D vwCl [(ht, .inr (3, [.ref ht_stack, .ref ht_variables, .ref ht_kept, .int q1.2, .int t_printed, .int t_done, .int t_limit])), (ht_stack, .inl (cI, 16, .inl q1.1)), (ht_variables, .inl (cI, 6, .inl t_variables)), (ht_kept, .inl (cI, 20, .inl t_kept))] H) (hD : va_D A [(ht, .inr (3, [.ref ht_stack, .ref ht_variables, .ref ht_kept, .int q1.2, .int t_printed, .int t_done, .int t_limit])), (ht_stack, .inl (cI, 16, .inl q1.1)), (ht_variables, .inl (cI, 6, .inl t_variables)), (ht_kept, .inl (cI, 20, .inl t_kept))]) hS => ?_)
    refine lv_goto (tgt := 140) hx hb d_Machine_perform_65 (by decide) ?_
    cases h
    exact gr_v hx hb hr hlocks hK hP hD hS d_Machine_perform_140
  · have h := g_f e_0 h
    have n_0 := lv_neT (a := 0) e_0 (by decide)
    by_cases e_1 : a1 = (1 : Int32)
    · have h := g_t e_1 h
      have ei : (a1).toInt = 1 := by rw [e_1]; decide
      refine lv_tableIn (tgt := 68) (off := 67) hx hb d_Machine_perform_1 (by rw [ei]; decide) (by rw [ei]; decide) (by rw [ei]; rfl) (by decide) ?_
      refine lv_aload_n hx hb d_Machine_perform_68 rfl (lv_at hl 0 rfl) ?_
      refine lv_aload_n hx hb d_Machine_perform_69 rfl (lv_at hl 0 rfl) ?_
      refine lv_iload_n hx hb d_Machine_perform_70 rfl (lv_at hl 2 rfl) ?_
      obtain ⟨q2, hc, h⟩ := g_bd h
      refine gk_i (va_runV (As := [.int a2]) (rest := [.ref ht]) ⟨hx, hb, hml, hown, hts⟩ (c_Machine_variable l D cI cC ht ht_stack ht_variables ht_kept t_height t_printed t_done t_limit t_variables a2 q2 hc _) (cwV 1 hts (gG_V mt_3_51 mt_3_52 mt_3_53 mt_1_6 mt_3_54) rfl rfl rfl (by decide +kernel) ⟨Nat.le_of_ble_eq_true rfl, Nat.le_of_ble_eq_true rfl⟩) (gpV hK hP hD [0, 2] rfl (by decide) (ci := 3) 0 rfl rfl) rfl rfl hl.1 rfl (lv_room (Nat.le_of_ble_eq_true rfl)) d_Machine_perform_71 ⟨Nat.zero_le _, Nat.zero_le _⟩) hK hP hD hS hA [0, 2] rfl (by decide) rfl rfl (fun H locs (hP : va_P D vwCl [(ht, .inr (3, [.ref ht_stack, .ref ht_variables, .ref ht_kept, .int t_height, .int t_printed, .int t_done, .int t_limit])), (ht_stack, .inl (cI, 16, .inl t_stack)), (ht_variables, .inl (cI, 6, .inl t_variables)), (ht_kept, .inl (cI, 20, .inl t_kept))] H) (hD : va_D A [(ht, .inr (3, [.ref ht_stack, .ref ht_variables, .ref ht_kept, .int t_height, .int t_printed, .int t_done, .int t_limit])), (ht_stack, .inl (cI, 16, .inl t_stack)), (ht_variables, .inl (cI, 6, .inl t_variables)), (ht_kept, .inl (cI, 20, .inl t_kept))]) hS => ?_)
      obtain ⟨q3, hc, h⟩ := g_bd h
      refine gk_v (va_runV (As := [.int q2]) (rest := []) ⟨hx, hb, hml, hown, hts⟩ (c_Machine_push l D cI cC ht ht_stack ht_variables ht_kept t_height t_printed t_done t_limit t_stack q2 q3 hc _) (cwV 1 hts (gG_V mt_3_47 mt_3_49 mp_23 mt_1_6 mt_3_50) rfl rfl rfl (by decide +kernel) ⟨Nat.le_of_ble_eq_true rfl, Nat.le_of_ble_eq_true rfl⟩) (gpV hK hP hD [0, 1] rfl (by decide) (ci := 3) 0 rfl rfl) rfl rfl hl.1 rfl (lv_room (Nat.le_of_ble_eq_true rfl)) d_Machine_perform_74 ⟨Nat.zero_le _, Nat.zero_le _⟩) hK hP hD hS hA [0, 1] rfl (by decide) rfl rfl (fun H locs (hP : va_P D vwCl [(ht, .inr (3, [.ref ht_stack, .ref ht_variables, .ref ht_kept, .int q3.2, .int t_printed, .int t_done, .int t_limit])), (ht_stack, .inl (cI, 16, .inl q3.1)), (ht_variables, .inl (cI, 6, .inl t_variables)), (ht_kept, .inl (cI, 20, .inl t_kept))] H) (hD : va_D A [(ht, .inr (3, [.ref ht_stack, .ref ht_variables, .ref ht_kept, .int q3.2, .int t_printed, .int t_done, .int t_limit])), (ht_stack, .inl (cI, 16, .inl q3.1)), (ht_variables, .inl (cI, 6, .inl t_variables)), (ht_kept, .inl (cI, 20, .inl t_kept))]) hS => ?_)
      refine lv_goto (tgt := 140) hx hb d_Machine_perform_77 (by decide) ?_
      cases h
      exact gr_v hx hb hr hlocks hK hP hD hS d_Machine_perform_140
    · have h := g_f e_1 h
      have n_1 := lv_neT (a := 1) e_1 (by decide)
      by_cases e_2 : a1 = (2 : Int32)
      · have h := g_t e_2 h
        have ei : (a1).toInt = 2 := by rw [e_2]; decide
        refine lv_tableIn (tgt := 80) (off := 79) hx hb d_Machine_perform_1 (by rw [ei]; decide) (by rw [ei]; decide) (by rw [ei]; rfl) (by decide) ?_
        refine lv_aload_n hx hb d_Machine_perform_80 rfl (lv_at hl 0 rfl) ?_
        refine lv_iload_n hx hb d_Machine_perform_81 rfl (lv_at hl 2 rfl) ?_
        refine lv_aload_n hx hb d_Machine_perform_82 rfl (lv_at hl 0 rfl) ?_
        obtain ⟨q4, hc, h⟩ := g_bd h
        refine gk_i (va_runV (As := []) (rest := [.int a2, .ref ht]) ⟨hx, hb, hml, hown, hts⟩ (c_Machine_pop l D cI cC ht ht_stack ht_variables ht_kept t_height t_printed t_done t_limit t_stack q4 hc _) (cwV 0 hts (gG_V mt_3_39 mt_3_40 mt_3_41 mt_1_6 mt_3_42) rfl rfl rfl (by decide +kernel) ⟨Nat.le_of_ble_eq_true rfl, Nat.le_of_ble_eq_true rfl⟩) (gpV hK hP hD [0, 1] rfl (by decide) (ci := 3) 0 rfl rfl) rfl rfl hl.1 rfl (lv_room (Nat.le_of_ble_eq_true rfl)) d_Machine_perform_83 ⟨Nat.zero_le _, Nat.zero_le _⟩) hK hP hD hS hA [0, 1] rfl (by decide) rfl rfl (fun H locs (hP : va_P D vwCl [(ht, .inr (3, [.ref ht_stack, .ref ht_variables, .ref ht_kept, .int q4.2, .int t_printed, .int t_done, .int t_limit])), (ht_stack, .inl (cI, 16, .inl t_stack)), (ht_variables, .inl (cI, 6, .inl t_variables)), (ht_kept, .inl (cI, 20, .inl t_kept))] H) (hD : va_D A [(ht, .inr (3, [.ref ht_stack, .ref ht_variables, .ref ht_kept, .int q4.2, .int t_printed, .int t_done, .int t_limit])), (ht_stack, .inl (cI, 16, .inl t_stack)), (ht_variables, .inl (cI, 6, .inl t_variables)), (ht_kept, .inl (cI, 20, .inl t_kept))]) hS => ?_)
        obtain ⟨q5, hc, h⟩ := g_bd h
        refine gk_v (va_runV (As := [.int a2, .int q4.1]) (rest := []) ⟨hx, hb, hml, hown, hts⟩ (c_Machine_keepVariable l D cI cC ht ht_stack ht_variables ht_kept q4.2 t_printed t_done t_limit t_variables a2 q4.1 q5 hc _) (cwV 2 hts (gG_V mt_3_55 mt_3_57 mp_24 mt_1_6 mt_3_58) rfl rfl rfl (by decide +kernel) ⟨Nat.le_of_ble_eq_true rfl, Nat.le_of_ble_eq_true rfl⟩) (gpV hK hP hD [0, 2] rfl (by decide) (ci := 3) 0 rfl rfl) rfl rfl hl.1 rfl (lv_room (Nat.le_of_ble_eq_true rfl)) d_Machine_perform_86 ⟨Nat.zero_le _, Nat.zero_le _⟩) hK hP hD hS hA [0, 2] rfl (by decide) rfl rfl (fun H locs (hP : va_P D vwCl [(ht, .inr (3, [.ref ht_stack, .ref ht_variables, .ref ht_kept, .int q4.2, .int t_printed, .int t_done, .int t_limit])), (ht_stack, .inl (cI, 16, .inl t_stack)), (ht_variables, .inl (cI, 6, .inl q5)), (ht_kept, .inl (cI, 20, .inl t_kept))] H) (hD : va_D A [(ht, .inr (3, [.ref ht_stack, .ref ht_variables, .ref ht_kept, .int q4.2, .int t_printed, .int t_done, .int t_limit])), (ht_stack, .inl (cI, 16, .inl t_stack)), (ht_variables, .inl (cI, 6, .inl q5)), (ht_kept, .inl (cI, 20, .inl t_kept))]) hS => ?_)
        refine lv_goto (tgt := 140) hx hb d_Machine_perform_89 (by decide) ?_
        cases h
        exact gr_v hx hb hr hlocks hK hP hD hS d_Machine_perform_140
      · have h := g_f e_2 h
        have n_2 := lv_neT (a := 2) e_2 (by decide)
        by_cases e_7 : a1 = (7 : Int32)
        · have h := g_t e_7 h
          have ei : (a1).toInt = 7 := by rw [e_7]; decide
          refine lv_tableIn (tgt := 92) (off := 91) hx hb d_Machine_perform_1 (by rw [ei]; decide) (by rw [ei]; decide) (by rw [ei]; rfl) (by decide) ?_
          refine lv_aload_n hx hb d_Machine_perform_92 rfl (lv_at hl 0 rfl) ?_
          refine lv_aload_n hx hb d_Machine_perform_93 rfl (lv_at hl 0 rfl) ?_
          obtain ⟨q6, hc, h⟩ := g_bd h
          refine gk_i (va_runV (As := []) (rest := [.ref ht]) ⟨hx, hb, hml, hown, hts⟩ (c_Machine_pop l D cI cC ht ht_stack ht_variables ht_kept t_height t_printed t_done t_limit t_stack q6 hc _) (cwV 0 hts (gG_V mt_3_39 mt_3_40 mt_3_41 mt_1_6 mt_3_42) rfl rfl rfl (by decide +kernel) ⟨Nat.le_of_ble_eq_true rfl, Nat.le_of_ble_eq_true rfl⟩) (gpV hK hP hD [0, 1] rfl (by decide) (ci := 3) 0 rfl rfl) rfl rfl hl.1 rfl (lv_room (Nat.le_of_ble_eq_true rfl)) d_Machine_perform_94 ⟨Nat.zero_le _, Nat.zero_le _⟩) hK hP hD hS hA [0, 1] rfl (by decide) rfl rfl (fun H locs (hP : va_P D vwCl [(ht, .inr (3, [.ref ht_stack, .ref ht_variables, .ref ht_kept, .int q6.2, .int t_printed, .int t_done, .int t_limit])), (ht_stack, .inl (cI, 16, .inl t_stack)), (ht_variables, .inl (cI, 6, .inl t_variables)), (ht_kept, .inl (cI, 20, .inl t_kept))] H) (hD : va_D A [(ht, .inr (3, [.ref ht_stack, .ref ht_variables, .ref ht_kept, .int q6.2, .int t_printed, .int t_done, .int t_limit])), (ht_stack, .inl (cI, 16, .inl t_stack)), (ht_variables, .inl (cI, 6, .inl t_variables)), (ht_kept, .inl (cI, 20, .inl t_kept))]) hS => ?_)
          refine lv_if_ne (tgt := 104) hx hb d_Machine_perform_97 (by decide) (fun ec => ?_) (fun ec => ?_)
          · have h := g_f ec h
            refine lv_iconst (v := (0 : Int32)) hx hb d_Machine_perform_104 (by decide) ?_
            obtain ⟨q7, hc, h⟩ := g_bd h
            refine gk_v (va_runV (As := [.int (0 : Int32)]) (rest := []) ⟨hx, hb, hml, hown, hts⟩ (c_Machine_push l D cI cC ht ht_stack ht_variables ht_kept q6.2 t_printed t_done t_limit t_stack (0 : Int32) q7 hc _) (cwV 1 hts (gG_V mt_3_47 mt_3_49 mp_23 mt_1_6 mt_3_50) rfl rfl rfl (by decide +kernel) ⟨Nat.le_of_ble_eq_true rfl, Nat.le_of_ble_eq_true rfl⟩) (gpV hK hP hD [0, 1] rfl (by decide) (ci := 3) 0 rfl rfl) rfl rfl hl.1 rfl (lv_room (Nat.le_of_ble_eq_true rfl)) d_Machine_perform_105 ⟨Nat.zero_le _, Nat.zero_le _⟩) hK hP hD hS hA [0, 1] rfl (by decide) rfl rfl (fun H locs (hP : va_P D vwCl [(ht, .inr (3, [.ref ht_stack, .ref ht_variables, .ref ht_kept, .int q7.2, .int t_printed, .int t_done, .int t_limit])), (ht_stack, .inl (cI, 16, .inl q7.1)), (ht_variables, .inl (cI, 6, .inl t_variables)), (ht_kept, .inl (cI, 20, .inl t_kept))] H) (hD : va_D A [(ht, .inr (3, [.ref ht_stack, .ref ht_variables, .ref ht_kept, .int q7.2, .int t_printed, .int t_done, .int t_limit])), (ht_stack, .inl (cI, 16, .inl q7.1)), (ht_variables, .inl (cI, 6, .inl t_variables)), (ht_kept, .inl (cI, 20, .inl t_kept))]) hS => ?_)
            refine lv_goto (tgt := 140) hx hb d_Machine_perform_108 (by decide) ?_
            cases h
            exact gr_v hx hb hr hlocks hK hP hD hS d_Machine_perform_140
          · have h := g_t ec h
            refine lv_iconst (v := (1 : Int32)) hx hb d_Machine_perform_100 (by decide) ?_
            refine lv_goto (tgt := 105) hx hb d_Machine_perform_101 (by decide) ?_
            obtain ⟨q8, hc, h⟩ := g_bd h
            refine gk_v (va_runV (As := [.int (1 : Int32)]) (rest := []) ⟨hx, hb, hml, hown, hts⟩ (c_Machine_push l D cI cC ht ht_stack ht_variables ht_kept q6.2 t_printed t_done t_limit t_stack (1 : Int32) q8 hc _) (cwV 1 hts (gG_V mt_3_47 mt_3_49 mp_23 mt_1_6 mt_3_50) rfl rfl rfl (by decide +kernel) ⟨Nat.le_of_ble_eq_true rfl, Nat.le_of_ble_eq_true rfl⟩) (gpV hK hP hD [0, 1] rfl (by decide) (ci := 3) 0 rfl rfl) rfl rfl hl.1 rfl (lv_room (Nat.le_of_ble_eq_true rfl)) d_Machine_perform_105 ⟨Nat.zero_le _, Nat.zero_le _⟩) hK hP hD hS hA [0, 1] rfl (by decide) rfl rfl (fun H locs (hP : va_P D vwCl [(ht, .inr (3, [.ref ht_stack, .ref ht_variables, .ref ht_kept, .int q8.2, .int t_printed, .int t_done, .int t_limit])), (ht_stack, .inl (cI, 16, .inl q8.1)), (ht_variables, .inl (cI, 6, .inl t_variables)), (ht_kept, .inl (cI, 20, .inl t_kept))] H) (hD : va_D A [(ht, .inr (3, [.ref ht_stack, .ref ht_variables, .ref ht_kept, .int q8.2, .int t_printed, .int t_done, .int t_limit])), (ht_stack, .inl (cI, 16, .inl q8.1)), (ht_variables, .inl (cI, 6, .inl t_variables)), (ht_kept, .inl (cI, 20, .inl t_kept))]) hS => ?_)
            refine lv_goto (tgt := 140) hx hb d_Machine_perform_108 (by decide) ?_
            cases h
            exact gr_v hx hb hr hlocks hK hP hD hS d_Machine_perform_140
        · have h := g_f e_7 h
          have n_7 := lv_neT (a := 7) e_7 (by decide)
          by_cases e_10 : a1 = (10 : Int32)
          · have h := g_t e_10 h
            have ei : (a1).toInt = 10 := by rw [e_10]; decide
            refine lv_tableIn (tgt := 111) (off := 110) hx hb d_Machine_perform_1 (by rw [ei]; decide) (by rw [ei]; decide) (by rw [ei]; rfl) (by decide) ?_
            refine lv_aload_n hx hb d_Machine_perform_111 rfl (lv_at hl 0 rfl) ?_
            refine lv_aload_n hx hb d_Machine_perform_112 rfl (lv_at hl 0 rfl) ?_
            obtain ⟨q9, hc, h⟩ := g_bd h
            refine gk_i (va_runV (As := []) (rest := [.ref ht]) ⟨hx, hb, hml, hown, hts⟩ (c_Machine_pop l D cI cC ht ht_stack ht_variables ht_kept t_height t_printed t_done t_limit t_stack q9 hc _) (cwV 0 hts (gG_V mt_3_39 mt_3_40 mt_3_41 mt_1_6 mt_3_42) rfl rfl rfl (by decide +kernel) ⟨Nat.le_of_ble_eq_true rfl, Nat.le_of_ble_eq_true rfl⟩) (gpV hK hP hD [0, 1] rfl (by decide) (ci := 3) 0 rfl rfl) rfl rfl hl.1 rfl (lv_room (Nat.le_of_ble_eq_true rfl)) d_Machine_perform_113 ⟨Nat.zero_le _, Nat.zero_le _⟩) hK hP hD hS hA [0, 1] rfl (by decide) rfl rfl (fun H locs (hP : va_P D vwCl [(ht, .inr (3, [.ref ht_stack, .ref ht_variables, .ref ht_kept, .int q9.2, .int t_printed, .int t_done, .int t_limit])), (ht_stack, .inl (cI, 16, .inl t_stack)), (ht_variables, .inl (cI, 6, .inl t_variables)), (ht_kept, .inl (cI, 20, .inl t_kept))] H) (hD : va_D A [(ht, .inr (3, [.ref ht_stack, .ref ht_variables, .ref ht_kept, .int q9.2, .int t_printed, .int t_done, .int t_limit])), (ht_stack, .inl (cI, 16, .inl t_stack)), (ht_variables, .inl (cI, 6, .inl t_variables)), (ht_kept, .inl (cI, 20, .inl t_kept))]) hS => ?_)
            obtain ⟨q10, hc, h⟩ := g_bd h
            refine gk_v (va_runV (As := [.int q9.1]) (rest := []) ⟨hx, hb, hml, hown, hts⟩ (c_Machine_print l D cI cC ht ht_stack ht_variables ht_kept q9.2 t_printed t_done t_limit t_kept q9.1 q10 hc _) (cwV 1 hts (gG_V mt_3_59 mt_3_61 mp_25 mt_1_6 mt_3_62) rfl rfl rfl (by decide +kernel) ⟨Nat.le_of_ble_eq_true rfl, Nat.le_of_ble_eq_true rfl⟩) (gpV hK hP hD [0, 3] rfl (by decide) (ci := 3) 0 rfl rfl) rfl rfl hl.1 rfl (lv_room (Nat.le_of_ble_eq_true rfl)) d_Machine_perform_116 ⟨Nat.zero_le _, Nat.zero_le _⟩) hK hP hD hS hA [0, 3] rfl (by decide) rfl rfl (fun H locs (hP : va_P D vwCl [(ht, .inr (3, [.ref ht_stack, .ref ht_variables, .ref ht_kept, .int q9.2, .int q10.2, .int t_done, .int t_limit])), (ht_stack, .inl (cI, 16, .inl t_stack)), (ht_variables, .inl (cI, 6, .inl t_variables)), (ht_kept, .inl (cI, 20, .inl q10.1))] H) (hD : va_D A [(ht, .inr (3, [.ref ht_stack, .ref ht_variables, .ref ht_kept, .int q9.2, .int q10.2, .int t_done, .int t_limit])), (ht_stack, .inl (cI, 16, .inl t_stack)), (ht_variables, .inl (cI, 6, .inl t_variables)), (ht_kept, .inl (cI, 20, .inl q10.1))]) hS => ?_)
            refine lv_goto (tgt := 140) hx hb d_Machine_perform_119 (by decide) ?_
            cases h
            exact gr_v hx hb hr hlocks hK hP hD hS d_Machine_perform_140
          · have h := g_f e_10 h
            have n_10 := lv_neT (a := 10) e_10 (by decide)
            by_cases e_3 : a1 = (3 : Int32)
            · have ei : (a1).toInt = 3 := by rw [e_3]; decide
              refine lv_tableIn (tgt := 122) (off := 121) hx hb d_Machine_perform_1 (by rw [ei]; decide) (by rw [ei]; decide) (by rw [ei]; rfl) (by decide) ?_
              refine lv_aload_n hx hb d_Machine_perform_122 rfl (lv_at hl 0 rfl) ?_
              obtain ⟨q11, hc, h⟩ := g_bd h
              refine gk_i (va_runV (As := []) (rest := []) ⟨hx, hb, hml, hown, hts⟩ (c_Machine_pop l D cI cC ht ht_stack ht_variables ht_kept t_height t_printed t_done t_limit t_stack q11 hc _) (cwV 0 hts (gG_V mt_3_39 mt_3_40 mt_3_41 mt_1_6 mt_3_42) rfl rfl rfl (by decide +kernel) ⟨Nat.le_of_ble_eq_true rfl, Nat.le_of_ble_eq_true rfl⟩) (gpV hK hP hD [0, 1] rfl (by decide) (ci := 3) 0 rfl rfl) rfl rfl hl.1 rfl (lv_room (Nat.le_of_ble_eq_true rfl)) d_Machine_perform_123 ⟨Nat.zero_le _, Nat.zero_le _⟩) hK hP hD hS hA [0, 1] rfl (by decide) rfl rfl (fun H locs (hP : va_P D vwCl [(ht, .inr (3, [.ref ht_stack, .ref ht_variables, .ref ht_kept, .int q11.2, .int t_printed, .int t_done, .int t_limit])), (ht_stack, .inl (cI, 16, .inl t_stack)), (ht_variables, .inl (cI, 6, .inl t_variables)), (ht_kept, .inl (cI, 20, .inl t_kept))] H) (hD : va_D A [(ht, .inr (3, [.ref ht_stack, .ref ht_variables, .ref ht_kept, .int q11.2, .int t_printed, .int t_done, .int t_limit])), (ht_stack, .inl (cI, 16, .inl t_stack)), (ht_variables, .inl (cI, 6, .inl t_variables)), (ht_kept, .inl (cI, 20, .inl t_kept))]) hS => ?_)
              refine lv_istore_n (lv' := [(3, .int q11.1), (0, .ref ht), (1, .int a1), (2, .int a2)]) hx hb d_Machine_perform_126 rfl hl (by decide) rfl (fun ls hl => ?_)
              refine lv_aload_n hx hb d_Machine_perform_127 rfl (lv_at hl 1 rfl) ?_
              refine lv_iload_n hx hb d_Machine_perform_128 rfl (lv_at hl 2 rfl) ?_
              refine lv_aload_n hx hb d_Machine_perform_129 rfl (lv_at hl 1 rfl) ?_
              obtain ⟨q12, hc, h⟩ := g_bd h
              refine gk_i (va_runV (As := []) (rest := [.int a1, .ref ht]) ⟨hx, hb, hml, hown, hts⟩ (c_Machine_pop l D cI cC ht ht_stack ht_variables ht_kept q11.2 t_printed t_done t_limit t_stack q12 hc _) (cwV 0 hts (gG_V mt_3_39 mt_3_40 mt_3_41 mt_1_6 mt_3_42) rfl rfl rfl (by decide +kernel) ⟨Nat.le_of_ble_eq_true rfl, Nat.le_of_ble_eq_true rfl⟩) (gpV hK hP hD [0, 1] rfl (by decide) (ci := 3) 0 rfl rfl) rfl rfl hl.1 rfl (lv_room (Nat.le_of_ble_eq_true rfl)) d_Machine_perform_130 ⟨Nat.zero_le _, Nat.zero_le _⟩) hK hP hD hS hA [0, 1] rfl (by decide) rfl rfl (fun H locs (hP : va_P D vwCl [(ht, .inr (3, [.ref ht_stack, .ref ht_variables, .ref ht_kept, .int q12.2, .int t_printed, .int t_done, .int t_limit])), (ht_stack, .inl (cI, 16, .inl t_stack)), (ht_variables, .inl (cI, 6, .inl t_variables)), (ht_kept, .inl (cI, 20, .inl t_kept))] H) (hD : va_D A [(ht, .inr (3, [.ref ht_stack, .ref ht_variables, .ref ht_kept, .int q12.2, .int t_printed, .int t_done, .int t_limit])), (ht_stack, .inl (cI, 16, .inl t_stack)), (ht_variables, .inl (cI, 6, .inl t_variables)), (ht_kept, .inl (cI, 20, .inl t_kept))]) hS => ?_)
              refine lv_iload_n hx hb d_Machine_perform_133 rfl (lv_at hl 0 rfl) ?_
              obtain ⟨q13, hc, h⟩ := g_bd h
              refine gk_i (va_runS (As := [.int a1, .int q12.1, .int q11.1]) (rest := [.ref ht]) ⟨hx, hb, hml, hown, hts⟩ (c_Machine_combined l D cI cC a1 q12.1 q11.1 q13 hc _) (va_cwS 3 hts (gG_S mt_3_63 mt_3_64 mt_1_6 mt_3_65) rfl rfl rfl (by decide +kernel) ⟨Nat.le_of_ble_eq_true rfl, Nat.le_of_ble_eq_true rfl⟩) (gpS hK hP hD [] rfl (by decide)) rfl rfl hl.1 rfl (lv_room (Nat.le_of_ble_eq_true rfl)) d_Machine_perform_134 ⟨Nat.zero_le _, Nat.zero_le _⟩) hK hP hD hS hA [] rfl (by decide) rfl rfl (fun H locs (hP : va_P D vwCl [(ht, .inr (3, [.ref ht_stack, .ref ht_variables, .ref ht_kept, .int q12.2, .int t_printed, .int t_done, .int t_limit])), (ht_stack, .inl (cI, 16, .inl t_stack)), (ht_variables, .inl (cI, 6, .inl t_variables)), (ht_kept, .inl (cI, 20, .inl t_kept))] H) (hD : va_D A [(ht, .inr (3, [.ref ht_stack, .ref ht_variables, .ref ht_kept, .int q12.2, .int t_printed, .int t_done, .int t_limit])), (ht_stack, .inl (cI, 16, .inl t_stack)), (ht_variables, .inl (cI, 6, .inl t_variables)), (ht_kept, .inl (cI, 20, .inl t_kept))]) hS => ?_)
              obtain ⟨q14, hc, h⟩ := g_bd h
              refine gk_v (va_runV (As := [.int q13]) (rest := []) ⟨hx, hb, hml, hown, hts⟩ (c_Machine_push l D cI cC ht ht_stack ht_variables ht_kept q12.2 t_printed t_done t_limit t_stack q13 q14 hc _) (cwV 1 hts (gG_V mt_3_47 mt_3_49 mp_23 mt_1_6 mt_3_50) rfl rfl rfl (by decide +kernel) ⟨Nat.le_of_ble_eq_true rfl, Nat.le_of_ble_eq_true rfl⟩) (gpV hK hP hD [0, 1] rfl (by decide) (ci := 3) 0 rfl rfl) rfl rfl hl.1 rfl (lv_room (Nat.le_of_ble_eq_true rfl)) d_Machine_perform_137 ⟨Nat.zero_le _, Nat.zero_le _⟩) hK hP hD hS hA [0, 1] rfl (by decide) rfl rfl (fun H locs (hP : va_P D vwCl [(ht, .inr (3, [.ref ht_stack, .ref ht_variables, .ref ht_kept, .int q14.2, .int t_printed, .int t_done, .int t_limit])), (ht_stack, .inl (cI, 16, .inl q14.1)), (ht_variables, .inl (cI, 6, .inl t_variables)), (ht_kept, .inl (cI, 20, .inl t_kept))] H) (hD : va_D A [(ht, .inr (3, [.ref ht_stack, .ref ht_variables, .ref ht_kept, .int q14.2, .int t_printed, .int t_done, .int t_limit])), (ht_stack, .inl (cI, 16, .inl q14.1)), (ht_variables, .inl (cI, 6, .inl t_variables)), (ht_kept, .inl (cI, 20, .inl t_kept))]) hS => ?_)
              cases h
              exact gr_v hx hb hr hlocks hK hP hD hS d_Machine_perform_140
            · have n_3 := lv_neT (a := 3) e_3 (by decide)
              by_cases e_4 : a1 = (4 : Int32)
              · have ei : (a1).toInt = 4 := by rw [e_4]; decide
                refine lv_tableIn (tgt := 122) (off := 121) hx hb d_Machine_perform_1 (by rw [ei]; decide) (by rw [ei]; decide) (by rw [ei]; rfl) (by decide) ?_
                refine lv_aload_n hx hb d_Machine_perform_122 rfl (lv_at hl 0 rfl) ?_
                obtain ⟨q11, hc, h⟩ := g_bd h
                refine gk_i (va_runV (As := []) (rest := []) ⟨hx, hb, hml, hown, hts⟩ (c_Machine_pop l D cI cC ht ht_stack ht_variables ht_kept t_height t_printed t_done t_limit t_stack q11 hc _) (cwV 0 hts (gG_V mt_3_39 mt_3_40 mt_3_41 mt_1_6 mt_3_42) rfl rfl rfl (by decide +kernel) ⟨Nat.le_of_ble_eq_true rfl, Nat.le_of_ble_eq_true rfl⟩) (gpV hK hP hD [0, 1] rfl (by decide) (ci := 3) 0 rfl rfl) rfl rfl hl.1 rfl (lv_room (Nat.le_of_ble_eq_true rfl)) d_Machine_perform_123 ⟨Nat.zero_le _, Nat.zero_le _⟩) hK hP hD hS hA [0, 1] rfl (by decide) rfl rfl (fun H locs (hP : va_P D vwCl [(ht, .inr (3, [.ref ht_stack, .ref ht_variables, .ref ht_kept, .int q11.2, .int t_printed, .int t_done, .int t_limit])), (ht_stack, .inl (cI, 16, .inl t_stack)), (ht_variables, .inl (cI, 6, .inl t_variables)), (ht_kept, .inl (cI, 20, .inl t_kept))] H) (hD : va_D A [(ht, .inr (3, [.ref ht_stack, .ref ht_variables, .ref ht_kept, .int q11.2, .int t_printed, .int t_done, .int t_limit])), (ht_stack, .inl (cI, 16, .inl t_stack)), (ht_variables, .inl (cI, 6, .inl t_variables)), (ht_kept, .inl (cI, 20, .inl t_kept))]) hS => ?_)
                refine lv_istore_n (lv' := [(3, .int q11.1), (0, .ref ht), (1, .int a1), (2, .int a2)]) hx hb d_Machine_perform_126 rfl hl (by decide) rfl (fun ls hl => ?_)
                refine lv_aload_n hx hb d_Machine_perform_127 rfl (lv_at hl 1 rfl) ?_
                refine lv_iload_n hx hb d_Machine_perform_128 rfl (lv_at hl 2 rfl) ?_
                refine lv_aload_n hx hb d_Machine_perform_129 rfl (lv_at hl 1 rfl) ?_
                obtain ⟨q12, hc, h⟩ := g_bd h
                refine gk_i (va_runV (As := []) (rest := [.int a1, .ref ht]) ⟨hx, hb, hml, hown, hts⟩ (c_Machine_pop l D cI cC ht ht_stack ht_variables ht_kept q11.2 t_printed t_done t_limit t_stack q12 hc _) (cwV 0 hts (gG_V mt_3_39 mt_3_40 mt_3_41 mt_1_6 mt_3_42) rfl rfl rfl (by decide +kernel) ⟨Nat.le_of_ble_eq_true rfl, Nat.le_of_ble_eq_true rfl⟩) (gpV hK hP hD [0, 1] rfl (by decide) (ci := 3) 0 rfl rfl) rfl rfl hl.1 rfl (lv_room (Nat.le_of_ble_eq_true rfl)) d_Machine_perform_130 ⟨Nat.zero_le _, Nat.zero_le _⟩) hK hP hD hS hA [0, 1] rfl (by decide) rfl rfl (fun H locs (hP : va_P D vwCl [(ht, .inr (3, [.ref ht_stack, .ref ht_variables, .ref ht_kept, .int q12.2, .int t_printed, .int t_done, .int t_limit])), (ht_stack, .inl (cI, 16, .inl t_stack)), (ht_variables, .inl (cI, 6, .inl t_variables)), (ht_kept, .inl (cI, 20, .inl t_kept))] H) (hD : va_D A [(ht, .inr (3, [.ref ht_stack, .ref ht_variables, .ref ht_kept, .int q12.2, .int t_printed, .int t_done, .int t_limit])), (ht_stack, .inl (cI, 16, .inl t_stack)), (ht_variables, .inl (cI, 6, .inl t_variables)), (ht_kept, .inl (cI, 20, .inl t_kept))]) hS => ?_)
                refine lv_iload_n hx hb d_Machine_perform_133 rfl (lv_at hl 0 rfl) ?_
                obtain ⟨q13, hc, h⟩ := g_bd h
                refine gk_i (va_runS (As := [.int a1, .int q12.1, .int q11.1]) (rest := [.ref ht]) ⟨hx, hb, hml, hown, hts⟩ (c_Machine_combined l D cI cC a1 q12.1 q11.1 q13 hc _) (va_cwS 3 hts (gG_S mt_3_63 mt_3_64 mt_1_6 mt_3_65) rfl rfl rfl (by decide +kernel) ⟨Nat.le_of_ble_eq_true rfl, Nat.le_of_ble_eq_true rfl⟩) (gpS hK hP hD [] rfl (by decide)) rfl rfl hl.1 rfl (lv_room (Nat.le_of_ble_eq_true rfl)) d_Machine_perform_134 ⟨Nat.zero_le _, Nat.zero_le _⟩) hK hP hD hS hA [] rfl (by decide) rfl rfl (fun H locs (hP : va_P D vwCl [(ht, .inr (3, [.ref ht_stack, .ref ht_variables, .ref ht_kept, .int q12.2, .int t_printed, .int t_done, .int t_limit])), (ht_stack, .inl (cI, 16, .inl t_stack)), (ht_variables, .inl (cI, 6, .inl t_variables)), (ht_kept, .inl (cI, 20, .inl t_kept))] H) (hD : va_D A [(ht, .inr (3, [.ref ht_stack, .ref ht_variables, .ref ht_kept, .int q12.2, .int t_printed, .int t_done, .int t_limit])), (ht_stack, .inl (cI, 16, .inl t_stack)), (ht_variables, .inl (cI, 6, .inl t_variables)), (ht_kept, .inl (cI, 20, .inl t_kept))]) hS => ?_)
                obtain ⟨q14, hc, h⟩ := g_bd h
                refine gk_v (va_runV (As := [.int q13]) (rest := []) ⟨hx, hb, hml, hown, hts⟩ (c_Machine_push l D cI cC ht ht_stack ht_variables ht_kept q12.2 t_printed t_done t_limit t_stack q13 q14 hc _) (cwV 1 hts (gG_V mt_3_47 mt_3_49 mp_23 mt_1_6 mt_3_50) rfl rfl rfl (by decide +kernel) ⟨Nat.le_of_ble_eq_true rfl, Nat.le_of_ble_eq_true rfl⟩) (gpV hK hP hD [0, 1] rfl (by decide) (ci := 3) 0 rfl rfl) rfl rfl hl.1 rfl (lv_room (Nat.le_of_ble_eq_true rfl)) d_Machine_perform_137 ⟨Nat.zero_le _, Nat.zero_le _⟩) hK hP hD hS hA [0, 1] rfl (by decide) rfl rfl (fun H locs (hP : va_P D vwCl [(ht, .inr (3, [.ref ht_stack, .ref ht_variables, .ref ht_kept, .int q14.2, .int t_printed, .int t_done, .int t_limit])), (ht_stack, .inl (cI, 16, .inl q14.1)), (ht_variables, .inl (cI, 6, .inl t_variables)), (ht_kept, .inl (cI, 20, .inl t_kept))] H) (hD : va_D A [(ht, .inr (3, [.ref ht_stack, .ref ht_variables, .ref ht_kept, .int q14.2, .int t_printed, .int t_done, .int t_limit])), (ht_stack, .inl (cI, 16, .inl q14.1)), (ht_variables, .inl (cI, 6, .inl t_variables)), (ht_kept, .inl (cI, 20, .inl t_kept))]) hS => ?_)
                cases h
                exact gr_v hx hb hr hlocks hK hP hD hS d_Machine_perform_140
              · have n_4 := lv_neT (a := 4) e_4 (by decide)
                by_cases e_5 : a1 = (5 : Int32)
                · have ei : (a1).toInt = 5 := by rw [e_5]; decide
                  refine lv_tableIn (tgt := 122) (off := 121) hx hb d_Machine_perform_1 (by rw [ei]; decide) (by rw [ei]; decide) (by rw [ei]; rfl) (by decide) ?_
                  refine lv_aload_n hx hb d_Machine_perform_122 rfl (lv_at hl 0 rfl) ?_
                  obtain ⟨q11, hc, h⟩ := g_bd h
                  refine gk_i (va_runV (As := []) (rest := []) ⟨hx, hb, hml, hown, hts⟩ (c_Machine_pop l D cI cC ht ht_stack ht_variables ht_kept t_height t_printed t_done t_limit t_stack q11 hc _) (cwV 0 hts (gG_V mt_3_39 mt_3_40 mt_3_41 mt_1_6 mt_3_42) rfl rfl rfl (by decide +kernel) ⟨Nat.le_of_ble_eq_true rfl, Nat.le_of_ble_eq_true rfl⟩) (gpV hK hP hD [0, 1] rfl (by decide) (ci := 3) 0 rfl rfl) rfl rfl hl.1 rfl (lv_room (Nat.le_of_ble_eq_true rfl)) d_Machine_perform_123 ⟨Nat.zero_le _, Nat.zero_le _⟩) hK hP hD hS hA [0, 1] rfl (by decide) rfl rfl (fun H locs (hP : va_P D vwCl [(ht, .inr (3, [.ref ht_stack, .ref ht_variables, .ref ht_kept, .int q11.2, .int t_printed, .int t_done, .int t_limit])), (ht_stack, .inl (cI, 16, .inl t_stack)), (ht_variables, .inl (cI, 6, .inl t_variables)), (ht_kept, .inl (cI, 20, .inl t_kept))] H) (hD : va_D A [(ht, .inr (3, [.ref ht_stack, .ref ht_variables, .ref ht_kept, .int q11.2, .int t_printed, .int t_done, .int t_limit])), (ht_stack, .inl (cI, 16, .inl t_stack)), (ht_variables, .inl (cI, 6, .inl t_variables)), (ht_kept, .inl (cI, 20, .inl t_kept))]) hS => ?_)
                  refine lv_istore_n (lv' := [(3, .int q11.1), (0, .ref ht), (1, .int a1), (2, .int a2)]) hx hb d_Machine_perform_126 rfl hl (by decide) rfl (fun ls hl => ?_)
                  refine lv_aload_n hx hb d_Machine_perform_127 rfl (lv_at hl 1 rfl) ?_
                  refine lv_iload_n hx hb d_Machine_perform_128 rfl (lv_at hl 2 rfl) ?_
                  refine lv_aload_n hx hb d_Machine_perform_129 rfl (lv_at hl 1 rfl) ?_
                  obtain ⟨q12, hc, h⟩ := g_bd h
                  refine gk_i (va_runV (As := []) (rest := [.int a1, .ref ht]) ⟨hx, hb, hml, hown, hts⟩ (c_Machine_pop l D cI cC ht ht_stack ht_variables ht_kept q11.2 t_printed t_done t_limit t_stack q12 hc _) (cwV 0 hts (gG_V mt_3_39 mt_3_40 mt_3_41 mt_1_6 mt_3_42) rfl rfl rfl (by decide +kernel) ⟨Nat.le_of_ble_eq_true rfl, Nat.le_of_ble_eq_true rfl⟩) (gpV hK hP hD [0, 1] rfl (by decide) (ci := 3) 0 rfl rfl) rfl rfl hl.1 rfl (lv_room (Nat.le_of_ble_eq_true rfl)) d_Machine_perform_130 ⟨Nat.zero_le _, Nat.zero_le _⟩) hK hP hD hS hA [0, 1] rfl (by decide) rfl rfl (fun H locs (hP : va_P D vwCl [(ht, .inr (3, [.ref ht_stack, .ref ht_variables, .ref ht_kept, .int q12.2, .int t_printed, .int t_done, .int t_limit])), (ht_stack, .inl (cI, 16, .inl t_stack)), (ht_variables, .inl (cI, 6, .inl t_variables)), (ht_kept, .inl (cI, 20, .inl t_kept))] H) (hD : va_D A [(ht, .inr (3, [.ref ht_stack, .ref ht_variables, .ref ht_kept, .int q12.2, .int t_printed, .int t_done, .int t_limit])), (ht_stack, .inl (cI, 16, .inl t_stack)), (ht_variables, .inl (cI, 6, .inl t_variables)), (ht_kept, .inl (cI, 20, .inl t_kept))]) hS => ?_)
                  refine lv_iload_n hx hb d_Machine_perform_133 rfl (lv_at hl 0 rfl) ?_
                  obtain ⟨q13, hc, h⟩ := g_bd h
                  refine gk_i (va_runS (As := [.int a1, .int q12.1, .int q11.1]) (rest := [.ref ht]) ⟨hx, hb, hml, hown, hts⟩ (c_Machine_combined l D cI cC a1 q12.1 q11.1 q13 hc _) (va_cwS 3 hts (gG_S mt_3_63 mt_3_64 mt_1_6 mt_3_65) rfl rfl rfl (by decide +kernel) ⟨Nat.le_of_ble_eq_true rfl, Nat.le_of_ble_eq_true rfl⟩) (gpS hK hP hD [] rfl (by decide)) rfl rfl hl.1 rfl (lv_room (Nat.le_of_ble_eq_true rfl)) d_Machine_perform_134 ⟨Nat.zero_le _, Nat.zero_le _⟩) hK hP hD hS hA [] rfl (by decide) rfl rfl (fun H locs (hP : va_P D vwCl [(ht, .inr (3, [.ref ht_stack, .ref ht_variables, .ref ht_kept, .int q12.2, .int t_printed, .int t_done, .int t_limit])), (ht_stack, .inl (cI, 16, .inl t_stack)), (ht_variables, .inl (cI, 6, .inl t_variables)), (ht_kept, .inl (cI, 20, .inl t_kept))] H) (hD : va_D A [(ht, .inr (3, [.ref ht_stack, .ref ht_variables, .ref ht_kept, .int q12.2, .int t_printed, .int t_done, .int t_limit])), (ht_stack, .inl (cI, 16, .inl t_stack)), (ht_variables, .inl (cI, 6, .inl t_variables)), (ht_kept, .inl (cI, 20, .inl t_kept))]) hS => ?_)
                  obtain ⟨q14, hc, h⟩ := g_bd h
                  refine gk_v (va_runV (As := [.int q13]) (rest := []) ⟨hx, hb, hml, hown, hts⟩ (c_Machine_push l D cI cC ht ht_stack ht_variables ht_kept q12.2 t_printed t_done t_limit t_stack q13 q14 hc _) (cwV 1 hts (gG_V mt_3_47 mt_3_49 mp_23 mt_1_6 mt_3_50) rfl rfl rfl (by decide +kernel) ⟨Nat.le_of_ble_eq_true rfl, Nat.le_of_ble_eq_true rfl⟩) (gpV hK hP hD [0, 1] rfl (by decide) (ci := 3) 0 rfl rfl) rfl rfl hl.1 rfl (lv_room (Nat.le_of_ble_eq_true rfl)) d_Machine_perform_137 ⟨Nat.zero_le _, Nat.zero_le _⟩) hK hP hD hS hA [0, 1] rfl (by decide) rfl rfl (fun H locs (hP : va_P D vwCl [(ht, .inr (3, [.ref ht_stack, .ref ht_variables, .ref ht_kept, .int q14.2, .int t_printed, .int t_done, .int t_limit])), (ht_stack, .inl (cI, 16, .inl q14.1)), (ht_variables, .inl (cI, 6, .inl t_variables)), (ht_kept, .inl (cI, 20, .inl t_kept))] H) (hD : va_D A [(ht, .inr (3, [.ref ht_stack, .ref ht_variables, .ref ht_kept, .int q14.2, .int t_printed, .int t_done, .int t_limit])), (ht_stack, .inl (cI, 16, .inl q14.1)), (ht_variables, .inl (cI, 6, .inl t_variables)), (ht_kept, .inl (cI, 20, .inl t_kept))]) hS => ?_)
                  cases h
                  exact gr_v hx hb hr hlocks hK hP hD hS d_Machine_perform_140
                · have n_5 := lv_neT (a := 5) e_5 (by decide)
                  by_cases e_6 : a1 = (6 : Int32)
                  · have ei : (a1).toInt = 6 := by rw [e_6]; decide
                    refine lv_tableIn (tgt := 122) (off := 121) hx hb d_Machine_perform_1 (by rw [ei]; decide) (by rw [ei]; decide) (by rw [ei]; rfl) (by decide) ?_
                    refine lv_aload_n hx hb d_Machine_perform_122 rfl (lv_at hl 0 rfl) ?_
                    obtain ⟨q11, hc, h⟩ := g_bd h
                    refine gk_i (va_runV (As := []) (rest := []) ⟨hx, hb, hml, hown, hts⟩ (c_Machine_pop l D cI cC ht ht_stack ht_variables ht_kept t_height t_printed t_done t_limit t_stack q11 hc _) (cwV 0 hts (gG_V mt_3_39 mt_3_40 mt_3_41 mt_1_6 mt_3_42) rfl rfl rfl (by decide +kernel) ⟨Nat.le_of_ble_eq_true rfl, Nat.le_of_ble_eq_true rfl⟩) (gpV hK hP hD [0, 1] rfl (by decide) (ci := 3) 0 rfl rfl) rfl rfl hl.1 rfl (lv_room (Nat.le_of_ble_eq_true rfl)) d_Machine_perform_123 ⟨Nat.zero_le _, Nat.zero_le _⟩) hK hP hD hS hA [0, 1] rfl (by decide) rfl rfl (fun H locs (hP : va_P D vwCl [(ht, .inr (3, [.ref ht_stack, .ref ht_variables, .ref ht_kept, .int q11.2, .int t_printed, .int t_done, .int t_limit])), (ht_stack, .inl (cI, 16, .inl t_stack)), (ht_variables, .inl (cI, 6, .inl t_variables)), (ht_kept, .inl (cI, 20, .inl t_kept))] H) (hD : va_D A [(ht, .inr (3, [.ref ht_stack, .ref ht_variables, .ref ht_kept, .int q11.2, .int t_printed, .int t_done, .int t_limit])), (ht_stack, .inl (cI, 16, .inl t_stack)), (ht_variables, .inl (cI, 6, .inl t_variables)), (ht_kept, .inl (cI, 20, .inl t_kept))]) hS => ?_)
                    refine lv_istore_n (lv' := [(3, .int q11.1), (0, .ref ht), (1, .int a1), (2, .int a2)]) hx hb d_Machine_perform_126 rfl hl (by decide) rfl (fun ls hl => ?_)
                    refine lv_aload_n hx hb d_Machine_perform_127 rfl (lv_at hl 1 rfl) ?_
                    refine lv_iload_n hx hb d_Machine_perform_128 rfl (lv_at hl 2 rfl) ?_
                    refine lv_aload_n hx hb d_Machine_perform_129 rfl (lv_at hl 1 rfl) ?_
                    obtain ⟨q12, hc, h⟩ := g_bd h
                    refine gk_i (va_runV (As := []) (rest := [.int a1, .ref ht]) ⟨hx, hb, hml, hown, hts⟩ (c_Machine_pop l D cI cC ht ht_stack ht_variables ht_kept q11.2 t_printed t_done t_limit t_stack q12 hc _) (cwV 0 hts (gG_V mt_3_39 mt_3_40 mt_3_41 mt_1_6 mt_3_42) rfl rfl rfl (by decide +kernel) ⟨Nat.le_of_ble_eq_true rfl, Nat.le_of_ble_eq_true rfl⟩) (gpV hK hP hD [0, 1] rfl (by decide) (ci := 3) 0 rfl rfl) rfl rfl hl.1 rfl (lv_room (Nat.le_of_ble_eq_true rfl)) d_Machine_perform_130 ⟨Nat.zero_le _, Nat.zero_le _⟩) hK hP hD hS hA [0, 1] rfl (by decide) rfl rfl (fun H locs (hP : va_P D vwCl [(ht, .inr (3, [.ref ht_stack, .ref ht_variables, .ref ht_kept, .int q12.2, .int t_printed, .int t_done, .int t_limit])), (ht_stack, .inl (cI, 16, .inl t_stack)), (ht_variables, .inl (cI, 6, .inl t_variables)), (ht_kept, .inl (cI, 20, .inl t_kept))] H) (hD : va_D A [(ht, .inr (3, [.ref ht_stack, .ref ht_variables, .ref ht_kept, .int q12.2, .int t_printed, .int t_done, .int t_limit])), (ht_stack, .inl (cI, 16, .inl t_stack)), (ht_variables, .inl (cI, 6, .inl t_variables)), (ht_kept, .inl (cI, 20, .inl t_kept))]) hS => ?_)
                    refine lv_iload_n hx hb d_Machine_perform_133 rfl (lv_at hl 0 rfl) ?_
                    obtain ⟨q13, hc, h⟩ := g_bd h
                    refine gk_i (va_runS (As := [.int a1, .int q12.1, .int q11.1]) (rest := [.ref ht]) ⟨hx, hb, hml, hown, hts⟩ (c_Machine_combined l D cI cC a1 q12.1 q11.1 q13 hc _) (va_cwS 3 hts (gG_S mt_3_63 mt_3_64 mt_1_6 mt_3_65) rfl rfl rfl (by decide +kernel) ⟨Nat.le_of_ble_eq_true rfl, Nat.le_of_ble_eq_true rfl⟩) (gpS hK hP hD [] rfl (by decide)) rfl rfl hl.1 rfl (lv_room (Nat.le_of_ble_eq_true rfl)) d_Machine_perform_134 ⟨Nat.zero_le _, Nat.zero_le _⟩) hK hP hD hS hA [] rfl (by decide) rfl rfl (fun H locs (hP : va_P D vwCl [(ht, .inr (3, [.ref ht_stack, .ref ht_variables, .ref ht_kept, .int q12.2, .int t_printed, .int t_done, .int t_limit])), (ht_stack, .inl (cI, 16, .inl t_stack)), (ht_variables, .inl (cI, 6, .inl t_variables)), (ht_kept, .inl (cI, 20, .inl t_kept))] H) (hD : va_D A [(ht, .inr (3, [.ref ht_stack, .ref ht_variables, .ref ht_kept, .int q12.2, .int t_printed, .int t_done, .int t_limit])), (ht_stack, .inl (cI, 16, .inl t_stack)), (ht_variables, .inl (cI, 6, .inl t_variables)), (ht_kept, .inl (cI, 20, .inl t_kept))]) hS => ?_)
                    obtain ⟨q14, hc, h⟩ := g_bd h
                    refine gk_v (va_runV (As := [.int q13]) (rest := []) ⟨hx, hb, hml, hown, hts⟩ (c_Machine_push l D cI cC ht ht_stack ht_variables ht_kept q12.2 t_printed t_done t_limit t_stack q13 q14 hc _) (cwV 1 hts (gG_V mt_3_47 mt_3_49 mp_23 mt_1_6 mt_3_50) rfl rfl rfl (by decide +kernel) ⟨Nat.le_of_ble_eq_true rfl, Nat.le_of_ble_eq_true rfl⟩) (gpV hK hP hD [0, 1] rfl (by decide) (ci := 3) 0 rfl rfl) rfl rfl hl.1 rfl (lv_room (Nat.le_of_ble_eq_true rfl)) d_Machine_perform_137 ⟨Nat.zero_le _, Nat.zero_le _⟩) hK hP hD hS hA [0, 1] rfl (by decide) rfl rfl (fun H locs (hP : va_P D vwCl [(ht, .inr (3, [.ref ht_stack, .ref ht_variables, .ref ht_kept, .int q14.2, .int t_printed, .int t_done, .int t_limit])), (ht_stack, .inl (cI, 16, .inl q14.1)), (ht_variables, .inl (cI, 6, .inl t_variables)), (ht_kept, .inl (cI, 20, .inl t_kept))] H) (hD : va_D A [(ht, .inr (3, [.ref ht_stack, .ref ht_variables, .ref ht_kept, .int q14.2, .int t_printed, .int t_done, .int t_limit])), (ht_stack, .inl (cI, 16, .inl q14.1)), (ht_variables, .inl (cI, 6, .inl t_variables)), (ht_kept, .inl (cI, 20, .inl t_kept))]) hS => ?_)
                    cases h
                    exact gr_v hx hb hr hlocks hK hP hD hS d_Machine_perform_140
                  · have n_6 := lv_neT (a := 6) e_6 (by decide)
                    by_cases e_8 : a1 = (8 : Int32)
                    · have ei : (a1).toInt = 8 := by rw [e_8]; decide
                      refine lv_tableIn (tgt := 122) (off := 121) hx hb d_Machine_perform_1 (by rw [ei]; decide) (by rw [ei]; decide) (by rw [ei]; rfl) (by decide) ?_
                      refine lv_aload_n hx hb d_Machine_perform_122 rfl (lv_at hl 0 rfl) ?_
                      obtain ⟨q11, hc, h⟩ := g_bd h
                      refine gk_i (va_runV (As := []) (rest := []) ⟨hx, hb, hml, hown, hts⟩ (c_Machine_pop l D cI cC ht ht_stack ht_variables ht_kept t_height t_printed t_done t_limit t_stack q11 hc _) (cwV 0 hts (gG_V mt_3_39 mt_3_40 mt_3_41 mt_1_6 mt_3_42) rfl rfl rfl (by decide +kernel) ⟨Nat.le_of_ble_eq_true rfl, Nat.le_of_ble_eq_true rfl⟩) (gpV hK hP hD [0, 1] rfl (by decide) (ci := 3) 0 rfl rfl) rfl rfl hl.1 rfl (lv_room (Nat.le_of_ble_eq_true rfl)) d_Machine_perform_123 ⟨Nat.zero_le _, Nat.zero_le _⟩) hK hP hD hS hA [0, 1] rfl (by decide) rfl rfl (fun H locs (hP : va_P D vwCl [(ht, .inr (3, [.ref ht_stack, .ref ht_variables, .ref ht_kept, .int q11.2, .int t_printed, .int t_done, .int t_limit])), (ht_stack, .inl (cI, 16, .inl t_stack)), (ht_variables, .inl (cI, 6, .inl t_variables)), (ht_kept, .inl (cI, 20, .inl t_kept))] H) (hD : va_D A [(ht, .inr (3, [.ref ht_stack, .ref ht_variables, .ref ht_kept, .int q11.2, .int t_printed, .int t_done, .int t_limit])), (ht_stack, .inl (cI, 16, .inl t_stack)), (ht_variables, .inl (cI, 6, .inl t_variables)), (ht_kept, .inl (cI, 20, .inl t_kept))]) hS => ?_)
                      refine lv_istore_n (lv' := [(3, .int q11.1), (0, .ref ht), (1, .int a1), (2, .int a2)]) hx hb d_Machine_perform_126 rfl hl (by decide) rfl (fun ls hl => ?_)
                      refine lv_aload_n hx hb d_Machine_perform_127 rfl (lv_at hl 1 rfl) ?_
                      refine lv_iload_n hx hb d_Machine_perform_128 rfl (lv_at hl 2 rfl) ?_
                      refine lv_aload_n hx hb d_Machine_perform_129 rfl (lv_at hl 1 rfl) ?_
                      obtain ⟨q12, hc, h⟩ := g_bd h
                      refine gk_i (va_runV (As := []) (rest := [.int a1, .ref ht]) ⟨hx, hb, hml, hown, hts⟩ (c_Machine_pop l D cI cC ht ht_stack ht_variables ht_kept q11.2 t_printed t_done t_limit t_stack q12 hc _) (cwV 0 hts (gG_V mt_3_39 mt_3_40 mt_3_41 mt_1_6 mt_3_42) rfl rfl rfl (by decide +kernel) ⟨Nat.le_of_ble_eq_true rfl, Nat.le_of_ble_eq_true rfl⟩) (gpV hK hP hD [0, 1] rfl (by decide) (ci := 3) 0 rfl rfl) rfl rfl hl.1 rfl (lv_room (Nat.le_of_ble_eq_true rfl)) d_Machine_perform_130 ⟨Nat.zero_le _, Nat.zero_le _⟩) hK hP hD hS hA [0, 1] rfl (by decide) rfl rfl (fun H locs (hP : va_P D vwCl [(ht, .inr (3, [.ref ht_stack, .ref ht_variables, .ref ht_kept, .int q12.2, .int t_printed, .int t_done, .int t_limit])), (ht_stack, .inl (cI, 16, .inl t_stack)), (ht_variables, .inl (cI, 6, .inl t_variables)), (ht_kept, .inl (cI, 20, .inl t_kept))] H) (hD : va_D A [(ht, .inr (3, [.ref ht_stack, .ref ht_variables, .ref ht_kept, .int q12.2, .int t_printed, .int t_done, .int t_limit])), (ht_stack, .inl (cI, 16, .inl t_stack)), (ht_variables, .inl (cI, 6, .inl t_variables)), (ht_kept, .inl (cI, 20, .inl t_kept))]) hS => ?_)
                      refine lv_iload_n hx hb d_Machine_perform_133 rfl (lv_at hl 0 rfl) ?_
                      obtain ⟨q13, hc, h⟩ := g_bd h
                      refine gk_i (va_runS (As := [.int a1, .int q12.1, .int q11.1]) (rest := [.ref ht]) ⟨hx, hb, hml, hown, hts⟩ (c_Machine_combined l D cI cC a1 q12.1 q11.1 q13 hc _) (va_cwS 3 hts (gG_S mt_3_63 mt_3_64 mt_1_6 mt_3_65) rfl rfl rfl (by decide +kernel) ⟨Nat.le_of_ble_eq_true rfl, Nat.le_of_ble_eq_true rfl⟩) (gpS hK hP hD [] rfl (by decide)) rfl rfl hl.1 rfl (lv_room (Nat.le_of_ble_eq_true rfl)) d_Machine_perform_134 ⟨Nat.zero_le _, Nat.zero_le _⟩) hK hP hD hS hA [] rfl (by decide) rfl rfl (fun H locs (hP : va_P D vwCl [(ht, .inr (3, [.ref ht_stack, .ref ht_variables, .ref ht_kept, .int q12.2, .int t_printed, .int t_done, .int t_limit])), (ht_stack, .inl (cI, 16, .inl t_stack)), (ht_variables, .inl (cI, 6, .inl t_variables)), (ht_kept, .inl (cI, 20, .inl t_kept))] H) (hD : va_D A [(ht, .inr (3, [.ref ht_stack, .ref ht_variables, .ref ht_kept, .int q12.2, .int t_printed, .int t_done, .int t_limit])), (ht_stack, .inl (cI, 16, .inl t_stack)), (ht_variables, .inl (cI, 6, .inl t_variables)), (ht_kept, .inl (cI, 20, .inl t_kept))]) hS => ?_)
                      obtain ⟨q14, hc, h⟩ := g_bd h
                      refine gk_v (va_runV (As := [.int q13]) (rest := []) ⟨hx, hb, hml, hown, hts⟩ (c_Machine_push l D cI cC ht ht_stack ht_variables ht_kept q12.2 t_printed t_done t_limit t_stack q13 q14 hc _) (cwV 1 hts (gG_V mt_3_47 mt_3_49 mp_23 mt_1_6 mt_3_50) rfl rfl rfl (by decide +kernel) ⟨Nat.le_of_ble_eq_true rfl, Nat.le_of_ble_eq_true rfl⟩) (gpV hK hP hD [0, 1] rfl (by decide) (ci := 3) 0 rfl rfl) rfl rfl hl.1 rfl (lv_room (Nat.le_of_ble_eq_true rfl)) d_Machine_perform_137 ⟨Nat.zero_le _, Nat.zero_le _⟩) hK hP hD hS hA [0, 1] rfl (by decide) rfl rfl (fun H locs (hP : va_P D vwCl [(ht, .inr (3, [.ref ht_stack, .ref ht_variables, .ref ht_kept, .int q14.2, .int t_printed, .int t_done, .int t_limit])), (ht_stack, .inl (cI, 16, .inl q14.1)), (ht_variables, .inl (cI, 6, .inl t_variables)), (ht_kept, .inl (cI, 20, .inl t_kept))] H) (hD : va_D A [(ht, .inr (3, [.ref ht_stack, .ref ht_variables, .ref ht_kept, .int q14.2, .int t_printed, .int t_done, .int t_limit])), (ht_stack, .inl (cI, 16, .inl q14.1)), (ht_variables, .inl (cI, 6, .inl t_variables)), (ht_kept, .inl (cI, 20, .inl t_kept))]) hS => ?_)
                      cases h
                      exact gr_v hx hb hr hlocks hK hP hD hS d_Machine_perform_140
                    · have n_8 := lv_neT (a := 8) e_8 (by decide)
                      by_cases e_9 : a1 = (9 : Int32)
                      · have ei : (a1).toInt = 9 := by rw [e_9]; decide
                        refine lv_tableIn (tgt := 122) (off := 121) hx hb d_Machine_perform_1 (by rw [ei]; decide) (by rw [ei]; decide) (by rw [ei]; rfl) (by decide) ?_
                        refine lv_aload_n hx hb d_Machine_perform_122 rfl (lv_at hl 0 rfl) ?_
                        obtain ⟨q11, hc, h⟩ := g_bd h
                        refine gk_i (va_runV (As := []) (rest := []) ⟨hx, hb, hml, hown, hts⟩ (c_Machine_pop l D cI cC ht ht_stack ht_variables ht_kept t_height t_printed t_done t_limit t_stack q11 hc _) (cwV 0 hts (gG_V mt_3_39 mt_3_40 mt_3_41 mt_1_6 mt_3_42) rfl rfl rfl (by decide +kernel) ⟨Nat.le_of_ble_eq_true rfl, Nat.le_of_ble_eq_true rfl⟩) (gpV hK hP hD [0, 1] rfl (by decide) (ci := 3) 0 rfl rfl) rfl rfl hl.1 rfl (lv_room (Nat.le_of_ble_eq_true rfl)) d_Machine_perform_123 ⟨Nat.zero_le _, Nat.zero_le _⟩) hK hP hD hS hA [0, 1] rfl (by decide) rfl rfl (fun H locs (hP : va_P D vwCl [(ht, .inr (3, [.ref ht_stack, .ref ht_variables, .ref ht_kept, .int q11.2, .int t_printed, .int t_done, .int t_limit])), (ht_stack, .inl (cI, 16, .inl t_stack)), (ht_variables, .inl (cI, 6, .inl t_variables)), (ht_kept, .inl (cI, 20, .inl t_kept))] H) (hD : va_D A [(ht, .inr (3, [.ref ht_stack, .ref ht_variables, .ref ht_kept, .int q11.2, .int t_printed, .int t_done, .int t_limit])), (ht_stack, .inl (cI, 16, .inl t_stack)), (ht_variables, .inl (cI, 6, .inl t_variables)), (ht_kept, .inl (cI, 20, .inl t_kept))]) hS => ?_)
                        refine lv_istore_n (lv' := [(3, .int q11.1), (0, .ref ht), (1, .int a1), (2, .int a2)]) hx hb d_Machine_perform_126 rfl hl (by decide) rfl (fun ls hl => ?_)
                        refine lv_aload_n hx hb d_Machine_perform_127 rfl (lv_at hl 1 rfl) ?_
                        refine lv_iload_n hx hb d_Machine_perform_128 rfl (lv_at hl 2 rfl) ?_
                        refine lv_aload_n hx hb d_Machine_perform_129 rfl (lv_at hl 1 rfl) ?_
                        obtain ⟨q12, hc, h⟩ := g_bd h
                        refine gk_i (va_runV (As := []) (rest := [.int a1, .ref ht]) ⟨hx, hb, hml, hown, hts⟩ (c_Machine_pop l D cI cC ht ht_stack ht_variables ht_kept q11.2 t_printed t_done t_limit t_stack q12 hc _) (cwV 0 hts (gG_V mt_3_39 mt_3_40 mt_3_41 mt_1_6 mt_3_42) rfl rfl rfl (by decide +kernel) ⟨Nat.le_of_ble_eq_true rfl, Nat.le_of_ble_eq_true rfl⟩) (gpV hK hP hD [0, 1] rfl (by decide) (ci := 3) 0 rfl rfl) rfl rfl hl.1 rfl (lv_room (Nat.le_of_ble_eq_true rfl)) d_Machine_perform_130 ⟨Nat.zero_le _, Nat.zero_le _⟩) hK hP hD hS hA [0, 1] rfl (by decide) rfl rfl (fun H locs (hP : va_P D vwCl [(ht, .inr (3, [.ref ht_stack, .ref ht_variables, .ref ht_kept, .int q12.2, .int t_printed, .int t_done, .int t_limit])), (ht_stack, .inl (cI, 16, .inl t_stack)), (ht_variables, .inl (cI, 6, .inl t_variables)), (ht_kept, .inl (cI, 20, .inl t_kept))] H) (hD : va_D A [(ht, .inr (3, [.ref ht_stack, .ref ht_variables, .ref ht_kept, .int q12.2, .int t_printed, .int t_done, .int t_limit])), (ht_stack, .inl (cI, 16, .inl t_stack)), (ht_variables, .inl (cI, 6, .inl t_variables)), (ht_kept, .inl (cI, 20, .inl t_kept))]) hS => ?_)
                        refine lv_iload_n hx hb d_Machine_perform_133 rfl (lv_at hl 0 rfl) ?_
                        obtain ⟨q13, hc, h⟩ := g_bd h
                        refine gk_i (va_runS (As := [.int a1, .int q12.1, .int q11.1]) (rest := [.ref ht]) ⟨hx, hb, hml, hown, hts⟩ (c_Machine_combined l D cI cC a1 q12.1 q11.1 q13 hc _) (va_cwS 3 hts (gG_S mt_3_63 mt_3_64 mt_1_6 mt_3_65) rfl rfl rfl (by decide +kernel) ⟨Nat.le_of_ble_eq_true rfl, Nat.le_of_ble_eq_true rfl⟩) (gpS hK hP hD [] rfl (by decide)) rfl rfl hl.1 rfl (lv_room (Nat.le_of_ble_eq_true rfl)) d_Machine_perform_134 ⟨Nat.zero_le _, Nat.zero_le _⟩) hK hP hD hS hA [] rfl (by decide) rfl rfl (fun H locs (hP : va_P D vwCl [(ht, .inr (3, [.ref ht_stack, .ref ht_variables, .ref ht_kept, .int q12.2, .int t_printed, .int t_done, .int t_limit])), (ht_stack, .inl (cI, 16, .inl t_stack)), (ht_variables, .inl (cI, 6, .inl t_variables)), (ht_kept, .inl (cI, 20, .inl t_kept))] H) (hD : va_D A [(ht, .inr (3, [.ref ht_stack, .ref ht_variables, .ref ht_kept, .int q12.2, .int t_printed, .int t_done, .int t_limit])), (ht_stack, .inl (cI, 16, .inl t_stack)), (ht_variables, .inl (cI, 6, .inl t_variables)), (ht_kept, .inl (cI, 20, .inl t_kept))]) hS => ?_)
                        obtain ⟨q14, hc, h⟩ := g_bd h
                        refine gk_v (va_runV (As := [.int q13]) (rest := []) ⟨hx, hb, hml, hown, hts⟩ (c_Machine_push l D cI cC ht ht_stack ht_variables ht_kept q12.2 t_printed t_done t_limit t_stack q13 q14 hc _) (cwV 1 hts (gG_V mt_3_47 mt_3_49 mp_23 mt_1_6 mt_3_50) rfl rfl rfl (by decide +kernel) ⟨Nat.le_of_ble_eq_true rfl, Nat.le_of_ble_eq_true rfl⟩) (gpV hK hP hD [0, 1] rfl (by decide) (ci := 3) 0 rfl rfl) rfl rfl hl.1 rfl (lv_room (Nat.le_of_ble_eq_true rfl)) d_Machine_perform_137 ⟨Nat.zero_le _, Nat.zero_le _⟩) hK hP hD hS hA [0, 1] rfl (by decide) rfl rfl (fun H locs (hP : va_P D vwCl [(ht, .inr (3, [.ref ht_stack, .ref ht_variables, .ref ht_kept, .int q14.2, .int t_printed, .int t_done, .int t_limit])), (ht_stack, .inl (cI, 16, .inl q14.1)), (ht_variables, .inl (cI, 6, .inl t_variables)), (ht_kept, .inl (cI, 20, .inl t_kept))] H) (hD : va_D A [(ht, .inr (3, [.ref ht_stack, .ref ht_variables, .ref ht_kept, .int q14.2, .int t_printed, .int t_done, .int t_limit])), (ht_stack, .inl (cI, 16, .inl q14.1)), (ht_variables, .inl (cI, 6, .inl t_variables)), (ht_kept, .inl (cI, 20, .inl t_kept))]) hS => ?_)
                        cases h
                        exact gr_v hx hb hr hlocks hK hP hD hS d_Machine_perform_140
                      · have n_9 := lv_neT (a := 9) e_9 (by decide)
                        refine lv_tableOut (tgt := 122) hx hb d_Machine_perform_1 (by omega) (by decide) ?_
                        refine lv_aload_n hx hb d_Machine_perform_122 rfl (lv_at hl 0 rfl) ?_
                        obtain ⟨q11, hc, h⟩ := g_bd h
                        refine gk_i (va_runV (As := []) (rest := []) ⟨hx, hb, hml, hown, hts⟩ (c_Machine_pop l D cI cC ht ht_stack ht_variables ht_kept t_height t_printed t_done t_limit t_stack q11 hc _) (cwV 0 hts (gG_V mt_3_39 mt_3_40 mt_3_41 mt_1_6 mt_3_42) rfl rfl rfl (by decide +kernel) ⟨Nat.le_of_ble_eq_true rfl, Nat.le_of_ble_eq_true rfl⟩) (gpV hK hP hD [0, 1] rfl (by decide) (ci := 3) 0 rfl rfl) rfl rfl hl.1 rfl (lv_room (Nat.le_of_ble_eq_true rfl)) d_Machine_perform_123 ⟨Nat.zero_le _, Nat.zero_le _⟩) hK hP hD hS hA [0, 1] rfl (by decide) rfl rfl (fun H locs (hP : va_P D vwCl [(ht, .inr (3, [.ref ht_stack, .ref ht_variables, .ref ht_kept, .int q11.2, .int t_printed, .int t_done, .int t_limit])), (ht_stack, .inl (cI, 16, .inl t_stack)), (ht_variables, .inl (cI, 6, .inl t_variables)), (ht_kept, .inl (cI, 20, .inl t_kept))] H) (hD : va_D A [(ht, .inr (3, [.ref ht_stack, .ref ht_variables, .ref ht_kept, .int q11.2, .int t_printed, .int t_done, .int t_limit])), (ht_stack, .inl (cI, 16, .inl t_stack)), (ht_variables, .inl (cI, 6, .inl t_variables)), (ht_kept, .inl (cI, 20, .inl t_kept))]) hS => ?_)
                        refine lv_istore_n (lv' := [(3, .int q11.1), (0, .ref ht), (1, .int a1), (2, .int a2)]) hx hb d_Machine_perform_126 rfl hl (by decide) rfl (fun ls hl => ?_)
                        refine lv_aload_n hx hb d_Machine_perform_127 rfl (lv_at hl 1 rfl) ?_
                        refine lv_iload_n hx hb d_Machine_perform_128 rfl (lv_at hl 2 rfl) ?_
                        refine lv_aload_n hx hb d_Machine_perform_129 rfl (lv_at hl 1 rfl) ?_
                        obtain ⟨q12, hc, h⟩ := g_bd h
                        refine gk_i (va_runV (As := []) (rest := [.int a1, .ref ht]) ⟨hx, hb, hml, hown, hts⟩ (c_Machine_pop l D cI cC ht ht_stack ht_variables ht_kept q11.2 t_printed t_done t_limit t_stack q12 hc _) (cwV 0 hts (gG_V mt_3_39 mt_3_40 mt_3_41 mt_1_6 mt_3_42) rfl rfl rfl (by decide +kernel) ⟨Nat.le_of_ble_eq_true rfl, Nat.le_of_ble_eq_true rfl⟩) (gpV hK hP hD [0, 1] rfl (by decide) (ci := 3) 0 rfl rfl) rfl rfl hl.1 rfl (lv_room (Nat.le_of_ble_eq_true rfl)) d_Machine_perform_130 ⟨Nat.zero_le _, Nat.zero_le _⟩) hK hP hD hS hA [0, 1] rfl (by decide) rfl rfl (fun H locs (hP : va_P D vwCl [(ht, .inr (3, [.ref ht_stack, .ref ht_variables, .ref ht_kept, .int q12.2, .int t_printed, .int t_done, .int t_limit])), (ht_stack, .inl (cI, 16, .inl t_stack)), (ht_variables, .inl (cI, 6, .inl t_variables)), (ht_kept, .inl (cI, 20, .inl t_kept))] H) (hD : va_D A [(ht, .inr (3, [.ref ht_stack, .ref ht_variables, .ref ht_kept, .int q12.2, .int t_printed, .int t_done, .int t_limit])), (ht_stack, .inl (cI, 16, .inl t_stack)), (ht_variables, .inl (cI, 6, .inl t_variables)), (ht_kept, .inl (cI, 20, .inl t_kept))]) hS => ?_)
                        refine lv_iload_n hx hb d_Machine_perform_133 rfl (lv_at hl 0 rfl) ?_
                        obtain ⟨q13, hc, h⟩ := g_bd h
                        refine gk_i (va_runS (As := [.int a1, .int q12.1, .int q11.1]) (rest := [.ref ht]) ⟨hx, hb, hml, hown, hts⟩ (c_Machine_combined l D cI cC a1 q12.1 q11.1 q13 hc _) (va_cwS 3 hts (gG_S mt_3_63 mt_3_64 mt_1_6 mt_3_65) rfl rfl rfl (by decide +kernel) ⟨Nat.le_of_ble_eq_true rfl, Nat.le_of_ble_eq_true rfl⟩) (gpS hK hP hD [] rfl (by decide)) rfl rfl hl.1 rfl (lv_room (Nat.le_of_ble_eq_true rfl)) d_Machine_perform_134 ⟨Nat.zero_le _, Nat.zero_le _⟩) hK hP hD hS hA [] rfl (by decide) rfl rfl (fun H locs (hP : va_P D vwCl [(ht, .inr (3, [.ref ht_stack, .ref ht_variables, .ref ht_kept, .int q12.2, .int t_printed, .int t_done, .int t_limit])), (ht_stack, .inl (cI, 16, .inl t_stack)), (ht_variables, .inl (cI, 6, .inl t_variables)), (ht_kept, .inl (cI, 20, .inl t_kept))] H) (hD : va_D A [(ht, .inr (3, [.ref ht_stack, .ref ht_variables, .ref ht_kept, .int q12.2, .int t_printed, .int t_done, .int t_limit])), (ht_stack, .inl (cI, 16, .inl t_stack)), (ht_variables, .inl (cI, 6, .inl t_variables)), (ht_kept, .inl (cI, 20, .inl t_kept))]) hS => ?_)
                        obtain ⟨q14, hc, h⟩ := g_bd h
                        refine gk_v (va_runV (As := [.int q13]) (rest := []) ⟨hx, hb, hml, hown, hts⟩ (c_Machine_push l D cI cC ht ht_stack ht_variables ht_kept q12.2 t_printed t_done t_limit t_stack q13 q14 hc _) (cwV 1 hts (gG_V mt_3_47 mt_3_49 mp_23 mt_1_6 mt_3_50) rfl rfl rfl (by decide +kernel) ⟨Nat.le_of_ble_eq_true rfl, Nat.le_of_ble_eq_true rfl⟩) (gpV hK hP hD [0, 1] rfl (by decide) (ci := 3) 0 rfl rfl) rfl rfl hl.1 rfl (lv_room (Nat.le_of_ble_eq_true rfl)) d_Machine_perform_137 ⟨Nat.zero_le _, Nat.zero_le _⟩) hK hP hD hS hA [0, 1] rfl (by decide) rfl rfl (fun H locs (hP : va_P D vwCl [(ht, .inr (3, [.ref ht_stack, .ref ht_variables, .ref ht_kept, .int q14.2, .int t_printed, .int t_done, .int t_limit])), (ht_stack, .inl (cI, 16, .inl q14.1)), (ht_variables, .inl (cI, 6, .inl t_variables)), (ht_kept, .inl (cI, 20, .inl t_kept))] H) (hD : va_D A [(ht, .inr (3, [.ref ht_stack, .ref ht_variables, .ref ht_kept, .int q14.2, .int t_printed, .int t_done, .int t_limit])), (ht_stack, .inl (cI, 16, .inl q14.1)), (ht_variables, .inl (cI, 6, .inl t_variables)), (ht_kept, .inl (cI, 20, .inl t_kept))]) hS => ?_)
                        cases h
                        exact gr_v hx hb hr hlocks hK hP hD hS d_Machine_perform_140
def K_Machine_step (l : Launch) (D : va_G) (cI cC : ClassId) : Prop :=
  ∀ (ht ht_stack ht_variables ht_kept : Nat) (t_height : Int32) (t_printed : Int32) (t_done : Int32) (t_limit : Int32) (t_stack : Nat → Int32) (t_variables : Nat → Int32) (t_kept : Nat → Int32) (a1 a2 a3 : Int32) (q : Int32 × (Nat → Int32) × (Nat → Int32) × (Nat → Int32) × Int32 × Int32), g_Machine_step t_stack t_variables t_kept t_height t_printed a1 a2 a3 = some q → ∀ (sz : Nat), Met l y_Machine_step w_Machine_step ({ frames := 2, cells := 0, slots := 0, locals := 45 }) (va_Pc [.ref ht, .int a1, .int a2, .int a3] (gB D (gT cI cC) [(ht, .inr (3, [.ref ht_stack, .ref ht_variables, .ref ht_kept, .int t_height, .int t_printed, .int t_done, .int t_limit])), (ht_stack, .inl (cI, 16, .inl t_stack)), (ht_variables, .inl (cI, 6, .inl t_variables)), (ht_kept, .inl (cI, 20, .inl t_kept))] sz)) (gQi D (gT cI cC) q.1 [(ht, .inr (3, [.ref ht_stack, .ref ht_variables, .ref ht_kept, .int q.2.2.2.2.1, .int q.2.2.2.2.2, .int t_done, .int t_limit])), (ht_stack, .inl (cI, 16, .inl q.2.1)), (ht_variables, .inl (cI, 6, .inl q.2.2.1)), (ht_kept, .inl (cI, 20, .inl q.2.2.2.1))] (va_A [(ht, .inr (3, [.ref ht_stack, .ref ht_variables, .ref ht_kept, .int t_height, .int t_printed, .int t_done, .int t_limit])), (ht_stack, .inl (cI, 16, .inl t_stack)), (ht_variables, .inl (cI, 6, .inl t_variables)), (ht_kept, .inl (cI, 20, .inl t_kept))] sz)) 0 0 (va_A [(ht, .inr (3, [.ref ht_stack, .ref ht_variables, .ref ht_kept, .int t_height, .int t_printed, .int t_done, .int t_limit])), (ht_stack, .inl (cI, 16, .inl t_stack)), (ht_variables, .inl (cI, 6, .inl t_variables)), (ht_kept, .inl (cI, 20, .inl t_kept))] sz)
set_option maxHeartbeats 4000000 in
set_option maxRecDepth 100000 in
theorem c_Machine_step (l : Launch) (D : va_G) (cI cC : ClassId) : K_Machine_step l D cI cC := by
  intro ht ht_stack ht_variables ht_kept t_height t_printed t_done t_limit t_stack t_variables t_kept a1 a2 a3 q h sz
  refine Met.ofW (cc := k_Machine_step) (maxL := 4) (ret := (some .int)) (by decide) rfl ?_
  intro p e s m args below meth c s₁ B hml hv
  obtain ⟨rfl, hsz, hP, hK, hD0⟩ := hv
  have hx := B.exec
  have hb := B.bytes
  have hr := B.returns
  have hts : ∀ w ∈ lw_t, w.before ([.ref ht, .int a1, .int a2, .int a3] : List Value).toArray s = true := fun w h => atoms_spec (ws := w_Machine_step) B.pre w (List.mem_cons_of_mem _ h)
  have hown : s.vm.findClass R_Machine = some m.cls := findClass_of_methodNamed B.named
  have hlocks := B.notSynchronized
  subst hsz
  have hD := hD0.self (sz := s.heap.size)
  generalize hAe : va_A [(ht, .inr (3, [.ref ht_stack, .ref ht_variables, .ref ht_kept, .int t_height, .int t_printed, .int t_done, .int t_limit])), (ht_stack, .inl (cI, 16, .inl t_stack)), (ht_variables, .inl (cI, 6, .inl t_variables)), (ht_kept, .inl (cI, 20, .inl t_kept))] s.heap.size = A at hD ⊢
  have hA : ∀ q : Nat, s.heap.size ≤ q → A q := fun q h => by rw [← hAe]; exact Or.inr h
  have hS : va_S A s.heap s.heap [] := va_S.rf
  have hP : va_P D vwCl [(ht, .inr (3, [.ref ht_stack, .ref ht_variables, .ref ht_kept, .int t_height, .int t_printed, .int t_done, .int t_limit])), (ht_stack, .inl (cI, 16, .inl t_stack)), (ht_variables, .inl (cI, 6, .inl t_variables)), (ht_kept, .inl (cI, 20, .inl t_kept))] s.heap := hP
  have hl := lv_entry ([.ref ht, .int a1, .int a2, .int a3]) (n := 4) (Nat.le_of_ble_eq_true rfl)
  rw [lg_entry_eq]
  generalize (lg_sl ([.ref ht, .int a1, .int a2, .int a3]) ++ List.replicate (4 - (lg_sl ([.ref ht, .int a1, .int a2, .int a3])).length) Slot.unset).toArray = ls at hl ⊢
  have hl : lv_has ls 4 [(0, .ref ht), (1, .int a1), (2, .int a2), (3, .int a3)] := hl
  unfold g_Machine_step at h
  refine lv_iload_n hx hb d_Machine_step_0 rfl (lv_at hl 1 rfl) ?_
  refine lv_bipush (v := (8 : Int32)) hx hb d_Machine_step_1 (by decide) ?_
  refine lv_icmp_ne (tgt := 8) hx hb d_Machine_step_3 (by decide) (fun ec => ?_) (fun ec => ?_)
  · have h := g_f ec h
    refine lv_iload_n hx hb d_Machine_step_8 rfl (lv_at hl 1 rfl) ?_
    refine lv_bipush (v := (9 : Int32)) hx hb d_Machine_step_9 (by decide) ?_
    refine lv_icmp_ne (tgt := 29) hx hb d_Machine_step_11 (by decide) (fun ec => ?_) (fun ec => ?_)
    · have h := g_f ec h
      refine lv_aload_n hx hb d_Machine_step_29 rfl (lv_at hl 0 rfl) ?_
      refine lv_iload_n hx hb d_Machine_step_30 rfl (lv_at hl 1 rfl) ?_
      refine lv_iload_n hx hb d_Machine_step_31 rfl (lv_at hl 2 rfl) ?_
      obtain ⟨q1, hc, h⟩ := g_bd h
      refine gk_v (va_runV (As := [.int a1, .int a2]) (rest := []) ⟨hx, hb, hml, hown, hts⟩ (c_Machine_perform l D cI cC ht ht_stack ht_variables ht_kept t_height t_printed t_done t_limit t_stack t_variables t_kept a1 a2 q1 hc _) (cwV 2 hts (gG_V mt_3_43 mt_3_44 mt_3_45 mt_1_6 mt_3_46) rfl rfl rfl (by decide +kernel) ⟨Nat.le_of_ble_eq_true rfl, Nat.le_of_ble_eq_true rfl⟩) (gpV hK hP hD [0, 1, 2, 3] rfl (by decide) (ci := 3) 0 rfl rfl) rfl rfl hl.1 rfl (lv_room (Nat.le_of_ble_eq_true rfl)) d_Machine_step_32 ⟨Nat.zero_le _, Nat.zero_le _⟩) hK hP hD hS hA [0, 1, 2, 3] rfl (by decide) rfl rfl (fun H locs (hP : va_P D vwCl [(ht, .inr (3, [.ref ht_stack, .ref ht_variables, .ref ht_kept, .int q1.2.2.2.1, .int q1.2.2.2.2, .int t_done, .int t_limit])), (ht_stack, .inl (cI, 16, .inl q1.1)), (ht_variables, .inl (cI, 6, .inl q1.2.1)), (ht_kept, .inl (cI, 20, .inl q1.2.2.1))] H) (hD : va_D A [(ht, .inr (3, [.ref ht_stack, .ref ht_variables, .ref ht_kept, .int q1.2.2.2.1, .int q1.2.2.2.2, .int t_done, .int t_limit])), (ht_stack, .inl (cI, 16, .inl q1.1)), (ht_variables, .inl (cI, 6, .inl q1.2.1)), (ht_kept, .inl (cI, 20, .inl q1.2.2.1))]) hS => ?_)
      refine lv_iload_n hx hb d_Machine_step_35 rfl (lv_at hl 3 rfl) ?_
      refine lv_iconst (v := (1 : Int32)) hx hb d_Machine_step_36 (by decide) ?_
      refine lv_iadd hx hb d_Machine_step_37 ?_
      cases h
      exact gr_i hx hb hr hlocks hK hP hD hS d_Machine_step_38
    · have h := g_t ec h
      refine lv_aload_n hx hb d_Machine_step_14 rfl (lv_at hl 0 rfl) ?_
      obtain ⟨q2, hc, h⟩ := g_bd h
      refine gk_i (va_runV (As := []) (rest := []) ⟨hx, hb, hml, hown, hts⟩ (c_Machine_pop l D cI cC ht ht_stack ht_variables ht_kept t_height t_printed t_done t_limit t_stack q2 hc _) (cwV 0 hts (gG_V mt_3_39 mt_3_40 mt_3_41 mt_1_6 mt_3_42) rfl rfl rfl (by decide +kernel) ⟨Nat.le_of_ble_eq_true rfl, Nat.le_of_ble_eq_true rfl⟩) (gpV hK hP hD [0, 1] rfl (by decide) (ci := 3) 0 rfl rfl) rfl rfl hl.1 rfl (lv_room (Nat.le_of_ble_eq_true rfl)) d_Machine_step_15 ⟨Nat.zero_le _, Nat.zero_le _⟩) hK hP hD hS hA [0, 1] rfl (by decide) rfl rfl (fun H locs (hP : va_P D vwCl [(ht, .inr (3, [.ref ht_stack, .ref ht_variables, .ref ht_kept, .int q2.2, .int t_printed, .int t_done, .int t_limit])), (ht_stack, .inl (cI, 16, .inl t_stack)), (ht_variables, .inl (cI, 6, .inl t_variables)), (ht_kept, .inl (cI, 20, .inl t_kept))] H) (hD : va_D A [(ht, .inr (3, [.ref ht_stack, .ref ht_variables, .ref ht_kept, .int q2.2, .int t_printed, .int t_done, .int t_limit])), (ht_stack, .inl (cI, 16, .inl t_stack)), (ht_variables, .inl (cI, 6, .inl t_variables)), (ht_kept, .inl (cI, 20, .inl t_kept))]) hS => ?_)
      refine lv_if_ne (tgt := 25) hx hb d_Machine_step_18 (by decide) (fun ec => ?_) (fun ec => ?_)
      · have h := g_f ec h
        refine lv_iload_n hx hb d_Machine_step_25 rfl (lv_at hl 3 rfl) ?_
        refine lv_iconst (v := (1 : Int32)) hx hb d_Machine_step_26 (by decide) ?_
        refine lv_iadd hx hb d_Machine_step_27 ?_
        cases h
        exact gr_i hx hb hr hlocks hK hP hD hS d_Machine_step_28
      · have h := g_t ec h
        refine lv_iload_n hx hb d_Machine_step_21 rfl (lv_at hl 2 rfl) ?_
        refine lv_goto (tgt := 28) hx hb d_Machine_step_22 (by decide) ?_
        cases h
        exact gr_i hx hb hr hlocks hK hP hD hS d_Machine_step_28
  · have h := g_t ec h
    refine lv_iload_n hx hb d_Machine_step_6 rfl (lv_at hl 2 rfl) ?_
    cases h
    exact gr_i hx hb hr hlocks hK hP hD hS d_Machine_step_7
