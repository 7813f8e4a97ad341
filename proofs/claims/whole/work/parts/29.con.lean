def K_Walker_follow (l : Launch) (D : va_G) (cI cC : ClassId) : Prop :=
  ∀ (hx1 hx2 hx1_source hx1_kinds hx1_froms hx1_marks hx1_ends hx1_parts hx1_others hx1_followers hx1_begins hx1_source_ops hx1_source_numbers hx1_source_heights hx2_stack hx2_variables hx2_kept : Nat) (x1_size : Int32) (x1_depth : Int32) (x1_knot : Int32) (x1_stands : Int32) (x1_source_size : Int32) (x1_source_ops : Nat → Int32) (x1_source_numbers : Nat → Int32) (x1_kinds : Nat → Int32) (x1_froms : Nat → Int32) (x1_marks : Nat → Int32) (x1_parts : Nat → Int32) (x1_others : Nat → Int32) (x1_followers : Nat → Int32) (x2_height : Int32) (x2_printed : Int32) (x2_done : Int32) (x2_limit : Int32) (x2_stack : Nat → Int32) (x2_variables : Nat → Int32) (x2_kept : Nat → Int32) (q : Int32 × (Nat → Int32) × (Nat → Int32) × (Nat → Int32) × Int32 × Int32 × Int32), g_Walker_follow x1_source_ops x1_source_numbers x1_source_size x1_kinds x1_froms x1_marks x1_parts x1_others x1_followers x1_size x2_stack x2_variables x2_kept x2_height x2_printed x2_done x2_limit = some q → ∀ (sz : Nat), Met l y_Walker_follow w_Walker_follow ({ frames := 105, cells := 0, slots := 0, locals := 2718 }) (va_Pc [.ref hx1, .ref hx2] (gB D (gT cI cC) [(hx1, .inr (4, [.ref hx1_source, .ref hx1_kinds, .ref hx1_froms, .ref hx1_marks, .ref hx1_ends, .ref hx1_parts, .ref hx1_others, .ref hx1_followers, .ref hx1_begins, .int x1_size, .int x1_depth, .int x1_knot, .int x1_stands])), (hx1_source, .inr (2, [.ref hx1_source_ops, .ref hx1_source_numbers, .ref hx1_source_heights, .int x1_source_size])), (hx1_source_ops, .inl (cI, 30, .inl x1_source_ops)), (hx1_source_numbers, .inl (cI, 30, .inl x1_source_numbers)), (hx1_kinds, .inl (cI, 15, .inl x1_kinds)), (hx1_froms, .inl (cI, 15, .inl x1_froms)), (hx1_marks, .inl (cI, 15, .inl x1_marks)), (hx1_parts, .inl (cI, 15, .inl x1_parts)), (hx1_others, .inl (cI, 15, .inl x1_others)), (hx1_followers, .inl (cI, 15, .inl x1_followers)), (hx2, .inr (3, [.ref hx2_stack, .ref hx2_variables, .ref hx2_kept, .int x2_height, .int x2_printed, .int x2_done, .int x2_limit])), (hx2_stack, .inl (cI, 16, .inl x2_stack)), (hx2_variables, .inl (cI, 6, .inl x2_variables)), (hx2_kept, .inl (cI, 20, .inl x2_kept))] sz)) (gQi D (gT cI cC) q.1 [(hx1, .inr (4, [.ref hx1_source, .ref hx1_kinds, .ref hx1_froms, .ref hx1_marks, .ref hx1_ends, .ref hx1_parts, .ref hx1_others, .ref hx1_followers, .ref hx1_begins, .int x1_size, .int x1_depth, .int x1_knot, .int x1_stands])), (hx1_source, .inr (2, [.ref hx1_source_ops, .ref hx1_source_numbers, .ref hx1_source_heights, .int x1_source_size])), (hx1_source_ops, .inl (cI, 30, .inl x1_source_ops)), (hx1_source_numbers, .inl (cI, 30, .inl x1_source_numbers)), (hx1_kinds, .inl (cI, 15, .inl x1_kinds)), (hx1_froms, .inl (cI, 15, .inl x1_froms)), (hx1_marks, .inl (cI, 15, .inl x1_marks)), (hx1_parts, .inl (cI, 15, .inl x1_parts)), (hx1_others, .inl (cI, 15, .inl x1_others)), (hx1_followers, .inl (cI, 15, .inl x1_followers)), (hx2, .inr (3, [.ref hx2_stack, .ref hx2_variables, .ref hx2_kept, .int q.2.2.2.2.1, .int q.2.2.2.2.2.1, .int q.2.2.2.2.2.2, .int x2_limit])), (hx2_stack, .inl (cI, 16, .inl q.2.1)), (hx2_variables, .inl (cI, 6, .inl q.2.2.1)), (hx2_kept, .inl (cI, 20, .inl q.2.2.2.1))] (va_A [(hx1, .inr (4, [.ref hx1_source, .ref hx1_kinds, .ref hx1_froms, .ref hx1_marks, .ref hx1_ends, .ref hx1_parts, .ref hx1_others, .ref hx1_followers, .ref hx1_begins, .int x1_size, .int x1_depth, .int x1_knot, .int x1_stands])), (hx1_source, .inr (2, [.ref hx1_source_ops, .ref hx1_source_numbers, .ref hx1_source_heights, .int x1_source_size])), (hx1_source_ops, .inl (cI, 30, .inl x1_source_ops)), (hx1_source_numbers, .inl (cI, 30, .inl x1_source_numbers)), (hx1_kinds, .inl (cI, 15, .inl x1_kinds)), (hx1_froms, .inl (cI, 15, .inl x1_froms)), (hx1_marks, .inl (cI, 15, .inl x1_marks)), (hx1_parts, .inl (cI, 15, .inl x1_parts)), (hx1_others, .inl (cI, 15, .inl x1_others)), (hx1_followers, .inl (cI, 15, .inl x1_followers)), (hx2, .inr (3, [.ref hx2_stack, .ref hx2_variables, .ref hx2_kept, .int x2_height, .int x2_printed, .int x2_done, .int x2_limit])), (hx2_stack, .inl (cI, 16, .inl x2_stack)), (hx2_variables, .inl (cI, 6, .inl x2_variables)), (hx2_kept, .inl (cI, 20, .inl x2_kept))] sz)) 0 0 (va_A [(hx1, .inr (4, [.ref hx1_source, .ref hx1_kinds, .ref hx1_froms, .ref hx1_marks, .ref hx1_ends, .ref hx1_parts, .ref hx1_others, .ref hx1_followers, .ref hx1_begins, .int x1_size, .int x1_depth, .int x1_knot, .int x1_stands])), (hx1_source, .inr (2, [.ref hx1_source_ops, .ref hx1_source_numbers, .ref hx1_source_heights, .int x1_source_size])), (hx1_source_ops, .inl (cI, 30, .inl x1_source_ops)), (hx1_source_numbers, .inl (cI, 30, .inl x1_source_numbers)), (hx1_kinds, .inl (cI, 15, .inl x1_kinds)), (hx1_froms, .inl (cI, 15, .inl x1_froms)), (hx1_marks, .inl (cI, 15, .inl x1_marks)), (hx1_parts, .inl (cI, 15, .inl x1_parts)), (hx1_others, .inl (cI, 15, .inl x1_others)), (hx1_followers, .inl (cI, 15, .inl x1_followers)), (hx2, .inr (3, [.ref hx2_stack, .ref hx2_variables, .ref hx2_kept, .int x2_height, .int x2_printed, .int x2_done, .int x2_limit])), (hx2_stack, .inl (cI, 16, .inl x2_stack)), (hx2_variables, .inl (cI, 6, .inl x2_variables)), (hx2_kept, .inl (cI, 20, .inl x2_kept))] sz)
set_option maxHeartbeats 4000000 in
set_option maxRecDepth 100000 in
theorem c_Walker_follow (l : Launch) (D : va_G) (cI cC : ClassId) : K_Walker_follow l D cI cC := by
  intro hx1 hx2 hx1_source hx1_kinds hx1_froms hx1_marks hx1_ends hx1_parts hx1_others hx1_followers hx1_begins hx1_source_ops hx1_source_numbers hx1_source_heights hx2_stack hx2_variables hx2_kept x1_size x1_depth x1_knot x1_stands x1_source_size x1_source_ops x1_source_numbers x1_kinds x1_froms x1_marks x1_parts x1_others x1_followers x2_height x2_printed x2_done x2_limit x2_stack x2_variables x2_kept q h sz
  refine Met.ofW (cc := k_Walker_follow) (maxL := 2) (ret := (some .boolean)) (by decide) rfl ?_
  intro p e s m args below meth c s₁ B hml hv
  obtain ⟨rfl, hsz, hP, hK, hD0⟩ := hv
  have hx := B.exec
  have hb := B.bytes
  have hr := B.returns
  have hts : ∀ w ∈ lw_t, w.before ([.ref hx1, .ref hx2] : List Value).toArray s = true := fun w h => atoms_spec (ws := w_Walker_follow) B.pre w (List.mem_cons_of_mem _ h)
  have hown : s.vm.findClass R_Walker = some m.cls := findClass_of_methodNamed B.named
  have hlocks := B.notSynchronized
  subst hsz
  have hD := hD0.self (sz := s.heap.size)
  generalize hAe : va_A [(hx1, .inr (4, [.ref hx1_source, .ref hx1_kinds, .ref hx1_froms, .ref hx1_marks, .ref hx1_ends, .ref hx1_parts, .ref hx1_others, .ref hx1_followers, .ref hx1_begins, .int x1_size, .int x1_depth, .int x1_knot, .int x1_stands])), (hx1_source, .inr (2, [.ref hx1_source_ops, .ref hx1_source_numbers, .ref hx1_source_heights, .int x1_source_size])), (hx1_source_ops, .inl (cI, 30, .inl x1_source_ops)), (hx1_source_numbers, .inl (cI, 30, .inl x1_source_numbers)), (hx1_kinds, .inl (cI, 15, .inl x1_kinds)), (hx1_froms, .inl (cI, 15, .inl x1_froms)), (hx1_marks, .inl (cI, 15, .inl x1_marks)), (hx1_parts, .inl (cI, 15, .inl x1_parts)), (hx1_others, .inl (cI, 15, .inl x1_others)), (hx1_followers, .inl (cI, 15, .inl x1_followers)), (hx2, .inr (3, [.ref hx2_stack, .ref hx2_variables, .ref hx2_kept, .int x2_height, .int x2_printed, .int x2_done, .int x2_limit])), (hx2_stack, .inl (cI, 16, .inl x2_stack)), (hx2_variables, .inl (cI, 6, .inl x2_variables)), (hx2_kept, .inl (cI, 20, .inl x2_kept))] s.heap.size = A at hD ⊢
  have hA : ∀ q : Nat, s.heap.size ≤ q → A q := fun q h => by rw [← hAe]; exact Or.inr h
  have hS : va_S A s.heap s.heap [] := va_S.rf
  have hP : va_P D vwCl [(hx1, .inr (4, [.ref hx1_source, .ref hx1_kinds, .ref hx1_froms, .ref hx1_marks, .ref hx1_ends, .ref hx1_parts, .ref hx1_others, .ref hx1_followers, .ref hx1_begins, .int x1_size, .int x1_depth, .int x1_knot, .int x1_stands])), (hx1_source, .inr (2, [.ref hx1_source_ops, .ref hx1_source_numbers, .ref hx1_source_heights, .int x1_source_size])), (hx1_source_ops, .inl (cI, 30, .inl x1_source_ops)), (hx1_source_numbers, .inl (cI, 30, .inl x1_source_numbers)), (hx1_kinds, .inl (cI, 15, .inl x1_kinds)), (hx1_froms, .inl (cI, 15, .inl x1_froms)), (hx1_marks, .inl (cI, 15, .inl x1_marks)), (hx1_parts, .inl (cI, 15, .inl x1_parts)), (hx1_others, .inl (cI, 15, .inl x1_others)), (hx1_followers, .inl (cI, 15, .inl x1_followers)), (hx2, .inr (3, [.ref hx2_stack, .ref hx2_variables, .ref hx2_kept, .int x2_height, .int x2_printed, .int x2_done, .int x2_limit])), (hx2_stack, .inl (cI, 16, .inl x2_stack)), (hx2_variables, .inl (cI, 6, .inl x2_variables)), (hx2_kept, .inl (cI, 20, .inl x2_kept))] s.heap := hP
  have hl := lv_entry ([.ref hx1, .ref hx2]) (n := 2) (Nat.le_of_ble_eq_true rfl)
  rw [lg_entry_eq]
  generalize (lg_sl ([.ref hx1, .ref hx2]) ++ List.replicate (2 - (lg_sl ([.ref hx1, .ref hx2])).length) Slot.unset).toArray = ls at hl ⊢
  have hl : lv_has ls 2 [(0, .ref hx1), (1, .ref hx2)] := hl
  unfold g_Walker_follow at h
  refine lv_aload_n hx hb d_Walker_follow_0 rfl (lv_at hl 0 rfl) ?_
  refine lv_aload_n hx hb d_Walker_follow_1 rfl (lv_at hl 1 rfl) ?_
  refine lv_aload_n hx hb d_Walker_follow_2 rfl (lv_at hl 0 rfl) ?_
  obtain ⟨q1, hc, h⟩ := g_bd h
  refine gk_i (va_runV (As := []) (rest := [.ref hx2, .ref hx1]) ⟨hx, hb, hml, hown, hts⟩ (c_Tree_first l D cI cC hx1 hx1_source hx1_kinds hx1_froms hx1_marks hx1_ends hx1_parts hx1_others hx1_followers hx1_begins x1_size x1_depth x1_knot x1_stands q1 hc _) (cwV 0 hts (gG_V mt_3_81 mt_2_88 mt_2_89 mt_1_5 mt_2_90) rfl rfl rfl (by decide +kernel) ⟨Nat.le_of_ble_eq_true rfl, Nat.le_of_ble_eq_true rfl⟩) (gpV hK hP hD [0] rfl (by decide) (ci := 4) 0 rfl rfl) rfl rfl hl.1 rfl (lv_room (Nat.le_of_ble_eq_true rfl)) d_Walker_follow_3 ⟨Nat.zero_le _, Nat.zero_le _⟩) hK hP hD hS hA [0] rfl (by decide) rfl rfl (fun H locs (hP : va_P D vwCl [(hx1, .inr (4, [.ref hx1_source, .ref hx1_kinds, .ref hx1_froms, .ref hx1_marks, .ref hx1_ends, .ref hx1_parts, .ref hx1_others, .ref hx1_followers, .ref hx1_begins, .int x1_size, .int x1_depth, .int x1_knot, .int x1_stands])), (hx1_source, .inr (2, [.ref hx1_source_ops, .ref hx1_source_numbers, .ref hx1_source_heights, .int x1_source_size])), (hx1_source_ops, .inl (cI, 30, .inl x1_source_ops)), (hx1_source_numbers, .inl (cI, 30, .inl x1_source_numbers)), (hx1_kinds, .inl (cI, 15, .inl x1_kinds)), (hx1_froms, .inl (cI, 15, .inl x1_froms)), (hx1_marks, .inl (cI, 15, .inl x1_marks)), (hx1_parts, .inl (cI, 15, .inl x1_parts)), (hx1_others, .inl (cI, 15, .inl x1_others)), (hx1_followers, .inl (cI, 15, .inl x1_followers)), (hx2, .inr (3, [.ref hx2_stack, .ref hx2_variables, .ref hx2_kept, .int x2_height, .int x2_printed, .int x2_done, .int x2_limit])), (hx2_stack, .inl (cI, 16, .inl x2_stack)), (hx2_variables, .inl (cI, 6, .inl x2_variables)), (hx2_kept, .inl (cI, 20, .inl x2_kept))] H) (hD : va_D A [(hx1, .inr (4, [.ref hx1_source, .ref hx1_kinds, .ref hx1_froms, .ref hx1_marks, .ref hx1_ends, .ref hx1_parts, .ref hx1_others, .ref hx1_followers, .ref hx1_begins, .int x1_size, .int x1_depth, .int x1_knot, .int x1_stands])), (hx1_source, .inr (2, [.ref hx1_source_ops, .ref hx1_source_numbers, .ref hx1_source_heights, .int x1_source_size])), (hx1_source_ops, .inl (cI, 30, .inl x1_source_ops)), (hx1_source_numbers, .inl (cI, 30, .inl x1_source_numbers)), (hx1_kinds, .inl (cI, 15, .inl x1_kinds)), (hx1_froms, .inl (cI, 15, .inl x1_froms)), (hx1_marks, .inl (cI, 15, .inl x1_marks)), (hx1_parts, .inl (cI, 15, .inl x1_parts)), (hx1_others, .inl (cI, 15, .inl x1_others)), (hx1_followers, .inl (cI, 15, .inl x1_followers)), (hx2, .inr (3, [.ref hx2_stack, .ref hx2_variables, .ref hx2_kept, .int x2_height, .int x2_printed, .int x2_done, .int x2_limit])), (hx2_stack, .inl (cI, 16, .inl x2_stack)), (hx2_variables, .inl (cI, 6, .inl x2_variables)), (hx2_kept, .inl (cI, 20, .inl x2_kept))]) hS => ?_)
  refine lv_iconst (v := (0 : Int32)) hx hb d_Walker_follow_6 (by decide) ?_
  obtain ⟨q2, hc, h⟩ := g_bd h
  refine gk_i (va_runS (As := [.ref hx1, .ref hx2, .int q1, .int (0 : Int32)]) (rest := []) ⟨hx, hb, hml, hown, hts⟩ ((c_Walker_walkFrom l D cI cC 100) hx1 hx2 hx1_source hx1_kinds hx1_froms hx1_marks hx1_ends hx1_parts hx1_others hx1_followers hx1_begins hx1_source_ops hx1_source_numbers hx1_source_heights hx2_stack hx2_variables hx2_kept x1_size x1_depth x1_knot x1_stands x1_source_size x1_source_ops x1_source_numbers x1_kinds x1_froms x1_marks x1_parts x1_others x1_followers x2_height x2_printed x2_done x2_limit x2_stack x2_variables x2_kept q1 (0 : Int32) q2 hc _) (va_cwS 4 hts (gG_S mt_3_82 mt_3_83 mt_1_11 mt_3_84) rfl rfl rfl (by decide +kernel) ⟨Nat.le_of_ble_eq_true rfl, Nat.le_of_ble_eq_true rfl⟩) (gpS hK hP hD [0, 1, 2, 3, 4, 5, 6, 7, 8, 9, 10, 11, 12, 13] rfl (by decide)) rfl rfl hl.1 rfl (lv_room (Nat.le_of_ble_eq_true rfl)) d_Walker_follow_7 ⟨Nat.zero_le _, Nat.zero_le _⟩) hK hP hD hS hA [0, 1, 2, 3, 4, 5, 6, 7, 8, 9, 10, 11, 12, 13] rfl (by decide) rfl rfl (fun H locs (hP : va_P D vwCl [(hx1, .inr (4, [.ref hx1_source, .ref hx1_kinds, .ref hx1_froms, .ref hx1_marks, .ref hx1_ends, .ref hx1_parts, .ref hx1_others, .ref hx1_followers, .ref hx1_begins, .int x1_size, .int x1_depth, .int x1_knot, .int x1_stands])), (hx1_source, .inr (2, [.ref hx1_source_ops, .ref hx1_source_numbers, .ref hx1_source_heights, .int x1_source_size])), (hx1_source_ops, .inl (cI, 30, .inl x1_source_ops)), (hx1_source_numbers, .inl (cI, 30, .inl x1_source_numbers)), (hx1_kinds, .inl (cI, 15, .inl x1_kinds)), (hx1_froms, .inl (cI, 15, .inl x1_froms)), (hx1_marks, .inl (cI, 15, .inl x1_marks)), (hx1_parts, .inl (cI, 15, .inl x1_parts)), (hx1_others, .inl (cI, 15, .inl x1_others)), (hx1_followers, .inl (cI, 15, .inl x1_followers)), (hx2, .inr (3, [.ref hx2_stack, .ref hx2_variables, .ref hx2_kept, .int q2.2.2.2.2.1, .int q2.2.2.2.2.2.1, .int q2.2.2.2.2.2.2, .int x2_limit])), (hx2_stack, .inl (cI, 16, .inl q2.2.1)), (hx2_variables, .inl (cI, 6, .inl q2.2.2.1)), (hx2_kept, .inl (cI, 20, .inl q2.2.2.2.1))] H) (hD : va_D A [(hx1, .inr (4, [.ref hx1_source, .ref hx1_kinds, .ref hx1_froms, .ref hx1_marks, .ref hx1_ends, .ref hx1_parts, .ref hx1_others, .ref hx1_followers, .ref hx1_begins, .int x1_size, .int x1_depth, .int x1_knot, .int x1_stands])), (hx1_source, .inr (2, [.ref hx1_source_ops, .ref hx1_source_numbers, .ref hx1_source_heights, .int x1_source_size])), (hx1_source_ops, .inl (cI, 30, .inl x1_source_ops)), (hx1_source_numbers, .inl (cI, 30, .inl x1_source_numbers)), (hx1_kinds, .inl (cI, 15, .inl x1_kinds)), (hx1_froms, .inl (cI, 15, .inl x1_froms)), (hx1_marks, .inl (cI, 15, .inl x1_marks)), (hx1_parts, .inl (cI, 15, .inl x1_parts)), (hx1_others, .inl (cI, 15, .inl x1_others)), (hx1_followers, .inl (cI, 15, .inl x1_followers)), (hx2, .inr (3, [.ref hx2_stack, .ref hx2_variables, .ref hx2_kept, .int q2.2.2.2.2.1, .int q2.2.2.2.2.2.1, .int q2.2.2.2.2.2.2, .int x2_limit])), (hx2_stack, .inl (cI, 16, .inl q2.2.1)), (hx2_variables, .inl (cI, 6, .inl q2.2.2.1)), (hx2_kept, .inl (cI, 20, .inl q2.2.2.2.1))]) hS => ?_)
  obtain ⟨hz, h⟩ := g_gd h
  cases h
  exact gr_z (g_zn hz) hx hb hr hlocks hK hP hD hS d_Walker_follow_10
def K_S_walk (l : Launch) (D : va_G) (cI cC : ClassId) : Prop :=
  ∀ (ht ht_listing ht_draft ht_written ht_tree ht_machine ht_tree_source ht_tree_kinds ht_tree_froms ht_tree_marks ht_tree_ends ht_tree_parts ht_tree_others ht_tree_followers ht_tree_begins ht_tree_source_ops ht_tree_source_numbers ht_tree_source_heights ht_machine_stack ht_machine_variables ht_machine_kept : Nat) (t_trouble : Int32) (t_tree_size : Int32) (t_tree_depth : Int32) (t_tree_knot : Int32) (t_tree_stands : Int32) (t_tree_source_size : Int32) (t_tree_source_ops : Nat → Int32) (t_tree_source_numbers : Nat → Int32) (t_tree_kinds : Nat → Int32) (t_tree_froms : Nat → Int32) (t_tree_marks : Nat → Int32) (t_tree_parts : Nat → Int32) (t_tree_others : Nat → Int32) (t_tree_followers : Nat → Int32) (t_machine_height : Int32) (t_machine_printed : Int32) (t_machine_done : Int32) (t_machine_limit : Int32) (t_machine_stack : Nat → Int32) (t_machine_variables : Nat → Int32) (t_machine_kept : Nat → Int32) (a1 a2 : Int32) (q : Int32 × (Nat → Int32) × (Nat → Int32) × (Nat → Int32) × Int32 × Int32 × Int32 × Int32), g_S_walk t_tree_source_ops t_tree_source_numbers t_tree_source_size t_tree_kinds t_tree_froms t_tree_marks t_tree_parts t_tree_others t_tree_followers t_tree_size t_tree_stands t_machine_stack t_machine_variables t_machine_kept t_machine_height t_machine_printed t_machine_done t_machine_limit a1 a2 = some q → ∀ (sz : Nat), Met l y_S_walk w_S_walk ({ frames := 106, cells := 0, slots := 0, locals := 2739 }) (va_Pc [.ref ht, .int a1, .int a2] (gB D (gT cI cC) [(ht, .inr (5, [.ref ht_listing, .ref ht_draft, .ref ht_written, .ref ht_tree, .ref ht_machine, .int t_trouble])), (ht_tree, .inr (4, [.ref ht_tree_source, .ref ht_tree_kinds, .ref ht_tree_froms, .ref ht_tree_marks, .ref ht_tree_ends, .ref ht_tree_parts, .ref ht_tree_others, .ref ht_tree_followers, .ref ht_tree_begins, .int t_tree_size, .int t_tree_depth, .int t_tree_knot, .int t_tree_stands])), (ht_tree_source, .inr (2, [.ref ht_tree_source_ops, .ref ht_tree_source_numbers, .ref ht_tree_source_heights, .int t_tree_source_size])), (ht_tree_source_ops, .inl (cI, 30, .inl t_tree_source_ops)), (ht_tree_source_numbers, .inl (cI, 30, .inl t_tree_source_numbers)), (ht_tree_kinds, .inl (cI, 15, .inl t_tree_kinds)), (ht_tree_froms, .inl (cI, 15, .inl t_tree_froms)), (ht_tree_marks, .inl (cI, 15, .inl t_tree_marks)), (ht_tree_parts, .inl (cI, 15, .inl t_tree_parts)), (ht_tree_others, .inl (cI, 15, .inl t_tree_others)), (ht_tree_followers, .inl (cI, 15, .inl t_tree_followers)), (ht_machine, .inr (3, [.ref ht_machine_stack, .ref ht_machine_variables, .ref ht_machine_kept, .int t_machine_height, .int t_machine_printed, .int t_machine_done, .int t_machine_limit])), (ht_machine_stack, .inl (cI, 16, .inl t_machine_stack)), (ht_machine_variables, .inl (cI, 6, .inl t_machine_variables)), (ht_machine_kept, .inl (cI, 20, .inl t_machine_kept))] sz)) (gQi D (gT cI cC) q.1 [(ht, .inr (5, [.ref ht_listing, .ref ht_draft, .ref ht_written, .ref ht_tree, .ref ht_machine, .int t_trouble])), (ht_tree, .inr (4, [.ref ht_tree_source, .ref ht_tree_kinds, .ref ht_tree_froms, .ref ht_tree_marks, .ref ht_tree_ends, .ref ht_tree_parts, .ref ht_tree_others, .ref ht_tree_followers, .ref ht_tree_begins, .int t_tree_size, .int t_tree_depth, .int t_tree_knot, .int t_tree_stands])), (ht_tree_source, .inr (2, [.ref ht_tree_source_ops, .ref ht_tree_source_numbers, .ref ht_tree_source_heights, .int t_tree_source_size])), (ht_tree_source_ops, .inl (cI, 30, .inl t_tree_source_ops)), (ht_tree_source_numbers, .inl (cI, 30, .inl t_tree_source_numbers)), (ht_tree_kinds, .inl (cI, 15, .inl t_tree_kinds)), (ht_tree_froms, .inl (cI, 15, .inl t_tree_froms)), (ht_tree_marks, .inl (cI, 15, .inl t_tree_marks)), (ht_tree_parts, .inl (cI, 15, .inl t_tree_parts)), (ht_tree_others, .inl (cI, 15, .inl t_tree_others)), (ht_tree_followers, .inl (cI, 15, .inl t_tree_followers)), (ht_machine, .inr (3, [.ref ht_machine_stack, .ref ht_machine_variables, .ref ht_machine_kept, .int q.2.2.2.2.1, .int q.2.2.2.2.2.1, .int q.2.2.2.2.2.2.1, .int q.2.2.2.2.2.2.2])), (ht_machine_stack, .inl (cI, 16, .inl q.2.1)), (ht_machine_variables, .inl (cI, 6, .inl q.2.2.1)), (ht_machine_kept, .inl (cI, 20, .inl q.2.2.2.1))] (va_A [(ht, .inr (5, [.ref ht_listing, .ref ht_draft, .ref ht_written, .ref ht_tree, .ref ht_machine, .int t_trouble])), (ht_tree, .inr (4, [.ref ht_tree_source, .ref ht_tree_kinds, .ref ht_tree_froms, .ref ht_tree_marks, .ref ht_tree_ends, .ref ht_tree_parts, .ref ht_tree_others, .ref ht_tree_followers, .ref ht_tree_begins, .int t_tree_size, .int t_tree_depth, .int t_tree_knot, .int t_tree_stands])), (ht_tree_source, .inr (2, [.ref ht_tree_source_ops, .ref ht_tree_source_numbers, .ref ht_tree_source_heights, .int t_tree_source_size])), (ht_tree_source_ops, .inl (cI, 30, .inl t_tree_source_ops)), (ht_tree_source_numbers, .inl (cI, 30, .inl t_tree_source_numbers)), (ht_tree_kinds, .inl (cI, 15, .inl t_tree_kinds)), (ht_tree_froms, .inl (cI, 15, .inl t_tree_froms)), (ht_tree_marks, .inl (cI, 15, .inl t_tree_marks)), (ht_tree_parts, .inl (cI, 15, .inl t_tree_parts)), (ht_tree_others, .inl (cI, 15, .inl t_tree_others)), (ht_tree_followers, .inl (cI, 15, .inl t_tree_followers)), (ht_machine, .inr (3, [.ref ht_machine_stack, .ref ht_machine_variables, .ref ht_machine_kept, .int t_machine_height, .int t_machine_printed, .int t_machine_done, .int t_machine_limit])), (ht_machine_stack, .inl (cI, 16, .inl t_machine_stack)), (ht_machine_variables, .inl (cI, 6, .inl t_machine_variables)), (ht_machine_kept, .inl (cI, 20, .inl t_machine_kept))] sz)) 0 0 (va_A [(ht, .inr (5, [.ref ht_listing, .ref ht_draft, .ref ht_written, .ref ht_tree, .ref ht_machine, .int t_trouble])), (ht_tree, .inr (4, [.ref ht_tree_source, .ref ht_tree_kinds, .ref ht_tree_froms, .ref ht_tree_marks, .ref ht_tree_ends, .ref ht_tree_parts, .ref ht_tree_others, .ref ht_tree_followers, .ref ht_tree_begins, .int t_tree_size, .int t_tree_depth, .int t_tree_knot, .int t_tree_stands])), (ht_tree_source, .inr (2, [.ref ht_tree_source_ops, .ref ht_tree_source_numbers, .ref ht_tree_source_heights, .int t_tree_source_size])), (ht_tree_source_ops, .inl (cI, 30, .inl t_tree_source_ops)), (ht_tree_source_numbers, .inl (cI, 30, .inl t_tree_source_numbers)), (ht_tree_kinds, .inl (cI, 15, .inl t_tree_kinds)), (ht_tree_froms, .inl (cI, 15, .inl t_tree_froms)), (ht_tree_marks, .inl (cI, 15, .inl t_tree_marks)), (ht_tree_parts, .inl (cI, 15, .inl t_tree_parts)), (ht_tree_others, .inl (cI, 15, .inl t_tree_others)), (ht_tree_followers, .inl (cI, 15, .inl t_tree_followers)), (ht_machine, .inr (3, [.ref ht_machine_stack, .ref ht_machine_variables, .ref ht_machine_kept, .int t_machine_height, .int t_machine_printed, .int t_machine_done, .int t_machine_limit])), (ht_machine_stack, .inl (cI, 16, .inl t_machine_stack)), (ht_machine_variables, .inl (cI, 6, .inl t_machine_variables)), (ht_machine_kept, .inl (cI, 20, .inl t_machine_kept))] sz)
set_option maxHeartbeats 4000000 in
set_option maxRecDepth 100000 in
theorem c_S_walk (l : Launch) (D : va_G) (cI cC : ClassId) : K_S_walk l D cI cC := by
  intro ht ht_listing ht_draft ht_written ht_tree ht_machine ht_tree_source ht_tree_kinds ht_tree_froms ht_tree_marks ht_tree_ends ht_tree_parts ht_tree_others ht_tree_followers ht_tree_begins ht_tree_source_ops ht_tree_source_numbers ht_tree_source_heights ht_machine_stack ht_machine_variables ht_machine_kept t_trouble t_tree_size t_tree_depth t_tree_knot t_tree_stands t_tree_source_size t_tree_source_ops t_tree_source_numbers t_tree_kinds t_tree_froms t_tree_marks t_tree_parts t_tree_others t_tree_followers t_machine_height t_machine_printed t_machine_done t_machine_limit t_machine_stack t_machine_variables t_machine_kept a1 a2 q h sz
  refine Met.ofW (cc := k_S_walk) (maxL := 3) (ret := (some .int)) (by decide) rfl ?_
  intro p e s m args below meth c s₁ B hml hv
  obtain ⟨rfl, hsz, hP, hK, hD0⟩ := hv
  have hx := B.exec
  have hb := B.bytes
  have hr := B.returns
  have hts : ∀ w ∈ lw_t, w.before ([.ref ht, .int a1, .int a2] : List Value).toArray s = true := fun w h => atoms_spec (ws := w_S_walk) B.pre w (List.mem_cons_of_mem _ h)
  have hown : s.vm.findClass R_S = some m.cls := findClass_of_methodNamed B.named
  have hlocks := B.notSynchronized
  subst hsz
  have hD := hD0.self (sz := s.heap.size)
  generalize hAe : va_A [(ht, .inr (5, [.ref ht_listing, .ref ht_draft, .ref ht_written, .ref ht_tree, .ref ht_machine, .int t_trouble])), (ht_tree, .inr (4, [.ref ht_tree_source, .ref ht_tree_kinds, .ref ht_tree_froms, .ref ht_tree_marks, .ref ht_tree_ends, .ref ht_tree_parts, .ref ht_tree_others, .ref ht_tree_followers, .ref ht_tree_begins, .int t_tree_size, .int t_tree_depth, .int t_tree_knot, .int t_tree_stands])), (ht_tree_source, .inr (2, [.ref ht_tree_source_ops, .ref ht_tree_source_numbers, .ref ht_tree_source_heights, .int t_tree_source_size])), (ht_tree_source_ops, .inl (cI, 30, .inl t_tree_source_ops)), (ht_tree_source_numbers, .inl (cI, 30, .inl t_tree_source_numbers)), (ht_tree_kinds, .inl (cI, 15, .inl t_tree_kinds)), (ht_tree_froms, .inl (cI, 15, .inl t_tree_froms)), (ht_tree_marks, .inl (cI, 15, .inl t_tree_marks)), (ht_tree_parts, .inl (cI, 15, .inl t_tree_parts)), (ht_tree_others, .inl (cI, 15, .inl t_tree_others)), (ht_tree_followers, .inl (cI, 15, .inl t_tree_followers)), (ht_machine, .inr (3, [.ref ht_machine_stack, .ref ht_machine_variables, .ref ht_machine_kept, .int t_machine_height, .int t_machine_printed, .int t_machine_done, .int t_machine_limit])), (ht_machine_stack, .inl (cI, 16, .inl t_machine_stack)), (ht_machine_variables, .inl (cI, 6, .inl t_machine_variables)), (ht_machine_kept, .inl (cI, 20, .inl t_machine_kept))] s.heap.size = A at hD ⊢
  have hA : ∀ q : Nat, s.heap.size ≤ q → A q := fun q h => by rw [← hAe]; exact Or.inr h
  have hS : va_S A s.heap s.heap [] := va_S.rf
  have f_35 := hts _ mt_1_153
  have f_42 := hts _ mt_1_154
  have hP : va_P D vwCl [(ht, .inr (5, [.ref ht_listing, .ref ht_draft, .ref ht_written, .ref ht_tree, .ref ht_machine, .int t_trouble])), (ht_tree, .inr (4, [.ref ht_tree_source, .ref ht_tree_kinds, .ref ht_tree_froms, .ref ht_tree_marks, .ref ht_tree_ends, .ref ht_tree_parts, .ref ht_tree_others, .ref ht_tree_followers, .ref ht_tree_begins, .int t_tree_size, .int t_tree_depth, .int t_tree_knot, .int t_tree_stands])), (ht_tree_source, .inr (2, [.ref ht_tree_source_ops, .ref ht_tree_source_numbers, .ref ht_tree_source_heights, .int t_tree_source_size])), (ht_tree_source_ops, .inl (cI, 30, .inl t_tree_source_ops)), (ht_tree_source_numbers, .inl (cI, 30, .inl t_tree_source_numbers)), (ht_tree_kinds, .inl (cI, 15, .inl t_tree_kinds)), (ht_tree_froms, .inl (cI, 15, .inl t_tree_froms)), (ht_tree_marks, .inl (cI, 15, .inl t_tree_marks)), (ht_tree_parts, .inl (cI, 15, .inl t_tree_parts)), (ht_tree_others, .inl (cI, 15, .inl t_tree_others)), (ht_tree_followers, .inl (cI, 15, .inl t_tree_followers)), (ht_machine, .inr (3, [.ref ht_machine_stack, .ref ht_machine_variables, .ref ht_machine_kept, .int t_machine_height, .int t_machine_printed, .int t_machine_done, .int t_machine_limit])), (ht_machine_stack, .inl (cI, 16, .inl t_machine_stack)), (ht_machine_variables, .inl (cI, 6, .inl t_machine_variables)), (ht_machine_kept, .inl (cI, 20, .inl t_machine_kept))] s.heap := hP
  have hl := lv_entry ([.ref ht, .int a1, .int a2]) (n := 3) (Nat.le_of_ble_eq_true rfl)
  rw [lg_entry_eq]
  generalize (lg_sl ([.ref ht, .int a1, .int a2]) ++ List.replicate (3 - (lg_sl ([.ref ht, .int a1, .int a2])).length) Slot.unset).toArray = ls at hl ⊢
  have hl : lv_has ls 3 [(0, .ref ht), (1, .int a1), (2, .int a2)] := hl
  unfold g_S_walk at h
  refine lv_iload_n hx hb d_S_walk_0 rfl (lv_at hl 2 rfl) ?_
  refine lv_if_lt (tgt := 11) hx hb d_S_walk_1 (by decide) (fun ec => ?_) (fun ec => ?_)
  · have h := g_t ec h
    refine lv_iconst (v := (-1 : Int32)) hx hb d_S_walk_11 (by decide) ?_
    cases h
    exact gr_i hx hb hr hlocks hK hP hD hS d_S_walk_12
  · have h := g_f ec h
    refine lv_iload_n hx hb d_S_walk_4 rfl (lv_at hl 2 rfl) ?_
    refine lv_sipush (v := (400 : Int32)) hx hb d_S_walk_5 (by decide) ?_
    refine lv_icmp_le (tgt := 13) hx hb d_S_walk_8 (by decide) (fun ec => ?_) (fun ec => ?_)
    · have h := g_t ec h
      refine lv_aload_n hx hb d_S_walk_13 rfl (lv_at hl 0 rfl) ?_
      refine va_get (D := D) (ci := 5) (v := .ref ht_tree) (C := R_S) (T := F_S) (N := 6) hx hb hts u_S hown hK hP 0 rfl rfl 3 (by decide) f_35 (fun _ h9 => h9) rfl d_S_walk_14 ?_
      obtain ⟨q1, hc, h⟩ := g_bd h
      refine gk_i (va_runV (As := []) (rest := []) ⟨hx, hb, hml, hown, hts⟩ (c_Tree_stands l D cI cC ht_tree ht_tree_source ht_tree_kinds ht_tree_froms ht_tree_marks ht_tree_ends ht_tree_parts ht_tree_others ht_tree_followers ht_tree_begins t_tree_size t_tree_depth t_tree_knot t_tree_stands q1 hc _) (cwV 0 hts (gG_V mt_3_74 mt_3_75 mt_3_76 mt_1_5 mt_3_77) rfl rfl rfl (by decide +kernel) ⟨Nat.le_of_ble_eq_true rfl, Nat.le_of_ble_eq_true rfl⟩) (gpV hK hP hD [1] rfl (by decide) (ci := 4) 1 rfl rfl) rfl rfl hl.1 rfl (lv_room (Nat.le_of_ble_eq_true rfl)) d_S_walk_17 ⟨Nat.zero_le _, Nat.zero_le _⟩) hK hP hD hS hA [1] rfl (by decide) rfl rfl (fun H locs (hP : va_P D vwCl [(ht, .inr (5, [.ref ht_listing, .ref ht_draft, .ref ht_written, .ref ht_tree, .ref ht_machine, .int t_trouble])), (ht_tree, .inr (4, [.ref ht_tree_source, .ref ht_tree_kinds, .ref ht_tree_froms, .ref ht_tree_marks, .ref ht_tree_ends, .ref ht_tree_parts, .ref ht_tree_others, .ref ht_tree_followers, .ref ht_tree_begins, .int t_tree_size, .int t_tree_depth, .int t_tree_knot, .int t_tree_stands])), (ht_tree_source, .inr (2, [.ref ht_tree_source_ops, .ref ht_tree_source_numbers, .ref ht_tree_source_heights, .int t_tree_source_size])), (ht_tree_source_ops, .inl (cI, 30, .inl t_tree_source_ops)), (ht_tree_source_numbers, .inl (cI, 30, .inl t_tree_source_numbers)), (ht_tree_kinds, .inl (cI, 15, .inl t_tree_kinds)), (ht_tree_froms, .inl (cI, 15, .inl t_tree_froms)), (ht_tree_marks, .inl (cI, 15, .inl t_tree_marks)), (ht_tree_parts, .inl (cI, 15, .inl t_tree_parts)), (ht_tree_others, .inl (cI, 15, .inl t_tree_others)), (ht_tree_followers, .inl (cI, 15, .inl t_tree_followers)), (ht_machine, .inr (3, [.ref ht_machine_stack, .ref ht_machine_variables, .ref ht_machine_kept, .int t_machine_height, .int t_machine_printed, .int t_machine_done, .int t_machine_limit])), (ht_machine_stack, .inl (cI, 16, .inl t_machine_stack)), (ht_machine_variables, .inl (cI, 6, .inl t_machine_variables)), (ht_machine_kept, .inl (cI, 20, .inl t_machine_kept))] H) (hD : va_D A [(ht, .inr (5, [.ref ht_listing, .ref ht_draft, .ref ht_written, .ref ht_tree, .ref ht_machine, .int t_trouble])), (ht_tree, .inr (4, [.ref ht_tree_source, .ref ht_tree_kinds, .ref ht_tree_froms, .ref ht_tree_marks, .ref ht_tree_ends, .ref ht_tree_parts, .ref ht_tree_others, .ref ht_tree_followers, .ref ht_tree_begins, .int t_tree_size, .int t_tree_depth, .int t_tree_knot, .int t_tree_stands])), (ht_tree_source, .inr (2, [.ref ht_tree_source_ops, .ref ht_tree_source_numbers, .ref ht_tree_source_heights, .int t_tree_source_size])), (ht_tree_source_ops, .inl (cI, 30, .inl t_tree_source_ops)), (ht_tree_source_numbers, .inl (cI, 30, .inl t_tree_source_numbers)), (ht_tree_kinds, .inl (cI, 15, .inl t_tree_kinds)), (ht_tree_froms, .inl (cI, 15, .inl t_tree_froms)), (ht_tree_marks, .inl (cI, 15, .inl t_tree_marks)), (ht_tree_parts, .inl (cI, 15, .inl t_tree_parts)), (ht_tree_others, .inl (cI, 15, .inl t_tree_others)), (ht_tree_followers, .inl (cI, 15, .inl t_tree_followers)), (ht_machine, .inr (3, [.ref ht_machine_stack, .ref ht_machine_variables, .ref ht_machine_kept, .int t_machine_height, .int t_machine_printed, .int t_machine_done, .int t_machine_limit])), (ht_machine_stack, .inl (cI, 16, .inl t_machine_stack)), (ht_machine_variables, .inl (cI, 6, .inl t_machine_variables)), (ht_machine_kept, .inl (cI, 20, .inl t_machine_kept))]) hS => ?_)
      refine lv_if_ne (tgt := 26) hx hb d_S_walk_20 (by decide) (fun ec => ?_) (fun ec => ?_)
      · have h := g_f ec h
        refine lv_aload_n hx hb d_S_walk_26 rfl (lv_at hl 0 rfl) ?_
        refine va_get (D := D) (ci := 5) (v := .ref ht_machine) (C := R_S) (T := F_S) (N := 6) hx hb hts u_S hown hK hP 0 rfl rfl 4 (by decide) f_42 (fun _ h9 => h9) rfl d_S_walk_27 ?_
        refine lv_iload_n hx hb d_S_walk_30 rfl (lv_at hl 1 rfl) ?_
        refine lv_iload_n hx hb d_S_walk_31 rfl (lv_at hl 2 rfl) ?_
        obtain ⟨q2, hc, h⟩ := g_bd h
        refine gk_v (va_runV (As := [.int a1, .int a2]) (rest := []) ⟨hx, hb, hml, hown, hts⟩ (c_Machine_start l D cI cC ht_machine ht_machine_stack ht_machine_variables ht_machine_kept t_machine_height t_machine_printed t_machine_done t_machine_limit t_machine_variables a1 a2 q2 hc _) (cwV 2 hts (gG_V mt_3_20 mt_3_21 mt_3_22 mt_1_6 mt_3_23) rfl rfl rfl (by decide +kernel) ⟨Nat.le_of_ble_eq_true rfl, Nat.le_of_ble_eq_true rfl⟩) (gpV hK hP hD [11, 13] rfl (by decide) (ci := 3) 11 rfl rfl) rfl rfl hl.1 rfl (lv_room (Nat.le_of_ble_eq_true rfl)) d_S_walk_32 ⟨Nat.zero_le _, Nat.zero_le _⟩) hK hP hD hS hA [11, 13] rfl (by decide) rfl rfl (fun H locs (hP : va_P D vwCl [(ht, .inr (5, [.ref ht_listing, .ref ht_draft, .ref ht_written, .ref ht_tree, .ref ht_machine, .int t_trouble])), (ht_tree, .inr (4, [.ref ht_tree_source, .ref ht_tree_kinds, .ref ht_tree_froms, .ref ht_tree_marks, .ref ht_tree_ends, .ref ht_tree_parts, .ref ht_tree_others, .ref ht_tree_followers, .ref ht_tree_begins, .int t_tree_size, .int t_tree_depth, .int t_tree_knot, .int t_tree_stands])), (ht_tree_source, .inr (2, [.ref ht_tree_source_ops, .ref ht_tree_source_numbers, .ref ht_tree_source_heights, .int t_tree_source_size])), (ht_tree_source_ops, .inl (cI, 30, .inl t_tree_source_ops)), (ht_tree_source_numbers, .inl (cI, 30, .inl t_tree_source_numbers)), (ht_tree_kinds, .inl (cI, 15, .inl t_tree_kinds)), (ht_tree_froms, .inl (cI, 15, .inl t_tree_froms)), (ht_tree_marks, .inl (cI, 15, .inl t_tree_marks)), (ht_tree_parts, .inl (cI, 15, .inl t_tree_parts)), (ht_tree_others, .inl (cI, 15, .inl t_tree_others)), (ht_tree_followers, .inl (cI, 15, .inl t_tree_followers)), (ht_machine, .inr (3, [.ref ht_machine_stack, .ref ht_machine_variables, .ref ht_machine_kept, .int q2.2.1, .int q2.2.2.1, .int q2.2.2.2.1, .int q2.2.2.2.2])), (ht_machine_stack, .inl (cI, 16, .inl t_machine_stack)), (ht_machine_variables, .inl (cI, 6, .inl q2.1)), (ht_machine_kept, .inl (cI, 20, .inl t_machine_kept))] H) (hD : va_D A [(ht, .inr (5, [.ref ht_listing, .ref ht_draft, .ref ht_written, .ref ht_tree, .ref ht_machine, .int t_trouble])), (ht_tree, .inr (4, [.ref ht_tree_source, .ref ht_tree_kinds, .ref ht_tree_froms, .ref ht_tree_marks, .ref ht_tree_ends, .ref ht_tree_parts, .ref ht_tree_others, .ref ht_tree_followers, .ref ht_tree_begins, .int t_tree_size, .int t_tree_depth, .int t_tree_knot, .int t_tree_stands])), (ht_tree_source, .inr (2, [.ref ht_tree_source_ops, .ref ht_tree_source_numbers, .ref ht_tree_source_heights, .int t_tree_source_size])), (ht_tree_source_ops, .inl (cI, 30, .inl t_tree_source_ops)), (ht_tree_source_numbers, .inl (cI, 30, .inl t_tree_source_numbers)), (ht_tree_kinds, .inl (cI, 15, .inl t_tree_kinds)), (ht_tree_froms, .inl (cI, 15, .inl t_tree_froms)), (ht_tree_marks, .inl (cI, 15, .inl t_tree_marks)), (ht_tree_parts, .inl (cI, 15, .inl t_tree_parts)), (ht_tree_others, .inl (cI, 15, .inl t_tree_others)), (ht_tree_followers, .inl (cI, 15, .inl t_tree_followers)), (ht_machine, .inr (3, [.ref ht_machine_stack, .ref ht_machine_variables, .ref ht_machine_kept, .int q2.2.1, .int q2.2.2.1, .int q2.2.2.2.1, .int q2.2.2.2.2])), (ht_machine_stack, .inl (cI, 16, .inl t_machine_stack)), (ht_machine_variables, .inl (cI, 6, .inl q2.1)), (ht_machine_kept, .inl (cI, 20, .inl t_machine_kept))]) hS => ?_)
        refine lv_aload_n hx hb d_S_walk_35 rfl (lv_at hl 0 rfl) ?_
        refine va_get (D := D) (ci := 5) (v := .ref ht_tree) (C := R_S) (T := F_S) (N := 6) hx hb hts u_S hown hK hP 0 rfl rfl 3 (by decide) f_35 (fun _ h9 => h9) rfl d_S_walk_36 ?_
        refine lv_aload_n hx hb d_S_walk_39 rfl (lv_at hl 0 rfl) ?_
        refine va_get (D := D) (ci := 5) (v := .ref ht_machine) (C := R_S) (T := F_S) (N := 6) hx hb hts u_S hown hK hP 0 rfl rfl 4 (by decide) f_42 (fun _ h9 => h9) rfl d_S_walk_40 ?_
        obtain ⟨q3, hc, h⟩ := g_bd h
        refine gk_i (va_runS (As := [.ref ht_tree, .ref ht_machine]) (rest := []) ⟨hx, hb, hml, hown, hts⟩ (c_Walker_follow l D cI cC ht_tree ht_machine ht_tree_source ht_tree_kinds ht_tree_froms ht_tree_marks ht_tree_ends ht_tree_parts ht_tree_others ht_tree_followers ht_tree_begins ht_tree_source_ops ht_tree_source_numbers ht_tree_source_heights ht_machine_stack ht_machine_variables ht_machine_kept t_tree_size t_tree_depth t_tree_knot t_tree_stands t_tree_source_size t_tree_source_ops t_tree_source_numbers t_tree_kinds t_tree_froms t_tree_marks t_tree_parts t_tree_others t_tree_followers q2.2.1 q2.2.2.1 q2.2.2.2.1 q2.2.2.2.2 t_machine_stack q2.1 t_machine_kept q3 hc _) (va_cwS 2 hts (gG_S mt_3_78 mt_3_79 mt_1_11 mt_3_80) rfl rfl rfl (by decide +kernel) ⟨Nat.le_of_ble_eq_true rfl, Nat.le_of_ble_eq_true rfl⟩) (gpS hK hP hD [1, 2, 3, 4, 5, 6, 7, 8, 9, 10, 11, 12, 13, 14] rfl (by decide)) rfl rfl hl.1 rfl (lv_room (Nat.le_of_ble_eq_true rfl)) d_S_walk_43 ⟨Nat.zero_le _, Nat.zero_le _⟩) hK hP hD hS hA [1, 2, 3, 4, 5, 6, 7, 8, 9, 10, 11, 12, 13, 14] rfl (by decide) rfl rfl (fun H locs (hP : va_P D vwCl [(ht, .inr (5, [.ref ht_listing, .ref ht_draft, .ref ht_written, .ref ht_tree, .ref ht_machine, .int t_trouble])), (ht_tree, .inr (4, [.ref ht_tree_source, .ref ht_tree_kinds, .ref ht_tree_froms, .ref ht_tree_marks, .ref ht_tree_ends, .ref ht_tree_parts, .ref ht_tree_others, .ref ht_tree_followers, .ref ht_tree_begins, .int t_tree_size, .int t_tree_depth, .int t_tree_knot, .int t_tree_stands])), (ht_tree_source, .inr (2, [.ref ht_tree_source_ops, .ref ht_tree_source_numbers, .ref ht_tree_source_heights, .int t_tree_source_size])), (ht_tree_source_ops, .inl (cI, 30, .inl t_tree_source_ops)), (ht_tree_source_numbers, .inl (cI, 30, .inl t_tree_source_numbers)), (ht_tree_kinds, .inl (cI, 15, .inl t_tree_kinds)), (ht_tree_froms, .inl (cI, 15, .inl t_tree_froms)), (ht_tree_marks, .inl (cI, 15, .inl t_tree_marks)), (ht_tree_parts, .inl (cI, 15, .inl t_tree_parts)), (ht_tree_others, .inl (cI, 15, .inl t_tree_others)), (ht_tree_followers, .inl (cI, 15, .inl t_tree_followers)), (ht_machine, .inr (3, [.ref ht_machine_stack, .ref ht_machine_variables, .ref ht_machine_kept, .int q3.2.2.2.2.1, .int q3.2.2.2.2.2.1, .int q3.2.2.2.2.2.2, .int q2.2.2.2.2])), (ht_machine_stack, .inl (cI, 16, .inl q3.2.1)), (ht_machine_variables, .inl (cI, 6, .inl q3.2.2.1)), (ht_machine_kept, .inl (cI, 20, .inl q3.2.2.2.1))] H) (hD : va_D A [(ht, .inr (5, [.ref ht_listing, .ref ht_draft, .ref ht_written, .ref ht_tree, .ref ht_machine, .int t_trouble])), (ht_tree, .inr (4, [.ref ht_tree_source, .ref ht_tree_kinds, .ref ht_tree_froms, .ref ht_tree_marks, .ref ht_tree_ends, .ref ht_tree_parts, .ref ht_tree_others, .ref ht_tree_followers, .ref ht_tree_begins, .int t_tree_size, .int t_tree_depth, .int t_tree_knot, .int t_tree_stands])), (ht_tree_source, .inr (2, [.ref ht_tree_source_ops, .ref ht_tree_source_numbers, .ref ht_tree_source_heights, .int t_tree_source_size])), (ht_tree_source_ops, .inl (cI, 30, .inl t_tree_source_ops)), (ht_tree_source_numbers, .inl (cI, 30, .inl t_tree_source_numbers)), (ht_tree_kinds, .inl (cI, 15, .inl t_tree_kinds)), (ht_tree_froms, .inl (cI, 15, .inl t_tree_froms)), (ht_tree_marks, .inl (cI, 15, .inl t_tree_marks)), (ht_tree_parts, .inl (cI, 15, .inl t_tree_parts)), (ht_tree_others, .inl (cI, 15, .inl t_tree_others)), (ht_tree_followers, .inl (cI, 15, .inl t_tree_followers)), (ht_machine, .inr (3, [.ref ht_machine_stack, .ref ht_machine_variables, .ref ht_machine_kept, .int q3.2.2.2.2.1, .int q3.2.2.2.2.2.1, .int q3.2.2.2.2.2.2, .int q2.2.2.2.2])), (ht_machine_stack, .inl (cI, 16, .inl q3.2.1)), (ht_machine_variables, .inl (cI, 6, .inl q3.2.2.1)), (ht_machine_kept, .inl (cI, 20, .inl q3.2.2.2.1))]) hS => ?_)
        refine lv_if_eq (tgt := 59) hx hb d_S_walk_46 (by decide) (fun ec => ?_) (fun ec => ?_)
        · have h := g_t ec h
          refine lv_bipush (v := (-7 : Int32)) hx hb d_S_walk_59 (by decide) ?_
          cases h
          exact gr_i hx hb hr hlocks hK hP hD hS d_S_walk_61
        · have h := g_f ec h
          refine lv_aload_n hx hb d_S_walk_49 rfl (lv_at hl 0 rfl) ?_
          refine va_get (D := D) (ci := 5) (v := .ref ht_machine) (C := R_S) (T := F_S) (N := 6) hx hb hts u_S hown hK hP 0 rfl rfl 4 (by decide) f_42 (fun _ h9 => h9) rfl d_S_walk_50 ?_
          obtain ⟨q4, hc, h⟩ := g_bd h
          refine gk_i (va_runV (As := []) (rest := []) ⟨hx, hb, hml, hown, hts⟩ (c_Machine_printed l D cI cC ht_machine ht_machine_stack ht_machine_variables ht_machine_kept q3.2.2.2.2.1 q3.2.2.2.2.2.1 q3.2.2.2.2.2.2 q2.2.2.2.2 q4 hc _) (cwV 0 hts (gG_V mt_3_66 mt_3_67 mt_3_68 mt_1_6 mt_3_69) rfl rfl rfl (by decide +kernel) ⟨Nat.le_of_ble_eq_true rfl, Nat.le_of_ble_eq_true rfl⟩) (gpV hK hP hD [11] rfl (by decide) (ci := 3) 11 rfl rfl) rfl rfl hl.1 rfl (lv_room (Nat.le_of_ble_eq_true rfl)) d_S_walk_53 ⟨Nat.zero_le _, Nat.zero_le _⟩) hK hP hD hS hA [11] rfl (by decide) rfl rfl (fun H locs (hP : va_P D vwCl [(ht, .inr (5, [.ref ht_listing, .ref ht_draft, .ref ht_written, .ref ht_tree, .ref ht_machine, .int t_trouble])), (ht_tree, .inr (4, [.ref ht_tree_source, .ref ht_tree_kinds, .ref ht_tree_froms, .ref ht_tree_marks, .ref ht_tree_ends, .ref ht_tree_parts, .ref ht_tree_others, .ref ht_tree_followers, .ref ht_tree_begins, .int t_tree_size, .int t_tree_depth, .int t_tree_knot, .int t_tree_stands])), (ht_tree_source, .inr (2, [.ref ht_tree_source_ops, .ref ht_tree_source_numbers, .ref ht_tree_source_heights, .int t_tree_source_size])), (ht_tree_source_ops, .inl (cI, 30, .inl t_tree_source_ops)), (ht_tree_source_numbers, .inl (cI, 30, .inl t_tree_source_numbers)), (ht_tree_kinds, .inl (cI, 15, .inl t_tree_kinds)), (ht_tree_froms, .inl (cI, 15, .inl t_tree_froms)), (ht_tree_marks, .inl (cI, 15, .inl t_tree_marks)), (ht_tree_parts, .inl (cI, 15, .inl t_tree_parts)), (ht_tree_others, .inl (cI, 15, .inl t_tree_others)), (ht_tree_followers, .inl (cI, 15, .inl t_tree_followers)), (ht_machine, .inr (3, [.ref ht_machine_stack, .ref ht_machine_variables, .ref ht_machine_kept, .int q3.2.2.2.2.1, .int q3.2.2.2.2.2.1, .int q3.2.2.2.2.2.2, .int q2.2.2.2.2])), (ht_machine_stack, .inl (cI, 16, .inl q3.2.1)), (ht_machine_variables, .inl (cI, 6, .inl q3.2.2.1)), (ht_machine_kept, .inl (cI, 20, .inl q3.2.2.2.1))] H) (hD : va_D A [(ht, .inr (5, [.ref ht_listing, .ref ht_draft, .ref ht_written, .ref ht_tree, .ref ht_machine, .int t_trouble])), (ht_tree, .inr (4, [.ref ht_tree_source, .ref ht_tree_kinds, .ref ht_tree_froms, .ref ht_tree_marks, .ref ht_tree_ends, .ref ht_tree_parts, .ref ht_tree_others, .ref ht_tree_followers, .ref ht_tree_begins, .int t_tree_size, .int t_tree_depth, .int t_tree_knot, .int t_tree_stands])), (ht_tree_source, .inr (2, [.ref ht_tree_source_ops, .ref ht_tree_source_numbers, .ref ht_tree_source_heights, .int t_tree_source_size])), (ht_tree_source_ops, .inl (cI, 30, .inl t_tree_source_ops)), (ht_tree_source_numbers, .inl (cI, 30, .inl t_tree_source_numbers)), (ht_tree_kinds, .inl (cI, 15, .inl t_tree_kinds)), (ht_tree_froms, .inl (cI, 15, .inl t_tree_froms)), (ht_tree_marks, .inl (cI, 15, .inl t_tree_marks)), (ht_tree_parts, .inl (cI, 15, .inl t_tree_parts)), (ht_tree_others, .inl (cI, 15, .inl t_tree_others)), (ht_tree_followers, .inl (cI, 15, .inl t_tree_followers)), (ht_machine, .inr (3, [.ref ht_machine_stack, .ref ht_machine_variables, .ref ht_machine_kept, .int q3.2.2.2.2.1, .int q3.2.2.2.2.2.1, .int q3.2.2.2.2.2.2, .int q2.2.2.2.2])), (ht_machine_stack, .inl (cI, 16, .inl q3.2.1)), (ht_machine_variables, .inl (cI, 6, .inl q3.2.2.1)), (ht_machine_kept, .inl (cI, 20, .inl q3.2.2.2.1))]) hS => ?_)
          refine lv_goto (tgt := 61) hx hb d_S_walk_56 (by decide) ?_
          cases h
          exact gr_i hx hb hr hlocks hK hP hD hS d_S_walk_61
      · have h := g_t ec h
        refine lv_bipush (v := (-2 : Int32)) hx hb d_S_walk_23 (by decide) ?_
        cases h
        exact gr_i hx hb hr hlocks hK hP hD hS d_S_walk_25
    · have h := g_f ec h
      refine lv_iconst (v := (-1 : Int32)) hx hb d_S_walk_11 (by decide) ?_
      cases h
      exact gr_i hx hb hr hlocks hK hP hD hS d_S_walk_12
def K_Machine_kept (l : Launch) (D : va_G) (cI cC : ClassId) : Prop :=
  ∀ (ht ht_stack ht_variables ht_kept : Nat) (t_height : Int32) (t_printed : Int32) (t_done : Int32) (t_limit : Int32) (t_kept : Nat → Int32) (a1 : Int32) (q : Int32), g_Machine_kept t_kept t_printed a1 = some q → ∀ (sz : Nat), Met l y_Machine_kept w_Machine_kept ({ frames := 0, cells := 0, slots := 0, locals := 0 }) (va_Pc [.ref ht, .int a1] (gB D (gT cI cC) [(ht, .inr (3, [.ref ht_stack, .ref ht_variables, .ref ht_kept, .int t_height, .int t_printed, .int t_done, .int t_limit])), (ht_kept, .inl (cI, 20, .inl t_kept))] sz)) (gQi D (gT cI cC) q [(ht, .inr (3, [.ref ht_stack, .ref ht_variables, .ref ht_kept, .int t_height, .int t_printed, .int t_done, .int t_limit])), (ht_kept, .inl (cI, 20, .inl t_kept))] (va_A [(ht, .inr (3, [.ref ht_stack, .ref ht_variables, .ref ht_kept, .int t_height, .int t_printed, .int t_done, .int t_limit])), (ht_kept, .inl (cI, 20, .inl t_kept))] sz)) 0 0 (va_A [(ht, .inr (3, [.ref ht_stack, .ref ht_variables, .ref ht_kept, .int t_height, .int t_printed, .int t_done, .int t_limit])), (ht_kept, .inl (cI, 20, .inl t_kept))] sz)
set_option maxHeartbeats 4000000 in
set_option maxRecDepth 100000 in
theorem c_Machine_kept (l : Launch) (D : va_G) (cI cC : ClassId) : K_Machine_kept l D cI cC := by
  intro ht ht_stack ht_variables ht_kept t_height t_printed t_done t_limit t_kept a1 q h sz
  refine Met.ofW (cc := k_Machine_kept) (maxL := 2) (ret := (some .int)) (by decide) rfl ?_
  intro p e s m args below meth c s₁ B hml hv
  obtain ⟨rfl, hsz, hP, hK, hD0⟩ := hv
  have hx := B.exec
  have hb := B.bytes
  have hr := B.returns
  have hts : ∀ w ∈ lw_t, w.before ([.ref ht, .int a1] : List Value).toArray s = true := fun w h => atoms_spec (ws := w_Machine_kept) B.pre w (List.mem_cons_of_mem _ h)
  have hown : s.vm.findClass R_Machine = some m.cls := findClass_of_methodNamed B.named
  have hlocks := B.notSynchronized
  subst hsz
  have hD := hD0.self (sz := s.heap.size)
  generalize hAe : va_A [(ht, .inr (3, [.ref ht_stack, .ref ht_variables, .ref ht_kept, .int t_height, .int t_printed, .int t_done, .int t_limit])), (ht_kept, .inl (cI, 20, .inl t_kept))] s.heap.size = A at hD ⊢
  have hA : ∀ q : Nat, s.heap.size ≤ q → A q := fun q h => by rw [← hAe]; exact Or.inr h
  have hS : va_S A s.heap s.heap [] := va_S.rf
  have f_18 := hts _ mt_1_130
  have f_25 := hts _ mt_1_132
  have hP : va_P D vwCl [(ht, .inr (3, [.ref ht_stack, .ref ht_variables, .ref ht_kept, .int t_height, .int t_printed, .int t_done, .int t_limit])), (ht_kept, .inl (cI, 20, .inl t_kept))] s.heap := hP
  have hl := lv_entry ([.ref ht, .int a1]) (n := 2) (Nat.le_of_ble_eq_true rfl)
  rw [lg_entry_eq]
  generalize (lg_sl ([.ref ht, .int a1]) ++ List.replicate (2 - (lg_sl ([.ref ht, .int a1])).length) Slot.unset).toArray = ls at hl ⊢
  have hl : lv_has ls 2 [(0, .ref ht), (1, .int a1)] := hl
  unfold g_Machine_kept at h
  refine lv_iload_n hx hb d_Machine_kept_0 rfl (lv_at hl 1 rfl) ?_
  refine lv_if_lt (tgt := 27) hx hb d_Machine_kept_1 (by decide) (fun ec => ?_) (fun ec => ?_)
  · have h := g_t ec h
    refine lv_iconst (v := (0 : Int32)) hx hb d_Machine_kept_27 (by decide) ?_
    cases h
    exact gr_i hx hb hr hlocks hK hP hD hS d_Machine_kept_28
  · have h := g_f ec h
    refine lv_iload_n hx hb d_Machine_kept_4 rfl (lv_at hl 1 rfl) ?_
    refine lv_aload_n hx hb d_Machine_kept_5 rfl (lv_at hl 0 rfl) ?_
    refine va_get (D := D) (ci := 3) (v := .int t_printed) (C := R_Machine) (T := F_Machine) (N := 7) hx hb hts u_Machine hown hK hP 0 rfl rfl 4 (by decide) f_25 (fun _ h9 => h9) rfl d_Machine_kept_6 ?_
    refine lv_icmp_ge (tgt := 27) hx hb d_Machine_kept_9 (by decide) (fun ec => ?_) (fun ec => ?_)
    · have h := g_t ec h
      refine lv_iconst (v := (0 : Int32)) hx hb d_Machine_kept_27 (by decide) ?_
      cases h
      exact gr_i hx hb hr hlocks hK hP hD hS d_Machine_kept_28
    · have h := g_f ec h
      refine lv_iload_n hx hb d_Machine_kept_12 rfl (lv_at hl 1 rfl) ?_
      refine lv_bipush (v := (20 : Int32)) hx hb d_Machine_kept_13 (by decide) ?_
      refine lv_icmp_ge (tgt := 27) hx hb d_Machine_kept_15 (by decide) (fun ec => ?_) (fun ec => ?_)
      · have h := g_t ec h
        refine lv_iconst (v := (0 : Int32)) hx hb d_Machine_kept_27 (by decide) ?_
        cases h
        exact gr_i hx hb hr hlocks hK hP hD hS d_Machine_kept_28
      · have h := g_f ec h
        refine lv_aload_n hx hb d_Machine_kept_18 rfl (lv_at hl 0 rfl) ?_
        refine va_get (D := D) (ci := 3) (v := .ref ht_kept) (C := R_Machine) (T := F_Machine) (N := 7) hx hb hts u_Machine hown hK hP 0 rfl rfl 2 (by decide) f_18 (fun _ h9 => h9) rfl d_Machine_kept_19 ?_
        refine lv_iload_n hx hb d_Machine_kept_22 rfl (lv_at hl 1 rfl) ?_
        obtain ⟨hi, h⟩ := g_ck h
        refine va_iald hx hb hK hP 1 0 rfl rfl hi d_Machine_kept_23 ?_
        refine lv_goto (tgt := 28) hx hb d_Machine_kept_24 (by decide) ?_
        cases h
        exact gr_i hx hb hr hlocks hK hP hD hS d_Machine_kept_28
def K_S_output (l : Launch) (D : va_G) (cI cC : ClassId) : Prop :=
  ∀ (ht ht_listing ht_draft ht_written ht_tree ht_machine ht_machine_stack ht_machine_variables ht_machine_kept : Nat) (t_trouble : Int32) (t_machine_height : Int32) (t_machine_printed : Int32) (t_machine_done : Int32) (t_machine_limit : Int32) (t_machine_kept : Nat → Int32) (a1 : Int32) (q : Int32), g_S_output t_machine_kept t_machine_printed a1 = some q → ∀ (sz : Nat), Met l y_S_output w_S_output ({ frames := 1, cells := 0, slots := 0, locals := 21 }) (va_Pc [.ref ht, .int a1] (gB D (gT cI cC) [(ht, .inr (5, [.ref ht_listing, .ref ht_draft, .ref ht_written, .ref ht_tree, .ref ht_machine, .int t_trouble])), (ht_machine, .inr (3, [.ref ht_machine_stack, .ref ht_machine_variables, .ref ht_machine_kept, .int t_machine_height, .int t_machine_printed, .int t_machine_done, .int t_machine_limit])), (ht_machine_kept, .inl (cI, 20, .inl t_machine_kept))] sz)) (gQi D (gT cI cC) q [(ht, .inr (5, [.ref ht_listing, .ref ht_draft, .ref ht_written, .ref ht_tree, .ref ht_machine, .int t_trouble])), (ht_machine, .inr (3, [.ref ht_machine_stack, .ref ht_machine_variables, .ref ht_machine_kept, .int t_machine_height, .int t_machine_printed, .int t_machine_done, .int t_machine_limit])), (ht_machine_kept, .inl (cI, 20, .inl t_machine_kept))] (va_A [(ht, .inr (5, [.ref ht_listing, .ref ht_draft, .ref ht_written, .ref ht_tree, .ref ht_machine, .int t_trouble])), (ht_machine, .inr (3, [.ref ht_machine_stack, .ref ht_machine_variables, .ref ht_machine_kept, .int t_machine_height, .int t_machine_printed, .int t_machine_done, .int t_machine_limit])), (ht_machine_kept, .inl (cI, 20, .inl t_machine_kept))] sz)) 0 0 (va_A [(ht, .inr (5, [.ref ht_listing, .ref ht_draft, .ref ht_written, .ref ht_tree, .ref ht_machine, .int t_trouble])), (ht_machine, .inr (3, [.ref ht_machine_stack, .ref ht_machine_variables, .ref ht_machine_kept, .int t_machine_height, .int t_machine_printed, .int t_machine_done, .int t_machine_limit])), (ht_machine_kept, .inl (cI, 20, .inl t_machine_kept))] sz)
set_option maxHeartbeats 4000000 in
set_option maxRecDepth 100000 in
theorem c_S_output (l : Launch) (D : va_G) (cI cC : ClassId) : K_S_output l D cI cC := by
  intro ht ht_listing ht_draft ht_written ht_tree ht_machine ht_machine_stack ht_machine_variables ht_machine_kept t_trouble t_machine_height t_machine_printed t_machine_done t_machine_limit t_machine_kept a1 q h sz
  refine Met.ofW (cc := k_S_output) (maxL := 2) (ret := (some .int)) (by decide) rfl ?_
  intro p e s m args below meth c s₁ B hml hv
  obtain ⟨rfl, hsz, hP, hK, hD0⟩ := hv
  have hx := B.exec
  have hb := B.bytes
  have hr := B.returns
  have hts : ∀ w ∈ lw_t, w.before ([.ref ht, .int a1] : List Value).toArray s = true := fun w h => atoms_spec (ws := w_S_output) B.pre w (List.mem_cons_of_mem _ h)
  have hown : s.vm.findClass R_S = some m.cls := findClass_of_methodNamed B.named
  have hlocks := B.notSynchronized
  subst hsz
  have hD := hD0.self (sz := s.heap.size)
  generalize hAe : va_A [(ht, .inr (5, [.ref ht_listing, .ref ht_draft, .ref ht_written, .ref ht_tree, .ref ht_machine, .int t_trouble])), (ht_machine, .inr (3, [.ref ht_machine_stack, .ref ht_machine_variables, .ref ht_machine_kept, .int t_machine_height, .int t_machine_printed, .int t_machine_done, .int t_machine_limit])), (ht_machine_kept, .inl (cI, 20, .inl t_machine_kept))] s.heap.size = A at hD ⊢
  have hA : ∀ q : Nat, s.heap.size ≤ q → A q := fun q h => by rw [← hAe]; exact Or.inr h
  have hS : va_S A s.heap s.heap [] := va_S.rf
  have f_42 := hts _ mt_1_154
  have hP : va_P D vwCl [(ht, .inr (5, [.ref ht_listing, .ref ht_draft, .ref ht_written, .ref ht_tree, .ref ht_machine, .int t_trouble])), (ht_machine, .inr (3, [.ref ht_machine_stack, .ref ht_machine_variables, .ref ht_machine_kept, .int t_machine_height, .int t_machine_printed, .int t_machine_done, .int t_machine_limit])), (ht_machine_kept, .inl (cI, 20, .inl t_machine_kept))] s.heap := hP
  have hl := lv_entry ([.ref ht, .int a1]) (n := 2) (Nat.le_of_ble_eq_true rfl)
  rw [lg_entry_eq]
  generalize (lg_sl ([.ref ht, .int a1]) ++ List.replicate (2 - (lg_sl ([.ref ht, .int a1])).length) Slot.unset).toArray = ls at hl ⊢
  have hl : lv_has ls 2 [(0, .ref ht), (1, .int a1)] := hl
  unfold g_S_output at h
  refine lv_aload_n hx hb d_S_output_0 rfl (lv_at hl 0 rfl) ?_
  refine va_get (D := D) (ci := 5) (v := .ref ht_machine) (C := R_S) (T := F_S) (N := 6) hx hb hts u_S hown hK hP 0 rfl rfl 4 (by decide) f_42 (fun _ h9 => h9) rfl d_S_output_1 ?_
  refine lv_iload_n hx hb d_S_output_4 rfl (lv_at hl 1 rfl) ?_
  obtain ⟨q1, hc, h⟩ := g_bd h
  refine gk_i (va_runV (As := [.int a1]) (rest := []) ⟨hx, hb, hml, hown, hts⟩ (c_Machine_kept l D cI cC ht_machine ht_machine_stack ht_machine_variables ht_machine_kept t_machine_height t_machine_printed t_machine_done t_machine_limit t_machine_kept a1 q1 hc _) (cwV 1 hts (gG_V mt_3_117 mt_3_118 mt_3_119 mt_1_6 mt_3_120) rfl rfl rfl (by decide +kernel) ⟨Nat.le_of_ble_eq_true rfl, Nat.le_of_ble_eq_true rfl⟩) (gpV hK hP hD [1, 2] rfl (by decide) (ci := 3) 1 rfl rfl) rfl rfl hl.1 rfl (lv_room (Nat.le_of_ble_eq_true rfl)) d_S_output_5 ⟨Nat.zero_le _, Nat.zero_le _⟩) hK hP hD hS hA [1, 2] rfl (by decide) rfl rfl (fun H locs (hP : va_P D vwCl [(ht, .inr (5, [.ref ht_listing, .ref ht_draft, .ref ht_written, .ref ht_tree, .ref ht_machine, .int t_trouble])), (ht_machine, .inr (3, [.ref ht_machine_stack, .ref ht_machine_variables, .ref ht_machine_kept, .int t_machine_height, .int t_machine_printed, .int t_machine_done, .int t_machine_limit])), (ht_machine_kept, .inl (cI, 20, .inl t_machine_kept))] H) (hD : va_D A [(ht, .inr (5, [.ref ht_listing, .ref ht_draft, .ref ht_written, .ref ht_tree, .ref ht_machine, .int t_trouble])), (ht_machine, .inr (3, [.ref ht_machine_stack, .ref ht_machine_variables, .ref ht_machine_kept, .int t_machine_height, .int t_machine_printed, .int t_machine_done, .int t_machine_limit])), (ht_machine_kept, .inl (cI, 20, .inl t_machine_kept))]) hS => ?_)
  cases h
  exact gr_i hx hb hr hlocks hK hP hD hS d_S_output_8
def K_Machine_done (l : Launch) (D : va_G) (cI cC : ClassId) : Prop :=
  ∀ (ht ht_stack ht_variables ht_kept : Nat) (t_height : Int32) (t_printed : Int32) (t_done : Int32) (t_limit : Int32) (q : Int32), g_Machine_done t_done = some q → ∀ (sz : Nat), Met l y_Machine_done w_Machine_done ({ frames := 0, cells := 0, slots := 0, locals := 0 }) (va_Pc [.ref ht] (gB D (gT cI cC) [(ht, .inr (3, [.ref ht_stack, .ref ht_variables, .ref ht_kept, .int t_height, .int t_printed, .int t_done, .int t_limit]))] sz)) (gQi D (gT cI cC) q [(ht, .inr (3, [.ref ht_stack, .ref ht_variables, .ref ht_kept, .int t_height, .int t_printed, .int t_done, .int t_limit]))] (va_A [(ht, .inr (3, [.ref ht_stack, .ref ht_variables, .ref ht_kept, .int t_height, .int t_printed, .int t_done, .int t_limit]))] sz)) 0 0 (va_A [(ht, .inr (3, [.ref ht_stack, .ref ht_variables, .ref ht_kept, .int t_height, .int t_printed, .int t_done, .int t_limit]))] sz)
set_option maxHeartbeats 4000000 in
set_option maxRecDepth 100000 in
theorem c_Machine_done (l : Launch) (D : va_G) (cI cC : ClassId) : K_Machine_done l D cI cC := by
  intro ht ht_stack ht_variables ht_kept t_height t_printed t_done t_limit q h sz
  refine Met.ofW (cc := k_Machine_done) (maxL := 1) (ret := (some .int)) (by decide) rfl ?_
  intro p e s m args below meth c s₁ B hml hv
  obtain ⟨rfl, hsz, hP, hK, hD0⟩ := hv
  have hx := B.exec
  have hb := B.bytes
  have hr := B.returns
  have hts : ∀ w ∈ lw_t, w.before ([.ref ht] : List Value).toArray s = true := fun w h => atoms_spec (ws := w_Machine_done) B.pre w (List.mem_cons_of_mem _ h)
  have hown : s.vm.findClass R_Machine = some m.cls := findClass_of_methodNamed B.named
  have hlocks := B.notSynchronized
  subst hsz
  have hD := hD0.self (sz := s.heap.size)
  generalize hAe : va_A [(ht, .inr (3, [.ref ht_stack, .ref ht_variables, .ref ht_kept, .int t_height, .int t_printed, .int t_done, .int t_limit]))] s.heap.size = A at hD ⊢
  have hA : ∀ q : Nat, s.heap.size ≤ q → A q := fun q h => by rw [← hAe]; exact Or.inr h
  have hS : va_S A s.heap s.heap [] := va_S.rf
  have f_28 := hts _ mt_1_133
  have hP : va_P D vwCl [(ht, .inr (3, [.ref ht_stack, .ref ht_variables, .ref ht_kept, .int t_height, .int t_printed, .int t_done, .int t_limit]))] s.heap := hP
  have hl := lv_entry ([.ref ht]) (n := 1) (Nat.le_of_ble_eq_true rfl)
  rw [lg_entry_eq]
  generalize (lg_sl ([.ref ht]) ++ List.replicate (1 - (lg_sl ([.ref ht])).length) Slot.unset).toArray = ls at hl ⊢
  have hl : lv_has ls 1 [(0, .ref ht)] := hl
  unfold g_Machine_done at h
  refine lv_aload_n hx hb d_Machine_done_0 rfl (lv_at hl 0 rfl) ?_
  refine va_get (D := D) (ci := 3) (v := .int t_done) (C := R_Machine) (T := F_Machine) (N := 7) hx hb hts u_Machine hown hK hP 0 rfl rfl 5 (by decide) f_28 (fun _ h9 => h9) rfl d_Machine_done_1 ?_
  cases h
  exact gr_i hx hb hr hlocks hK hP hD hS d_Machine_done_4
def K_Tree_depth (l : Launch) (D : va_G) (cI cC : ClassId) : Prop :=
  ∀ (ht ht_source ht_kinds ht_froms ht_marks ht_ends ht_parts ht_others ht_followers ht_begins : Nat) (t_size : Int32) (t_depth : Int32) (t_knot : Int32) (t_stands : Int32) (q : Int32), g_Tree_depth t_depth = some q → ∀ (sz : Nat), Met l y_Tree_depth w_Tree_depth ({ frames := 0, cells := 0, slots := 0, locals := 0 }) (va_Pc [.ref ht] (gB D (gT cI cC) [(ht, .inr (4, [.ref ht_source, .ref ht_kinds, .ref ht_froms, .ref ht_marks, .ref ht_ends, .ref ht_parts, .ref ht_others, .ref ht_followers, .ref ht_begins, .int t_size, .int t_depth, .int t_knot, .int t_stands]))] sz)) (gQi D (gT cI cC) q [(ht, .inr (4, [.ref ht_source, .ref ht_kinds, .ref ht_froms, .ref ht_marks, .ref ht_ends, .ref ht_parts, .ref ht_others, .ref ht_followers, .ref ht_begins, .int t_size, .int t_depth, .int t_knot, .int t_stands]))] (va_A [(ht, .inr (4, [.ref ht_source, .ref ht_kinds, .ref ht_froms, .ref ht_marks, .ref ht_ends, .ref ht_parts, .ref ht_others, .ref ht_followers, .ref ht_begins, .int t_size, .int t_depth, .int t_knot, .int t_stands]))] sz)) 0 0 (va_A [(ht, .inr (4, [.ref ht_source, .ref ht_kinds, .ref ht_froms, .ref ht_marks, .ref ht_ends, .ref ht_parts, .ref ht_others, .ref ht_followers, .ref ht_begins, .int t_size, .int t_depth, .int t_knot, .int t_stands]))] sz)
set_option maxHeartbeats 4000000 in
set_option maxRecDepth 100000 in
theorem c_Tree_depth (l : Launch) (D : va_G) (cI cC : ClassId) : K_Tree_depth l D cI cC := by
  intro ht ht_source ht_kinds ht_froms ht_marks ht_ends ht_parts ht_others ht_followers ht_begins t_size t_depth t_knot t_stands q h sz
  refine Met.ofW (cc := k_Tree_depth) (maxL := 1) (ret := (some .int)) (by decide) rfl ?_
  intro p e s m args below meth c s₁ B hml hv
  obtain ⟨rfl, hsz, hP, hK, hD0⟩ := hv
  have hx := B.exec
  have hb := B.bytes
  have hr := B.returns
  have hts : ∀ w ∈ lw_t, w.before ([.ref ht] : List Value).toArray s = true := fun w h => atoms_spec (ws := w_Tree_depth) B.pre w (List.mem_cons_of_mem _ h)
  have hown : s.vm.findClass R_Tree = some m.cls := findClass_of_methodNamed B.named
  have hlocks := B.notSynchronized
  subst hsz
  have hD := hD0.self (sz := s.heap.size)
  generalize hAe : va_A [(ht, .inr (4, [.ref ht_source, .ref ht_kinds, .ref ht_froms, .ref ht_marks, .ref ht_ends, .ref ht_parts, .ref ht_others, .ref ht_followers, .ref ht_begins, .int t_size, .int t_depth, .int t_knot, .int t_stands]))] s.heap.size = A at hD ⊢
  have hA : ∀ q : Nat, s.heap.size ≤ q → A q := fun q h => by rw [← hAe]; exact Or.inr h
  have hS : va_S A s.heap s.heap [] := va_S.rf
  have f_49 := hts _ mt_1_92
  have hP : va_P D vwCl [(ht, .inr (4, [.ref ht_source, .ref ht_kinds, .ref ht_froms, .ref ht_marks, .ref ht_ends, .ref ht_parts, .ref ht_others, .ref ht_followers, .ref ht_begins, .int t_size, .int t_depth, .int t_knot, .int t_stands]))] s.heap := hP
  have hl := lv_entry ([.ref ht]) (n := 1) (Nat.le_of_ble_eq_true rfl)
  rw [lg_entry_eq]
  generalize (lg_sl ([.ref ht]) ++ List.replicate (1 - (lg_sl ([.ref ht])).length) Slot.unset).toArray = ls at hl ⊢
  have hl : lv_has ls 1 [(0, .ref ht)] := hl
  unfold g_Tree_depth at h
  refine lv_aload_n hx hb d_Tree_depth_0 rfl (lv_at hl 0 rfl) ?_
  refine va_get (D := D) (ci := 4) (v := .int t_depth) (C := R_Tree) (T := F_Tree) (N := 13) hx hb hts u_Tree hown hK hP 0 rfl rfl 10 (by decide) f_49 (fun _ h9 => h9) rfl d_Tree_depth_1 ?_
  cases h
  exact gr_i hx hb hr hlocks hK hP hD hS d_Tree_depth_4
def K_Tree_size (l : Launch) (D : va_G) (cI cC : ClassId) : Prop :=
  ∀ (ht ht_source ht_kinds ht_froms ht_marks ht_ends ht_parts ht_others ht_followers ht_begins : Nat) (t_size : Int32) (t_depth : Int32) (t_knot : Int32) (t_stands : Int32) (q : Int32), g_Tree_size t_size = some q → ∀ (sz : Nat), Met l y_Tree_size w_Tree_size ({ frames := 0, cells := 0, slots := 0, locals := 0 }) (va_Pc [.ref ht] (gB D (gT cI cC) [(ht, .inr (4, [.ref ht_source, .ref ht_kinds, .ref ht_froms, .ref ht_marks, .ref ht_ends, .ref ht_parts, .ref ht_others, .ref ht_followers, .ref ht_begins, .int t_size, .int t_depth, .int t_knot, .int t_stands]))] sz)) (gQi D (gT cI cC) q [(ht, .inr (4, [.ref ht_source, .ref ht_kinds, .ref ht_froms, .ref ht_marks, .ref ht_ends, .ref ht_parts, .ref ht_others, .ref ht_followers, .ref ht_begins, .int t_size, .int t_depth, .int t_knot, .int t_stands]))] (va_A [(ht, .inr (4, [.ref ht_source, .ref ht_kinds, .ref ht_froms, .ref ht_marks, .ref ht_ends, .ref ht_parts, .ref ht_others, .ref ht_followers, .ref ht_begins, .int t_size, .int t_depth, .int t_knot, .int t_stands]))] sz)) 0 0 (va_A [(ht, .inr (4, [.ref ht_source, .ref ht_kinds, .ref ht_froms, .ref ht_marks, .ref ht_ends, .ref ht_parts, .ref ht_others, .ref ht_followers, .ref ht_begins, .int t_size, .int t_depth, .int t_knot, .int t_stands]))] sz)
set_option maxHeartbeats 4000000 in
set_option maxRecDepth 100000 in
theorem c_Tree_size (l : Launch) (D : va_G) (cI cC : ClassId) : K_Tree_size l D cI cC := by
  intro ht ht_source ht_kinds ht_froms ht_marks ht_ends ht_parts ht_others ht_followers ht_begins t_size t_depth t_knot t_stands q h sz
  refine Met.ofW (cc := k_Tree_size) (maxL := 1) (ret := (some .int)) (by decide) rfl ?_
  intro p e s m args below meth c s₁ B hml hv
  obtain ⟨rfl, hsz, hP, hK, hD0⟩ := hv
  have hx := B.exec
  have hb := B.bytes
  have hr := B.returns
  have hts : ∀ w ∈ lw_t, w.before ([.ref ht] : List Value).toArray s = true := fun w h => atoms_spec (ws := w_Tree_size) B.pre w (List.mem_cons_of_mem _ h)
  have hown : s.vm.findClass R_Tree = some m.cls := findClass_of_methodNamed B.named
  have hlocks := B.notSynchronized
  subst hsz
  have hD := hD0.self (sz := s.heap.size)
  generalize hAe : va_A [(ht, .inr (4, [.ref ht_source, .ref ht_kinds, .ref ht_froms, .ref ht_marks, .ref ht_ends, .ref ht_parts, .ref ht_others, .ref ht_followers, .ref ht_begins, .int t_size, .int t_depth, .int t_knot, .int t_stands]))] s.heap.size = A at hD ⊢
  have hA : ∀ q : Nat, s.heap.size ≤ q → A q := fun q h => by rw [← hAe]; exact Or.inr h
  have hS : va_S A s.heap s.heap [] := va_S.rf
  have f_45 := hts _ mt_1_91
  have hP : va_P D vwCl [(ht, .inr (4, [.ref ht_source, .ref ht_kinds, .ref ht_froms, .ref ht_marks, .ref ht_ends, .ref ht_parts, .ref ht_others, .ref ht_followers, .ref ht_begins, .int t_size, .int t_depth, .int t_knot, .int t_stands]))] s.heap := hP
  have hl := lv_entry ([.ref ht]) (n := 1) (Nat.le_of_ble_eq_true rfl)
  rw [lg_entry_eq]
  generalize (lg_sl ([.ref ht]) ++ List.replicate (1 - (lg_sl ([.ref ht])).length) Slot.unset).toArray = ls at hl ⊢
  have hl : lv_has ls 1 [(0, .ref ht)] := hl
  unfold g_Tree_size at h
  refine lv_aload_n hx hb d_Tree_size_0 rfl (lv_at hl 0 rfl) ?_
  refine va_get (D := D) (ci := 4) (v := .int t_size) (C := R_Tree) (T := F_Tree) (N := 13) hx hb hts u_Tree hown hK hP 0 rfl rfl 9 (by decide) f_45 (fun _ h9 => h9) rfl d_Tree_size_1 ?_
  cases h
  exact gr_i hx hb hr hlocks hK hP hD hS d_Tree_size_4
def K_Tree_sizeOf (l : Launch) (D : va_G) (cI cC : ClassId) : Prop :=
  ∀ (ht ht_source ht_kinds ht_froms ht_marks ht_ends ht_parts ht_others ht_followers ht_begins : Nat) (t_size : Int32) (t_depth : Int32) (t_knot : Int32) (t_stands : Int32) (t_kinds : Nat → Int32) (a1 : Int32) (q : Int32), g_Tree_sizeOf t_kinds t_size a1 = some q → ∀ (sz : Nat), Met l y_Tree_sizeOf w_Tree_sizeOf ({ frames := 0, cells := 0, slots := 0, locals := 0 }) (va_Pc [.ref ht, .int a1] (gB D (gT cI cC) [(ht, .inr (4, [.ref ht_source, .ref ht_kinds, .ref ht_froms, .ref ht_marks, .ref ht_ends, .ref ht_parts, .ref ht_others, .ref ht_followers, .ref ht_begins, .int t_size, .int t_depth, .int t_knot, .int t_stands])), (ht_kinds, .inl (cI, 15, .inl t_kinds))] sz)) (gQi D (gT cI cC) q [(ht, .inr (4, [.ref ht_source, .ref ht_kinds, .ref ht_froms, .ref ht_marks, .ref ht_ends, .ref ht_parts, .ref ht_others, .ref ht_followers, .ref ht_begins, .int t_size, .int t_depth, .int t_knot, .int t_stands])), (ht_kinds, .inl (cI, 15, .inl t_kinds))] (va_A [(ht, .inr (4, [.ref ht_source, .ref ht_kinds, .ref ht_froms, .ref ht_marks, .ref ht_ends, .ref ht_parts, .ref ht_others, .ref ht_followers, .ref ht_begins, .int t_size, .int t_depth, .int t_knot, .int t_stands])), (ht_kinds, .inl (cI, 15, .inl t_kinds))] sz)) 0 0 (va_A [(ht, .inr (4, [.ref ht_source, .ref ht_kinds, .ref ht_froms, .ref ht_marks, .ref ht_ends, .ref ht_parts, .ref ht_others, .ref ht_followers, .ref ht_begins, .int t_size, .int t_depth, .int t_knot, .int t_stands])), (ht_kinds, .inl (cI, 15, .inl t_kinds))] sz)
set_option maxHeartbeats 4000000 in
set_option maxRecDepth 100000 in
theorem c_Tree_sizeOf (l : Launch) (D : va_G) (cI cC : ClassId) : K_Tree_sizeOf l D cI cC := by
  intro ht ht_source ht_kinds ht_froms ht_marks ht_ends ht_parts ht_others ht_followers ht_begins t_size t_depth t_knot t_stands t_kinds a1 q h sz
  refine Met.ofW (cc := k_Tree_sizeOf) (maxL := 4) (ret := (some .int)) (by decide) rfl ?_
  intro p e s m args below meth c s₁ B hml hv
  obtain ⟨rfl, hsz, hP, hK, hD0⟩ := hv
  have hx := B.exec
  have hb := B.bytes
  have hr := B.returns
  have hts : ∀ w ∈ lw_t, w.before ([.ref ht, .int a1] : List Value).toArray s = true := fun w h => atoms_spec (ws := w_Tree_sizeOf) B.pre w (List.mem_cons_of_mem _ h)
  have hown : s.vm.findClass R_Tree = some m.cls := findClass_of_methodNamed B.named
  have hlocks := B.notSynchronized
  subst hsz
  have hD := hD0.self (sz := s.heap.size)
  generalize hAe : va_A [(ht, .inr (4, [.ref ht_source, .ref ht_kinds, .ref ht_froms, .ref ht_marks, .ref ht_ends, .ref ht_parts, .ref ht_others, .ref ht_followers, .ref ht_begins, .int t_size, .int t_depth, .int t_knot, .int t_stands])), (ht_kinds, .inl (cI, 15, .inl t_kinds))] s.heap.size = A at hD ⊢
  have hA : ∀ q : Nat, s.heap.size ≤ q → A q := fun q h => by rw [← hAe]; exact Or.inr h
  have hS : va_S A s.heap s.heap [] := va_S.rf
  have f_20 := hts _ mt_1_83
  have f_45 := hts _ mt_1_91
  have LP_4 : ∀ nn_4 : Nat, ∀ (v1 : Int32) (v2 : Int32) (v3 : Int32), b_Tree_sizeOf_4 t_kinds t_size nn_4 v1 v2 v3 = some q → gJ p l e (headSpec w_Tree_sizeOf ({ frames := 0, cells := 0, slots := 0, locals := 0 })).room s m ([.ref ht, .int a1] : List Value).toArray below meth c D A 4 (MQ below (gQi D (gT cI cC) q [(ht, .inr (4, [.ref ht_source, .ref ht_kinds, .ref ht_froms, .ref ht_marks, .ref ht_ends, .ref ht_parts, .ref ht_others, .ref ht_followers, .ref ht_begins, .int t_size, .int t_depth, .int t_knot, .int t_stands])), (ht_kinds, .inl (cI, 15, .inl t_kinds))] A) ([.ref ht, .int a1] : List Value).toArray s 0 0 A) 4 [(ht, .inr (4, [.ref ht_source, .ref ht_kinds, .ref ht_froms, .ref ht_marks, .ref ht_ends, .ref ht_parts, .ref ht_others, .ref ht_followers, .ref ht_begins, .int t_size, .int t_depth, .int t_knot, .int t_stands])), (ht_kinds, .inl (cI, 15, .inl t_kinds))] [(0, .ref ht), (1, .int v1), (2, .int v2), (3, .int v3)] [] := by
    intro nn_4
    induction nn_4 with
    | zero => intro v1 v2 v3 h; exact g_no h
    | succ nn_4 ih_4 =>
      intro v1 v2 v3 h H locs ls hP hD hS hl
      rw [b_Tree_sizeOf_4] at h
      refine lv_iload_n hx hb d_Tree_sizeOf_4 rfl (lv_at hl 3 rfl) ?_
      refine lv_aload_n hx hb d_Tree_sizeOf_5 rfl (lv_at hl 0 rfl) ?_
      refine va_get (D := D) (ci := 4) (v := .int t_size) (C := R_Tree) (T := F_Tree) (N := 13) hx hb hts u_Tree hown hK hP 0 rfl rfl 9 (by decide) f_45 (fun _ h9 => h9) rfl d_Tree_sizeOf_6 ?_
      refine lv_icmp_ge (tgt := 31) hx hb d_Tree_sizeOf_9 (by decide) (fun ec => ?_) (fun ec => ?_)
      · have h := g_t ec h
        refine lv_iload_n hx hb d_Tree_sizeOf_31 rfl (lv_at hl 2 rfl) ?_
        cases h
        exact gr_i hx hb hr hlocks hK hP hD hS d_Tree_sizeOf_32
      · have h := g_f ec h
        refine lv_aload_n hx hb d_Tree_sizeOf_12 rfl (lv_at hl 0 rfl) ?_
        refine va_get (D := D) (ci := 4) (v := .ref ht_kinds) (C := R_Tree) (T := F_Tree) (N := 13) hx hb hts u_Tree hown hK hP 0 rfl rfl 1 (by decide) f_20 (fun _ h9 => h9) rfl d_Tree_sizeOf_13 ?_
        refine lv_iload_n hx hb d_Tree_sizeOf_16 rfl (lv_at hl 3 rfl) ?_
        obtain ⟨hi, h⟩ := g_ck h
        refine va_iald hx hb hK hP 1 0 rfl rfl hi d_Tree_sizeOf_17 ?_
        refine lv_iload_n hx hb d_Tree_sizeOf_18 rfl (lv_at hl 1 rfl) ?_
        refine lv_icmp_ne (tgt := 25) hx hb d_Tree_sizeOf_19 (by decide) (fun ec => ?_) (fun ec => ?_)
        · have h := g_f ec h
          refine lv_iinc (v := v3 + (1 : Int32)) (lv' := [(3, .int (v3 + (1 : Int32))), (0, .ref ht), (1, .int v1), (2, .int v2)]) hx hb d_Tree_sizeOf_25 hl (k := 3) rfl rfl (by decide) rfl (fun ls hl => ?_)
          refine lv_goto (tgt := 4) hx hb d_Tree_sizeOf_28 (by decide) ?_
          exact ih_4 _ _ _ h _ _ _ hP hD hS (lv_sub hl [1, 2, 3, 0] rfl)
        · have h := g_t ec h
          refine lv_iinc (v := v2 + (1 : Int32)) (lv' := [(2, .int (v2 + (1 : Int32))), (0, .ref ht), (1, .int v1), (3, .int v3)]) hx hb d_Tree_sizeOf_22 hl (k := 2) rfl rfl (by decide) rfl (fun ls hl => ?_)
          refine lv_iinc (v := v3 + (1 : Int32)) (lv' := [(3, .int (v3 + (1 : Int32))), (2, .int (v2 + (1 : Int32))), (0, .ref ht), (1, .int v1)]) hx hb d_Tree_sizeOf_25 hl (k := 3) rfl rfl (by decide) rfl (fun ls hl => ?_)
          refine lv_goto (tgt := 4) hx hb d_Tree_sizeOf_28 (by decide) ?_
          exact ih_4 _ _ _ h _ _ _ hP hD hS (lv_sub hl [2, 3, 1, 0] rfl)
  have hP : va_P D vwCl [(ht, .inr (4, [.ref ht_source, .ref ht_kinds, .ref ht_froms, .ref ht_marks, .ref ht_ends, .ref ht_parts, .ref ht_others, .ref ht_followers, .ref ht_begins, .int t_size, .int t_depth, .int t_knot, .int t_stands])), (ht_kinds, .inl (cI, 15, .inl t_kinds))] s.heap := hP
  have hl := lv_entry ([.ref ht, .int a1]) (n := 4) (Nat.le_of_ble_eq_true rfl)
  rw [lg_entry_eq]
  generalize (lg_sl ([.ref ht, .int a1]) ++ List.replicate (4 - (lg_sl ([.ref ht, .int a1])).length) Slot.unset).toArray = ls at hl ⊢
  have hl : lv_has ls 4 [(0, .ref ht), (1, .int a1)] := hl
  unfold g_Tree_sizeOf at h
  refine lv_iconst (v := (0 : Int32)) hx hb d_Tree_sizeOf_0 (by decide) ?_
  refine lv_istore_n (lv' := [(2, .int (0 : Int32)), (0, .ref ht), (1, .int a1)]) hx hb d_Tree_sizeOf_1 rfl hl (by decide) rfl (fun ls hl => ?_)
  refine lv_iconst (v := (0 : Int32)) hx hb d_Tree_sizeOf_2 (by decide) ?_
  refine lv_istore_n (lv' := [(3, .int (0 : Int32)), (2, .int (0 : Int32)), (0, .ref ht), (1, .int a1)]) hx hb d_Tree_sizeOf_3 rfl hl (by decide) rfl (fun ls hl => ?_)
  exact LP_4 500 _ _ _ h _ _ _ hP hD hS (lv_sub hl [2, 3, 1, 0] rfl)
def K_S_count (l : Launch) (D : va_G) (cI cC : ClassId) : Prop :=
  ∀ (ht ht_listing ht_draft ht_written ht_tree ht_machine ht_listing_ops ht_listing_numbers ht_listing_heights ht_draft_row ht_draft_made ht_draft_row_row ht_written_row ht_tree_source ht_tree_kinds ht_tree_froms ht_tree_marks ht_tree_ends ht_tree_parts ht_tree_others ht_tree_followers ht_tree_begins ht_machine_stack ht_machine_variables ht_machine_kept : Nat) (t_trouble : Int32) (t_listing_size : Int32) (t_draft_at : Int32) (t_draft_row_size : Int32) (t_written_size : Int32) (t_tree_size : Int32) (t_tree_depth : Int32) (t_tree_knot : Int32) (t_tree_stands : Int32) (t_tree_kinds : Nat → Int32) (t_machine_height : Int32) (t_machine_printed : Int32) (t_machine_done : Int32) (t_machine_limit : Int32) (t_machine_variables : Nat → Int32) (a1 : Int32) (q : Int32), g_S_count t_listing_size t_draft_row_size t_written_size t_tree_kinds t_tree_size t_tree_depth t_machine_variables t_machine_printed t_machine_done a1 = some q → ∀ (sz : Nat), Met l y_S_count w_S_count ({ frames := 1, cells := 0, slots := 0, locals := 23 }) (va_Pc [.ref ht, .int a1] (gB D (gT cI cC) [(ht, .inr (5, [.ref ht_listing, .ref ht_draft, .ref ht_written, .ref ht_tree, .ref ht_machine, .int t_trouble])), (ht_listing, .inr (2, [.ref ht_listing_ops, .ref ht_listing_numbers, .ref ht_listing_heights, .int t_listing_size])), (ht_draft, .inr (1, [.ref ht_draft_row, .ref ht_draft_made, .int t_draft_at])), (ht_draft_row, .inr (0, [.ref ht_draft_row_row, .int t_draft_row_size])), (ht_written, .inr (0, [.ref ht_written_row, .int t_written_size])), (ht_tree, .inr (4, [.ref ht_tree_source, .ref ht_tree_kinds, .ref ht_tree_froms, .ref ht_tree_marks, .ref ht_tree_ends, .ref ht_tree_parts, .ref ht_tree_others, .ref ht_tree_followers, .ref ht_tree_begins, .int t_tree_size, .int t_tree_depth, .int t_tree_knot, .int t_tree_stands])), (ht_tree_kinds, .inl (cI, 15, .inl t_tree_kinds)), (ht_machine, .inr (3, [.ref ht_machine_stack, .ref ht_machine_variables, .ref ht_machine_kept, .int t_machine_height, .int t_machine_printed, .int t_machine_done, .int t_machine_limit])), (ht_machine_variables, .inl (cI, 6, .inl t_machine_variables))] sz)) (gQi D (gT cI cC) q [(ht, .inr (5, [.ref ht_listing, .ref ht_draft, .ref ht_written, .ref ht_tree, .ref ht_machine, .int t_trouble])), (ht_listing, .inr (2, [.ref ht_listing_ops, .ref ht_listing_numbers, .ref ht_listing_heights, .int t_listing_size])), (ht_draft, .inr (1, [.ref ht_draft_row, .ref ht_draft_made, .int t_draft_at])), (ht_draft_row, .inr (0, [.ref ht_draft_row_row, .int t_draft_row_size])), (ht_written, .inr (0, [.ref ht_written_row, .int t_written_size])), (ht_tree, .inr (4, [.ref ht_tree_source, .ref ht_tree_kinds, .ref ht_tree_froms, .ref ht_tree_marks, .ref ht_tree_ends, .ref ht_tree_parts, .ref ht_tree_others, .ref ht_tree_followers, .ref ht_tree_begins, .int t_tree_size, .int t_tree_depth, .int t_tree_knot, .int t_tree_stands])), (ht_tree_kinds, .inl (cI, 15, .inl t_tree_kinds)), (ht_machine, .inr (3, [.ref ht_machine_stack, .ref ht_machine_variables, .ref ht_machine_kept, .int t_machine_height, .int t_machine_printed, .int t_machine_done, .int t_machine_limit])), (ht_machine_variables, .inl (cI, 6, .inl t_machine_variables))] (va_A [(ht, .inr (5, [.ref ht_listing, .ref ht_draft, .ref ht_written, .ref ht_tree, .ref ht_machine, .int t_trouble])), (ht_listing, .inr (2, [.ref ht_listing_ops, .ref ht_listing_numbers, .ref ht_listing_heights, .int t_listing_size])), (ht_draft, .inr (1, [.ref ht_draft_row, .ref ht_draft_made, .int t_draft_at])), (ht_draft_row, .inr (0, [.ref ht_draft_row_row, .int t_draft_row_size])), (ht_written, .inr (0, [.ref ht_written_row, .int t_written_size])), (ht_tree, .inr (4, [.ref ht_tree_source, .ref ht_tree_kinds, .ref ht_tree_froms, .ref ht_tree_marks, .ref ht_tree_ends, .ref ht_tree_parts, .ref ht_tree_others, .ref ht_tree_followers, .ref ht_tree_begins, .int t_tree_size, .int t_tree_depth, .int t_tree_knot, .int t_tree_stands])), (ht_tree_kinds, .inl (cI, 15, .inl t_tree_kinds)), (ht_machine, .inr (3, [.ref ht_machine_stack, .ref ht_machine_variables, .ref ht_machine_kept, .int t_machine_height, .int t_machine_printed, .int t_machine_done, .int t_machine_limit])), (ht_machine_variables, .inl (cI, 6, .inl t_machine_variables))] sz)) 0 0 (va_A [(ht, .inr (5, [.ref ht_listing, .ref ht_draft, .ref ht_written, .ref ht_tree, .ref ht_machine, .int t_trouble])), (ht_listing, .inr (2, [.ref ht_listing_ops, .ref ht_listing_numbers, .ref ht_listing_heights, .int t_listing_size])), (ht_draft, .inr (1, [.ref ht_draft_row, .ref ht_draft_made, .int t_draft_at])), (ht_draft_row, .inr (0, [.ref ht_draft_row_row, .int t_draft_row_size])), (ht_written, .inr (0, [.ref ht_written_row, .int t_written_size])), (ht_tree, .inr (4, [.ref ht_tree_source, .ref ht_tree_kinds, .ref ht_tree_froms, .ref ht_tree_marks, .ref ht_tree_ends, .ref ht_tree_parts, .ref ht_tree_others, .ref ht_tree_followers, .ref ht_tree_begins, .int t_tree_size, .int t_tree_depth, .int t_tree_knot, .int t_tree_stands])), (ht_tree_kinds, .inl (cI, 15, .inl t_tree_kinds)), (ht_machine, .inr (3, [.ref ht_machine_stack, .ref ht_machine_variables, .ref ht_machine_kept, .int t_machine_height, .int t_machine_printed, .int t_machine_done, .int t_machine_limit])), (ht_machine_variables, .inl (cI, 6, .inl t_machine_variables))] sz)
set_option maxHeartbeats 4000000 in
set_option maxRecDepth 100000 in
theorem c_S_count (l : Launch) (D : va_G) (cI cC : ClassId) : K_S_count l D cI cC := by
  intro ht ht_listing ht_draft ht_written ht_tree ht_machine ht_listing_ops ht_listing_numbers ht_listing_heights ht_draft_row ht_draft_made ht_draft_row_row ht_written_row ht_tree_source ht_tree_kinds ht_tree_froms ht_tree_marks ht_tree_ends ht_tree_parts ht_tree_others ht_tree_followers ht_tree_begins ht_machine_stack ht_machine_variables ht_machine_kept t_trouble t_listing_size t_draft_at t_draft_row_size t_written_size t_tree_size t_tree_depth t_tree_knot t_tree_stands t_tree_kinds t_machine_height t_machine_printed t_machine_done t_machine_limit t_machine_variables a1 q h sz
  refine Met.ofW (cc := k_S_count) (maxL := 2) (ret := (some .int)) (by decide) rfl ?_
  intro p e s m args below meth c s₁ B hml hv
  obtain ⟨rfl, hsz, hP, hK, hD0⟩ := hv
  have hx := B.exec
  have hb := B.bytes
  have hr := B.returns
  have hts : ∀ w ∈ lw_t, w.before ([.ref ht, .int a1] : List Value).toArray s = true := fun w h => atoms_spec (ws := w_S_count) B.pre w (List.mem_cons_of_mem _ h)
  have hown : s.vm.findClass R_S = some m.cls := findClass_of_methodNamed B.named
  have hlocks := B.notSynchronized
  subst hsz
  have hD := hD0.self (sz := s.heap.size)
  generalize hAe : va_A [(ht, .inr (5, [.ref ht_listing, .ref ht_draft, .ref ht_written, .ref ht_tree, .ref ht_machine, .int t_trouble])), (ht_listing, .inr (2, [.ref ht_listing_ops, .ref ht_listing_numbers, .ref ht_listing_heights, .int t_listing_size])), (ht_draft, .inr (1, [.ref ht_draft_row, .ref ht_draft_made, .int t_draft_at])), (ht_draft_row, .inr (0, [.ref ht_draft_row_row, .int t_draft_row_size])), (ht_written, .inr (0, [.ref ht_written_row, .int t_written_size])), (ht_tree, .inr (4, [.ref ht_tree_source, .ref ht_tree_kinds, .ref ht_tree_froms, .ref ht_tree_marks, .ref ht_tree_ends, .ref ht_tree_parts, .ref ht_tree_others, .ref ht_tree_followers, .ref ht_tree_begins, .int t_tree_size, .int t_tree_depth, .int t_tree_knot, .int t_tree_stands])), (ht_tree_kinds, .inl (cI, 15, .inl t_tree_kinds)), (ht_machine, .inr (3, [.ref ht_machine_stack, .ref ht_machine_variables, .ref ht_machine_kept, .int t_machine_height, .int t_machine_printed, .int t_machine_done, .int t_machine_limit])), (ht_machine_variables, .inl (cI, 6, .inl t_machine_variables))] s.heap.size = A at hD ⊢
  have hA : ∀ q : Nat, s.heap.size ≤ q → A q := fun q h => by rw [← hAe]; exact Or.inr h
  have hS : va_S A s.heap s.heap [] := va_S.rf
  have f_14 := hts _ mt_1_150
  have f_21 := hts _ mt_1_151
  have f_28 := hts _ mt_1_152
  have f_35 := hts _ mt_1_153
  have f_42 := hts _ mt_1_154
  have hP : va_P D vwCl [(ht, .inr (5, [.ref ht_listing, .ref ht_draft, .ref ht_written, .ref ht_tree, .ref ht_machine, .int t_trouble])), (ht_listing, .inr (2, [.ref ht_listing_ops, .ref ht_listing_numbers, .ref ht_listing_heights, .int t_listing_size])), (ht_draft, .inr (1, [.ref ht_draft_row, .ref ht_draft_made, .int t_draft_at])), (ht_draft_row, .inr (0, [.ref ht_draft_row_row, .int t_draft_row_size])), (ht_written, .inr (0, [.ref ht_written_row, .int t_written_size])), (ht_tree, .inr (4, [.ref ht_tree_source, .ref ht_tree_kinds, .ref ht_tree_froms, .ref ht_tree_marks, .ref ht_tree_ends, .ref ht_tree_parts, .ref ht_tree_others, .ref ht_tree_followers, .ref ht_tree_begins, .int t_tree_size, .int t_tree_depth, .int t_tree_knot, .int t_tree_stands])), (ht_tree_kinds, .inl (cI, 15, .inl t_tree_kinds)), (ht_machine, .inr (3, [.ref ht_machine_stack, .ref ht_machine_variables, .ref ht_machine_kept, .int t_machine_height, .int t_machine_printed, .int t_machine_done, .int t_machine_limit])), (ht_machine_variables, .inl (cI, 6, .inl t_machine_variables))] s.heap := hP
  have hl := lv_entry ([.ref ht, .int a1]) (n := 2) (Nat.le_of_ble_eq_true rfl)
  rw [lg_entry_eq]
  generalize (lg_sl ([.ref ht, .int a1]) ++ List.replicate (2 - (lg_sl ([.ref ht, .int a1])).length) Slot.unset).toArray = ls at hl ⊢
  have hl : lv_has ls 2 [(0, .ref ht), (1, .int a1)] := hl
  unfold g_S_count at h
  refine lv_iload_n hx hb d_S_count_0 rfl (lv_at hl 1 rfl) ?_
  by_cases e_0 : a1 = (0 : Int32)
  · have h := g_t e_0 h
    have ei : (a1).toInt = 0 := by rw [e_0]; decide
    refine lv_tableIn (tgt := 56) (off := 55) hx hb d_S_count_1 (by rw [ei]; decide) (by rw [ei]; decide) (by rw [ei]; rfl) (by decide) ?_
    refine lv_aload_n hx hb d_S_count_56 rfl (lv_at hl 0 rfl) ?_
    refine va_get (D := D) (ci := 5) (v := .ref ht_listing) (C := R_S) (T := F_S) (N := 6) hx hb hts u_S hown hK hP 0 rfl rfl 0 (by decide) f_14 (fun _ h9 => h9) rfl d_S_count_57 ?_
    obtain ⟨q1, hc, h⟩ := g_bd h
    refine gk_i (va_runV (As := []) (rest := []) ⟨hx, hb, hml, hown, hts⟩ (c_Listing_size l D cI cC ht_listing ht_listing_ops ht_listing_numbers ht_listing_heights t_listing_size q1 hc _) (cwV 0 hts (gG_V mt_1_194 mt_1_195 mt_1_196 mt_1_2 mt_1_197) rfl rfl rfl (by decide +kernel) ⟨Nat.le_of_ble_eq_true rfl, Nat.le_of_ble_eq_true rfl⟩) (gpV hK hP hD [1] rfl (by decide) (ci := 2) 1 rfl rfl) rfl rfl hl.1 rfl (lv_room (Nat.le_of_ble_eq_true rfl)) d_S_count_60 ⟨Nat.zero_le _, Nat.zero_le _⟩) hK hP hD hS hA [1] rfl (by decide) rfl rfl (fun H locs (hP : va_P D vwCl [(ht, .inr (5, [.ref ht_listing, .ref ht_draft, .ref ht_written, .ref ht_tree, .ref ht_machine, .int t_trouble])), (ht_listing, .inr (2, [.ref ht_listing_ops, .ref ht_listing_numbers, .ref ht_listing_heights, .int t_listing_size])), (ht_draft, .inr (1, [.ref ht_draft_row, .ref ht_draft_made, .int t_draft_at])), (ht_draft_row, .inr (0, [.ref ht_draft_row_row, .int t_draft_row_size])), (ht_written, .inr (0, [.ref ht_written_row, .int t_written_size])), (ht_tree, .inr (4, [.ref ht_tree_source, .ref ht_tree_kinds, .ref ht_tree_froms, .ref ht_tree_marks, .ref ht_tree_ends, .ref ht_tree_parts, .ref ht_tree_others, .ref ht_tree_followers, .ref ht_tree_begins, .int t_tree_size, .int t_tree_depth, .int t_tree_knot, .int t_tree_stands])), (ht_tree_kinds, .inl (cI, 15, .inl t_tree_kinds)), (ht_machine, .inr (3, [.ref ht_machine_stack, .ref ht_machine_variables, .ref ht_machine_kept, .int t_machine_height, .int t_machine_printed, .int t_machine_done, .int t_machine_limit])), (ht_machine_variables, .inl (cI, 6, .inl t_machine_variables))] H) (hD : va_D A [(ht, .inr (5, [.ref ht_listing, .ref ht_draft, .ref ht_written, .ref ht_tree, .ref ht_machine, .int t_trouble])), (ht_listing, .inr (2, [.ref ht_listing_ops, .ref ht_listing_numbers, .ref ht_listing_heights, .int t_listing_size])), (ht_draft, .inr (1, [.ref ht_draft_row, .ref ht_draft_made, .int t_draft_at])), (ht_draft_row, .inr (0, [.ref ht_draft_row_row, .int t_draft_row_size])), (ht_written, .inr (0, [.ref ht_written_row, .int t_written_size])), (ht_tree, .inr (4, [.ref ht_tree_source, .ref ht_tree_kinds, .ref ht_tree_froms, .ref ht_tree_marks, .ref ht_tree_ends, .ref ht_tree_parts, .ref ht_tree_others, .ref ht_tree_followers, .ref ht_tree_begins, .int t_tree_size, .int t_tree_depth, .int t_tree_knot, .int t_tree_stands])), (ht_tree_kinds, .inl (cI, 15, .inl t_tree_kinds)), (ht_machine, .inr (3, [.ref ht_machine_stack, .ref ht_machine_variables, .ref ht_machine_kept, .int t_machine_height, .int t_machine_printed, .int t_machine_done, .int t_machine_limit])), (ht_machine_variables, .inl (cI, 6, .inl t_machine_variables))]) hS => ?_)
    cases h
    exact gr_i hx hb hr hlocks hK hP hD hS d_S_count_63
  · have h := g_f e_0 h
    have n_0 := lv_neT (a := 0) e_0 (by decide)
    by_cases e_1 : a1 = (1 : Int32)
    · have h := g_t e_1 h
      have ei : (a1).toInt = 1 := by rw [e_1]; decide
      refine lv_tableIn (tgt := 64) (off := 63) hx hb d_S_count_1 (by rw [ei]; decide) (by rw [ei]; decide) (by rw [ei]; rfl) (by decide) ?_
      refine lv_aload_n hx hb d_S_count_64 rfl (lv_at hl 0 rfl) ?_
      refine va_get (D := D) (ci := 5) (v := .ref ht_draft) (C := R_S) (T := F_S) (N := 6) hx hb hts u_S hown hK hP 0 rfl rfl 1 (by decide) f_21 (fun _ h9 => h9) rfl d_S_count_65 ?_
      refine gk_r (va_runV (As := []) (rest := []) ⟨hx, hb, hml, hown, hts⟩ (c_Draft_row l D cI cC ht_draft ht_draft_row ht_draft_made t_draft_at _) (cwV 0 hts (gG_V mt_1_212 mt_1_213 mt_1_214 mt_1_3 mt_1_215) rfl rfl rfl (by decide +kernel) ⟨Nat.le_of_ble_eq_true rfl, Nat.le_of_ble_eq_true rfl⟩) (gpV hK hP hD [2] rfl (by decide) (ci := 1) 2 rfl rfl) rfl rfl hl.1 rfl (lv_room (Nat.le_of_ble_eq_true rfl)) d_S_count_68 ⟨Nat.zero_le _, Nat.zero_le _⟩) hK hP hD hS hA [2] rfl (by decide) rfl rfl (fun H locs (hP : va_P D vwCl [(ht, .inr (5, [.ref ht_listing, .ref ht_draft, .ref ht_written, .ref ht_tree, .ref ht_machine, .int t_trouble])), (ht_listing, .inr (2, [.ref ht_listing_ops, .ref ht_listing_numbers, .ref ht_listing_heights, .int t_listing_size])), (ht_draft, .inr (1, [.ref ht_draft_row, .ref ht_draft_made, .int t_draft_at])), (ht_draft_row, .inr (0, [.ref ht_draft_row_row, .int t_draft_row_size])), (ht_written, .inr (0, [.ref ht_written_row, .int t_written_size])), (ht_tree, .inr (4, [.ref ht_tree_source, .ref ht_tree_kinds, .ref ht_tree_froms, .ref ht_tree_marks, .ref ht_tree_ends, .ref ht_tree_parts, .ref ht_tree_others, .ref ht_tree_followers, .ref ht_tree_begins, .int t_tree_size, .int t_tree_depth, .int t_tree_knot, .int t_tree_stands])), (ht_tree_kinds, .inl (cI, 15, .inl t_tree_kinds)), (ht_machine, .inr (3, [.ref ht_machine_stack, .ref ht_machine_variables, .ref ht_machine_kept, .int t_machine_height, .int t_machine_printed, .int t_machine_done, .int t_machine_limit])), (ht_machine_variables, .inl (cI, 6, .inl t_machine_variables))] H) (hD : va_D A [(ht, .inr (5, [.ref ht_listing, .ref ht_draft, .ref ht_written, .ref ht_tree, .ref ht_machine, .int t_trouble])), (ht_listing, .inr (2, [.ref ht_listing_ops, .ref ht_listing_numbers, .ref ht_listing_heights, .int t_listing_size])), (ht_draft, .inr (1, [.ref ht_draft_row, .ref ht_draft_made, .int t_draft_at])), (ht_draft_row, .inr (0, [.ref ht_draft_row_row, .int t_draft_row_size])), (ht_written, .inr (0, [.ref ht_written_row, .int t_written_size])), (ht_tree, .inr (4, [.ref ht_tree_source, .ref ht_tree_kinds, .ref ht_tree_froms, .ref ht_tree_marks, .ref ht_tree_ends, .ref ht_tree_parts, .ref ht_tree_others, .ref ht_tree_followers, .ref ht_tree_begins, .int t_tree_size, .int t_tree_depth, .int t_tree_knot, .int t_tree_stands])), (ht_tree_kinds, .inl (cI, 15, .inl t_tree_kinds)), (ht_machine, .inr (3, [.ref ht_machine_stack, .ref ht_machine_variables, .ref ht_machine_kept, .int t_machine_height, .int t_machine_printed, .int t_machine_done, .int t_machine_limit])), (ht_machine_variables, .inl (cI, 6, .inl t_machine_variables))]) hS => ?_)
      obtain ⟨q3, hc, h⟩ := g_bd h
      refine gk_i (va_runV (As := []) (rest := []) ⟨hx, hb, hml, hown, hts⟩ (c_Characters_size l D cI cC ht_draft_row ht_draft_row_row t_draft_row_size q3 hc _) (cwV 0 hts (gG_V mt_1_216 mt_1_217 mt_1_218 mt_1_4 mt_1_219) rfl rfl rfl (by decide +kernel) ⟨Nat.le_of_ble_eq_true rfl, Nat.le_of_ble_eq_true rfl⟩) (gpV hK hP hD [3] rfl (by decide) (ci := 0) 3 rfl rfl) rfl rfl hl.1 rfl (lv_room (Nat.le_of_ble_eq_true rfl)) d_S_count_71 ⟨Nat.zero_le _, Nat.zero_le _⟩) hK hP hD hS hA [3] rfl (by decide) rfl rfl (fun H locs (hP : va_P D vwCl [(ht, .inr (5, [.ref ht_listing, .ref ht_draft, .ref ht_written, .ref ht_tree, .ref ht_machine, .int t_trouble])), (ht_listing, .inr (2, [.ref ht_listing_ops, .ref ht_listing_numbers, .ref ht_listing_heights, .int t_listing_size])), (ht_draft, .inr (1, [.ref ht_draft_row, .ref ht_draft_made, .int t_draft_at])), (ht_draft_row, .inr (0, [.ref ht_draft_row_row, .int t_draft_row_size])), (ht_written, .inr (0, [.ref ht_written_row, .int t_written_size])), (ht_tree, .inr (4, [.ref ht_tree_source, .ref ht_tree_kinds, .ref ht_tree_froms, .ref ht_tree_marks, .ref ht_tree_ends, .ref ht_tree_parts, .ref ht_tree_others, .ref ht_tree_followers, .ref ht_tree_begins, .int t_tree_size, .int t_tree_depth, .int t_tree_knot, .int t_tree_stands])), (ht_tree_kinds, .inl (cI, 15, .inl t_tree_kinds)), (ht_machine, .inr (3, [.ref ht_machine_stack, .ref ht_machine_variables, .ref ht_machine_kept, .int t_machine_height, .int t_machine_printed, .int t_machine_done, .int t_machine_limit])), (ht_machine_variables, .inl (cI, 6, .inl t_machine_variables))] H) (hD : va_D A [(ht, .inr (5, [.ref ht_listing, .ref ht_draft, .ref ht_written, .ref ht_tree, .ref ht_machine, .int t_trouble])), (ht_listing, .inr (2, [.ref ht_listing_ops, .ref ht_listing_numbers, .ref ht_listing_heights, .int t_listing_size])), (ht_draft, .inr (1, [.ref ht_draft_row, .ref ht_draft_made, .int t_draft_at])), (ht_draft_row, .inr (0, [.ref ht_draft_row_row, .int t_draft_row_size])), (ht_written, .inr (0, [.ref ht_written_row, .int t_written_size])), (ht_tree, .inr (4, [.ref ht_tree_source, .ref ht_tree_kinds, .ref ht_tree_froms, .ref ht_tree_marks, .ref ht_tree_ends, .ref ht_tree_parts, .ref ht_tree_others, .ref ht_tree_followers, .ref ht_tree_begins, .int t_tree_size, .int t_tree_depth, .int t_tree_knot, .int t_tree_stands])), (ht_tree_kinds, .inl (cI, 15, .inl t_tree_kinds)), (ht_machine, .inr (3, [.ref ht_machine_stack, .ref ht_machine_variables, .ref ht_machine_kept, .int t_machine_height, .int t_machine_printed, .int t_machine_done, .int t_machine_limit])), (ht_machine_variables, .inl (cI, 6, .inl t_machine_variables))]) hS => ?_)
      cases h
      exact gr_i hx hb hr hlocks hK hP hD hS d_S_count_74
    · have h := g_f e_1 h
      have n_1 := lv_neT (a := 1) e_1 (by decide)
      by_cases e_2 : a1 = (2 : Int32)
      · have h := g_t e_2 h
        have ei : (a1).toInt = 2 := by rw [e_2]; decide
        refine lv_tableIn (tgt := 75) (off := 74) hx hb d_S_count_1 (by rw [ei]; decide) (by rw [ei]; decide) (by rw [ei]; rfl) (by decide) ?_
        refine lv_aload_n hx hb d_S_count_75 rfl (lv_at hl 0 rfl) ?_
        refine va_get (D := D) (ci := 5) (v := .ref ht_written) (C := R_S) (T := F_S) (N := 6) hx hb hts u_S hown hK hP 0 rfl rfl 2 (by decide) f_28 (fun _ h9 => h9) rfl d_S_count_76 ?_
        obtain ⟨q4, hc, h⟩ := g_bd h
        refine gk_i (va_runV (As := []) (rest := []) ⟨hx, hb, hml, hown, hts⟩ (c_Characters_size l D cI cC ht_written ht_written_row t_written_size q4 hc _) (cwV 0 hts (gG_V mt_1_216 mt_1_217 mt_1_218 mt_1_4 mt_1_219) rfl rfl rfl (by decide +kernel) ⟨Nat.le_of_ble_eq_true rfl, Nat.le_of_ble_eq_true rfl⟩) (gpV hK hP hD [4] rfl (by decide) (ci := 0) 4 rfl rfl) rfl rfl hl.1 rfl (lv_room (Nat.le_of_ble_eq_true rfl)) d_S_count_79 ⟨Nat.zero_le _, Nat.zero_le _⟩) hK hP hD hS hA [4] rfl (by decide) rfl rfl (fun H locs (hP : va_P D vwCl [(ht, .inr (5, [.ref ht_listing, .ref ht_draft, .ref ht_written, .ref ht_tree, .ref ht_machine, .int t_trouble])), (ht_listing, .inr (2, [.ref ht_listing_ops, .ref ht_listing_numbers, .ref ht_listing_heights, .int t_listing_size])), (ht_draft, .inr (1, [.ref ht_draft_row, .ref ht_draft_made, .int t_draft_at])), (ht_draft_row, .inr (0, [.ref ht_draft_row_row, .int t_draft_row_size])), (ht_written, .inr (0, [.ref ht_written_row, .int t_written_size])), (ht_tree, .inr (4, [.ref ht_tree_source, .ref ht_tree_kinds, .ref ht_tree_froms, .ref ht_tree_marks, .ref ht_tree_ends, .ref ht_tree_parts, .ref ht_tree_others, .ref ht_tree_followers, .ref ht_tree_begins, .int t_tree_size, .int t_tree_depth, .int t_tree_knot, .int t_tree_stands])), (ht_tree_kinds, .inl (cI, 15, .inl t_tree_kinds)), (ht_machine, .inr (3, [.ref ht_machine_stack, .ref ht_machine_variables, .ref ht_machine_kept, .int t_machine_height, .int t_machine_printed, .int t_machine_done, .int t_machine_limit])), (ht_machine_variables, .inl (cI, 6, .inl t_machine_variables))] H) (hD : va_D A [(ht, .inr (5, [.ref ht_listing, .ref ht_draft, .ref ht_written, .ref ht_tree, .ref ht_machine, .int t_trouble])), (ht_listing, .inr (2, [.ref ht_listing_ops, .ref ht_listing_numbers, .ref ht_listing_heights, .int t_listing_size])), (ht_draft, .inr (1, [.ref ht_draft_row, .ref ht_draft_made, .int t_draft_at])), (ht_draft_row, .inr (0, [.ref ht_draft_row_row, .int t_draft_row_size])), (ht_written, .inr (0, [.ref ht_written_row, .int t_written_size])), (ht_tree, .inr (4, [.ref ht_tree_source, .ref ht_tree_kinds, .ref ht_tree_froms, .ref ht_tree_marks, .ref ht_tree_ends, .ref ht_tree_parts, .ref ht_tree_others, .ref ht_tree_followers, .ref ht_tree_begins, .int t_tree_size, .int t_tree_depth, .int t_tree_knot, .int t_tree_stands])), (ht_tree_kinds, .inl (cI, 15, .inl t_tree_kinds)), (ht_machine, .inr (3, [.ref ht_machine_stack, .ref ht_machine_variables, .ref ht_machine_kept, .int t_machine_height, .int t_machine_printed, .int t_machine_done, .int t_machine_limit])), (ht_machine_variables, .inl (cI, 6, .inl t_machine_variables))]) hS => ?_)
        cases h
        exact gr_i hx hb hr hlocks hK hP hD hS d_S_count_82
      · have h := g_f e_2 h
        have n_2 := lv_neT (a := 2) e_2 (by decide)
        by_cases e_3 : a1 = (3 : Int32)
        · have h := g_t e_3 h
          have ei : (a1).toInt = 3 := by rw [e_3]; decide
          refine lv_tableIn (tgt := 83) (off := 82) hx hb d_S_count_1 (by rw [ei]; decide) (by rw [ei]; decide) (by rw [ei]; rfl) (by decide) ?_
          refine lv_aload_n hx hb d_S_count_83 rfl (lv_at hl 0 rfl) ?_
          refine va_get (D := D) (ci := 5) (v := .ref ht_machine) (C := R_S) (T := F_S) (N := 6) hx hb hts u_S hown hK hP 0 rfl rfl 4 (by decide) f_42 (fun _ h9 => h9) rfl d_S_count_84 ?_
          obtain ⟨q5, hc, h⟩ := g_bd h
          refine gk_i (va_runV (As := []) (rest := []) ⟨hx, hb, hml, hown, hts⟩ (c_Machine_printed l D cI cC ht_machine ht_machine_stack ht_machine_variables ht_machine_kept t_machine_height t_machine_printed t_machine_done t_machine_limit q5 hc _) (cwV 0 hts (gG_V mt_3_66 mt_3_67 mt_3_68 mt_1_6 mt_3_69) rfl rfl rfl (by decide +kernel) ⟨Nat.le_of_ble_eq_true rfl, Nat.le_of_ble_eq_true rfl⟩) (gpV hK hP hD [7] rfl (by decide) (ci := 3) 7 rfl rfl) rfl rfl hl.1 rfl (lv_room (Nat.le_of_ble_eq_true rfl)) d_S_count_87 ⟨Nat.zero_le _, Nat.zero_le _⟩) hK hP hD hS hA [7] rfl (by decide) rfl rfl (fun H locs (hP : va_P D vwCl [(ht, .inr (5, [.ref ht_listing, .ref ht_draft, .ref ht_written, .ref ht_tree, .ref ht_machine, .int t_trouble])), (ht_listing, .inr (2, [.ref ht_listing_ops, .ref ht_listing_numbers, .ref ht_listing_heights, .int t_listing_size])), (ht_draft, .inr (1, [.ref ht_draft_row, .ref ht_draft_made, .int t_draft_at])), (ht_draft_row, .inr (0, [.ref ht_draft_row_row, .int t_draft_row_size])), (ht_written, .inr (0, [.ref ht_written_row, .int t_written_size])), (ht_tree, .inr (4, [.ref ht_tree_source, .ref ht_tree_kinds, .ref ht_tree_froms, .ref ht_tree_marks, .ref ht_tree_ends, .ref ht_tree_parts, .ref ht_tree_others, .ref ht_tree_followers, .ref ht_tree_begins, .int t_tree_size, .int t_tree_depth, .int t_tree_knot, .int t_tree_stands])), (ht_tree_kinds, .inl (cI, 15, .inl t_tree_kinds)), (ht_machine, .inr (3, [.ref ht_machine_stack, .ref ht_machine_variables, .ref ht_machine_kept, .int t_machine_height, .int t_machine_printed, .int t_machine_done, .int t_machine_limit])), (ht_machine_variables, .inl (cI, 6, .inl t_machine_variables))] H) (hD : va_D A [(ht, .inr (5, [.ref ht_listing, .ref ht_draft, .ref ht_written, .ref ht_tree, .ref ht_machine, .int t_trouble])), (ht_listing, .inr (2, [.ref ht_listing_ops, .ref ht_listing_numbers, .ref ht_listing_heights, .int t_listing_size])), (ht_draft, .inr (1, [.ref ht_draft_row, .ref ht_draft_made, .int t_draft_at])), (ht_draft_row, .inr (0, [.ref ht_draft_row_row, .int t_draft_row_size])), (ht_written, .inr (0, [.ref ht_written_row, .int t_written_size])), (ht_tree, .inr (4, [.ref ht_tree_source, .ref ht_tree_kinds, .ref ht_tree_froms, .ref ht_tree_marks, .ref ht_tree_ends, .ref ht_tree_parts, .ref ht_tree_others, .ref ht_tree_followers, .ref ht_tree_begins, .int t_tree_size, .int t_tree_depth, .int t_tree_knot, .int t_tree_stands])), (ht_tree_kinds, .inl (cI, 15, .inl t_tree_kinds)), (ht_machine, .inr (3, [.ref ht_machine_stack, .ref ht_machine_variables, .ref ht_machine_kept, .int t_machine_height, .int t_machine_printed, .int t_machine_done, .int t_machine_limit])), (ht_machine_variables, .inl (cI, 6, .inl t_machine_variables))]) hS => ?_)
          cases h
          exact gr_i hx hb hr hlocks hK hP hD hS d_S_count_90
        · have h := g_f e_3 h
          have n_3 := lv_neT (a := 3) e_3 (by decide)
          by_cases e_4 : a1 = (4 : Int32)
          · have h := g_t e_4 h
            have ei : (a1).toInt = 4 := by rw [e_4]; decide
            refine lv_tableIn (tgt := 91) (off := 90) hx hb d_S_count_1 (by rw [ei]; decide) (by rw [ei]; decide) (by rw [ei]; rfl) (by decide) ?_
            refine lv_aload_n hx hb d_S_count_91 rfl (lv_at hl 0 rfl) ?_
            refine va_get (D := D) (ci := 5) (v := .ref ht_machine) (C := R_S) (T := F_S) (N := 6) hx hb hts u_S hown hK hP 0 rfl rfl 4 (by decide) f_42 (fun _ h9 => h9) rfl d_S_count_92 ?_
            obtain ⟨q6, hc, h⟩ := g_bd h
            refine gk_i (va_runV (As := []) (rest := []) ⟨hx, hb, hml, hown, hts⟩ (c_Machine_done l D cI cC ht_machine ht_machine_stack ht_machine_variables ht_machine_kept t_machine_height t_machine_printed t_machine_done t_machine_limit q6 hc _) (cwV 0 hts (gG_V mt_3_125 mt_3_126 mt_3_127 mt_1_6 mt_3_128) rfl rfl rfl (by decide +kernel) ⟨Nat.le_of_ble_eq_true rfl, Nat.le_of_ble_eq_true rfl⟩) (gpV hK hP hD [7] rfl (by decide) (ci := 3) 7 rfl rfl) rfl rfl hl.1 rfl (lv_room (Nat.le_of_ble_eq_true rfl)) d_S_count_95 ⟨Nat.zero_le _, Nat.zero_le _⟩) hK hP hD hS hA [7] rfl (by decide) rfl rfl (fun H locs (hP : va_P D vwCl [(ht, .inr (5, [.ref ht_listing, .ref ht_draft, .ref ht_written, .ref ht_tree, .ref ht_machine, .int t_trouble])), (ht_listing, .inr (2, [.ref ht_listing_ops, .ref ht_listing_numbers, .ref ht_listing_heights, .int t_listing_size])), (ht_draft, .inr (1, [.ref ht_draft_row, .ref ht_draft_made, .int t_draft_at])), (ht_draft_row, .inr (0, [.ref ht_draft_row_row, .int t_draft_row_size])), (ht_written, .inr (0, [.ref ht_written_row, .int t_written_size])), (ht_tree, .inr (4, [.ref ht_tree_source, .ref ht_tree_kinds, .ref ht_tree_froms, .ref ht_tree_marks, .ref ht_tree_ends, .ref ht_tree_parts, .ref ht_tree_others, .ref ht_tree_followers, .ref ht_tree_begins, .int t_tree_size, .int t_tree_depth, .int t_tree_knot, .int t_tree_stands])), (ht_tree_kinds, .inl (cI, 15, .inl t_tree_kinds)), (ht_machine, .inr (3, [.ref ht_machine_stack, .ref ht_machine_variables, .ref ht_machine_kept, .int t_machine_height, .int t_machine_printed, .int t_machine_done, .int t_machine_limit])), (ht_machine_variables, .inl (cI, 6, .inl t_machine_variables))] H) (hD : va_D A [(ht, .inr (5, [.ref ht_listing, .ref ht_draft, .ref ht_written, .ref ht_tree, .ref ht_machine, .int t_trouble])), (ht_listing, .inr (2, [.ref ht_listing_ops, .ref ht_listing_numbers, .ref ht_listing_heights, .int t_listing_size])), (ht_draft, .inr (1, [.ref ht_draft_row, .ref ht_draft_made, .int t_draft_at])), (ht_draft_row, .inr (0, [.ref ht_draft_row_row, .int t_draft_row_size])), (ht_written, .inr (0, [.ref ht_written_row, .int t_written_size])), (ht_tree, .inr (4, [.ref ht_tree_source, .ref ht_tree_kinds, .ref ht_tree_froms, .ref ht_tree_marks, .ref ht_tree_ends, .ref ht_tree_parts, .ref ht_tree_others, .ref ht_tree_followers, .ref ht_tree_begins, .int t_tree_size, .int t_tree_depth, .int t_tree_knot, .int t_tree_stands])), (ht_tree_kinds, .inl (cI, 15, .inl t_tree_kinds)), (ht_machine, .inr (3, [.ref ht_machine_stack, .ref ht_machine_variables, .ref ht_machine_kept, .int t_machine_height, .int t_machine_printed, .int t_machine_done, .int t_machine_limit])), (ht_machine_variables, .inl (cI, 6, .inl t_machine_variables))]) hS => ?_)
            cases h
            exact gr_i hx hb hr hlocks hK hP hD hS d_S_count_98
          · have h := g_f e_4 h
            have n_4 := lv_neT (a := 4) e_4 (by decide)
            by_cases e_5 : a1 = (5 : Int32)
            · have h := g_t e_5 h
              have ei : (a1).toInt = 5 := by rw [e_5]; decide
              refine lv_tableIn (tgt := 99) (off := 98) hx hb d_S_count_1 (by rw [ei]; decide) (by rw [ei]; decide) (by rw [ei]; rfl) (by decide) ?_
              refine lv_aload_n hx hb d_S_count_99 rfl (lv_at hl 0 rfl) ?_
              refine va_get (D := D) (ci := 5) (v := .ref ht_tree) (C := R_S) (T := F_S) (N := 6) hx hb hts u_S hown hK hP 0 rfl rfl 3 (by decide) f_35 (fun _ h9 => h9) rfl d_S_count_100 ?_
              obtain ⟨q7, hc, h⟩ := g_bd h
              refine gk_i (va_runV (As := []) (rest := []) ⟨hx, hb, hml, hown, hts⟩ (c_Tree_size l D cI cC ht_tree ht_tree_source ht_tree_kinds ht_tree_froms ht_tree_marks ht_tree_ends ht_tree_parts ht_tree_others ht_tree_followers ht_tree_begins t_tree_size t_tree_depth t_tree_knot t_tree_stands q7 hc _) (cwV 0 hts (gG_V mt_3_129 mt_3_130 mt_3_131 mt_1_5 mt_3_132) rfl rfl rfl (by decide +kernel) ⟨Nat.le_of_ble_eq_true rfl, Nat.le_of_ble_eq_true rfl⟩) (gpV hK hP hD [5] rfl (by decide) (ci := 4) 5 rfl rfl) rfl rfl hl.1 rfl (lv_room (Nat.le_of_ble_eq_true rfl)) d_S_count_103 ⟨Nat.zero_le _, Nat.zero_le _⟩) hK hP hD hS hA [5] rfl (by decide) rfl rfl (fun H locs (hP : va_P D vwCl [(ht, .inr (5, [.ref ht_listing, .ref ht_draft, .ref ht_written, .ref ht_tree, .ref ht_machine, .int t_trouble])), (ht_listing, .inr (2, [.ref ht_listing_ops, .ref ht_listing_numbers, .ref ht_listing_heights, .int t_listing_size])), (ht_draft, .inr (1, [.ref ht_draft_row, .ref ht_draft_made, .int t_draft_at])), (ht_draft_row, .inr (0, [.ref ht_draft_row_row, .int t_draft_row_size])), (ht_written, .inr (0, [.ref ht_written_row, .int t_written_size])), (ht_tree, .inr (4, [.ref ht_tree_source, .ref ht_tree_kinds, .ref ht_tree_froms, .ref ht_tree_marks, .ref ht_tree_ends, .ref ht_tree_parts, .ref ht_tree_others, .ref ht_tree_followers, .ref ht_tree_begins, .int t_tree_size, .int t_tree_depth, .int t_tree_knot, .int t_tree_stands])), (ht_tree_kinds, .inl (cI, 15, .inl t_tree_kinds)), (ht_machine, .inr (3, [.ref ht_machine_stack, .ref ht_machine_variables, .ref ht_machine_kept, .int t_machine_height, .int t_machine_printed, .int t_machine_done, .int t_machine_limit])), (ht_machine_variables, .inl (cI, 6, .inl t_machine_variables))] H) (hD : va_D A [(ht, .inr (5, [.ref ht_listing, .ref ht_draft, .ref ht_written, .ref ht_tree, .ref ht_machine, .int t_trouble])), (ht_listing, .inr (2, [.ref ht_listing_ops, .ref ht_listing_numbers, .ref ht_listing_heights, .int t_listing_size])), (ht_draft, .inr (1, [.ref ht_draft_row, .ref ht_draft_made, .int t_draft_at])), (ht_draft_row, .inr (0, [.ref ht_draft_row_row, .int t_draft_row_size])), (ht_written, .inr (0, [.ref ht_written_row, .int t_written_size])), (ht_tree, .inr (4, [.ref ht_tree_source, .ref ht_tree_kinds, .ref ht_tree_froms, .ref ht_tree_marks, .ref ht_tree_ends, .ref ht_tree_parts, .ref ht_tree_others, .ref ht_tree_followers, .ref ht_tree_begins, .int t_tree_size, .int t_tree_depth, .int t_tree_knot, .int t_tree_stands])), (ht_tree_kinds, .inl (cI, 15, .inl t_tree_kinds)), (ht_machine, .inr (3, [.ref ht_machine_stack, .ref ht_machine_variables, .ref ht_machine_kept, .int t_machine_height, .int t_machine_printed, .int t_machine_done, .int t_machine_limit])), (ht_machine_variables, .inl (cI, 6, .inl t_machine_variables))]) hS => ?_)
              cases h
              exact gr_i hx hb hr hlocks hK hP hD hS d_S_count_106
            · have h := g_f e_5 h
              have n_5 := lv_neT (a := 5) e_5 (by decide)
              by_cases e_6 : a1 = (6 : Int32)
              · have h := g_t e_6 h
                have ei : (a1).toInt = 6 := by rw [e_6]; decide
                refine lv_tableIn (tgt := 107) (off := 106) hx hb d_S_count_1 (by rw [ei]; decide) (by rw [ei]; decide) (by rw [ei]; rfl) (by decide) ?_
                refine lv_aload_n hx hb d_S_count_107 rfl (lv_at hl 0 rfl) ?_
                refine va_get (D := D) (ci := 5) (v := .ref ht_tree) (C := R_S) (T := F_S) (N := 6) hx hb hts u_S hown hK hP 0 rfl rfl 3 (by decide) f_35 (fun _ h9 => h9) rfl d_S_count_108 ?_
                refine lv_bipush (v := (11 : Int32)) hx hb d_S_count_111 (by decide) ?_
                obtain ⟨q8, hc, h⟩ := g_bd h
                refine gk_i (va_runV (As := [.int (11 : Int32)]) (rest := []) ⟨hx, hb, hml, hown, hts⟩ (c_Tree_sizeOf l D cI cC ht_tree ht_tree_source ht_tree_kinds ht_tree_froms ht_tree_marks ht_tree_ends ht_tree_parts ht_tree_others ht_tree_followers ht_tree_begins t_tree_size t_tree_depth t_tree_knot t_tree_stands t_tree_kinds (11 : Int32) q8 hc _) (cwV 1 hts (gG_V mt_3_133 mt_3_134 mt_3_135 mt_1_5 mt_3_136) rfl rfl rfl (by decide +kernel) ⟨Nat.le_of_ble_eq_true rfl, Nat.le_of_ble_eq_true rfl⟩) (gpV hK hP hD [5, 6] rfl (by decide) (ci := 4) 5 rfl rfl) rfl rfl hl.1 rfl (lv_room (Nat.le_of_ble_eq_true rfl)) d_S_count_113 ⟨Nat.zero_le _, Nat.zero_le _⟩) hK hP hD hS hA [5, 6] rfl (by decide) rfl rfl (fun H locs (hP : va_P D vwCl [(ht, .inr (5, [.ref ht_listing, .ref ht_draft, .ref ht_written, .ref ht_tree, .ref ht_machine, .int t_trouble])), (ht_listing, .inr (2, [.ref ht_listing_ops, .ref ht_listing_numbers, .ref ht_listing_heights, .int t_listing_size])), (ht_draft, .inr (1, [.ref ht_draft_row, .ref ht_draft_made, .int t_draft_at])), (ht_draft_row, .inr (0, [.ref ht_draft_row_row, .int t_draft_row_size])), (ht_written, .inr (0, [.ref ht_written_row, .int t_written_size])), (ht_tree, .inr (4, [.ref ht_tree_source, .ref ht_tree_kinds, .ref ht_tree_froms, .ref ht_tree_marks, .ref ht_tree_ends, .ref ht_tree_parts, .ref ht_tree_others, .ref ht_tree_followers, .ref ht_tree_begins, .int t_tree_size, .int t_tree_depth, .int t_tree_knot, .int t_tree_stands])), (ht_tree_kinds, .inl (cI, 15, .inl t_tree_kinds)), (ht_machine, .inr (3, [.ref ht_machine_stack, .ref ht_machine_variables, .ref ht_machine_kept, .int t_machine_height, .int t_machine_printed, .int t_machine_done, .int t_machine_limit])), (ht_machine_variables, .inl (cI, 6, .inl t_machine_variables))] H) (hD : va_D A [(ht, .inr (5, [.ref ht_listing, .ref ht_draft, .ref ht_written, .ref ht_tree, .ref ht_machine, .int t_trouble])), (ht_listing, .inr (2, [.ref ht_listing_ops, .ref ht_listing_numbers, .ref ht_listing_heights, .int t_listing_size])), (ht_draft, .inr (1, [.ref ht_draft_row, .ref ht_draft_made, .int t_draft_at])), (ht_draft_row, .inr (0, [.ref ht_draft_row_row, .int t_draft_row_size])), (ht_written, .inr (0, [.ref ht_written_row, .int t_written_size])), (ht_tree, .inr (4, [.ref ht_tree_source, .ref ht_tree_kinds, .ref ht_tree_froms, .ref ht_tree_marks, .ref ht_tree_ends, .ref ht_tree_parts, .ref ht_tree_others, .ref ht_tree_followers, .ref ht_tree_begins, .int t_tree_size, .int t_tree_depth, .int t_tree_knot, .int t_tree_stands])), (ht_tree_kinds, .inl (cI, 15, .inl t_tree_kinds)), (ht_machine, .inr (3, [.ref ht_machine_stack, .ref ht_machine_variables, .ref ht_machine_kept, .int t_machine_height, .int t_machine_printed, .int t_machine_done, .int t_machine_limit])), (ht_machine_variables, .inl (cI, 6, .inl t_machine_variables))]) hS => ?_)
                cases h
                exact gr_i hx hb hr hlocks hK hP hD hS d_S_count_116
              · have h := g_f e_6 h
                have n_6 := lv_neT (a := 6) e_6 (by decide)
                by_cases e_7 : a1 = (7 : Int32)
                · have h := g_t e_7 h
                  have ei : (a1).toInt = 7 := by rw [e_7]; decide
                  refine lv_tableIn (tgt := 117) (off := 116) hx hb d_S_count_1 (by rw [ei]; decide) (by rw [ei]; decide) (by rw [ei]; rfl) (by decide) ?_
                  refine lv_aload_n hx hb d_S_count_117 rfl (lv_at hl 0 rfl) ?_
                  refine va_get (D := D) (ci := 5) (v := .ref ht_tree) (C := R_S) (T := F_S) (N := 6) hx hb hts u_S hown hK hP 0 rfl rfl 3 (by decide) f_35 (fun _ h9 => h9) rfl d_S_count_118 ?_
                  refine lv_bipush (v := (12 : Int32)) hx hb d_S_count_121 (by decide) ?_
                  obtain ⟨q9, hc, h⟩ := g_bd h
                  refine gk_i (va_runV (As := [.int (12 : Int32)]) (rest := []) ⟨hx, hb, hml, hown, hts⟩ (c_Tree_sizeOf l D cI cC ht_tree ht_tree_source ht_tree_kinds ht_tree_froms ht_tree_marks ht_tree_ends ht_tree_parts ht_tree_others ht_tree_followers ht_tree_begins t_tree_size t_tree_depth t_tree_knot t_tree_stands t_tree_kinds (12 : Int32) q9 hc _) (cwV 1 hts (gG_V mt_3_133 mt_3_134 mt_3_135 mt_1_5 mt_3_136) rfl rfl rfl (by decide +kernel) ⟨Nat.le_of_ble_eq_true rfl, Nat.le_of_ble_eq_true rfl⟩) (gpV hK hP hD [5, 6] rfl (by decide) (ci := 4) 5 rfl rfl) rfl rfl hl.1 rfl (lv_room (Nat.le_of_ble_eq_true rfl)) d_S_count_123 ⟨Nat.zero_le _, Nat.zero_le _⟩) hK hP hD hS hA [5, 6] rfl (by decide) rfl rfl (fun H locs (hP : va_P D vwCl [(ht, .inr (5, [.ref ht_listing, .ref ht_draft, .ref ht_written, .ref ht_tree, .ref ht_machine, .int t_trouble])), (ht_listing, .inr (2, [.ref ht_listing_ops, .ref ht_listing_numbers, .ref ht_listing_heights, .int t_listing_size])), (ht_draft, .inr (1, [.ref ht_draft_row, .ref ht_draft_made, .int t_draft_at])), (ht_draft_row, .inr (0, [.ref ht_draft_row_row, .int t_draft_row_size])), (ht_written, .inr (0, [.ref ht_written_row, .int t_written_size])), (ht_tree, .inr (4, [.ref ht_tree_source, .ref ht_tree_kinds, .ref ht_tree_froms, .ref ht_tree_marks, .ref ht_tree_ends, .ref ht_tree_parts, .ref ht_tree_others, .ref ht_tree_followers, .ref ht_tree_begins, .int t_tree_size, .int t_tree_depth, .int t_tree_knot, .int t_tree_stands])), (ht_tree_kinds, .inl (cI, 15, .inl t_tree_kinds)), (ht_machine, .inr (3, [.ref ht_machine_stack, .ref ht_machine_variables, .ref ht_machine_kept, .int t_machine_height, .int t_machine_printed, .int t_machine_done, .int t_machine_limit])), (ht_machine_variables, .inl (cI, 6, .inl t_machine_variables))] H) (hD : va_D A [(ht, .inr (5, [.ref ht_listing, .ref ht_draft, .ref ht_written, .ref ht_tree, .ref ht_machine, .int t_trouble])), (ht_listing, .inr (2, [.ref ht_listing_ops, .ref ht_listing_numbers, .ref ht_listing_heights, .int t_listing_size])), (ht_draft, .inr (1, [.ref ht_draft_row, .ref ht_draft_made, .int t_draft_at])), (ht_draft_row, .inr (0, [.ref ht_draft_row_row, .int t_draft_row_size])), (ht_written, .inr (0, [.ref ht_written_row, .int t_written_size])), (ht_tree, .inr (4, [.ref ht_tree_source, .ref ht_tree_kinds, .ref ht_tree_froms, .ref ht_tree_marks, .ref ht_tree_ends, .ref ht_tree_parts, .ref ht_tree_others, .ref ht_tree_followers, .ref ht_tree_begins, .int t_tree_size, .int t_tree_depth, .int t_tree_knot, .int t_tree_stands])), (ht_tree_kinds, .inl (cI, 15, .inl t_tree_kinds)), (ht_machine, .inr (3, [.ref ht_machine_stack, .ref ht_machine_variables, .ref ht_machine_kept, .int t_machine_height, .int t_machine_printed, .int t_machine_done, .int t_machine_limit])), (ht_machine_variables, .inl (cI, 6, .inl t_machine_variables))]) hS => ?_)
                  cases h
                  exact gr_i hx hb hr hlocks hK hP hD hS d_S_count_126
                · have h := g_f e_7 h
                  have n_7 := lv_neT (a := 7) e_7 (by decide)
                  by_cases e_8 : a1 = (8 : Int32)
                  · have h := g_t e_8 h
                    have ei : (a1).toInt = 8 := by rw [e_8]; decide
                    refine lv_tableIn (tgt := 127) (off := 126) hx hb d_S_count_1 (by rw [ei]; decide) (by rw [ei]; decide) (by rw [ei]; rfl) (by decide) ?_
                    refine lv_aload_n hx hb d_S_count_127 rfl (lv_at hl 0 rfl) ?_
                    refine va_get (D := D) (ci := 5) (v := .ref ht_tree) (C := R_S) (T := F_S) (N := 6) hx hb hts u_S hown hK hP 0 rfl rfl 3 (by decide) f_35 (fun _ h9 => h9) rfl d_S_count_128 ?_
                    refine lv_bipush (v := (13 : Int32)) hx hb d_S_count_131 (by decide) ?_
                    obtain ⟨q10, hc, h⟩ := g_bd h
                    refine gk_i (va_runV (As := [.int (13 : Int32)]) (rest := []) ⟨hx, hb, hml, hown, hts⟩ (c_Tree_sizeOf l D cI cC ht_tree ht_tree_source ht_tree_kinds ht_tree_froms ht_tree_marks ht_tree_ends ht_tree_parts ht_tree_others ht_tree_followers ht_tree_begins t_tree_size t_tree_depth t_tree_knot t_tree_stands t_tree_kinds (13 : Int32) q10 hc _) (cwV 1 hts (gG_V mt_3_133 mt_3_134 mt_3_135 mt_1_5 mt_3_136) rfl rfl rfl (by decide +kernel) ⟨Nat.le_of_ble_eq_true rfl, Nat.le_of_ble_eq_true rfl⟩) (gpV hK hP hD [5, 6] rfl (by decide) (ci := 4) 5 rfl rfl) rfl rfl hl.1 rfl (lv_room (Nat.le_of_ble_eq_true rfl)) d_S_count_133 ⟨Nat.zero_le _, Nat.zero_le _⟩) hK hP hD hS hA [5, 6] rfl (by decide) rfl rfl (fun H locs (hP : va_P D vwCl [(ht, .inr (5, [.ref ht_listing, .ref ht_draft, .ref ht_written, .ref ht_tree, .ref ht_machine, .int t_trouble])), (ht_listing, .inr (2, [.ref ht_listing_ops, .ref ht_listing_numbers, .ref ht_listing_heights, .int t_listing_size])), (ht_draft, .inr (1, [.ref ht_draft_row, .ref ht_draft_made, .int t_draft_at])), (ht_draft_row, .inr (0, [.ref ht_draft_row_row, .int t_draft_row_size])), (ht_written, .inr (0, [.ref ht_written_row, .int t_written_size])), (ht_tree, .inr (4, [.ref ht_tree_source, .ref ht_tree_kinds, .ref ht_tree_froms, .ref ht_tree_marks, .ref ht_tree_ends, .ref ht_tree_parts, .ref ht_tree_others, .ref ht_tree_followers, .ref ht_tree_begins, .int t_tree_size, .int t_tree_depth, .int t_tree_knot, .int t_tree_stands])), (ht_tree_kinds, .inl (cI, 15, .inl t_tree_kinds)), (ht_machine, .inr (3, [.ref ht_machine_stack, .ref ht_machine_variables, .ref ht_machine_kept, .int t_machine_height, .int t_machine_printed, .int t_machine_done, .int t_machine_limit])), (ht_machine_variables, .inl (cI, 6, .inl t_machine_variables))] H) (hD : va_D A [(ht, .inr (5, [.ref ht_listing, .ref ht_draft, .ref ht_written, .ref ht_tree, .ref ht_machine, .int t_trouble])), (ht_listing, .inr (2, [.ref ht_listing_ops, .ref ht_listing_numbers, .ref ht_listing_heights, .int t_listing_size])), (ht_draft, .inr (1, [.ref ht_draft_row, .ref ht_draft_made, .int t_draft_at])), (ht_draft_row, .inr (0, [.ref ht_draft_row_row, .int t_draft_row_size])), (ht_written, .inr (0, [.ref ht_written_row, .int t_written_size])), (ht_tree, .inr (4, [.ref ht_tree_source, .ref ht_tree_kinds, .ref ht_tree_froms, .ref ht_tree_marks, .ref ht_tree_ends, .ref ht_tree_parts, .ref ht_tree_others, .ref ht_tree_followers, .ref ht_tree_begins, .int t_tree_size, .int t_tree_depth, .int t_tree_knot, .int t_tree_stands])), (ht_tree_kinds, .inl (cI, 15, .inl t_tree_kinds)), (ht_machine, .inr (3, [.ref ht_machine_stack, .ref ht_machine_variables, .ref ht_machine_kept, .int t_machine_height, .int t_machine_printed, .int t_machine_done, .int t_machine_limit])), (ht_machine_variables, .inl (cI, 6, .inl t_machine_variables))]) hS => ?_)
                    cases h
                    exact gr_i hx hb hr hlocks hK hP hD hS d_S_count_136
                  · have h := g_f e_8 h
                    have n_8 := lv_neT (a := 8) e_8 (by decide)
                    by_cases e_9 : a1 = (9 : Int32)
                    · have h := g_t e_9 h
                      have ei : (a1).toInt = 9 := by rw [e_9]; decide
                      refine lv_tableIn (tgt := 137) (off := 136) hx hb d_S_count_1 (by rw [ei]; decide) (by rw [ei]; decide) (by rw [ei]; rfl) (by decide) ?_
                      refine lv_aload_n hx hb d_S_count_137 rfl (lv_at hl 0 rfl) ?_
                      refine va_get (D := D) (ci := 5) (v := .ref ht_tree) (C := R_S) (T := F_S) (N := 6) hx hb hts u_S hown hK hP 0 rfl rfl 3 (by decide) f_35 (fun _ h9 => h9) rfl d_S_count_138 ?_
                      obtain ⟨q11, hc, h⟩ := g_bd h
                      refine gk_i (va_runV (As := []) (rest := []) ⟨hx, hb, hml, hown, hts⟩ (c_Tree_depth l D cI cC ht_tree ht_tree_source ht_tree_kinds ht_tree_froms ht_tree_marks ht_tree_ends ht_tree_parts ht_tree_others ht_tree_followers ht_tree_begins t_tree_size t_tree_depth t_tree_knot t_tree_stands q11 hc _) (cwV 0 hts (gG_V mt_3_137 mt_3_138 mt_3_139 mt_1_5 mt_3_140) rfl rfl rfl (by decide +kernel) ⟨Nat.le_of_ble_eq_true rfl, Nat.le_of_ble_eq_true rfl⟩) (gpV hK hP hD [5] rfl (by decide) (ci := 4) 5 rfl rfl) rfl rfl hl.1 rfl (lv_room (Nat.le_of_ble_eq_true rfl)) d_S_count_141 ⟨Nat.zero_le _, Nat.zero_le _⟩) hK hP hD hS hA [5] rfl (by decide) rfl rfl (fun H locs (hP : va_P D vwCl [(ht, .inr (5, [.ref ht_listing, .ref ht_draft, .ref ht_written, .ref ht_tree, .ref ht_machine, .int t_trouble])), (ht_listing, .inr (2, [.ref ht_listing_ops, .ref ht_listing_numbers, .ref ht_listing_heights, .int t_listing_size])), (ht_draft, .inr (1, [.ref ht_draft_row, .ref ht_draft_made, .int t_draft_at])), (ht_draft_row, .inr (0, [.ref ht_draft_row_row, .int t_draft_row_size])), (ht_written, .inr (0, [.ref ht_written_row, .int t_written_size])), (ht_tree, .inr (4, [.ref ht_tree_source, .ref ht_tree_kinds, .ref ht_tree_froms, .ref ht_tree_marks, .ref ht_tree_ends, .ref ht_tree_parts, .ref ht_tree_others, .ref ht_tree_followers, .ref ht_tree_begins, .int t_tree_size, .int t_tree_depth, .int t_tree_knot, .int t_tree_stands])), (ht_tree_kinds, .inl (cI, 15, .inl t_tree_kinds)), (ht_machine, .inr (3, [.ref ht_machine_stack, .ref ht_machine_variables, .ref ht_machine_kept, .int t_machine_height, .int t_machine_printed, .int t_machine_done, .int t_machine_limit])), (ht_machine_variables, .inl (cI, 6, .inl t_machine_variables))] H) (hD : va_D A [(ht, .inr (5, [.ref ht_listing, .ref ht_draft, .ref ht_written, .ref ht_tree, .ref ht_machine, .int t_trouble])), (ht_listing, .inr (2, [.ref ht_listing_ops, .ref ht_listing_numbers, .ref ht_listing_heights, .int t_listing_size])), (ht_draft, .inr (1, [.ref ht_draft_row, .ref ht_draft_made, .int t_draft_at])), (ht_draft_row, .inr (0, [.ref ht_draft_row_row, .int t_draft_row_size])), (ht_written, .inr (0, [.ref ht_written_row, .int t_written_size])), (ht_tree, .inr (4, [.ref ht_tree_source, .ref ht_tree_kinds, .ref ht_tree_froms, .ref ht_tree_marks, .ref ht_tree_ends, .ref ht_tree_parts, .ref ht_tree_others, .ref ht_tree_followers, .ref ht_tree_begins, .int t_tree_size, .int t_tree_depth, .int t_tree_knot, .int t_tree_stands])), (ht_tree_kinds, .inl (cI, 15, .inl t_tree_kinds)), (ht_machine, .inr (3, [.ref ht_machine_stack, .ref ht_machine_variables, .ref ht_machine_kept, .int t_machine_height, .int t_machine_printed, .int t_machine_done, .int t_machine_limit])), (ht_machine_variables, .inl (cI, 6, .inl t_machine_variables))]) hS => ?_)
                      cases h
                      exact gr_i hx hb hr hlocks hK hP hD hS d_S_count_144
                    · have h := g_f e_9 h
                      have n_9 := lv_neT (a := 9) e_9 (by decide)
                      refine lv_tableOut (tgt := 145) hx hb d_S_count_1 (by omega) (by decide) ?_
                      refine lv_iload_n hx hb d_S_count_145 rfl (lv_at hl 1 rfl) ?_
                      refine lv_bipush (v := (10 : Int32)) hx hb d_S_count_146 (by decide) ?_
                      refine lv_icmp_lt (tgt := 171) hx hb d_S_count_148 (by decide) (fun ec => ?_) (fun ec => ?_)
                      · have h := g_t ec h
                        refine lv_iconst (v := (-1 : Int32)) hx hb d_S_count_171 (by decide) ?_
                        cases h
                        exact gr_i hx hb hr hlocks hK hP hD hS d_S_count_172
                      · have h := g_f ec h
                        refine lv_iload_n hx hb d_S_count_151 rfl (lv_at hl 1 rfl) ?_
                        refine lv_bipush (v := (16 : Int32)) hx hb d_S_count_152 (by decide) ?_
                        refine lv_icmp_ge (tgt := 171) hx hb d_S_count_154 (by decide) (fun ec => ?_) (fun ec => ?_)
                        · have h := g_t ec h
                          refine lv_iconst (v := (-1 : Int32)) hx hb d_S_count_171 (by decide) ?_
                          cases h
                          exact gr_i hx hb hr hlocks hK hP hD hS d_S_count_172
                        · have h := g_f ec h
                          refine lv_aload_n hx hb d_S_count_157 rfl (lv_at hl 0 rfl) ?_
                          refine va_get (D := D) (ci := 5) (v := .ref ht_machine) (C := R_S) (T := F_S) (N := 6) hx hb hts u_S hown hK hP 0 rfl rfl 4 (by decide) f_42 (fun _ h9 => h9) rfl d_S_count_158 ?_
                          refine lv_iload_n hx hb d_S_count_161 rfl (lv_at hl 1 rfl) ?_
                          refine lv_bipush (v := (10 : Int32)) hx hb d_S_count_162 (by decide) ?_
                          refine lv_isub hx hb d_S_count_164 ?_
                          obtain ⟨q12, hc, h⟩ := g_bd h
                          refine gk_i (va_runV (As := [.int (a1 - (10 : Int32))]) (rest := []) ⟨hx, hb, hml, hown, hts⟩ (c_Machine_variable l D cI cC ht_machine ht_machine_stack ht_machine_variables ht_machine_kept t_machine_height t_machine_printed t_machine_done t_machine_limit t_machine_variables (a1 - (10 : Int32)) q12 hc _) (cwV 1 hts (gG_V mt_3_141 mt_3_52 mt_3_53 mt_1_6 mt_3_54) rfl rfl rfl (by decide +kernel) ⟨Nat.le_of_ble_eq_true rfl, Nat.le_of_ble_eq_true rfl⟩) (gpV hK hP hD [7, 8] rfl (by decide) (ci := 3) 7 rfl rfl) rfl rfl hl.1 rfl (lv_room (Nat.le_of_ble_eq_true rfl)) d_S_count_165 ⟨Nat.zero_le _, Nat.zero_le _⟩) hK hP hD hS hA [7, 8] rfl (by decide) rfl rfl (fun H locs (hP : va_P D vwCl [(ht, .inr (5, [.ref ht_listing, .ref ht_draft, .ref ht_written, .ref ht_tree, .ref ht_machine, .int t_trouble])), (ht_listing, .inr (2, [.ref ht_listing_ops, .ref ht_listing_numbers, .ref ht_listing_heights, .int t_listing_size])), (ht_draft, .inr (1, [.ref ht_draft_row, .ref ht_draft_made, .int t_draft_at])), (ht_draft_row, .inr (0, [.ref ht_draft_row_row, .int t_draft_row_size])), (ht_written, .inr (0, [.ref ht_written_row, .int t_written_size])), (ht_tree, .inr (4, [.ref ht_tree_source, .ref ht_tree_kinds, .ref ht_tree_froms, .ref ht_tree_marks, .ref ht_tree_ends, .ref ht_tree_parts, .ref ht_tree_others, .ref ht_tree_followers, .ref ht_tree_begins, .int t_tree_size, .int t_tree_depth, .int t_tree_knot, .int t_tree_stands])), (ht_tree_kinds, .inl (cI, 15, .inl t_tree_kinds)), (ht_machine, .inr (3, [.ref ht_machine_stack, .ref ht_machine_variables, .ref ht_machine_kept, .int t_machine_height, .int t_machine_printed, .int t_machine_done, .int t_machine_limit])), (ht_machine_variables, .inl (cI, 6, .inl t_machine_variables))] H) (hD : va_D A [(ht, .inr (5, [.ref ht_listing, .ref ht_draft, .ref ht_written, .ref ht_tree, .ref ht_machine, .int t_trouble])), (ht_listing, .inr (2, [.ref ht_listing_ops, .ref ht_listing_numbers, .ref ht_listing_heights, .int t_listing_size])), (ht_draft, .inr (1, [.ref ht_draft_row, .ref ht_draft_made, .int t_draft_at])), (ht_draft_row, .inr (0, [.ref ht_draft_row_row, .int t_draft_row_size])), (ht_written, .inr (0, [.ref ht_written_row, .int t_written_size])), (ht_tree, .inr (4, [.ref ht_tree_source, .ref ht_tree_kinds, .ref ht_tree_froms, .ref ht_tree_marks, .ref ht_tree_ends, .ref ht_tree_parts, .ref ht_tree_others, .ref ht_tree_followers, .ref ht_tree_begins, .int t_tree_size, .int t_tree_depth, .int t_tree_knot, .int t_tree_stands])), (ht_tree_kinds, .inl (cI, 15, .inl t_tree_kinds)), (ht_machine, .inr (3, [.ref ht_machine_stack, .ref ht_machine_variables, .ref ht_machine_kept, .int t_machine_height, .int t_machine_printed, .int t_machine_done, .int t_machine_limit])), (ht_machine_variables, .inl (cI, 6, .inl t_machine_variables))]) hS => ?_)
                          refine lv_goto (tgt := 172) hx hb d_S_count_168 (by decide) ?_
                          cases h
                          exact gr_i hx hb hr hlocks hK hP hD hS d_S_count_172
def K_M_in (l : Launch) (D : va_G) (cI cC : ClassId) : Prop :=
  ∀ (a0 a1 a2 : Int32) (q : Int32), g_M_in a0 a1 a2 = some q → ∀ (sz : Nat), Met l y_M_in w_M_in ({ frames := 0, cells := 0, slots := 0, locals := 0 }) (va_Pc [.int a0, .int a1, .int a2] (gB D (gT cI cC) [] sz)) (gQi D (gT cI cC) q [] (va_A [] sz)) 0 0 (va_A [] sz)
set_option maxHeartbeats 4000000 in
set_option maxRecDepth 100000 in
theorem c_M_in (l : Launch) (D : va_G) (cI cC : ClassId) : K_M_in l D cI cC := by
  intro a0 a1 a2 q h sz
  refine Met.ofW (cc := k_M_in) (maxL := 3) (ret := (some .boolean)) (by decide) rfl ?_
  intro p e s m args below meth c s₁ B hml hv
  obtain ⟨rfl, hsz, hP, hK, hD0⟩ := hv
  have hx := B.exec
  have hb := B.bytes
  have hr := B.returns
  have hts : ∀ w ∈ lw_t, w.before ([.int a0, .int a1, .int a2] : List Value).toArray s = true := fun w h => atoms_spec (ws := w_M_in) B.pre w (List.mem_cons_of_mem _ h)
  have hown : s.vm.findClass R_M = some m.cls := findClass_of_methodNamed B.named
  have hlocks := B.notSynchronized
  subst hsz
  have hD := hD0.self (sz := s.heap.size)
  generalize hAe : va_A [] s.heap.size = A at hD ⊢
  have hA : ∀ q : Nat, s.heap.size ≤ q → A q := fun q h => by rw [← hAe]; exact Or.inr h
  have hS : va_S A s.heap s.heap [] := va_S.rf
  have hP : va_P D vwCl [] s.heap := hP
  have hl := lv_entry ([.int a0, .int a1, .int a2]) (n := 3) (Nat.le_of_ble_eq_true rfl)
  rw [lg_entry_eq]
  generalize (lg_sl ([.int a0, .int a1, .int a2]) ++ List.replicate (3 - (lg_sl ([.int a0, .int a1, .int a2])).length) Slot.unset).toArray = ls at hl ⊢
  have hl : lv_has ls 3 [(0, .int a0), (1, .int a1), (2, .int a2)] := hl
  unfold g_M_in at h
  refine lv_iload_n hx hb d_M_in_0 rfl (lv_at hl 0 rfl) ?_
  refine lv_iload_n hx hb d_M_in_1 rfl (lv_at hl 1 rfl) ?_
  refine lv_icmp_lt (tgt := 14) hx hb d_M_in_2 (by decide) (fun ec => ?_) (fun ec => ?_)
  · have h := g_t ec h
    refine lv_iconst (v := (0 : Int32)) hx hb d_M_in_14 (by decide) ?_
    cases h
    exact gr_z (v := (0 : Int32)) (by decide) hx hb hr hlocks hK hP hD hS d_M_in_15
  · have h := g_f ec h
    refine lv_iload_n hx hb d_M_in_5 rfl (lv_at hl 0 rfl) ?_
    refine lv_iload_n hx hb d_M_in_6 rfl (lv_at hl 2 rfl) ?_
    refine lv_icmp_gt (tgt := 14) hx hb d_M_in_7 (by decide) (fun ec => ?_) (fun ec => ?_)
    · have h := g_t ec h
      refine lv_iconst (v := (0 : Int32)) hx hb d_M_in_14 (by decide) ?_
      cases h
      exact gr_z (v := (0 : Int32)) (by decide) hx hb hr hlocks hK hP hD hS d_M_in_15
    · have h := g_f ec h
      refine lv_iconst (v := (1 : Int32)) hx hb d_M_in_10 (by decide) ?_
      refine lv_goto (tgt := 15) hx hb d_M_in_11 (by decide) ?_
      cases h
      exact gr_z (v := (1 : Int32)) (by decide) hx hb hr hlocks hK hP hD hS d_M_in_15
def K_M_isGood (l : Launch) (D : va_G) (cI cC : ClassId) : Prop :=
  ∀ (a0 a1 : Int32) (q : Int32), g_M_isGood a0 a1 = some q → ∀ (sz : Nat), Met l y_M_isGood w_M_isGood ({ frames := 1, cells := 0, slots := 0, locals := 22 }) (va_Pc [.int a0, .int a1] (gB D (gT cI cC) [] sz)) (gQi D (gT cI cC) q [] (va_A [] sz)) 0 0 (va_A [] sz)
set_option maxHeartbeats 4000000 in
set_option maxRecDepth 100000 in
theorem c_M_isGood (l : Launch) (D : va_G) (cI cC : ClassId) : K_M_isGood l D cI cC := by
  intro a0 a1 q h sz
  refine Met.ofW (cc := k_M_isGood) (maxL := 2) (ret := (some .boolean)) (by decide) rfl ?_
  intro p e s m args below meth c s₁ B hml hv
  obtain ⟨rfl, hsz, hP, hK, hD0⟩ := hv
  have hx := B.exec
  have hb := B.bytes
  have hr := B.returns
  have hts : ∀ w ∈ lw_t, w.before ([.int a0, .int a1] : List Value).toArray s = true := fun w h => atoms_spec (ws := w_M_isGood) B.pre w (List.mem_cons_of_mem _ h)
  have hown : s.vm.findClass R_M = some m.cls := findClass_of_methodNamed B.named
  have hlocks := B.notSynchronized
  subst hsz
  have hD := hD0.self (sz := s.heap.size)
  generalize hAe : va_A [] s.heap.size = A at hD ⊢
  have hA : ∀ q : Nat, s.heap.size ≤ q → A q := fun q h => by rw [← hAe]; exact Or.inr h
  have hS : va_S A s.heap s.heap [] := va_S.rf
  have hP : va_P D vwCl [] s.heap := hP
  have hl := lv_entry ([.int a0, .int a1]) (n := 2) (Nat.le_of_ble_eq_true rfl)
  rw [lg_entry_eq]
  generalize (lg_sl ([.int a0, .int a1]) ++ List.replicate (2 - (lg_sl ([.int a0, .int a1])).length) Slot.unset).toArray = ls at hl ⊢
  have hl : lv_has ls 2 [(0, .int a0), (1, .int a1)] := hl
  unfold g_M_isGood at h
  refine lv_iload_n hx hb d_M_isGood_0 rfl (lv_at hl 0 rfl) ?_
  refine lv_if_ne (tgt := 12) hx hb d_M_isGood_1 (by decide) (fun ec => ?_) (fun ec => ?_)
  · have h := g_f ec h
    refine lv_iload_n hx hb d_M_isGood_12 rfl (lv_at hl 0 rfl) ?_
    refine lv_iconst (v := (1 : Int32)) hx hb d_M_isGood_13 (by decide) ?_
    refine lv_icmp_eq (tgt := 22) hx hb d_M_isGood_14 (by decide) (fun ec => ?_) (fun ec => ?_)
    · have h := g_t ec h
      refine lv_iload_n hx hb d_M_isGood_22 rfl (lv_at hl 1 rfl) ?_
      refine lv_iconst (v := (0 : Int32)) hx hb d_M_isGood_23 (by decide) ?_
      refine lv_iconst (v := (5 : Int32)) hx hb d_M_isGood_24 (by decide) ?_
      obtain ⟨q1, hc, h⟩ := g_bd h
      refine gk_i (va_runS (As := [.int a1, .int (0 : Int32), .int (5 : Int32)]) (rest := []) ⟨hx, hb, hml, hown, hts⟩ (c_M_in l D cI cC a1 (0 : Int32) (5 : Int32) q1 hc _) (va_cwS 3 hts (gG_S mt_4_0 mt_4_1 mt_1_7 mt_4_2) rfl rfl rfl (by decide +kernel) ⟨Nat.le_of_ble_eq_true rfl, Nat.le_of_ble_eq_true rfl⟩) (gpS hK hP hD [] rfl (by decide)) rfl rfl hl.1 rfl (lv_room (Nat.le_of_ble_eq_true rfl)) d_M_isGood_25 ⟨Nat.zero_le _, Nat.zero_le _⟩) hK hP hD hS hA [] rfl (by decide) rfl rfl (fun H locs (hP : va_P D vwCl [] H) (hD : va_D A []) hS => ?_)
      obtain ⟨hz, h⟩ := g_gd h
      cases h
      exact gr_z (g_zn hz) hx hb hr hlocks hK hP hD hS d_M_isGood_28
    · have h := g_f ec h
      refine lv_iload_n hx hb d_M_isGood_17 rfl (lv_at hl 0 rfl) ?_
      refine lv_iconst (v := (2 : Int32)) hx hb d_M_isGood_18 (by decide) ?_
      refine lv_icmp_ne (tgt := 29) hx hb d_M_isGood_19 (by decide) (fun ec => ?_) (fun ec => ?_)
      · have h := g_f ec h
        refine lv_iload_n hx hb d_M_isGood_29 rfl (lv_at hl 0 rfl) ?_
        refine lv_bipush (v := (8 : Int32)) hx hb d_M_isGood_30 (by decide) ?_
        refine lv_icmp_eq (tgt := 41) hx hb d_M_isGood_32 (by decide) (fun ec => ?_) (fun ec => ?_)
        · have h := g_t ec h
          refine lv_iload_n hx hb d_M_isGood_41 rfl (lv_at hl 1 rfl) ?_
          refine lv_iconst (v := (0 : Int32)) hx hb d_M_isGood_42 (by decide) ?_
          refine lv_bipush (v := (30 : Int32)) hx hb d_M_isGood_43 (by decide) ?_
          obtain ⟨q2, hc, h⟩ := g_bd h
          refine gk_i (va_runS (As := [.int a1, .int (0 : Int32), .int (30 : Int32)]) (rest := []) ⟨hx, hb, hml, hown, hts⟩ (c_M_in l D cI cC a1 (0 : Int32) (30 : Int32) q2 hc _) (va_cwS 3 hts (gG_S mt_4_0 mt_4_1 mt_1_7 mt_4_2) rfl rfl rfl (by decide +kernel) ⟨Nat.le_of_ble_eq_true rfl, Nat.le_of_ble_eq_true rfl⟩) (gpS hK hP hD [] rfl (by decide)) rfl rfl hl.1 rfl (lv_room (Nat.le_of_ble_eq_true rfl)) d_M_isGood_45 ⟨Nat.zero_le _, Nat.zero_le _⟩) hK hP hD hS hA [] rfl (by decide) rfl rfl (fun H locs (hP : va_P D vwCl [] H) (hD : va_D A []) hS => ?_)
          refine lv_goto (tgt := 58) hx hb d_M_isGood_48 (by decide) ?_
          obtain ⟨hz, h⟩ := g_gd h
          cases h
          exact gr_z (g_zn hz) hx hb hr hlocks hK hP hD hS d_M_isGood_58
        · have h := g_f ec h
          refine lv_iload_n hx hb d_M_isGood_35 rfl (lv_at hl 0 rfl) ?_
          refine lv_bipush (v := (9 : Int32)) hx hb d_M_isGood_36 (by decide) ?_
          refine lv_icmp_ne (tgt := 51) hx hb d_M_isGood_38 (by decide) (fun ec => ?_) (fun ec => ?_)
          · have h := g_f ec h
            refine lv_iload_n hx hb d_M_isGood_51 rfl (lv_at hl 0 rfl) ?_
            refine lv_iconst (v := (3 : Int32)) hx hb d_M_isGood_52 (by decide) ?_
            refine lv_bipush (v := (10 : Int32)) hx hb d_M_isGood_53 (by decide) ?_
            obtain ⟨q3, hc, h⟩ := g_bd h
            refine gk_i (va_runS (As := [.int a0, .int (3 : Int32), .int (10 : Int32)]) (rest := []) ⟨hx, hb, hml, hown, hts⟩ (c_M_in l D cI cC a0 (3 : Int32) (10 : Int32) q3 hc _) (va_cwS 3 hts (gG_S mt_4_0 mt_4_1 mt_1_7 mt_4_2) rfl rfl rfl (by decide +kernel) ⟨Nat.le_of_ble_eq_true rfl, Nat.le_of_ble_eq_true rfl⟩) (gpS hK hP hD [] rfl (by decide)) rfl rfl hl.1 rfl (lv_room (Nat.le_of_ble_eq_true rfl)) d_M_isGood_55 ⟨Nat.zero_le _, Nat.zero_le _⟩) hK hP hD hS hA [] rfl (by decide) rfl rfl (fun H locs (hP : va_P D vwCl [] H) (hD : va_D A []) hS => ?_)
            obtain ⟨hz, h⟩ := g_gd h
            cases h
            exact gr_z (g_zn hz) hx hb hr hlocks hK hP hD hS d_M_isGood_58
          · have h := g_t ec h
            refine lv_iload_n hx hb d_M_isGood_41 rfl (lv_at hl 1 rfl) ?_
            refine lv_iconst (v := (0 : Int32)) hx hb d_M_isGood_42 (by decide) ?_
            refine lv_bipush (v := (30 : Int32)) hx hb d_M_isGood_43 (by decide) ?_
            obtain ⟨q4, hc, h⟩ := g_bd h
            refine gk_i (va_runS (As := [.int a1, .int (0 : Int32), .int (30 : Int32)]) (rest := []) ⟨hx, hb, hml, hown, hts⟩ (c_M_in l D cI cC a1 (0 : Int32) (30 : Int32) q4 hc _) (va_cwS 3 hts (gG_S mt_4_0 mt_4_1 mt_1_7 mt_4_2) rfl rfl rfl (by decide +kernel) ⟨Nat.le_of_ble_eq_true rfl, Nat.le_of_ble_eq_true rfl⟩) (gpS hK hP hD [] rfl (by decide)) rfl rfl hl.1 rfl (lv_room (Nat.le_of_ble_eq_true rfl)) d_M_isGood_45 ⟨Nat.zero_le _, Nat.zero_le _⟩) hK hP hD hS hA [] rfl (by decide) rfl rfl (fun H locs (hP : va_P D vwCl [] H) (hD : va_D A []) hS => ?_)
            refine lv_goto (tgt := 58) hx hb d_M_isGood_48 (by decide) ?_
            obtain ⟨hz, h⟩ := g_gd h
            cases h
            exact gr_z (g_zn hz) hx hb hr hlocks hK hP hD hS d_M_isGood_58
      · have h := g_t ec h
        refine lv_iload_n hx hb d_M_isGood_22 rfl (lv_at hl 1 rfl) ?_
        refine lv_iconst (v := (0 : Int32)) hx hb d_M_isGood_23 (by decide) ?_
        refine lv_iconst (v := (5 : Int32)) hx hb d_M_isGood_24 (by decide) ?_
        obtain ⟨q5, hc, h⟩ := g_bd h
        refine gk_i (va_runS (As := [.int a1, .int (0 : Int32), .int (5 : Int32)]) (rest := []) ⟨hx, hb, hml, hown, hts⟩ (c_M_in l D cI cC a1 (0 : Int32) (5 : Int32) q5 hc _) (va_cwS 3 hts (gG_S mt_4_0 mt_4_1 mt_1_7 mt_4_2) rfl rfl rfl (by decide +kernel) ⟨Nat.le_of_ble_eq_true rfl, Nat.le_of_ble_eq_true rfl⟩) (gpS hK hP hD [] rfl (by decide)) rfl rfl hl.1 rfl (lv_room (Nat.le_of_ble_eq_true rfl)) d_M_isGood_25 ⟨Nat.zero_le _, Nat.zero_le _⟩) hK hP hD hS hA [] rfl (by decide) rfl rfl (fun H locs (hP : va_P D vwCl [] H) (hD : va_D A []) hS => ?_)
        obtain ⟨hz, h⟩ := g_gd h
        cases h
        exact gr_z (g_zn hz) hx hb hr hlocks hK hP hD hS d_M_isGood_28
  · have h := g_t ec h
    refine lv_iload_n hx hb d_M_isGood_4 rfl (lv_at hl 1 rfl) ?_
    refine lv_iconst (v := (0 : Int32)) hx hb d_M_isGood_5 (by decide) ?_
    refine lv_bipush (v := (99 : Int32)) hx hb d_M_isGood_6 (by decide) ?_
    obtain ⟨q6, hc, h⟩ := g_bd h
    refine gk_i (va_runS (As := [.int a1, .int (0 : Int32), .int (99 : Int32)]) (rest := []) ⟨hx, hb, hml, hown, hts⟩ (c_M_in l D cI cC a1 (0 : Int32) (99 : Int32) q6 hc _) (va_cwS 3 hts (gG_S mt_4_0 mt_4_1 mt_1_7 mt_4_2) rfl rfl rfl (by decide +kernel) ⟨Nat.le_of_ble_eq_true rfl, Nat.le_of_ble_eq_true rfl⟩) (gpS hK hP hD [] rfl (by decide)) rfl rfl hl.1 rfl (lv_room (Nat.le_of_ble_eq_true rfl)) d_M_isGood_8 ⟨Nat.zero_le _, Nat.zero_le _⟩) hK hP hD hS hA [] rfl (by decide) rfl rfl (fun H locs (hP : va_P D vwCl [] H) (hD : va_D A []) hS => ?_)
    obtain ⟨hz, h⟩ := g_gd h
    cases h
    exact gr_z (g_zn hz) hx hb hr hlocks hK hP hD hS d_M_isGood_11
def K_M_has (l : Launch) (D : va_G) (cI cC : ClassId) : Prop :=
  ∀ (a0 : Int32) (q : Int32), g_M_has a0 = some q → ∀ (sz : Nat), Met l y_M_has w_M_has ({ frames := 0, cells := 0, slots := 0, locals := 0 }) (va_Pc [.int a0] (gB D (gT cI cC) [] sz)) (gQi D (gT cI cC) q [] (va_A [] sz)) 0 0 (va_A [] sz)
set_option maxHeartbeats 4000000 in
set_option maxRecDepth 100000 in
theorem c_M_has (l : Launch) (D : va_G) (cI cC : ClassId) : K_M_has l D cI cC := by
  intro a0 q h sz
  refine Met.ofW (cc := k_M_has) (maxL := 1) (ret := (some .boolean)) (by decide) rfl ?_
  intro p e s m args below meth c s₁ B hml hv
  obtain ⟨rfl, hsz, hP, hK, hD0⟩ := hv
  have hx := B.exec
  have hb := B.bytes
  have hr := B.returns
  have hts : ∀ w ∈ lw_t, w.before ([.int a0] : List Value).toArray s = true := fun w h => atoms_spec (ws := w_M_has) B.pre w (List.mem_cons_of_mem _ h)
  have hown : s.vm.findClass R_M = some m.cls := findClass_of_methodNamed B.named
  have hlocks := B.notSynchronized
  subst hsz
  have hD := hD0.self (sz := s.heap.size)
  generalize hAe : va_A [] s.heap.size = A at hD ⊢
  have hA : ∀ q : Nat, s.heap.size ≤ q → A q := fun q h => by rw [← hAe]; exact Or.inr h
  have hS : va_S A s.heap s.heap [] := va_S.rf
  have hP : va_P D vwCl [] s.heap := hP
  have hl := lv_entry ([.int a0]) (n := 1) (Nat.le_of_ble_eq_true rfl)
  rw [lg_entry_eq]
  generalize (lg_sl ([.int a0]) ++ List.replicate (1 - (lg_sl ([.int a0])).length) Slot.unset).toArray = ls at hl ⊢
  have hl : lv_has ls 1 [(0, .int a0)] := hl
  unfold g_M_has at h
  refine lv_iload_n hx hb d_M_has_0 rfl (lv_at hl 0 rfl) ?_
  refine lv_iconst (v := (3 : Int32)) hx hb d_M_has_1 (by decide) ?_
  refine lv_icmp_lt (tgt := 17) hx hb d_M_has_2 (by decide) (fun ec => ?_) (fun ec => ?_)
  · have h := g_t ec h
    refine lv_iconst (v := (1 : Int32)) hx hb d_M_has_17 (by decide) ?_
    refine lv_goto (tgt := 22) hx hb d_M_has_18 (by decide) ?_
    cases h
    exact gr_z (v := (1 : Int32)) (by decide) hx hb hr hlocks hK hP hD hS d_M_has_22
  · have h := g_f ec h
    refine lv_iload_n hx hb d_M_has_5 rfl (lv_at hl 0 rfl) ?_
    refine lv_bipush (v := (8 : Int32)) hx hb d_M_has_6 (by decide) ?_
    refine lv_icmp_eq (tgt := 17) hx hb d_M_has_8 (by decide) (fun ec => ?_) (fun ec => ?_)
    · have h := g_t ec h
      refine lv_iconst (v := (1 : Int32)) hx hb d_M_has_17 (by decide) ?_
      refine lv_goto (tgt := 22) hx hb d_M_has_18 (by decide) ?_
      cases h
      exact gr_z (v := (1 : Int32)) (by decide) hx hb hr hlocks hK hP hD hS d_M_has_22
    · have h := g_f ec h
      refine lv_iload_n hx hb d_M_has_11 rfl (lv_at hl 0 rfl) ?_
      refine lv_bipush (v := (9 : Int32)) hx hb d_M_has_12 (by decide) ?_
      refine lv_icmp_ne (tgt := 21) hx hb d_M_has_14 (by decide) (fun ec => ?_) (fun ec => ?_)
      · have h := g_f ec h
        refine lv_iconst (v := (0 : Int32)) hx hb d_M_has_21 (by decide) ?_
        cases h
        exact gr_z (v := (0 : Int32)) (by decide) hx hb hr hlocks hK hP hD hS d_M_has_22
      · have h := g_t ec h
        refine lv_iconst (v := (1 : Int32)) hx hb d_M_has_17 (by decide) ?_
        refine lv_goto (tgt := 22) hx hb d_M_has_18 (by decide) ?_
        cases h
        exact gr_z (v := (1 : Int32)) (by decide) hx hb hr hlocks hK hP hD hS d_M_has_22
def K_M_change (l : Launch) (D : va_G) (cI cC : ClassId) : Prop :=
  ∀ (ht ht_op ht_to ht_newOp ht_newTo ht_draft ht_text ht_todo ht_with ht_holes ht_variable ht_stack ht_signs ht_output ht_blocks : Nat) (t_many : Int32) (t_letters : Int32) (t_length : Int32) (t_where : Int32) (t_tree : Int32) (t_top : Int32) (t_hole : Int32) (t_at : Int32) (t_made : Int32) (t_high : Int32) (t_signsHigh : Int32) (t_printed : Int32) (t_done : Int32) (t_value : Int32) (t_op : Nat → Int32) (t_to : Nat → Int32) (a1 a2 a3 : Int32) (q : Int32 × (Nat → Int32) × (Nat → Int32)), g_M_change t_op t_to t_many a1 a2 a3 = some q → ∀ (sz : Nat), Met l y_M_change w_M_change ({ frames := 2, cells := 0, slots := 0, locals := 43 }) (va_Pc [.ref ht, .int a1, .int a2, .int a3] (gB D (gT cI cC) [(ht, .inr (6, [.ref ht_op, .ref ht_to, .ref ht_newOp, .ref ht_newTo, .ref ht_draft, .ref ht_text, .int t_many, .int t_letters, .int t_length, .int t_where, .int t_tree, .ref ht_todo, .ref ht_with, .ref ht_holes, .int t_top, .int t_hole, .int t_at, .int t_made, .ref ht_variable, .ref ht_stack, .ref ht_signs, .ref ht_output, .ref ht_blocks, .int t_high, .int t_signsHigh, .int t_printed, .int t_done, .int t_value])), (ht_op, .inl (cI, 30, .inl t_op)), (ht_to, .inl (cI, 31, .inl t_to))] sz)) (gQi D (gT cI cC) q.1 [(ht, .inr (6, [.ref ht_op, .ref ht_to, .ref ht_newOp, .ref ht_newTo, .ref ht_draft, .ref ht_text, .int t_many, .int t_letters, .int t_length, .int t_where, .int t_tree, .ref ht_todo, .ref ht_with, .ref ht_holes, .int t_top, .int t_hole, .int t_at, .int t_made, .ref ht_variable, .ref ht_stack, .ref ht_signs, .ref ht_output, .ref ht_blocks, .int t_high, .int t_signsHigh, .int t_printed, .int t_done, .int t_value])), (ht_op, .inl (cI, 30, .inl q.2.1)), (ht_to, .inl (cI, 31, .inl q.2.2))] (va_A [(ht, .inr (6, [.ref ht_op, .ref ht_to, .ref ht_newOp, .ref ht_newTo, .ref ht_draft, .ref ht_text, .int t_many, .int t_letters, .int t_length, .int t_where, .int t_tree, .ref ht_todo, .ref ht_with, .ref ht_holes, .int t_top, .int t_hole, .int t_at, .int t_made, .ref ht_variable, .ref ht_stack, .ref ht_signs, .ref ht_output, .ref ht_blocks, .int t_high, .int t_signsHigh, .int t_printed, .int t_done, .int t_value])), (ht_op, .inl (cI, 30, .inl t_op)), (ht_to, .inl (cI, 31, .inl t_to))] sz)) 0 0 (va_A [(ht, .inr (6, [.ref ht_op, .ref ht_to, .ref ht_newOp, .ref ht_newTo, .ref ht_draft, .ref ht_text, .int t_many, .int t_letters, .int t_length, .int t_where, .int t_tree, .ref ht_todo, .ref ht_with, .ref ht_holes, .int t_top, .int t_hole, .int t_at, .int t_made, .ref ht_variable, .ref ht_stack, .ref ht_signs, .ref ht_output, .ref ht_blocks, .int t_high, .int t_signsHigh, .int t_printed, .int t_done, .int t_value])), (ht_op, .inl (cI, 30, .inl t_op)), (ht_to, .inl (cI, 31, .inl t_to))] sz)
set_option maxHeartbeats 4000000 in
set_option maxRecDepth 100000 in
theorem c_M_change (l : Launch) (D : va_G) (cI cC : ClassId) : K_M_change l D cI cC := by
  intro ht ht_op ht_to ht_newOp ht_newTo ht_draft ht_text ht_todo ht_with ht_holes ht_variable ht_stack ht_signs ht_output ht_blocks t_many t_letters t_length t_where t_tree t_top t_hole t_at t_made t_high t_signsHigh t_printed t_done t_value t_op t_to a1 a2 a3 q h sz
  refine Met.ofW (cc := k_M_change) (maxL := 4) (ret := (some .boolean)) (by decide) rfl ?_
  intro p e s m args below meth c s₁ B hml hv
  obtain ⟨rfl, hsz, hP, hK, hD0⟩ := hv
  have hx := B.exec
  have hb := B.bytes
  have hr := B.returns
  have hts : ∀ w ∈ lw_t, w.before ([.ref ht, .int a1, .int a2, .int a3] : List Value).toArray s = true := fun w h => atoms_spec (ws := w_M_change) B.pre w (List.mem_cons_of_mem _ h)
  have hown : s.vm.findClass R_M = some m.cls := findClass_of_methodNamed B.named
  have hlocks := B.notSynchronized
  subst hsz
  have hD := hD0.self (sz := s.heap.size)
  generalize hAe : va_A [(ht, .inr (6, [.ref ht_op, .ref ht_to, .ref ht_newOp, .ref ht_newTo, .ref ht_draft, .ref ht_text, .int t_many, .int t_letters, .int t_length, .int t_where, .int t_tree, .ref ht_todo, .ref ht_with, .ref ht_holes, .int t_top, .int t_hole, .int t_at, .int t_made, .ref ht_variable, .ref ht_stack, .ref ht_signs, .ref ht_output, .ref ht_blocks, .int t_high, .int t_signsHigh, .int t_printed, .int t_done, .int t_value])), (ht_op, .inl (cI, 30, .inl t_op)), (ht_to, .inl (cI, 31, .inl t_to))] s.heap.size = A at hD ⊢
  have hA : ∀ q : Nat, s.heap.size ≤ q → A q := fun q h => by rw [← hAe]; exact Or.inr h
  have hS : va_S A s.heap s.heap [] := va_S.rf
  have f_13 := hts _ mt_3_149
  have f_64 := hts _ mt_3_154
  have f_7 := hts _ mt_3_148
  have hP : va_P D vwCl [(ht, .inr (6, [.ref ht_op, .ref ht_to, .ref ht_newOp, .ref ht_newTo, .ref ht_draft, .ref ht_text, .int t_many, .int t_letters, .int t_length, .int t_where, .int t_tree, .ref ht_todo, .ref ht_with, .ref ht_holes, .int t_top, .int t_hole, .int t_at, .int t_made, .ref ht_variable, .ref ht_stack, .ref ht_signs, .ref ht_output, .ref ht_blocks, .int t_high, .int t_signsHigh, .int t_printed, .int t_done, .int t_value])), (ht_op, .inl (cI, 30, .inl t_op)), (ht_to, .inl (cI, 31, .inl t_to))] s.heap := hP
  have hl := lv_entry ([.ref ht, .int a1, .int a2, .int a3]) (n := 4) (Nat.le_of_ble_eq_true rfl)
  rw [lg_entry_eq]
  generalize (lg_sl ([.ref ht, .int a1, .int a2, .int a3]) ++ List.replicate (4 - (lg_sl ([.ref ht, .int a1, .int a2, .int a3])).length) Slot.unset).toArray = ls at hl ⊢
  have hl : lv_has ls 4 [(0, .ref ht), (1, .int a1), (2, .int a2), (3, .int a3)] := hl
  unfold g_M_change at h
  refine lv_iload_n hx hb d_M_change_0 rfl (lv_at hl 1 rfl) ?_
  refine lv_iconst (v := (0 : Int32)) hx hb d_M_change_1 (by decide) ?_
  refine lv_aload_n hx hb d_M_change_2 rfl (lv_at hl 0 rfl) ?_
  refine va_get (D := D) (ci := 6) (v := .int t_many) (C := R_M) (T := F_M) (N := 28) hx hb hts u_M hown hK hP 0 rfl rfl 6 (by decide) f_64 (fun _ h9 => h9) rfl d_M_change_3 ?_
  refine lv_iconst (v := (1 : Int32)) hx hb d_M_change_6 (by decide) ?_
  refine lv_isub hx hb d_M_change_7 ?_
  obtain ⟨q1, hc, h⟩ := g_bd h
  refine gk_i (va_runS (As := [.int a1, .int (0 : Int32), .int (t_many - (1 : Int32))]) (rest := []) ⟨hx, hb, hml, hown, hts⟩ (c_M_in l D cI cC a1 (0 : Int32) (t_many - (1 : Int32)) q1 hc _) (va_cwS 3 hts (gG_S mt_4_0 mt_4_1 mt_1_7 mt_4_2) rfl rfl rfl (by decide +kernel) ⟨Nat.le_of_ble_eq_true rfl, Nat.le_of_ble_eq_true rfl⟩) (gpS hK hP hD [] rfl (by decide)) rfl rfl hl.1 rfl (lv_room (Nat.le_of_ble_eq_true rfl)) d_M_change_8 ⟨Nat.zero_le _, Nat.zero_le _⟩) hK hP hD hS hA [] rfl (by decide) rfl rfl (fun H locs (hP : va_P D vwCl [(ht, .inr (6, [.ref ht_op, .ref ht_to, .ref ht_newOp, .ref ht_newTo, .ref ht_draft, .ref ht_text, .int t_many, .int t_letters, .int t_length, .int t_where, .int t_tree, .ref ht_todo, .ref ht_with, .ref ht_holes, .int t_top, .int t_hole, .int t_at, .int t_made, .ref ht_variable, .ref ht_stack, .ref ht_signs, .ref ht_output, .ref ht_blocks, .int t_high, .int t_signsHigh, .int t_printed, .int t_done, .int t_value])), (ht_op, .inl (cI, 30, .inl t_op)), (ht_to, .inl (cI, 31, .inl t_to))] H) (hD : va_D A [(ht, .inr (6, [.ref ht_op, .ref ht_to, .ref ht_newOp, .ref ht_newTo, .ref ht_draft, .ref ht_text, .int t_many, .int t_letters, .int t_length, .int t_where, .int t_tree, .ref ht_todo, .ref ht_with, .ref ht_holes, .int t_top, .int t_hole, .int t_at, .int t_made, .ref ht_variable, .ref ht_stack, .ref ht_signs, .ref ht_output, .ref ht_blocks, .int t_high, .int t_signsHigh, .int t_printed, .int t_done, .int t_value])), (ht_op, .inl (cI, 30, .inl t_op)), (ht_to, .inl (cI, 31, .inl t_to))]) hS => ?_)
  refine lv_if_eq (tgt := 22) hx hb d_M_change_11 (by decide) (fun ec => ?_) (fun ec => ?_)
  · have h := g_t ec h
    refine lv_iconst (v := (0 : Int32)) hx hb d_M_change_22 (by decide) ?_
    cases h
    exact gr_z (v := (0 : Int32)) (by decide) hx hb hr hlocks hK hP hD hS d_M_change_23
  · have h := g_f ec h
    refine lv_iload_n hx hb d_M_change_14 rfl (lv_at hl 2 rfl) ?_
    refine lv_iload_n hx hb d_M_change_15 rfl (lv_at hl 3 rfl) ?_
    obtain ⟨q2, hc, h⟩ := g_bd h
    refine gk_i (va_runS (As := [.int a2, .int a3]) (rest := []) ⟨hx, hb, hml, hown, hts⟩ (c_M_isGood l D cI cC a2 a3 q2 hc _) (va_cwS 2 hts (gG_S mt_3_237 mt_3_238 mt_1_7 mt_3_239) rfl rfl rfl (by decide +kernel) ⟨Nat.le_of_ble_eq_true rfl, Nat.le_of_ble_eq_true rfl⟩) (gpS hK hP hD [] rfl (by decide)) rfl rfl hl.1 rfl (lv_room (Nat.le_of_ble_eq_true rfl)) d_M_change_16 ⟨Nat.zero_le _, Nat.zero_le _⟩) hK hP hD hS hA [] rfl (by decide) rfl rfl (fun H locs (hP : va_P D vwCl [(ht, .inr (6, [.ref ht_op, .ref ht_to, .ref ht_newOp, .ref ht_newTo, .ref ht_draft, .ref ht_text, .int t_many, .int t_letters, .int t_length, .int t_where, .int t_tree, .ref ht_todo, .ref ht_with, .ref ht_holes, .int t_top, .int t_hole, .int t_at, .int t_made, .ref ht_variable, .ref ht_stack, .ref ht_signs, .ref ht_output, .ref ht_blocks, .int t_high, .int t_signsHigh, .int t_printed, .int t_done, .int t_value])), (ht_op, .inl (cI, 30, .inl t_op)), (ht_to, .inl (cI, 31, .inl t_to))] H) (hD : va_D A [(ht, .inr (6, [.ref ht_op, .ref ht_to, .ref ht_newOp, .ref ht_newTo, .ref ht_draft, .ref ht_text, .int t_many, .int t_letters, .int t_length, .int t_where, .int t_tree, .ref ht_todo, .ref ht_with, .ref ht_holes, .int t_top, .int t_hole, .int t_at, .int t_made, .ref ht_variable, .ref ht_stack, .ref ht_signs, .ref ht_output, .ref ht_blocks, .int t_high, .int t_signsHigh, .int t_printed, .int t_done, .int t_value])), (ht_op, .inl (cI, 30, .inl t_op)), (ht_to, .inl (cI, 31, .inl t_to))]) hS => ?_)
    refine lv_if_ne (tgt := 24) hx hb d_M_change_19 (by decide) (fun ec => ?_) (fun ec => ?_)
    · have h := g_f ec h
      refine lv_aload_n hx hb d_M_change_24 rfl (lv_at hl 0 rfl) ?_
      refine va_get (D := D) (ci := 6) (v := .ref ht_op) (C := R_M) (T := F_M) (N := 28) hx hb hts u_M hown hK hP 0 rfl rfl 0 (by decide) f_7 (fun _ h9 => h9) rfl d_M_change_25 ?_
      refine lv_iload_n hx hb d_M_change_28 rfl (lv_at hl 1 rfl) ?_
      refine lv_iload_n hx hb d_M_change_29 rfl (lv_at hl 2 rfl) ?_
      obtain ⟨hi, h⟩ := g_ck h
      refine va_iast hx hb hK hP hD hS 1 0 rfl rfl hi d_M_change_30 (fun H locs (hP : va_P D vwCl [(ht, .inr (6, [.ref ht_op, .ref ht_to, .ref ht_newOp, .ref ht_newTo, .ref ht_draft, .ref ht_text, .int t_many, .int t_letters, .int t_length, .int t_where, .int t_tree, .ref ht_todo, .ref ht_with, .ref ht_holes, .int t_top, .int t_hole, .int t_at, .int t_made, .ref ht_variable, .ref ht_stack, .ref ht_signs, .ref ht_output, .ref ht_blocks, .int t_high, .int t_signsHigh, .int t_printed, .int t_done, .int t_value])), (ht_op, .inl (cI, 30, .inl (upd t_op a1.toNatClampNeg a2))), (ht_to, .inl (cI, 31, .inl t_to))] H) (hD : va_D A [(ht, .inr (6, [.ref ht_op, .ref ht_to, .ref ht_newOp, .ref ht_newTo, .ref ht_draft, .ref ht_text, .int t_many, .int t_letters, .int t_length, .int t_where, .int t_tree, .ref ht_todo, .ref ht_with, .ref ht_holes, .int t_top, .int t_hole, .int t_at, .int t_made, .ref ht_variable, .ref ht_stack, .ref ht_signs, .ref ht_output, .ref ht_blocks, .int t_high, .int t_signsHigh, .int t_printed, .int t_done, .int t_value])), (ht_op, .inl (cI, 30, .inl (upd t_op a1.toNatClampNeg a2))), (ht_to, .inl (cI, 31, .inl t_to))]) hS => ?_)
      refine lv_aload_n hx hb d_M_change_31 rfl (lv_at hl 0 rfl) ?_
      refine va_get (D := D) (ci := 6) (v := .ref ht_to) (C := R_M) (T := F_M) (N := 28) hx hb hts u_M hown hK hP 0 rfl rfl 1 (by decide) f_13 (fun _ h9 => h9) rfl d_M_change_32 ?_
      refine lv_iload_n hx hb d_M_change_35 rfl (lv_at hl 1 rfl) ?_
      refine lv_iload_n hx hb d_M_change_36 rfl (lv_at hl 2 rfl) ?_
      obtain ⟨q3, hc, h⟩ := g_bd h
      refine gk_i (va_runS (As := [.int a2]) (rest := [.int a1, .ref ht_to]) ⟨hx, hb, hml, hown, hts⟩ (c_M_has l D cI cC a2 q3 hc _) (va_cwS 1 hts (gG_S mt_4_7 mt_4_8 mt_1_7 mt_4_9) rfl rfl rfl (by decide +kernel) ⟨Nat.le_of_ble_eq_true rfl, Nat.le_of_ble_eq_true rfl⟩) (gpS hK hP hD [] rfl (by decide)) rfl rfl hl.1 rfl (lv_room (Nat.le_of_ble_eq_true rfl)) d_M_change_37 ⟨Nat.zero_le _, Nat.zero_le _⟩) hK hP hD hS hA [] rfl (by decide) rfl rfl (fun H locs (hP : va_P D vwCl [(ht, .inr (6, [.ref ht_op, .ref ht_to, .ref ht_newOp, .ref ht_newTo, .ref ht_draft, .ref ht_text, .int t_many, .int t_letters, .int t_length, .int t_where, .int t_tree, .ref ht_todo, .ref ht_with, .ref ht_holes, .int t_top, .int t_hole, .int t_at, .int t_made, .ref ht_variable, .ref ht_stack, .ref ht_signs, .ref ht_output, .ref ht_blocks, .int t_high, .int t_signsHigh, .int t_printed, .int t_done, .int t_value])), (ht_op, .inl (cI, 30, .inl (upd t_op a1.toNatClampNeg a2))), (ht_to, .inl (cI, 31, .inl t_to))] H) (hD : va_D A [(ht, .inr (6, [.ref ht_op, .ref ht_to, .ref ht_newOp, .ref ht_newTo, .ref ht_draft, .ref ht_text, .int t_many, .int t_letters, .int t_length, .int t_where, .int t_tree, .ref ht_todo, .ref ht_with, .ref ht_holes, .int t_top, .int t_hole, .int t_at, .int t_made, .ref ht_variable, .ref ht_stack, .ref ht_signs, .ref ht_output, .ref ht_blocks, .int t_high, .int t_signsHigh, .int t_printed, .int t_done, .int t_value])), (ht_op, .inl (cI, 30, .inl (upd t_op a1.toNatClampNeg a2))), (ht_to, .inl (cI, 31, .inl t_to))]) hS => ?_)
      refine lv_if_eq (tgt := 47) hx hb d_M_change_40 (by decide) (fun ec => ?_) (fun ec => ?_)
      · have h := g_t ec h
        refine lv_iconst (v := (0 : Int32)) hx hb d_M_change_47 (by decide) ?_
        obtain ⟨hi, h⟩ := g_ck h
        refine va_iast hx hb hK hP hD hS 2 0 rfl rfl hi d_M_change_48 (fun H locs (hP : va_P D vwCl [(ht, .inr (6, [.ref ht_op, .ref ht_to, .ref ht_newOp, .ref ht_newTo, .ref ht_draft, .ref ht_text, .int t_many, .int t_letters, .int t_length, .int t_where, .int t_tree, .ref ht_todo, .ref ht_with, .ref ht_holes, .int t_top, .int t_hole, .int t_at, .int t_made, .ref ht_variable, .ref ht_stack, .ref ht_signs, .ref ht_output, .ref ht_blocks, .int t_high, .int t_signsHigh, .int t_printed, .int t_done, .int t_value])), (ht_op, .inl (cI, 30, .inl (upd t_op a1.toNatClampNeg a2))), (ht_to, .inl (cI, 31, .inl (upd t_to a1.toNatClampNeg (0 : Int32))))] H) (hD : va_D A [(ht, .inr (6, [.ref ht_op, .ref ht_to, .ref ht_newOp, .ref ht_newTo, .ref ht_draft, .ref ht_text, .int t_many, .int t_letters, .int t_length, .int t_where, .int t_tree, .ref ht_todo, .ref ht_with, .ref ht_holes, .int t_top, .int t_hole, .int t_at, .int t_made, .ref ht_variable, .ref ht_stack, .ref ht_signs, .ref ht_output, .ref ht_blocks, .int t_high, .int t_signsHigh, .int t_printed, .int t_done, .int t_value])), (ht_op, .inl (cI, 30, .inl (upd t_op a1.toNatClampNeg a2))), (ht_to, .inl (cI, 31, .inl (upd t_to a1.toNatClampNeg (0 : Int32))))]) hS => ?_)
        refine lv_iconst (v := (1 : Int32)) hx hb d_M_change_49 (by decide) ?_
        cases h
        exact gr_z (v := (1 : Int32)) (by decide) hx hb hr hlocks hK hP hD hS d_M_change_50
      · have h := g_f ec h
        refine lv_iload_n hx hb d_M_change_43 rfl (lv_at hl 3 rfl) ?_
        refine lv_goto (tgt := 48) hx hb d_M_change_44 (by decide) ?_
        obtain ⟨hi, h⟩ := g_ck h
        refine va_iast hx hb hK hP hD hS 2 0 rfl rfl hi d_M_change_48 (fun H locs (hP : va_P D vwCl [(ht, .inr (6, [.ref ht_op, .ref ht_to, .ref ht_newOp, .ref ht_newTo, .ref ht_draft, .ref ht_text, .int t_many, .int t_letters, .int t_length, .int t_where, .int t_tree, .ref ht_todo, .ref ht_with, .ref ht_holes, .int t_top, .int t_hole, .int t_at, .int t_made, .ref ht_variable, .ref ht_stack, .ref ht_signs, .ref ht_output, .ref ht_blocks, .int t_high, .int t_signsHigh, .int t_printed, .int t_done, .int t_value])), (ht_op, .inl (cI, 30, .inl (upd t_op a1.toNatClampNeg a2))), (ht_to, .inl (cI, 31, .inl (upd t_to a1.toNatClampNeg a3)))] H) (hD : va_D A [(ht, .inr (6, [.ref ht_op, .ref ht_to, .ref ht_newOp, .ref ht_newTo, .ref ht_draft, .ref ht_text, .int t_many, .int t_letters, .int t_length, .int t_where, .int t_tree, .ref ht_todo, .ref ht_with, .ref ht_holes, .int t_top, .int t_hole, .int t_at, .int t_made, .ref ht_variable, .ref ht_stack, .ref ht_signs, .ref ht_output, .ref ht_blocks, .int t_high, .int t_signsHigh, .int t_printed, .int t_done, .int t_value])), (ht_op, .inl (cI, 30, .inl (upd t_op a1.toNatClampNeg a2))), (ht_to, .inl (cI, 31, .inl (upd t_to a1.toNatClampNeg a3)))]) hS => ?_)
        refine lv_iconst (v := (1 : Int32)) hx hb d_M_change_49 (by decide) ?_
        cases h
        exact gr_z (v := (1 : Int32)) (by decide) hx hb hr hlocks hK hP hD hS d_M_change_50
    · have h := g_t ec h
      refine lv_iconst (v := (0 : Int32)) hx hb d_M_change_22 (by decide) ?_
      cases h
      exact gr_z (v := (0 : Int32)) (by decide) hx hb hr hlocks hK hP hD hS d_M_change_23
