def K_M_put (l : Launch) (D : va_G) (cI cC : ClassId) : Prop :=
  ∀ (ht ht_op ht_to ht_newOp ht_newTo ht_draft ht_text ht_todo ht_with ht_holes ht_variable ht_stack ht_signs ht_output ht_blocks : Nat) (t_many : Int32) (t_letters : Int32) (t_length : Int32) (t_where : Int32) (t_tree : Int32) (t_top : Int32) (t_hole : Int32) (t_at : Int32) (t_made : Int32) (t_high : Int32) (t_signsHigh : Int32) (t_printed : Int32) (t_done : Int32) (t_value : Int32) (t_op : Nat → Int32) (t_to : Nat → Int32) (a1 a2 : Int32) (q : Int32 × (Nat → Int32) × (Nat → Int32) × Int32), g_M_put t_op t_to t_many a1 a2 = some q → ∀ (sz : Nat), Met l y_M_put w_M_put ({ frames := 3, cells := 0, slots := 0, locals := 66 }) (va_Pc [.ref ht, .int a1, .int a2] (gB D (gT cI cC) [(ht, .inr (6, [.ref ht_op, .ref ht_to, .ref ht_newOp, .ref ht_newTo, .ref ht_draft, .ref ht_text, .int t_many, .int t_letters, .int t_length, .int t_where, .int t_tree, .ref ht_todo, .ref ht_with, .ref ht_holes, .int t_top, .int t_hole, .int t_at, .int t_made, .ref ht_variable, .ref ht_stack, .ref ht_signs, .ref ht_output, .ref ht_blocks, .int t_high, .int t_signsHigh, .int t_printed, .int t_done, .int t_value])), (ht_op, .inl (cI, 30, .inl t_op)), (ht_to, .inl (cI, 31, .inl t_to))] sz)) (gQi D (gT cI cC) q.1 [(ht, .inr (6, [.ref ht_op, .ref ht_to, .ref ht_newOp, .ref ht_newTo, .ref ht_draft, .ref ht_text, .int q.2.2.2, .int t_letters, .int t_length, .int t_where, .int t_tree, .ref ht_todo, .ref ht_with, .ref ht_holes, .int t_top, .int t_hole, .int t_at, .int t_made, .ref ht_variable, .ref ht_stack, .ref ht_signs, .ref ht_output, .ref ht_blocks, .int t_high, .int t_signsHigh, .int t_printed, .int t_done, .int t_value])), (ht_op, .inl (cI, 30, .inl q.2.1)), (ht_to, .inl (cI, 31, .inl q.2.2.1))] (va_A [(ht, .inr (6, [.ref ht_op, .ref ht_to, .ref ht_newOp, .ref ht_newTo, .ref ht_draft, .ref ht_text, .int t_many, .int t_letters, .int t_length, .int t_where, .int t_tree, .ref ht_todo, .ref ht_with, .ref ht_holes, .int t_top, .int t_hole, .int t_at, .int t_made, .ref ht_variable, .ref ht_stack, .ref ht_signs, .ref ht_output, .ref ht_blocks, .int t_high, .int t_signsHigh, .int t_printed, .int t_done, .int t_value])), (ht_op, .inl (cI, 30, .inl t_op)), (ht_to, .inl (cI, 31, .inl t_to))] sz)) 0 0 (va_A [(ht, .inr (6, [.ref ht_op, .ref ht_to, .ref ht_newOp, .ref ht_newTo, .ref ht_draft, .ref ht_text, .int t_many, .int t_letters, .int t_length, .int t_where, .int t_tree, .ref ht_todo, .ref ht_with, .ref ht_holes, .int t_top, .int t_hole, .int t_at, .int t_made, .ref ht_variable, .ref ht_stack, .ref ht_signs, .ref ht_output, .ref ht_blocks, .int t_high, .int t_signsHigh, .int t_printed, .int t_done, .int t_value])), (ht_op, .inl (cI, 30, .inl t_op)), (ht_to, .inl (cI, 31, .inl t_to))] sz)
set_option maxHeartbeats 4000000 in
set_option maxRecDepth 100000 in
theorem c_M_put (l : Launch) (D : va_G) (cI cC : ClassId) : K_M_put l D cI cC := by
  intro ht ht_op ht_to ht_newOp ht_newTo ht_draft ht_text ht_todo ht_with ht_holes ht_variable ht_stack ht_signs ht_output ht_blocks t_many t_letters t_length t_where t_tree t_top t_hole t_at t_made t_high t_signsHigh t_printed t_done t_value t_op t_to a1 a2 q h sz
  refine Met.ofW (cc := k_M_put) (maxL := 3) (ret := (some .int)) (by decide) rfl ?_
  intro p e s m args below meth c s₁ B hml hv
  obtain ⟨rfl, hsz, hP, hK, hD0⟩ := hv
  have hx := B.exec
  have hb := B.bytes
  have hr := B.returns
  have hts : ∀ w ∈ lw_t, w.before ([.ref ht, .int a1, .int a2] : List Value).toArray s = true := fun w h => atoms_spec (ws := w_M_put) B.pre w (List.mem_cons_of_mem _ h)
  have hown : s.vm.findClass R_M = some m.cls := findClass_of_methodNamed B.named
  have hlocks := B.notSynchronized
  subst hsz
  have hD := hD0.self (sz := s.heap.size)
  generalize hAe : va_A [(ht, .inr (6, [.ref ht_op, .ref ht_to, .ref ht_newOp, .ref ht_newTo, .ref ht_draft, .ref ht_text, .int t_many, .int t_letters, .int t_length, .int t_where, .int t_tree, .ref ht_todo, .ref ht_with, .ref ht_holes, .int t_top, .int t_hole, .int t_at, .int t_made, .ref ht_variable, .ref ht_stack, .ref ht_signs, .ref ht_output, .ref ht_blocks, .int t_high, .int t_signsHigh, .int t_printed, .int t_done, .int t_value])), (ht_op, .inl (cI, 30, .inl t_op)), (ht_to, .inl (cI, 31, .inl t_to))] s.heap.size = A at hD ⊢
  have hA : ∀ q : Nat, s.heap.size ≤ q → A q := fun q h => by rw [← hAe]; exact Or.inr h
  have hS : va_S A s.heap s.heap [] := va_S.rf
  have f_64 := hts _ mt_3_154
  have hP : va_P D vwCl [(ht, .inr (6, [.ref ht_op, .ref ht_to, .ref ht_newOp, .ref ht_newTo, .ref ht_draft, .ref ht_text, .int t_many, .int t_letters, .int t_length, .int t_where, .int t_tree, .ref ht_todo, .ref ht_with, .ref ht_holes, .int t_top, .int t_hole, .int t_at, .int t_made, .ref ht_variable, .ref ht_stack, .ref ht_signs, .ref ht_output, .ref ht_blocks, .int t_high, .int t_signsHigh, .int t_printed, .int t_done, .int t_value])), (ht_op, .inl (cI, 30, .inl t_op)), (ht_to, .inl (cI, 31, .inl t_to))] s.heap := hP
  have hl := lv_entry ([.ref ht, .int a1, .int a2]) (n := 3) (Nat.le_of_ble_eq_true rfl)
  rw [lg_entry_eq]
  generalize (lg_sl ([.ref ht, .int a1, .int a2]) ++ List.replicate (3 - (lg_sl ([.ref ht, .int a1, .int a2])).length) Slot.unset).toArray = ls at hl ⊢
  have hl : lv_has ls 3 [(0, .ref ht), (1, .int a1), (2, .int a2)] := hl
  unfold g_M_put at h
  refine lv_iload_n hx hb d_M_put_0 rfl (lv_at hl 1 rfl) ?_
  refine lv_iload_n hx hb d_M_put_1 rfl (lv_at hl 2 rfl) ?_
  obtain ⟨q1, hc, h⟩ := g_bd h
  refine gk_i (va_runS (As := [.int a1, .int a2]) (rest := []) ⟨hx, hb, hml, hown, hts⟩ (c_M_isGood l D cI cC a1 a2 q1 hc _) (va_cwS 2 hts (gG_S mt_3_237 mt_3_238 mt_1_7 mt_3_239) rfl rfl rfl (by decide +kernel) ⟨Nat.le_of_ble_eq_true rfl, Nat.le_of_ble_eq_true rfl⟩) (gpS hK hP hD [] rfl (by decide)) rfl rfl hl.1 rfl (lv_room (Nat.le_of_ble_eq_true rfl)) d_M_put_2 ⟨Nat.zero_le _, Nat.zero_le _⟩) hK hP hD hS hA [] rfl (by decide) rfl rfl (fun H locs (hP : va_P D vwCl [(ht, .inr (6, [.ref ht_op, .ref ht_to, .ref ht_newOp, .ref ht_newTo, .ref ht_draft, .ref ht_text, .int t_many, .int t_letters, .int t_length, .int t_where, .int t_tree, .ref ht_todo, .ref ht_with, .ref ht_holes, .int t_top, .int t_hole, .int t_at, .int t_made, .ref ht_variable, .ref ht_stack, .ref ht_signs, .ref ht_output, .ref ht_blocks, .int t_high, .int t_signsHigh, .int t_printed, .int t_done, .int t_value])), (ht_op, .inl (cI, 30, .inl t_op)), (ht_to, .inl (cI, 31, .inl t_to))] H) (hD : va_D A [(ht, .inr (6, [.ref ht_op, .ref ht_to, .ref ht_newOp, .ref ht_newTo, .ref ht_draft, .ref ht_text, .int t_many, .int t_letters, .int t_length, .int t_where, .int t_tree, .ref ht_todo, .ref ht_with, .ref ht_holes, .int t_top, .int t_hole, .int t_at, .int t_made, .ref ht_variable, .ref ht_stack, .ref ht_signs, .ref ht_output, .ref ht_blocks, .int t_high, .int t_signsHigh, .int t_printed, .int t_done, .int t_value])), (ht_op, .inl (cI, 30, .inl t_op)), (ht_to, .inl (cI, 31, .inl t_to))]) hS => ?_)
  refine lv_if_ne (tgt := 10) hx hb d_M_put_5 (by decide) (fun ec => ?_) (fun ec => ?_)
  · have h := g_f ec h
    refine lv_aload_n hx hb d_M_put_10 rfl (lv_at hl 0 rfl) ?_
    refine va_get (D := D) (ci := 6) (v := .int t_many) (C := R_M) (T := F_M) (N := 28) hx hb hts u_M hown hK hP 0 rfl rfl 6 (by decide) f_64 (fun _ h9 => h9) rfl d_M_put_11 ?_
    refine lv_bipush (v := (30 : Int32)) hx hb d_M_put_14 (by decide) ?_
    refine lv_icmp_ne (tgt := 22) hx hb d_M_put_16 (by decide) (fun ec => ?_) (fun ec => ?_)
    · have h := g_f ec h
      refine lv_aload_n hx hb d_M_put_22 rfl (lv_at hl 0 rfl) ?_
      refine lv_dup hx hb d_M_put_23 rfl ?_
      refine va_get (D := D) (ci := 6) (v := .int t_many) (C := R_M) (T := F_M) (N := 28) hx hb hts u_M hown hK hP 0 rfl rfl 6 (by decide) f_64 (fun _ h9 => h9) rfl d_M_put_24 ?_
      refine lv_iconst (v := (1 : Int32)) hx hb d_M_put_27 (by decide) ?_
      refine lv_iadd hx hb d_M_put_28 ?_
      refine va_put (D := D) (ci := 6) (v := .int (t_many + (1 : Int32))) (ty := .int) (C := R_M) (T := F_M) (N := 28) hx hb hts u_M t_M t_M_ok n_M hown hK hP hD hS 0 rfl rfl 6 (by decide) f_64 (fun _ h9 => h9) rfl (by decide +kernel) rfl rfl (Nat.le_of_ble_eq_true rfl) d_M_put_29 (fun H locs (hP : va_P D vwCl [(ht, .inr (6, [.ref ht_op, .ref ht_to, .ref ht_newOp, .ref ht_newTo, .ref ht_draft, .ref ht_text, .int (t_many + (1 : Int32)), .int t_letters, .int t_length, .int t_where, .int t_tree, .ref ht_todo, .ref ht_with, .ref ht_holes, .int t_top, .int t_hole, .int t_at, .int t_made, .ref ht_variable, .ref ht_stack, .ref ht_signs, .ref ht_output, .ref ht_blocks, .int t_high, .int t_signsHigh, .int t_printed, .int t_done, .int t_value])), (ht_op, .inl (cI, 30, .inl t_op)), (ht_to, .inl (cI, 31, .inl t_to))] H) (hD : va_D A [(ht, .inr (6, [.ref ht_op, .ref ht_to, .ref ht_newOp, .ref ht_newTo, .ref ht_draft, .ref ht_text, .int (t_many + (1 : Int32)), .int t_letters, .int t_length, .int t_where, .int t_tree, .ref ht_todo, .ref ht_with, .ref ht_holes, .int t_top, .int t_hole, .int t_at, .int t_made, .ref ht_variable, .ref ht_stack, .ref ht_signs, .ref ht_output, .ref ht_blocks, .int t_high, .int t_signsHigh, .int t_printed, .int t_done, .int t_value])), (ht_op, .inl (cI, 30, .inl t_op)), (ht_to, .inl (cI, 31, .inl t_to))]) hS => ?_)
      refine lv_aload_n hx hb d_M_put_32 rfl (lv_at hl 0 rfl) ?_
      refine lv_aload_n hx hb d_M_put_33 rfl (lv_at hl 0 rfl) ?_
      refine va_get (D := D) (ci := 6) (v := .int (t_many + (1 : Int32))) (C := R_M) (T := F_M) (N := 28) hx hb hts u_M hown hK hP 0 rfl rfl 6 (by decide) f_64 (fun _ h9 => h9) rfl d_M_put_34 ?_
      refine lv_iconst (v := (1 : Int32)) hx hb d_M_put_37 (by decide) ?_
      refine lv_isub hx hb d_M_put_38 ?_
      refine lv_iload_n hx hb d_M_put_39 rfl (lv_at hl 1 rfl) ?_
      refine lv_iload_n hx hb d_M_put_40 rfl (lv_at hl 2 rfl) ?_
      obtain ⟨q2, hc, h⟩ := g_bd h
      refine gk_i (va_runV (As := [.int ((t_many + (1 : Int32)) - (1 : Int32)), .int a1, .int a2]) (rest := []) ⟨hx, hb, hml, hown, hts⟩ (c_M_change l D cI cC ht ht_op ht_to ht_newOp ht_newTo ht_draft ht_text ht_todo ht_with ht_holes ht_variable ht_stack ht_signs ht_output ht_blocks (t_many + (1 : Int32)) t_letters t_length t_where t_tree t_top t_hole t_at t_made t_high t_signsHigh t_printed t_done t_value t_op t_to ((t_many + (1 : Int32)) - (1 : Int32)) a1 a2 q2 hc _) (cwV 3 hts (gG_V mt_4_3 mt_4_4 mt_4_5 mt_1_7 mt_4_6) rfl rfl rfl (by decide +kernel) ⟨Nat.le_of_ble_eq_true rfl, Nat.le_of_ble_eq_true rfl⟩) (gpV hK hP hD [0, 1, 2] rfl (by decide) (ci := 6) 0 rfl rfl) rfl rfl hl.1 rfl (lv_room (Nat.le_of_ble_eq_true rfl)) d_M_put_41 ⟨Nat.zero_le _, Nat.zero_le _⟩) hK hP hD hS hA [0, 1, 2] rfl (by decide) rfl rfl (fun H locs (hP : va_P D vwCl [(ht, .inr (6, [.ref ht_op, .ref ht_to, .ref ht_newOp, .ref ht_newTo, .ref ht_draft, .ref ht_text, .int (t_many + (1 : Int32)), .int t_letters, .int t_length, .int t_where, .int t_tree, .ref ht_todo, .ref ht_with, .ref ht_holes, .int t_top, .int t_hole, .int t_at, .int t_made, .ref ht_variable, .ref ht_stack, .ref ht_signs, .ref ht_output, .ref ht_blocks, .int t_high, .int t_signsHigh, .int t_printed, .int t_done, .int t_value])), (ht_op, .inl (cI, 30, .inl q2.2.1)), (ht_to, .inl (cI, 31, .inl q2.2.2))] H) (hD : va_D A [(ht, .inr (6, [.ref ht_op, .ref ht_to, .ref ht_newOp, .ref ht_newTo, .ref ht_draft, .ref ht_text, .int (t_many + (1 : Int32)), .int t_letters, .int t_length, .int t_where, .int t_tree, .ref ht_todo, .ref ht_with, .ref ht_holes, .int t_top, .int t_hole, .int t_at, .int t_made, .ref ht_variable, .ref ht_stack, .ref ht_signs, .ref ht_output, .ref ht_blocks, .int t_high, .int t_signsHigh, .int t_printed, .int t_done, .int t_value])), (ht_op, .inl (cI, 30, .inl q2.2.1)), (ht_to, .inl (cI, 31, .inl q2.2.2))]) hS => ?_)
      refine lv_pop hx hb d_M_put_44 rfl ?_
      refine lv_aload_n hx hb d_M_put_45 rfl (lv_at hl 0 rfl) ?_
      refine va_get (D := D) (ci := 6) (v := .int (t_many + (1 : Int32))) (C := R_M) (T := F_M) (N := 28) hx hb hts u_M hown hK hP 0 rfl rfl 6 (by decide) f_64 (fun _ h9 => h9) rfl d_M_put_46 ?_
      cases h
      exact gr_i hx hb hr hlocks hK hP hD hS d_M_put_49
    · have h := g_t ec h
      refine lv_bipush (v := (-3 : Int32)) hx hb d_M_put_19 (by decide) ?_
      cases h
      exact gr_i hx hb hr hlocks hK hP hD hS d_M_put_21
  · have h := g_t ec h
    refine lv_iconst (v := (-1 : Int32)) hx hb d_M_put_8 (by decide) ?_
    cases h
    exact gr_i hx hb hr hlocks hK hP hD hS d_M_put_9
def K_M_clear (l : Launch) (D : va_G) (cI cC : ClassId) : Prop :=
  ∀ (ht ht_op ht_to ht_newOp ht_newTo ht_draft ht_text ht_todo ht_with ht_holes ht_variable ht_stack ht_signs ht_output ht_blocks : Nat) (t_many : Int32) (t_letters : Int32) (t_length : Int32) (t_where : Int32) (t_tree : Int32) (t_top : Int32) (t_hole : Int32) (t_at : Int32) (t_made : Int32) (t_high : Int32) (t_signsHigh : Int32) (t_printed : Int32) (t_done : Int32) (t_value : Int32) (a1 : Int32) (q : Int32 × Int32 × Int32), g_M_clear t_many t_letters a1 = some q → ∀ (sz : Nat), Met l y_M_clear w_M_clear ({ frames := 1, cells := 0, slots := 0, locals := 22 }) (va_Pc [.ref ht, .int a1] (gB D (gT cI cC) [(ht, .inr (6, [.ref ht_op, .ref ht_to, .ref ht_newOp, .ref ht_newTo, .ref ht_draft, .ref ht_text, .int t_many, .int t_letters, .int t_length, .int t_where, .int t_tree, .ref ht_todo, .ref ht_with, .ref ht_holes, .int t_top, .int t_hole, .int t_at, .int t_made, .ref ht_variable, .ref ht_stack, .ref ht_signs, .ref ht_output, .ref ht_blocks, .int t_high, .int t_signsHigh, .int t_printed, .int t_done, .int t_value]))] sz)) (gQi D (gT cI cC) q.1 [(ht, .inr (6, [.ref ht_op, .ref ht_to, .ref ht_newOp, .ref ht_newTo, .ref ht_draft, .ref ht_text, .int q.2.1, .int q.2.2, .int t_length, .int t_where, .int t_tree, .ref ht_todo, .ref ht_with, .ref ht_holes, .int t_top, .int t_hole, .int t_at, .int t_made, .ref ht_variable, .ref ht_stack, .ref ht_signs, .ref ht_output, .ref ht_blocks, .int t_high, .int t_signsHigh, .int t_printed, .int t_done, .int t_value]))] (va_A [(ht, .inr (6, [.ref ht_op, .ref ht_to, .ref ht_newOp, .ref ht_newTo, .ref ht_draft, .ref ht_text, .int t_many, .int t_letters, .int t_length, .int t_where, .int t_tree, .ref ht_todo, .ref ht_with, .ref ht_holes, .int t_top, .int t_hole, .int t_at, .int t_made, .ref ht_variable, .ref ht_stack, .ref ht_signs, .ref ht_output, .ref ht_blocks, .int t_high, .int t_signsHigh, .int t_printed, .int t_done, .int t_value]))] sz)) 0 0 (va_A [(ht, .inr (6, [.ref ht_op, .ref ht_to, .ref ht_newOp, .ref ht_newTo, .ref ht_draft, .ref ht_text, .int t_many, .int t_letters, .int t_length, .int t_where, .int t_tree, .ref ht_todo, .ref ht_with, .ref ht_holes, .int t_top, .int t_hole, .int t_at, .int t_made, .ref ht_variable, .ref ht_stack, .ref ht_signs, .ref ht_output, .ref ht_blocks, .int t_high, .int t_signsHigh, .int t_printed, .int t_done, .int t_value]))] sz)
set_option maxHeartbeats 4000000 in
set_option maxRecDepth 100000 in
theorem c_M_clear (l : Launch) (D : va_G) (cI cC : ClassId) : K_M_clear l D cI cC := by
  intro ht ht_op ht_to ht_newOp ht_newTo ht_draft ht_text ht_todo ht_with ht_holes ht_variable ht_stack ht_signs ht_output ht_blocks t_many t_letters t_length t_where t_tree t_top t_hole t_at t_made t_high t_signsHigh t_printed t_done t_value a1 q h sz
  refine Met.ofW (cc := k_M_clear) (maxL := 3) (ret := (some .int)) (by decide) rfl ?_
  intro p e s m args below meth c s₁ B hml hv
  obtain ⟨rfl, hsz, hP, hK, hD0⟩ := hv
  have hx := B.exec
  have hb := B.bytes
  have hr := B.returns
  have hts : ∀ w ∈ lw_t, w.before ([.ref ht, .int a1] : List Value).toArray s = true := fun w h => atoms_spec (ws := w_M_clear) B.pre w (List.mem_cons_of_mem _ h)
  have hown : s.vm.findClass R_M = some m.cls := findClass_of_methodNamed B.named
  have hlocks := B.notSynchronized
  subst hsz
  have hD := hD0.self (sz := s.heap.size)
  generalize hAe : va_A [(ht, .inr (6, [.ref ht_op, .ref ht_to, .ref ht_newOp, .ref ht_newTo, .ref ht_draft, .ref ht_text, .int t_many, .int t_letters, .int t_length, .int t_where, .int t_tree, .ref ht_todo, .ref ht_with, .ref ht_holes, .int t_top, .int t_hole, .int t_at, .int t_made, .ref ht_variable, .ref ht_stack, .ref ht_signs, .ref ht_output, .ref ht_blocks, .int t_high, .int t_signsHigh, .int t_printed, .int t_done, .int t_value]))] s.heap.size = A at hD ⊢
  have hA : ∀ q : Nat, s.heap.size ≤ q → A q := fun q h => by rw [← hAe]; exact Or.inr h
  have hS : va_S A s.heap s.heap [] := va_S.rf
  have f_64 := hts _ mt_3_154
  have f_74 := hts _ mt_3_155
  have J_26 : ∀ (t_many : Int32) (t_letters : Int32) (v1 : Int32) (k0 : Int32), b_M_clear_26 t_many t_letters v1 k0 = some q → gJ p l e (headSpec w_M_clear ({ frames := 1, cells := 0, slots := 0, locals := 22 })).room s m ([.ref ht, .int a1] : List Value).toArray below meth c D A 3 (MQ below (gQi D (gT cI cC) q.1 [(ht, .inr (6, [.ref ht_op, .ref ht_to, .ref ht_newOp, .ref ht_newTo, .ref ht_draft, .ref ht_text, .int q.2.1, .int q.2.2, .int t_length, .int t_where, .int t_tree, .ref ht_todo, .ref ht_with, .ref ht_holes, .int t_top, .int t_hole, .int t_at, .int t_made, .ref ht_variable, .ref ht_stack, .ref ht_signs, .ref ht_output, .ref ht_blocks, .int t_high, .int t_signsHigh, .int t_printed, .int t_done, .int t_value]))] A) ([.ref ht, .int a1] : List Value).toArray s 0 0 A) 26 [(ht, .inr (6, [.ref ht_op, .ref ht_to, .ref ht_newOp, .ref ht_newTo, .ref ht_draft, .ref ht_text, .int t_many, .int t_letters, .int t_length, .int t_where, .int t_tree, .ref ht_todo, .ref ht_with, .ref ht_holes, .int t_top, .int t_hole, .int t_at, .int t_made, .ref ht_variable, .ref ht_stack, .ref ht_signs, .ref ht_output, .ref ht_blocks, .int t_high, .int t_signsHigh, .int t_printed, .int t_done, .int t_value]))] [(0, .ref ht), (1, .int v1)] [.int k0] := by
    intro t_many t_letters v1 k0 h H locs ls hP hD hS hl
    unfold b_M_clear_26 at h
    refine lv_istore_n (lv' := [(2, .int k0), (0, .ref ht), (1, .int v1)]) hx hb d_M_clear_26 rfl hl (by decide) rfl (fun ls hl => ?_)
    refine lv_aload_n hx hb d_M_clear_27 rfl (lv_at hl 1 rfl) ?_
    refine lv_iload_n hx hb d_M_clear_28 rfl (lv_at hl 2 rfl) ?_
    refine lv_if_ne (tgt := 36) hx hb d_M_clear_29 (by decide) (fun ec => ?_) (fun ec => ?_)
    · have h := g_f ec h
      refine lv_aload_n hx hb d_M_clear_36 rfl (lv_at hl 1 rfl) ?_
      refine va_get (D := D) (ci := 6) (v := .int t_many) (C := R_M) (T := F_M) (N := 28) hx hb hts u_M hown hK hP 0 rfl rfl 6 (by decide) f_64 (fun _ h9 => h9) rfl d_M_clear_37 ?_
      refine va_put (D := D) (ci := 6) (v := .int t_many) (ty := .int) (C := R_M) (T := F_M) (N := 28) hx hb hts u_M t_M t_M_ok n_M hown hK hP hD hS 0 rfl rfl 6 (by decide) f_64 (fun _ h9 => h9) rfl (by decide +kernel) rfl rfl (Nat.le_of_ble_eq_true rfl) d_M_clear_40 (fun H locs (hP : va_P D vwCl [(ht, .inr (6, [.ref ht_op, .ref ht_to, .ref ht_newOp, .ref ht_newTo, .ref ht_draft, .ref ht_text, .int t_many, .int t_letters, .int t_length, .int t_where, .int t_tree, .ref ht_todo, .ref ht_with, .ref ht_holes, .int t_top, .int t_hole, .int t_at, .int t_made, .ref ht_variable, .ref ht_stack, .ref ht_signs, .ref ht_output, .ref ht_blocks, .int t_high, .int t_signsHigh, .int t_printed, .int t_done, .int t_value]))] H) (hD : va_D A [(ht, .inr (6, [.ref ht_op, .ref ht_to, .ref ht_newOp, .ref ht_newTo, .ref ht_draft, .ref ht_text, .int t_many, .int t_letters, .int t_length, .int t_where, .int t_tree, .ref ht_todo, .ref ht_with, .ref ht_holes, .int t_top, .int t_hole, .int t_at, .int t_made, .ref ht_variable, .ref ht_stack, .ref ht_signs, .ref ht_output, .ref ht_blocks, .int t_high, .int t_signsHigh, .int t_printed, .int t_done, .int t_value]))]) hS => ?_)
      refine lv_aload_n hx hb d_M_clear_43 rfl (lv_at hl 1 rfl) ?_
      refine lv_iload_n hx hb d_M_clear_44 rfl (lv_at hl 2 rfl) ?_
      refine lv_if_ne (tgt := 55) hx hb d_M_clear_45 (by decide) (fun ec => ?_) (fun ec => ?_)
      · have h := g_f ec h
        refine lv_iconst (v := (0 : Int32)) hx hb d_M_clear_55 (by decide) ?_
        refine va_put (D := D) (ci := 6) (v := .int (0 : Int32)) (ty := .int) (C := R_M) (T := F_M) (N := 28) hx hb hts u_M t_M t_M_ok n_M hown hK hP hD hS 0 rfl rfl 7 (by decide) f_74 (fun _ h9 => h9) rfl (by decide +kernel) rfl rfl (Nat.le_of_ble_eq_true rfl) d_M_clear_56 (fun H locs (hP : va_P D vwCl [(ht, .inr (6, [.ref ht_op, .ref ht_to, .ref ht_newOp, .ref ht_newTo, .ref ht_draft, .ref ht_text, .int t_many, .int (0 : Int32), .int t_length, .int t_where, .int t_tree, .ref ht_todo, .ref ht_with, .ref ht_holes, .int t_top, .int t_hole, .int t_at, .int t_made, .ref ht_variable, .ref ht_stack, .ref ht_signs, .ref ht_output, .ref ht_blocks, .int t_high, .int t_signsHigh, .int t_printed, .int t_done, .int t_value]))] H) (hD : va_D A [(ht, .inr (6, [.ref ht_op, .ref ht_to, .ref ht_newOp, .ref ht_newTo, .ref ht_draft, .ref ht_text, .int t_many, .int (0 : Int32), .int t_length, .int t_where, .int t_tree, .ref ht_todo, .ref ht_with, .ref ht_holes, .int t_top, .int t_hole, .int t_at, .int t_made, .ref ht_variable, .ref ht_stack, .ref ht_signs, .ref ht_output, .ref ht_blocks, .int t_high, .int t_signsHigh, .int t_printed, .int t_done, .int t_value]))]) hS => ?_)
        refine lv_iload_n hx hb d_M_clear_59 rfl (lv_at hl 0 rfl) ?_
        cases h
        exact gr_i hx hb hr hlocks hK hP hD hS d_M_clear_60
      · have h := g_t ec h
        refine lv_aload_n hx hb d_M_clear_48 rfl (lv_at hl 1 rfl) ?_
        refine va_get (D := D) (ci := 6) (v := .int t_letters) (C := R_M) (T := F_M) (N := 28) hx hb hts u_M hown hK hP 0 rfl rfl 7 (by decide) f_74 (fun _ h9 => h9) rfl d_M_clear_49 ?_
        refine lv_goto (tgt := 56) hx hb d_M_clear_52 (by decide) ?_
        refine va_put (D := D) (ci := 6) (v := .int t_letters) (ty := .int) (C := R_M) (T := F_M) (N := 28) hx hb hts u_M t_M t_M_ok n_M hown hK hP hD hS 0 rfl rfl 7 (by decide) f_74 (fun _ h9 => h9) rfl (by decide +kernel) rfl rfl (Nat.le_of_ble_eq_true rfl) d_M_clear_56 (fun H locs (hP : va_P D vwCl [(ht, .inr (6, [.ref ht_op, .ref ht_to, .ref ht_newOp, .ref ht_newTo, .ref ht_draft, .ref ht_text, .int t_many, .int t_letters, .int t_length, .int t_where, .int t_tree, .ref ht_todo, .ref ht_with, .ref ht_holes, .int t_top, .int t_hole, .int t_at, .int t_made, .ref ht_variable, .ref ht_stack, .ref ht_signs, .ref ht_output, .ref ht_blocks, .int t_high, .int t_signsHigh, .int t_printed, .int t_done, .int t_value]))] H) (hD : va_D A [(ht, .inr (6, [.ref ht_op, .ref ht_to, .ref ht_newOp, .ref ht_newTo, .ref ht_draft, .ref ht_text, .int t_many, .int t_letters, .int t_length, .int t_where, .int t_tree, .ref ht_todo, .ref ht_with, .ref ht_holes, .int t_top, .int t_hole, .int t_at, .int t_made, .ref ht_variable, .ref ht_stack, .ref ht_signs, .ref ht_output, .ref ht_blocks, .int t_high, .int t_signsHigh, .int t_printed, .int t_done, .int t_value]))]) hS => ?_)
        refine lv_iload_n hx hb d_M_clear_59 rfl (lv_at hl 0 rfl) ?_
        cases h
        exact gr_i hx hb hr hlocks hK hP hD hS d_M_clear_60
    · have h := g_t ec h
      refine lv_iconst (v := (0 : Int32)) hx hb d_M_clear_32 (by decide) ?_
      refine lv_goto (tgt := 40) hx hb d_M_clear_33 (by decide) ?_
      refine va_put (D := D) (ci := 6) (v := .int (0 : Int32)) (ty := .int) (C := R_M) (T := F_M) (N := 28) hx hb hts u_M t_M t_M_ok n_M hown hK hP hD hS 0 rfl rfl 6 (by decide) f_64 (fun _ h9 => h9) rfl (by decide +kernel) rfl rfl (Nat.le_of_ble_eq_true rfl) d_M_clear_40 (fun H locs (hP : va_P D vwCl [(ht, .inr (6, [.ref ht_op, .ref ht_to, .ref ht_newOp, .ref ht_newTo, .ref ht_draft, .ref ht_text, .int (0 : Int32), .int t_letters, .int t_length, .int t_where, .int t_tree, .ref ht_todo, .ref ht_with, .ref ht_holes, .int t_top, .int t_hole, .int t_at, .int t_made, .ref ht_variable, .ref ht_stack, .ref ht_signs, .ref ht_output, .ref ht_blocks, .int t_high, .int t_signsHigh, .int t_printed, .int t_done, .int t_value]))] H) (hD : va_D A [(ht, .inr (6, [.ref ht_op, .ref ht_to, .ref ht_newOp, .ref ht_newTo, .ref ht_draft, .ref ht_text, .int (0 : Int32), .int t_letters, .int t_length, .int t_where, .int t_tree, .ref ht_todo, .ref ht_with, .ref ht_holes, .int t_top, .int t_hole, .int t_at, .int t_made, .ref ht_variable, .ref ht_stack, .ref ht_signs, .ref ht_output, .ref ht_blocks, .int t_high, .int t_signsHigh, .int t_printed, .int t_done, .int t_value]))]) hS => ?_)
      refine lv_aload_n hx hb d_M_clear_43 rfl (lv_at hl 1 rfl) ?_
      refine lv_iload_n hx hb d_M_clear_44 rfl (lv_at hl 2 rfl) ?_
      refine lv_if_ne (tgt := 55) hx hb d_M_clear_45 (by decide) (fun ec => ?_) (fun ec => ?_)
      · have h := g_f ec h
        refine lv_iconst (v := (0 : Int32)) hx hb d_M_clear_55 (by decide) ?_
        refine va_put (D := D) (ci := 6) (v := .int (0 : Int32)) (ty := .int) (C := R_M) (T := F_M) (N := 28) hx hb hts u_M t_M t_M_ok n_M hown hK hP hD hS 0 rfl rfl 7 (by decide) f_74 (fun _ h9 => h9) rfl (by decide +kernel) rfl rfl (Nat.le_of_ble_eq_true rfl) d_M_clear_56 (fun H locs (hP : va_P D vwCl [(ht, .inr (6, [.ref ht_op, .ref ht_to, .ref ht_newOp, .ref ht_newTo, .ref ht_draft, .ref ht_text, .int (0 : Int32), .int (0 : Int32), .int t_length, .int t_where, .int t_tree, .ref ht_todo, .ref ht_with, .ref ht_holes, .int t_top, .int t_hole, .int t_at, .int t_made, .ref ht_variable, .ref ht_stack, .ref ht_signs, .ref ht_output, .ref ht_blocks, .int t_high, .int t_signsHigh, .int t_printed, .int t_done, .int t_value]))] H) (hD : va_D A [(ht, .inr (6, [.ref ht_op, .ref ht_to, .ref ht_newOp, .ref ht_newTo, .ref ht_draft, .ref ht_text, .int (0 : Int32), .int (0 : Int32), .int t_length, .int t_where, .int t_tree, .ref ht_todo, .ref ht_with, .ref ht_holes, .int t_top, .int t_hole, .int t_at, .int t_made, .ref ht_variable, .ref ht_stack, .ref ht_signs, .ref ht_output, .ref ht_blocks, .int t_high, .int t_signsHigh, .int t_printed, .int t_done, .int t_value]))]) hS => ?_)
        refine lv_iload_n hx hb d_M_clear_59 rfl (lv_at hl 0 rfl) ?_
        cases h
        exact gr_i hx hb hr hlocks hK hP hD hS d_M_clear_60
      · have h := g_t ec h
        refine lv_aload_n hx hb d_M_clear_48 rfl (lv_at hl 1 rfl) ?_
        refine va_get (D := D) (ci := 6) (v := .int t_letters) (C := R_M) (T := F_M) (N := 28) hx hb hts u_M hown hK hP 0 rfl rfl 7 (by decide) f_74 (fun _ h9 => h9) rfl d_M_clear_49 ?_
        refine lv_goto (tgt := 56) hx hb d_M_clear_52 (by decide) ?_
        refine va_put (D := D) (ci := 6) (v := .int t_letters) (ty := .int) (C := R_M) (T := F_M) (N := 28) hx hb hts u_M t_M t_M_ok n_M hown hK hP hD hS 0 rfl rfl 7 (by decide) f_74 (fun _ h9 => h9) rfl (by decide +kernel) rfl rfl (Nat.le_of_ble_eq_true rfl) d_M_clear_56 (fun H locs (hP : va_P D vwCl [(ht, .inr (6, [.ref ht_op, .ref ht_to, .ref ht_newOp, .ref ht_newTo, .ref ht_draft, .ref ht_text, .int (0 : Int32), .int t_letters, .int t_length, .int t_where, .int t_tree, .ref ht_todo, .ref ht_with, .ref ht_holes, .int t_top, .int t_hole, .int t_at, .int t_made, .ref ht_variable, .ref ht_stack, .ref ht_signs, .ref ht_output, .ref ht_blocks, .int t_high, .int t_signsHigh, .int t_printed, .int t_done, .int t_value]))] H) (hD : va_D A [(ht, .inr (6, [.ref ht_op, .ref ht_to, .ref ht_newOp, .ref ht_newTo, .ref ht_draft, .ref ht_text, .int (0 : Int32), .int t_letters, .int t_length, .int t_where, .int t_tree, .ref ht_todo, .ref ht_with, .ref ht_holes, .int t_top, .int t_hole, .int t_at, .int t_made, .ref ht_variable, .ref ht_stack, .ref ht_signs, .ref ht_output, .ref ht_blocks, .int t_high, .int t_signsHigh, .int t_printed, .int t_done, .int t_value]))]) hS => ?_)
        refine lv_iload_n hx hb d_M_clear_59 rfl (lv_at hl 0 rfl) ?_
        cases h
        exact gr_i hx hb hr hlocks hK hP hD hS d_M_clear_60
  have hP : va_P D vwCl [(ht, .inr (6, [.ref ht_op, .ref ht_to, .ref ht_newOp, .ref ht_newTo, .ref ht_draft, .ref ht_text, .int t_many, .int t_letters, .int t_length, .int t_where, .int t_tree, .ref ht_todo, .ref ht_with, .ref ht_holes, .int t_top, .int t_hole, .int t_at, .int t_made, .ref ht_variable, .ref ht_stack, .ref ht_signs, .ref ht_output, .ref ht_blocks, .int t_high, .int t_signsHigh, .int t_printed, .int t_done, .int t_value]))] s.heap := hP
  have hl := lv_entry ([.ref ht, .int a1]) (n := 3) (Nat.le_of_ble_eq_true rfl)
  rw [lg_entry_eq]
  generalize (lg_sl ([.ref ht, .int a1]) ++ List.replicate (3 - (lg_sl ([.ref ht, .int a1])).length) Slot.unset).toArray = ls at hl ⊢
  have hl : lv_has ls 3 [(0, .ref ht), (1, .int a1)] := hl
  unfold g_M_clear at h
  refine lv_iload_n hx hb d_M_clear_0 rfl (lv_at hl 1 rfl) ?_
  refine lv_iconst (v := (0 : Int32)) hx hb d_M_clear_1 (by decide) ?_
  refine lv_iconst (v := (1 : Int32)) hx hb d_M_clear_2 (by decide) ?_
  obtain ⟨q1, hc, h⟩ := g_bd h
  refine gk_i (va_runS (As := [.int a1, .int (0 : Int32), .int (1 : Int32)]) (rest := []) ⟨hx, hb, hml, hown, hts⟩ (c_M_in l D cI cC a1 (0 : Int32) (1 : Int32) q1 hc _) (va_cwS 3 hts (gG_S mt_4_0 mt_4_1 mt_1_7 mt_4_2) rfl rfl rfl (by decide +kernel) ⟨Nat.le_of_ble_eq_true rfl, Nat.le_of_ble_eq_true rfl⟩) (gpS hK hP hD [] rfl (by decide)) rfl rfl hl.1 rfl (lv_room (Nat.le_of_ble_eq_true rfl)) d_M_clear_3 ⟨Nat.zero_le _, Nat.zero_le _⟩) hK hP hD hS hA [] rfl (by decide) rfl rfl (fun H locs (hP : va_P D vwCl [(ht, .inr (6, [.ref ht_op, .ref ht_to, .ref ht_newOp, .ref ht_newTo, .ref ht_draft, .ref ht_text, .int t_many, .int t_letters, .int t_length, .int t_where, .int t_tree, .ref ht_todo, .ref ht_with, .ref ht_holes, .int t_top, .int t_hole, .int t_at, .int t_made, .ref ht_variable, .ref ht_stack, .ref ht_signs, .ref ht_output, .ref ht_blocks, .int t_high, .int t_signsHigh, .int t_printed, .int t_done, .int t_value]))] H) (hD : va_D A [(ht, .inr (6, [.ref ht_op, .ref ht_to, .ref ht_newOp, .ref ht_newTo, .ref ht_draft, .ref ht_text, .int t_many, .int t_letters, .int t_length, .int t_where, .int t_tree, .ref ht_todo, .ref ht_with, .ref ht_holes, .int t_top, .int t_hole, .int t_at, .int t_made, .ref ht_variable, .ref ht_stack, .ref ht_signs, .ref ht_output, .ref ht_blocks, .int t_high, .int t_signsHigh, .int t_printed, .int t_done, .int t_value]))]) hS => ?_)
  refine lv_if_ne (tgt := 11) hx hb d_M_clear_6 (by decide) (fun ec => ?_) (fun ec => ?_)
  · have h := g_f ec h
    refine lv_iload_n hx hb d_M_clear_11 rfl (lv_at hl 1 rfl) ?_
    refine lv_if_ne (tgt := 22) hx hb d_M_clear_12 (by decide) (fun ec => ?_) (fun ec => ?_)
    · have h := g_f ec h
      refine lv_aload_n hx hb d_M_clear_22 rfl (lv_at hl 0 rfl) ?_
      refine va_get (D := D) (ci := 6) (v := .int t_letters) (C := R_M) (T := F_M) (N := 28) hx hb hts u_M hown hK hP 0 rfl rfl 7 (by decide) f_74 (fun _ h9 => h9) rfl d_M_clear_23 ?_
      exact J_26 _ _ _ _ h _ _ _ hP hD hS (lv_sub hl [0, 1] rfl)
    · have h := g_t ec h
      refine lv_aload_n hx hb d_M_clear_15 rfl (lv_at hl 0 rfl) ?_
      refine va_get (D := D) (ci := 6) (v := .int t_many) (C := R_M) (T := F_M) (N := 28) hx hb hts u_M hown hK hP 0 rfl rfl 6 (by decide) f_64 (fun _ h9 => h9) rfl d_M_clear_16 ?_
      refine lv_goto (tgt := 26) hx hb d_M_clear_19 (by decide) ?_
      exact J_26 _ _ _ _ h _ _ _ hP hD hS (lv_sub hl [0, 1] rfl)
  · have h := g_t ec h
    refine lv_iconst (v := (-1 : Int32)) hx hb d_M_clear_9 (by decide) ?_
    cases h
    exact gr_i hx hb hr hlocks hK hP hD hS d_M_clear_10
def K_M_grows (l : Launch) (D : va_G) (cI cC : ClassId) : Prop :=
  ∀ (a0 : Int32) (q : Int32), g_M_grows a0 = some q → ∀ (sz : Nat), Met l y_M_grows w_M_grows ({ frames := 0, cells := 0, slots := 0, locals := 0 }) (va_Pc [.int a0] (gB D (gT cI cC) [] sz)) (gQi D (gT cI cC) q [] (va_A [] sz)) 0 0 (va_A [] sz)
set_option maxHeartbeats 4000000 in
set_option maxRecDepth 100000 in
theorem c_M_grows (l : Launch) (D : va_G) (cI cC : ClassId) : K_M_grows l D cI cC := by
  intro a0 q h sz
  refine Met.ofW (cc := k_M_grows) (maxL := 1) (ret := (some .int)) (by decide) rfl ?_
  intro p e s m args below meth c s₁ B hml hv
  obtain ⟨rfl, hsz, hP, hK, hD0⟩ := hv
  have hx := B.exec
  have hb := B.bytes
  have hr := B.returns
  have hts : ∀ w ∈ lw_t, w.before ([.int a0] : List Value).toArray s = true := fun w h => atoms_spec (ws := w_M_grows) B.pre w (List.mem_cons_of_mem _ h)
  have hown : s.vm.findClass R_M = some m.cls := findClass_of_methodNamed B.named
  have hlocks := B.notSynchronized
  subst hsz
  have hD := hD0.self (sz := s.heap.size)
  generalize hAe : va_A [] s.heap.size = A at hD ⊢
  have hA : ∀ q : Nat, s.heap.size ≤ q → A q := fun q h => by rw [← hAe]; exact Or.inr h
  have hS : va_S A s.heap s.heap [] := va_S.rf
  have hP : va_P D vwCl [] s.heap := hP
  have hl := lv_entry ([.int a0]) (n := 1) (Nat.le_of_ble_eq_true rfl)
  rw [lg_entry_eq]
  generalize (lg_sl ([.int a0]) ++ List.replicate (1 - (lg_sl ([.int a0])).length) Slot.unset).toArray = ls at hl ⊢
  have hl : lv_has ls 1 [(0, .int a0)] := hl
  unfold g_M_grows at h
  refine lv_iload_n hx hb d_M_grows_0 rfl (lv_at hl 0 rfl) ?_
  refine lv_iconst (v := (2 : Int32)) hx hb d_M_grows_1 (by decide) ?_
  refine lv_icmp_ge (tgt := 9) hx hb d_M_grows_2 (by decide) (fun ec => ?_) (fun ec => ?_)
  · have h := g_t ec h
    refine lv_iload_n hx hb d_M_grows_9 rfl (lv_at hl 0 rfl) ?_
    refine lv_bipush (v := (7 : Int32)) hx hb d_M_grows_10 (by decide) ?_
    refine lv_icmp_eq (tgt := 21) hx hb d_M_grows_12 (by decide) (fun ec => ?_) (fun ec => ?_)
    · have h := g_t ec h
      refine lv_iconst (v := (0 : Int32)) hx hb d_M_grows_21 (by decide) ?_
      refine lv_goto (tgt := 26) hx hb d_M_grows_22 (by decide) ?_
      cases h
      exact gr_i hx hb hr hlocks hK hP hD hS d_M_grows_26
    · have h := g_f ec h
      refine lv_iload_n hx hb d_M_grows_15 rfl (lv_at hl 0 rfl) ?_
      refine lv_bipush (v := (8 : Int32)) hx hb d_M_grows_16 (by decide) ?_
      refine lv_icmp_ne (tgt := 25) hx hb d_M_grows_18 (by decide) (fun ec => ?_) (fun ec => ?_)
      · have h := g_f ec h
        refine lv_iconst (v := (-1 : Int32)) hx hb d_M_grows_25 (by decide) ?_
        cases h
        exact gr_i hx hb hr hlocks hK hP hD hS d_M_grows_26
      · have h := g_t ec h
        refine lv_iconst (v := (0 : Int32)) hx hb d_M_grows_21 (by decide) ?_
        refine lv_goto (tgt := 26) hx hb d_M_grows_22 (by decide) ?_
        cases h
        exact gr_i hx hb hr hlocks hK hP hD hS d_M_grows_26
  · have h := g_f ec h
    refine lv_iconst (v := (1 : Int32)) hx hb d_M_grows_5 (by decide) ?_
    refine lv_goto (tgt := 26) hx hb d_M_grows_6 (by decide) ?_
    cases h
    exact gr_i hx hb hr hlocks hK hP hD hS d_M_grows_26
def K_M_height (l : Launch) (D : va_G) (cI cC : ClassId) : Prop :=
  ∀ (ht ht_op ht_to ht_newOp ht_newTo ht_draft ht_text ht_todo ht_with ht_holes ht_variable ht_stack ht_signs ht_output ht_blocks : Nat) (t_many : Int32) (t_letters : Int32) (t_length : Int32) (t_where : Int32) (t_tree : Int32) (t_top : Int32) (t_hole : Int32) (t_at : Int32) (t_made : Int32) (t_high : Int32) (t_signsHigh : Int32) (t_printed : Int32) (t_done : Int32) (t_value : Int32) (t_op : Nat → Int32) (a1 : Int32) (q : Int32), g_M_height t_op a1 = some q → ∀ (sz : Nat), Met l y_M_height w_M_height ({ frames := 1, cells := 0, slots := 0, locals := 20 }) (va_Pc [.ref ht, .int a1] (gB D (gT cI cC) [(ht, .inr (6, [.ref ht_op, .ref ht_to, .ref ht_newOp, .ref ht_newTo, .ref ht_draft, .ref ht_text, .int t_many, .int t_letters, .int t_length, .int t_where, .int t_tree, .ref ht_todo, .ref ht_with, .ref ht_holes, .int t_top, .int t_hole, .int t_at, .int t_made, .ref ht_variable, .ref ht_stack, .ref ht_signs, .ref ht_output, .ref ht_blocks, .int t_high, .int t_signsHigh, .int t_printed, .int t_done, .int t_value])), (ht_op, .inl (cI, 30, .inl t_op))] sz)) (gQi D (gT cI cC) q [(ht, .inr (6, [.ref ht_op, .ref ht_to, .ref ht_newOp, .ref ht_newTo, .ref ht_draft, .ref ht_text, .int t_many, .int t_letters, .int t_length, .int t_where, .int t_tree, .ref ht_todo, .ref ht_with, .ref ht_holes, .int t_top, .int t_hole, .int t_at, .int t_made, .ref ht_variable, .ref ht_stack, .ref ht_signs, .ref ht_output, .ref ht_blocks, .int t_high, .int t_signsHigh, .int t_printed, .int t_done, .int t_value])), (ht_op, .inl (cI, 30, .inl t_op))] (va_A [(ht, .inr (6, [.ref ht_op, .ref ht_to, .ref ht_newOp, .ref ht_newTo, .ref ht_draft, .ref ht_text, .int t_many, .int t_letters, .int t_length, .int t_where, .int t_tree, .ref ht_todo, .ref ht_with, .ref ht_holes, .int t_top, .int t_hole, .int t_at, .int t_made, .ref ht_variable, .ref ht_stack, .ref ht_signs, .ref ht_output, .ref ht_blocks, .int t_high, .int t_signsHigh, .int t_printed, .int t_done, .int t_value])), (ht_op, .inl (cI, 30, .inl t_op))] sz)) 0 0 (va_A [(ht, .inr (6, [.ref ht_op, .ref ht_to, .ref ht_newOp, .ref ht_newTo, .ref ht_draft, .ref ht_text, .int t_many, .int t_letters, .int t_length, .int t_where, .int t_tree, .ref ht_todo, .ref ht_with, .ref ht_holes, .int t_top, .int t_hole, .int t_at, .int t_made, .ref ht_variable, .ref ht_stack, .ref ht_signs, .ref ht_output, .ref ht_blocks, .int t_high, .int t_signsHigh, .int t_printed, .int t_done, .int t_value])), (ht_op, .inl (cI, 30, .inl t_op))] sz)
set_option maxHeartbeats 4000000 in
set_option maxRecDepth 100000 in
theorem c_M_height (l : Launch) (D : va_G) (cI cC : ClassId) : K_M_height l D cI cC := by
  intro ht ht_op ht_to ht_newOp ht_newTo ht_draft ht_text ht_todo ht_with ht_holes ht_variable ht_stack ht_signs ht_output ht_blocks t_many t_letters t_length t_where t_tree t_top t_hole t_at t_made t_high t_signsHigh t_printed t_done t_value t_op a1 q h sz
  refine Met.ofW (cc := k_M_height) (maxL := 4) (ret := (some .int)) (by decide) rfl ?_
  intro p e s m args below meth c s₁ B hml hv
  obtain ⟨rfl, hsz, hP, hK, hD0⟩ := hv
  have hx := B.exec
  have hb := B.bytes
  have hr := B.returns
  have hts : ∀ w ∈ lw_t, w.before ([.ref ht, .int a1] : List Value).toArray s = true := fun w h => atoms_spec (ws := w_M_height) B.pre w (List.mem_cons_of_mem _ h)
  have hown : s.vm.findClass R_M = some m.cls := findClass_of_methodNamed B.named
  have hlocks := B.notSynchronized
  subst hsz
  have hD := hD0.self (sz := s.heap.size)
  generalize hAe : va_A [(ht, .inr (6, [.ref ht_op, .ref ht_to, .ref ht_newOp, .ref ht_newTo, .ref ht_draft, .ref ht_text, .int t_many, .int t_letters, .int t_length, .int t_where, .int t_tree, .ref ht_todo, .ref ht_with, .ref ht_holes, .int t_top, .int t_hole, .int t_at, .int t_made, .ref ht_variable, .ref ht_stack, .ref ht_signs, .ref ht_output, .ref ht_blocks, .int t_high, .int t_signsHigh, .int t_printed, .int t_done, .int t_value])), (ht_op, .inl (cI, 30, .inl t_op))] s.heap.size = A at hD ⊢
  have hA : ∀ q : Nat, s.heap.size ≤ q → A q := fun q h => by rw [← hAe]; exact Or.inr h
  have hS : va_S A s.heap s.heap [] := va_S.rf
  have f_7 := hts _ mt_3_148
  have LP_4 : ∀ nn_4 : Nat, ∀ (v1 : Int32) (v2 : Int32) (v3 : Int32), b_M_height_4 t_op nn_4 v1 v2 v3 = some q → gJ p l e (headSpec w_M_height ({ frames := 1, cells := 0, slots := 0, locals := 20 })).room s m ([.ref ht, .int a1] : List Value).toArray below meth c D A 4 (MQ below (gQi D (gT cI cC) q [(ht, .inr (6, [.ref ht_op, .ref ht_to, .ref ht_newOp, .ref ht_newTo, .ref ht_draft, .ref ht_text, .int t_many, .int t_letters, .int t_length, .int t_where, .int t_tree, .ref ht_todo, .ref ht_with, .ref ht_holes, .int t_top, .int t_hole, .int t_at, .int t_made, .ref ht_variable, .ref ht_stack, .ref ht_signs, .ref ht_output, .ref ht_blocks, .int t_high, .int t_signsHigh, .int t_printed, .int t_done, .int t_value])), (ht_op, .inl (cI, 30, .inl t_op))] A) ([.ref ht, .int a1] : List Value).toArray s 0 0 A) 4 [(ht, .inr (6, [.ref ht_op, .ref ht_to, .ref ht_newOp, .ref ht_newTo, .ref ht_draft, .ref ht_text, .int t_many, .int t_letters, .int t_length, .int t_where, .int t_tree, .ref ht_todo, .ref ht_with, .ref ht_holes, .int t_top, .int t_hole, .int t_at, .int t_made, .ref ht_variable, .ref ht_stack, .ref ht_signs, .ref ht_output, .ref ht_blocks, .int t_high, .int t_signsHigh, .int t_printed, .int t_done, .int t_value])), (ht_op, .inl (cI, 30, .inl t_op))] [(0, .ref ht), (1, .int v1), (2, .int v2), (3, .int v3)] [] := by
    intro nn_4
    induction nn_4 with
    | zero => intro v1 v2 v3 h; exact g_no h
    | succ nn_4 ih_4 =>
      intro v1 v2 v3 h H locs ls hP hD hS hl
      rw [b_M_height_4] at h
      refine lv_iload_n hx hb d_M_height_4 rfl (lv_at hl 3 rfl) ?_
      refine lv_iload_n hx hb d_M_height_5 rfl (lv_at hl 1 rfl) ?_
      refine lv_icmp_ge (tgt := 27) hx hb d_M_height_6 (by decide) (fun ec => ?_) (fun ec => ?_)
      · have h := g_t ec h
        refine lv_iload_n hx hb d_M_height_27 rfl (lv_at hl 2 rfl) ?_
        cases h
        exact gr_i hx hb hr hlocks hK hP hD hS d_M_height_28
      · have h := g_f ec h
        refine lv_iload_n hx hb d_M_height_9 rfl (lv_at hl 2 rfl) ?_
        refine lv_aload_n hx hb d_M_height_10 rfl (lv_at hl 0 rfl) ?_
        refine va_get (D := D) (ci := 6) (v := .ref ht_op) (C := R_M) (T := F_M) (N := 28) hx hb hts u_M hown hK hP 0 rfl rfl 0 (by decide) f_7 (fun _ h9 => h9) rfl d_M_height_11 ?_
        refine lv_iload_n hx hb d_M_height_14 rfl (lv_at hl 3 rfl) ?_
        obtain ⟨hi, h⟩ := g_ck h
        refine va_iald hx hb hK hP 1 0 rfl rfl hi d_M_height_15 ?_
        obtain ⟨q1, hc, h⟩ := g_bd h
        refine gk_i (va_runS (As := [.int (t_op v3.toNatClampNeg)]) (rest := [.int v2]) ⟨hx, hb, hml, hown, hts⟩ (c_M_grows l D cI cC (t_op v3.toNatClampNeg) q1 hc _) (va_cwS 1 hts (gG_S mt_4_23 mt_4_24 mt_1_7 mt_4_25) rfl rfl rfl (by decide +kernel) ⟨Nat.le_of_ble_eq_true rfl, Nat.le_of_ble_eq_true rfl⟩) (gpS hK hP hD [] rfl (by decide)) rfl rfl hl.1 rfl (lv_room (Nat.le_of_ble_eq_true rfl)) d_M_height_16 ⟨Nat.zero_le _, Nat.zero_le _⟩) hK hP hD hS hA [] rfl (by decide) rfl rfl (fun H locs (hP : va_P D vwCl [(ht, .inr (6, [.ref ht_op, .ref ht_to, .ref ht_newOp, .ref ht_newTo, .ref ht_draft, .ref ht_text, .int t_many, .int t_letters, .int t_length, .int t_where, .int t_tree, .ref ht_todo, .ref ht_with, .ref ht_holes, .int t_top, .int t_hole, .int t_at, .int t_made, .ref ht_variable, .ref ht_stack, .ref ht_signs, .ref ht_output, .ref ht_blocks, .int t_high, .int t_signsHigh, .int t_printed, .int t_done, .int t_value])), (ht_op, .inl (cI, 30, .inl t_op))] H) (hD : va_D A [(ht, .inr (6, [.ref ht_op, .ref ht_to, .ref ht_newOp, .ref ht_newTo, .ref ht_draft, .ref ht_text, .int t_many, .int t_letters, .int t_length, .int t_where, .int t_tree, .ref ht_todo, .ref ht_with, .ref ht_holes, .int t_top, .int t_hole, .int t_at, .int t_made, .ref ht_variable, .ref ht_stack, .ref ht_signs, .ref ht_output, .ref ht_blocks, .int t_high, .int t_signsHigh, .int t_printed, .int t_done, .int t_value])), (ht_op, .inl (cI, 30, .inl t_op))]) hS => ?_)
        refine lv_iadd hx hb d_M_height_19 ?_
        refine lv_istore_n (lv' := [(2, .int (v2 + q1)), (0, .ref ht), (1, .int v1), (3, .int v3)]) hx hb d_M_height_20 rfl hl (by decide) rfl (fun ls hl => ?_)
        refine lv_iinc (v := v3 + (1 : Int32)) (lv' := [(3, .int (v3 + (1 : Int32))), (2, .int (v2 + q1)), (0, .ref ht), (1, .int v1)]) hx hb d_M_height_21 hl (k := 3) rfl rfl (by decide) rfl (fun ls hl => ?_)
        refine lv_goto (tgt := 4) hx hb d_M_height_24 (by decide) ?_
        exact ih_4 _ _ _ h _ _ _ hP hD hS (lv_sub hl [2, 3, 1, 0] rfl)
  have hP : va_P D vwCl [(ht, .inr (6, [.ref ht_op, .ref ht_to, .ref ht_newOp, .ref ht_newTo, .ref ht_draft, .ref ht_text, .int t_many, .int t_letters, .int t_length, .int t_where, .int t_tree, .ref ht_todo, .ref ht_with, .ref ht_holes, .int t_top, .int t_hole, .int t_at, .int t_made, .ref ht_variable, .ref ht_stack, .ref ht_signs, .ref ht_output, .ref ht_blocks, .int t_high, .int t_signsHigh, .int t_printed, .int t_done, .int t_value])), (ht_op, .inl (cI, 30, .inl t_op))] s.heap := hP
  have hl := lv_entry ([.ref ht, .int a1]) (n := 4) (Nat.le_of_ble_eq_true rfl)
  rw [lg_entry_eq]
  generalize (lg_sl ([.ref ht, .int a1]) ++ List.replicate (4 - (lg_sl ([.ref ht, .int a1])).length) Slot.unset).toArray = ls at hl ⊢
  have hl : lv_has ls 4 [(0, .ref ht), (1, .int a1)] := hl
  unfold g_M_height at h
  refine lv_iconst (v := (0 : Int32)) hx hb d_M_height_0 (by decide) ?_
  refine lv_istore_n (lv' := [(2, .int (0 : Int32)), (0, .ref ht), (1, .int a1)]) hx hb d_M_height_1 rfl hl (by decide) rfl (fun ls hl => ?_)
  refine lv_iconst (v := (0 : Int32)) hx hb d_M_height_2 (by decide) ?_
  refine lv_istore_n (lv' := [(3, .int (0 : Int32)), (2, .int (0 : Int32)), (0, .ref ht), (1, .int a1)]) hx hb d_M_height_3 rfl hl (by decide) rfl (fun ls hl => ?_)
  exact LP_4 500 _ _ _ h _ _ _ hP hD hS (lv_sub hl [2, 3, 1, 0] rfl)
def K_M_code (l : Launch) (D : va_G) (cI cC : ClassId) : Prop :=
  ∀ (ht ht_op ht_to ht_newOp ht_newTo ht_draft ht_text ht_todo ht_with ht_holes ht_variable ht_stack ht_signs ht_output ht_blocks : Nat) (t_many : Int32) (t_letters : Int32) (t_length : Int32) (t_where : Int32) (t_tree : Int32) (t_top : Int32) (t_hole : Int32) (t_at : Int32) (t_made : Int32) (t_high : Int32) (t_signsHigh : Int32) (t_printed : Int32) (t_done : Int32) (t_value : Int32) (t_op : Nat → Int32) (t_to : Nat → Int32) (a1 a2 : Int32) (q : Int32), g_M_code t_op t_to t_many a1 a2 = some q → ∀ (sz : Nat), Met l y_M_code w_M_code ({ frames := 2, cells := 0, slots := 0, locals := 43 }) (va_Pc [.ref ht, .int a1, .int a2] (gB D (gT cI cC) [(ht, .inr (6, [.ref ht_op, .ref ht_to, .ref ht_newOp, .ref ht_newTo, .ref ht_draft, .ref ht_text, .int t_many, .int t_letters, .int t_length, .int t_where, .int t_tree, .ref ht_todo, .ref ht_with, .ref ht_holes, .int t_top, .int t_hole, .int t_at, .int t_made, .ref ht_variable, .ref ht_stack, .ref ht_signs, .ref ht_output, .ref ht_blocks, .int t_high, .int t_signsHigh, .int t_printed, .int t_done, .int t_value])), (ht_op, .inl (cI, 30, .inl t_op)), (ht_to, .inl (cI, 31, .inl t_to))] sz)) (gQi D (gT cI cC) q [(ht, .inr (6, [.ref ht_op, .ref ht_to, .ref ht_newOp, .ref ht_newTo, .ref ht_draft, .ref ht_text, .int t_many, .int t_letters, .int t_length, .int t_where, .int t_tree, .ref ht_todo, .ref ht_with, .ref ht_holes, .int t_top, .int t_hole, .int t_at, .int t_made, .ref ht_variable, .ref ht_stack, .ref ht_signs, .ref ht_output, .ref ht_blocks, .int t_high, .int t_signsHigh, .int t_printed, .int t_done, .int t_value])), (ht_op, .inl (cI, 30, .inl t_op)), (ht_to, .inl (cI, 31, .inl t_to))] (va_A [(ht, .inr (6, [.ref ht_op, .ref ht_to, .ref ht_newOp, .ref ht_newTo, .ref ht_draft, .ref ht_text, .int t_many, .int t_letters, .int t_length, .int t_where, .int t_tree, .ref ht_todo, .ref ht_with, .ref ht_holes, .int t_top, .int t_hole, .int t_at, .int t_made, .ref ht_variable, .ref ht_stack, .ref ht_signs, .ref ht_output, .ref ht_blocks, .int t_high, .int t_signsHigh, .int t_printed, .int t_done, .int t_value])), (ht_op, .inl (cI, 30, .inl t_op)), (ht_to, .inl (cI, 31, .inl t_to))] sz)) 0 0 (va_A [(ht, .inr (6, [.ref ht_op, .ref ht_to, .ref ht_newOp, .ref ht_newTo, .ref ht_draft, .ref ht_text, .int t_many, .int t_letters, .int t_length, .int t_where, .int t_tree, .ref ht_todo, .ref ht_with, .ref ht_holes, .int t_top, .int t_hole, .int t_at, .int t_made, .ref ht_variable, .ref ht_stack, .ref ht_signs, .ref ht_output, .ref ht_blocks, .int t_high, .int t_signsHigh, .int t_printed, .int t_done, .int t_value])), (ht_op, .inl (cI, 30, .inl t_op)), (ht_to, .inl (cI, 31, .inl t_to))] sz)
set_option maxHeartbeats 4000000 in
set_option maxRecDepth 100000 in
theorem c_M_code (l : Launch) (D : va_G) (cI cC : ClassId) : K_M_code l D cI cC := by
  intro ht ht_op ht_to ht_newOp ht_newTo ht_draft ht_text ht_todo ht_with ht_holes ht_variable ht_stack ht_signs ht_output ht_blocks t_many t_letters t_length t_where t_tree t_top t_hole t_at t_made t_high t_signsHigh t_printed t_done t_value t_op t_to a1 a2 q h sz
  refine Met.ofW (cc := k_M_code) (maxL := 3) (ret := (some .int)) (by decide) rfl ?_
  intro p e s m args below meth c s₁ B hml hv
  obtain ⟨rfl, hsz, hP, hK, hD0⟩ := hv
  have hx := B.exec
  have hb := B.bytes
  have hr := B.returns
  have hts : ∀ w ∈ lw_t, w.before ([.ref ht, .int a1, .int a2] : List Value).toArray s = true := fun w h => atoms_spec (ws := w_M_code) B.pre w (List.mem_cons_of_mem _ h)
  have hown : s.vm.findClass R_M = some m.cls := findClass_of_methodNamed B.named
  have hlocks := B.notSynchronized
  subst hsz
  have hD := hD0.self (sz := s.heap.size)
  generalize hAe : va_A [(ht, .inr (6, [.ref ht_op, .ref ht_to, .ref ht_newOp, .ref ht_newTo, .ref ht_draft, .ref ht_text, .int t_many, .int t_letters, .int t_length, .int t_where, .int t_tree, .ref ht_todo, .ref ht_with, .ref ht_holes, .int t_top, .int t_hole, .int t_at, .int t_made, .ref ht_variable, .ref ht_stack, .ref ht_signs, .ref ht_output, .ref ht_blocks, .int t_high, .int t_signsHigh, .int t_printed, .int t_done, .int t_value])), (ht_op, .inl (cI, 30, .inl t_op)), (ht_to, .inl (cI, 31, .inl t_to))] s.heap.size = A at hD ⊢
  have hA : ∀ q : Nat, s.heap.size ≤ q → A q := fun q h => by rw [← hAe]; exact Or.inr h
  have hS : va_S A s.heap s.heap [] := va_S.rf
  have f_13 := hts _ mt_3_149
  have f_64 := hts _ mt_3_154
  have f_7 := hts _ mt_3_148
  have J_31 : ∀ (v1 : Int32) (v2 : Int32) (k0 : Int32) (k1 : Int32) (k2 : Int32), b_M_code_31 t_op t_to t_many v1 v2 k0 k1 k2 = some q → gJ p l e (headSpec w_M_code ({ frames := 2, cells := 0, slots := 0, locals := 43 })).room s m ([.ref ht, .int a1, .int a2] : List Value).toArray below meth c D A 3 (MQ below (gQi D (gT cI cC) q [(ht, .inr (6, [.ref ht_op, .ref ht_to, .ref ht_newOp, .ref ht_newTo, .ref ht_draft, .ref ht_text, .int t_many, .int t_letters, .int t_length, .int t_where, .int t_tree, .ref ht_todo, .ref ht_with, .ref ht_holes, .int t_top, .int t_hole, .int t_at, .int t_made, .ref ht_variable, .ref ht_stack, .ref ht_signs, .ref ht_output, .ref ht_blocks, .int t_high, .int t_signsHigh, .int t_printed, .int t_done, .int t_value])), (ht_op, .inl (cI, 30, .inl t_op)), (ht_to, .inl (cI, 31, .inl t_to))] A) ([.ref ht, .int a1, .int a2] : List Value).toArray s 0 0 A) 31 [(ht, .inr (6, [.ref ht_op, .ref ht_to, .ref ht_newOp, .ref ht_newTo, .ref ht_draft, .ref ht_text, .int t_many, .int t_letters, .int t_length, .int t_where, .int t_tree, .ref ht_todo, .ref ht_with, .ref ht_holes, .int t_top, .int t_hole, .int t_at, .int t_made, .ref ht_variable, .ref ht_stack, .ref ht_signs, .ref ht_output, .ref ht_blocks, .int t_high, .int t_signsHigh, .int t_printed, .int t_done, .int t_value])), (ht_op, .inl (cI, 30, .inl t_op)), (ht_to, .inl (cI, 31, .inl t_to))] [(0, .ref ht), (1, .int v1), (2, .int v2)] [.int k2, .int k1, .int k0] := by
    intro v1 v2 k0 k1 k2 h H locs ls hP hD hS hl
    unfold b_M_code_31 at h
    obtain ⟨q1, hc, h⟩ := g_bd h
    refine gk_i (va_runS (As := [.int k0, .int k1, .int k2]) (rest := []) ⟨hx, hb, hml, hown, hts⟩ (c_M_in l D cI cC k0 k1 k2 q1 hc _) (va_cwS 3 hts (gG_S mt_4_0 mt_4_1 mt_1_7 mt_4_2) rfl rfl rfl (by decide +kernel) ⟨Nat.le_of_ble_eq_true rfl, Nat.le_of_ble_eq_true rfl⟩) (gpS hK hP hD [] rfl (by decide)) rfl rfl hl.1 rfl (lv_room (Nat.le_of_ble_eq_true rfl)) d_M_code_31 ⟨Nat.zero_le _, Nat.zero_le _⟩) hK hP hD hS hA [] rfl (by decide) rfl rfl (fun H locs (hP : va_P D vwCl [(ht, .inr (6, [.ref ht_op, .ref ht_to, .ref ht_newOp, .ref ht_newTo, .ref ht_draft, .ref ht_text, .int t_many, .int t_letters, .int t_length, .int t_where, .int t_tree, .ref ht_todo, .ref ht_with, .ref ht_holes, .int t_top, .int t_hole, .int t_at, .int t_made, .ref ht_variable, .ref ht_stack, .ref ht_signs, .ref ht_output, .ref ht_blocks, .int t_high, .int t_signsHigh, .int t_printed, .int t_done, .int t_value])), (ht_op, .inl (cI, 30, .inl t_op)), (ht_to, .inl (cI, 31, .inl t_to))] H) (hD : va_D A [(ht, .inr (6, [.ref ht_op, .ref ht_to, .ref ht_newOp, .ref ht_newTo, .ref ht_draft, .ref ht_text, .int t_many, .int t_letters, .int t_length, .int t_where, .int t_tree, .ref ht_todo, .ref ht_with, .ref ht_holes, .int t_top, .int t_hole, .int t_at, .int t_made, .ref ht_variable, .ref ht_stack, .ref ht_signs, .ref ht_output, .ref ht_blocks, .int t_high, .int t_signsHigh, .int t_printed, .int t_done, .int t_value])), (ht_op, .inl (cI, 30, .inl t_op)), (ht_to, .inl (cI, 31, .inl t_to))]) hS => ?_)
    refine lv_if_ne (tgt := 40) hx hb d_M_code_34 (by decide) (fun ec => ?_) (fun ec => ?_)
    · have h := g_f ec h
      refine lv_iload_n hx hb d_M_code_40 rfl (lv_at hl 2 rfl) ?_
      refine lv_if_ne (tgt := 53) hx hb d_M_code_41 (by decide) (fun ec => ?_) (fun ec => ?_)
      · have h := g_f ec h
        refine lv_iload_n hx hb d_M_code_53 rfl (lv_at hl 2 rfl) ?_
        refine lv_iconst (v := (1 : Int32)) hx hb d_M_code_54 (by decide) ?_
        refine lv_icmp_ne (tgt := 67) hx hb d_M_code_55 (by decide) (fun ec => ?_) (fun ec => ?_)
        · have h := g_f ec h
          refine lv_aload_n hx hb d_M_code_67 rfl (lv_at hl 0 rfl) ?_
          refine lv_iload_n hx hb d_M_code_68 rfl (lv_at hl 1 rfl) ?_
          obtain ⟨q2, hc, h⟩ := g_bd h
          refine gk_i (va_runV (As := [.int v1]) (rest := []) ⟨hx, hb, hml, hown, hts⟩ (c_M_height l D cI cC ht ht_op ht_to ht_newOp ht_newTo ht_draft ht_text ht_todo ht_with ht_holes ht_variable ht_stack ht_signs ht_output ht_blocks t_many t_letters t_length t_where t_tree t_top t_hole t_at t_made t_high t_signsHigh t_printed t_done t_value t_op v1 q2 hc _) (cwV 1 hts (gG_V mt_4_19 mt_4_21 mp_26 mt_1_7 mt_4_22) rfl rfl rfl (by decide +kernel) ⟨Nat.le_of_ble_eq_true rfl, Nat.le_of_ble_eq_true rfl⟩) (gpV hK hP hD [0, 1] rfl (by decide) (ci := 6) 0 rfl rfl) rfl rfl hl.1 rfl (lv_room (Nat.le_of_ble_eq_true rfl)) d_M_code_69 ⟨Nat.zero_le _, Nat.zero_le _⟩) hK hP hD hS hA [0, 1] rfl (by decide) rfl rfl (fun H locs (hP : va_P D vwCl [(ht, .inr (6, [.ref ht_op, .ref ht_to, .ref ht_newOp, .ref ht_newTo, .ref ht_draft, .ref ht_text, .int t_many, .int t_letters, .int t_length, .int t_where, .int t_tree, .ref ht_todo, .ref ht_with, .ref ht_holes, .int t_top, .int t_hole, .int t_at, .int t_made, .ref ht_variable, .ref ht_stack, .ref ht_signs, .ref ht_output, .ref ht_blocks, .int t_high, .int t_signsHigh, .int t_printed, .int t_done, .int t_value])), (ht_op, .inl (cI, 30, .inl t_op)), (ht_to, .inl (cI, 31, .inl t_to))] H) (hD : va_D A [(ht, .inr (6, [.ref ht_op, .ref ht_to, .ref ht_newOp, .ref ht_newTo, .ref ht_draft, .ref ht_text, .int t_many, .int t_letters, .int t_length, .int t_where, .int t_tree, .ref ht_todo, .ref ht_with, .ref ht_holes, .int t_top, .int t_hole, .int t_at, .int t_made, .ref ht_variable, .ref ht_stack, .ref ht_signs, .ref ht_output, .ref ht_blocks, .int t_high, .int t_signsHigh, .int t_printed, .int t_done, .int t_value])), (ht_op, .inl (cI, 30, .inl t_op)), (ht_to, .inl (cI, 31, .inl t_to))]) hS => ?_)
          cases h
          exact gr_i hx hb hr hlocks hK hP hD hS d_M_code_72
        · have h := g_t ec h
          refine lv_aload_n hx hb d_M_code_58 rfl (lv_at hl 0 rfl) ?_
          refine va_get (D := D) (ci := 6) (v := .ref ht_to) (C := R_M) (T := F_M) (N := 28) hx hb hts u_M hown hK hP 0 rfl rfl 1 (by decide) f_13 (fun _ h9 => h9) rfl d_M_code_59 ?_
          refine lv_iload_n hx hb d_M_code_62 rfl (lv_at hl 1 rfl) ?_
          obtain ⟨hi, h⟩ := g_ck h
          refine va_iald hx hb hK hP 2 0 rfl rfl hi d_M_code_63 ?_
          refine lv_goto (tgt := 72) hx hb d_M_code_64 (by decide) ?_
          cases h
          exact gr_i hx hb hr hlocks hK hP hD hS d_M_code_72
      · have h := g_t ec h
        refine lv_aload_n hx hb d_M_code_44 rfl (lv_at hl 0 rfl) ?_
        refine va_get (D := D) (ci := 6) (v := .ref ht_op) (C := R_M) (T := F_M) (N := 28) hx hb hts u_M hown hK hP 0 rfl rfl 0 (by decide) f_7 (fun _ h9 => h9) rfl d_M_code_45 ?_
        refine lv_iload_n hx hb d_M_code_48 rfl (lv_at hl 1 rfl) ?_
        obtain ⟨hi, h⟩ := g_ck h
        refine va_iald hx hb hK hP 1 0 rfl rfl hi d_M_code_49 ?_
        refine lv_goto (tgt := 72) hx hb d_M_code_50 (by decide) ?_
        cases h
        exact gr_i hx hb hr hlocks hK hP hD hS d_M_code_72
    · have h := g_t ec h
      refine lv_bipush (v := (-2 : Int32)) hx hb d_M_code_37 (by decide) ?_
      cases h
      exact gr_i hx hb hr hlocks hK hP hD hS d_M_code_39
  have hP : va_P D vwCl [(ht, .inr (6, [.ref ht_op, .ref ht_to, .ref ht_newOp, .ref ht_newTo, .ref ht_draft, .ref ht_text, .int t_many, .int t_letters, .int t_length, .int t_where, .int t_tree, .ref ht_todo, .ref ht_with, .ref ht_holes, .int t_top, .int t_hole, .int t_at, .int t_made, .ref ht_variable, .ref ht_stack, .ref ht_signs, .ref ht_output, .ref ht_blocks, .int t_high, .int t_signsHigh, .int t_printed, .int t_done, .int t_value])), (ht_op, .inl (cI, 30, .inl t_op)), (ht_to, .inl (cI, 31, .inl t_to))] s.heap := hP
  have hl := lv_entry ([.ref ht, .int a1, .int a2]) (n := 3) (Nat.le_of_ble_eq_true rfl)
  rw [lg_entry_eq]
  generalize (lg_sl ([.ref ht, .int a1, .int a2]) ++ List.replicate (3 - (lg_sl ([.ref ht, .int a1, .int a2])).length) Slot.unset).toArray = ls at hl ⊢
  have hl : lv_has ls 3 [(0, .ref ht), (1, .int a1), (2, .int a2)] := hl
  unfold g_M_code at h
  refine lv_iload_n hx hb d_M_code_0 rfl (lv_at hl 2 rfl) ?_
  refine lv_iconst (v := (0 : Int32)) hx hb d_M_code_1 (by decide) ?_
  refine lv_iconst (v := (2 : Int32)) hx hb d_M_code_2 (by decide) ?_
  obtain ⟨q1, hc, h⟩ := g_bd h
  refine gk_i (va_runS (As := [.int a2, .int (0 : Int32), .int (2 : Int32)]) (rest := []) ⟨hx, hb, hml, hown, hts⟩ (c_M_in l D cI cC a2 (0 : Int32) (2 : Int32) q1 hc _) (va_cwS 3 hts (gG_S mt_4_0 mt_4_1 mt_1_7 mt_4_2) rfl rfl rfl (by decide +kernel) ⟨Nat.le_of_ble_eq_true rfl, Nat.le_of_ble_eq_true rfl⟩) (gpS hK hP hD [] rfl (by decide)) rfl rfl hl.1 rfl (lv_room (Nat.le_of_ble_eq_true rfl)) d_M_code_3 ⟨Nat.zero_le _, Nat.zero_le _⟩) hK hP hD hS hA [] rfl (by decide) rfl rfl (fun H locs (hP : va_P D vwCl [(ht, .inr (6, [.ref ht_op, .ref ht_to, .ref ht_newOp, .ref ht_newTo, .ref ht_draft, .ref ht_text, .int t_many, .int t_letters, .int t_length, .int t_where, .int t_tree, .ref ht_todo, .ref ht_with, .ref ht_holes, .int t_top, .int t_hole, .int t_at, .int t_made, .ref ht_variable, .ref ht_stack, .ref ht_signs, .ref ht_output, .ref ht_blocks, .int t_high, .int t_signsHigh, .int t_printed, .int t_done, .int t_value])), (ht_op, .inl (cI, 30, .inl t_op)), (ht_to, .inl (cI, 31, .inl t_to))] H) (hD : va_D A [(ht, .inr (6, [.ref ht_op, .ref ht_to, .ref ht_newOp, .ref ht_newTo, .ref ht_draft, .ref ht_text, .int t_many, .int t_letters, .int t_length, .int t_where, .int t_tree, .ref ht_todo, .ref ht_with, .ref ht_holes, .int t_top, .int t_hole, .int t_at, .int t_made, .ref ht_variable, .ref ht_stack, .ref ht_signs, .ref ht_output, .ref ht_blocks, .int t_high, .int t_signsHigh, .int t_printed, .int t_done, .int t_value])), (ht_op, .inl (cI, 30, .inl t_op)), (ht_to, .inl (cI, 31, .inl t_to))]) hS => ?_)
  refine lv_if_ne (tgt := 11) hx hb d_M_code_6 (by decide) (fun ec => ?_) (fun ec => ?_)
  · have h := g_f ec h
    refine lv_iload_n hx hb d_M_code_11 rfl (lv_at hl 1 rfl) ?_
    refine lv_iconst (v := (0 : Int32)) hx hb d_M_code_12 (by decide) ?_
    refine lv_iload_n hx hb d_M_code_13 rfl (lv_at hl 2 rfl) ?_
    refine lv_iconst (v := (2 : Int32)) hx hb d_M_code_14 (by decide) ?_
    refine lv_icmp_ne (tgt := 25) hx hb d_M_code_15 (by decide) (fun ec => ?_) (fun ec => ?_)
    · have h := g_f ec h
      refine lv_aload_n hx hb d_M_code_25 rfl (lv_at hl 0 rfl) ?_
      refine va_get (D := D) (ci := 6) (v := .int t_many) (C := R_M) (T := F_M) (N := 28) hx hb hts u_M hown hK hP 0 rfl rfl 6 (by decide) f_64 (fun _ h9 => h9) rfl d_M_code_26 ?_
      refine lv_iconst (v := (1 : Int32)) hx hb d_M_code_29 (by decide) ?_
      refine lv_isub hx hb d_M_code_30 ?_
      exact J_31 _ _ _ _ _ h _ _ _ hP hD hS (lv_sub hl [0, 1, 2] rfl)
    · have h := g_t ec h
      refine lv_aload_n hx hb d_M_code_18 rfl (lv_at hl 0 rfl) ?_
      refine va_get (D := D) (ci := 6) (v := .int t_many) (C := R_M) (T := F_M) (N := 28) hx hb hts u_M hown hK hP 0 rfl rfl 6 (by decide) f_64 (fun _ h9 => h9) rfl d_M_code_19 ?_
      refine lv_goto (tgt := 31) hx hb d_M_code_22 (by decide) ?_
      exact J_31 _ _ _ _ _ h _ _ _ hP hD hS (lv_sub hl [0, 1, 2] rfl)
  · have h := g_t ec h
    refine lv_iconst (v := (-1 : Int32)) hx hb d_M_code_9 (by decide) ?_
    cases h
    exact gr_i hx hb hr hlocks hK hP hD hS d_M_code_10
def K_M_isWrong (l : Launch) (D : va_G) (cI cC : ClassId) : Prop :=
  ∀ (ht ht_op ht_to ht_newOp ht_newTo ht_draft ht_text ht_todo ht_with ht_holes ht_variable ht_stack ht_signs ht_output ht_blocks : Nat) (t_many : Int32) (t_letters : Int32) (t_length : Int32) (t_where : Int32) (t_tree : Int32) (t_top : Int32) (t_hole : Int32) (t_at : Int32) (t_made : Int32) (t_high : Int32) (t_signsHigh : Int32) (t_printed : Int32) (t_done : Int32) (t_value : Int32) (t_op : Nat → Int32) (t_to : Nat → Int32) (a1 : Int32) (q : Int32), g_M_isWrong t_op t_to t_many a1 = some q → ∀ (sz : Nat), Met l y_M_isWrong w_M_isWrong ({ frames := 2, cells := 0, slots := 0, locals := 43 }) (va_Pc [.ref ht, .int a1] (gB D (gT cI cC) [(ht, .inr (6, [.ref ht_op, .ref ht_to, .ref ht_newOp, .ref ht_newTo, .ref ht_draft, .ref ht_text, .int t_many, .int t_letters, .int t_length, .int t_where, .int t_tree, .ref ht_todo, .ref ht_with, .ref ht_holes, .int t_top, .int t_hole, .int t_at, .int t_made, .ref ht_variable, .ref ht_stack, .ref ht_signs, .ref ht_output, .ref ht_blocks, .int t_high, .int t_signsHigh, .int t_printed, .int t_done, .int t_value])), (ht_op, .inl (cI, 30, .inl t_op)), (ht_to, .inl (cI, 31, .inl t_to))] sz)) (gQi D (gT cI cC) q [(ht, .inr (6, [.ref ht_op, .ref ht_to, .ref ht_newOp, .ref ht_newTo, .ref ht_draft, .ref ht_text, .int t_many, .int t_letters, .int t_length, .int t_where, .int t_tree, .ref ht_todo, .ref ht_with, .ref ht_holes, .int t_top, .int t_hole, .int t_at, .int t_made, .ref ht_variable, .ref ht_stack, .ref ht_signs, .ref ht_output, .ref ht_blocks, .int t_high, .int t_signsHigh, .int t_printed, .int t_done, .int t_value])), (ht_op, .inl (cI, 30, .inl t_op)), (ht_to, .inl (cI, 31, .inl t_to))] (va_A [(ht, .inr (6, [.ref ht_op, .ref ht_to, .ref ht_newOp, .ref ht_newTo, .ref ht_draft, .ref ht_text, .int t_many, .int t_letters, .int t_length, .int t_where, .int t_tree, .ref ht_todo, .ref ht_with, .ref ht_holes, .int t_top, .int t_hole, .int t_at, .int t_made, .ref ht_variable, .ref ht_stack, .ref ht_signs, .ref ht_output, .ref ht_blocks, .int t_high, .int t_signsHigh, .int t_printed, .int t_done, .int t_value])), (ht_op, .inl (cI, 30, .inl t_op)), (ht_to, .inl (cI, 31, .inl t_to))] sz)) 0 0 (va_A [(ht, .inr (6, [.ref ht_op, .ref ht_to, .ref ht_newOp, .ref ht_newTo, .ref ht_draft, .ref ht_text, .int t_many, .int t_letters, .int t_length, .int t_where, .int t_tree, .ref ht_todo, .ref ht_with, .ref ht_holes, .int t_top, .int t_hole, .int t_at, .int t_made, .ref ht_variable, .ref ht_stack, .ref ht_signs, .ref ht_output, .ref ht_blocks, .int t_high, .int t_signsHigh, .int t_printed, .int t_done, .int t_value])), (ht_op, .inl (cI, 30, .inl t_op)), (ht_to, .inl (cI, 31, .inl t_to))] sz)
set_option maxHeartbeats 4000000 in
set_option maxRecDepth 100000 in
theorem c_M_isWrong (l : Launch) (D : va_G) (cI cC : ClassId) : K_M_isWrong l D cI cC := by
  intro ht ht_op ht_to ht_newOp ht_newTo ht_draft ht_text ht_todo ht_with ht_holes ht_variable ht_stack ht_signs ht_output ht_blocks t_many t_letters t_length t_where t_tree t_top t_hole t_at t_made t_high t_signsHigh t_printed t_done t_value t_op t_to a1 q h sz
  refine Met.ofW (cc := k_M_isWrong) (maxL := 4) (ret := (some .boolean)) (by decide) rfl ?_
  intro p e s m args below meth c s₁ B hml hv
  obtain ⟨rfl, hsz, hP, hK, hD0⟩ := hv
  have hx := B.exec
  have hb := B.bytes
  have hr := B.returns
  have hts : ∀ w ∈ lw_t, w.before ([.ref ht, .int a1] : List Value).toArray s = true := fun w h => atoms_spec (ws := w_M_isWrong) B.pre w (List.mem_cons_of_mem _ h)
  have hown : s.vm.findClass R_M = some m.cls := findClass_of_methodNamed B.named
  have hlocks := B.notSynchronized
  subst hsz
  have hD := hD0.self (sz := s.heap.size)
  generalize hAe : va_A [(ht, .inr (6, [.ref ht_op, .ref ht_to, .ref ht_newOp, .ref ht_newTo, .ref ht_draft, .ref ht_text, .int t_many, .int t_letters, .int t_length, .int t_where, .int t_tree, .ref ht_todo, .ref ht_with, .ref ht_holes, .int t_top, .int t_hole, .int t_at, .int t_made, .ref ht_variable, .ref ht_stack, .ref ht_signs, .ref ht_output, .ref ht_blocks, .int t_high, .int t_signsHigh, .int t_printed, .int t_done, .int t_value])), (ht_op, .inl (cI, 30, .inl t_op)), (ht_to, .inl (cI, 31, .inl t_to))] s.heap.size = A at hD ⊢
  have hA : ∀ q : Nat, s.heap.size ≤ q → A q := fun q h => by rw [← hAe]; exact Or.inr h
  have hS : va_S A s.heap s.heap [] := va_S.rf
  have f_13 := hts _ mt_3_149
  have f_64 := hts _ mt_3_154
  have f_7 := hts _ mt_3_148
  have J_122 : ∀ (v1 : Int32), b_M_isWrong_122 t_op t_to t_many v1 = some q → gJ p l e (headSpec w_M_isWrong ({ frames := 2, cells := 0, slots := 0, locals := 43 })).room s m ([.ref ht, .int a1] : List Value).toArray below meth c D A 4 (MQ below (gQi D (gT cI cC) q [(ht, .inr (6, [.ref ht_op, .ref ht_to, .ref ht_newOp, .ref ht_newTo, .ref ht_draft, .ref ht_text, .int t_many, .int t_letters, .int t_length, .int t_where, .int t_tree, .ref ht_todo, .ref ht_with, .ref ht_holes, .int t_top, .int t_hole, .int t_at, .int t_made, .ref ht_variable, .ref ht_stack, .ref ht_signs, .ref ht_output, .ref ht_blocks, .int t_high, .int t_signsHigh, .int t_printed, .int t_done, .int t_value])), (ht_op, .inl (cI, 30, .inl t_op)), (ht_to, .inl (cI, 31, .inl t_to))] A) ([.ref ht, .int a1] : List Value).toArray s 0 0 A) 122 [(ht, .inr (6, [.ref ht_op, .ref ht_to, .ref ht_newOp, .ref ht_newTo, .ref ht_draft, .ref ht_text, .int t_many, .int t_letters, .int t_length, .int t_where, .int t_tree, .ref ht_todo, .ref ht_with, .ref ht_holes, .int t_top, .int t_hole, .int t_at, .int t_made, .ref ht_variable, .ref ht_stack, .ref ht_signs, .ref ht_output, .ref ht_blocks, .int t_high, .int t_signsHigh, .int t_printed, .int t_done, .int t_value])), (ht_op, .inl (cI, 30, .inl t_op)), (ht_to, .inl (cI, 31, .inl t_to))] [(0, .ref ht), (1, .int v1)] [] := by
    intro v1 h H locs ls hP hD hS hl
    unfold b_M_isWrong_122 at h
    refine lv_aload_n hx hb d_M_isWrong_122 rfl (lv_at hl 0 rfl) ?_
    refine va_get (D := D) (ci := 6) (v := .ref ht_to) (C := R_M) (T := F_M) (N := 28) hx hb hts u_M hown hK hP 0 rfl rfl 1 (by decide) f_13 (fun _ h9 => h9) rfl d_M_isWrong_123 ?_
    refine lv_iload_n hx hb d_M_isWrong_126 rfl (lv_at hl 1 rfl) ?_
    obtain ⟨hi, h⟩ := g_ck h
    refine va_iald hx hb hK hP 2 0 rfl rfl hi d_M_isWrong_127 ?_
    refine lv_aload_n hx hb d_M_isWrong_128 rfl (lv_at hl 0 rfl) ?_
    refine va_get (D := D) (ci := 6) (v := .int t_many) (C := R_M) (T := F_M) (N := 28) hx hb hts u_M hown hK hP 0 rfl rfl 6 (by decide) f_64 (fun _ h9 => h9) rfl d_M_isWrong_129 ?_
    refine lv_icmp_gt (tgt := 148) hx hb d_M_isWrong_132 (by decide) (fun ec => ?_) (fun ec => ?_)
    · have h := g_t ec h
      refine lv_iconst (v := (1 : Int32)) hx hb d_M_isWrong_148 (by decide) ?_
      refine lv_goto (tgt := 153) hx hb d_M_isWrong_149 (by decide) ?_
      cases h
      exact gr_z (v := (1 : Int32)) (by decide) hx hb hr hlocks hK hP hD hS d_M_isWrong_153
    · have h := g_f ec h
      refine lv_aload_n hx hb d_M_isWrong_135 rfl (lv_at hl 0 rfl) ?_
      refine lv_aload_n hx hb d_M_isWrong_136 rfl (lv_at hl 0 rfl) ?_
      refine va_get (D := D) (ci := 6) (v := .ref ht_to) (C := R_M) (T := F_M) (N := 28) hx hb hts u_M hown hK hP 0 rfl rfl 1 (by decide) f_13 (fun _ h9 => h9) rfl d_M_isWrong_137 ?_
      refine lv_iload_n hx hb d_M_isWrong_140 rfl (lv_at hl 1 rfl) ?_
      obtain ⟨hi, h⟩ := g_ck h
      refine va_iald hx hb hK hP 2 0 rfl rfl hi d_M_isWrong_141 ?_
      obtain ⟨q1, hc, h⟩ := g_bd h
      refine gk_i (va_runV (As := [.int (t_to v1.toNatClampNeg)]) (rest := []) ⟨hx, hb, hml, hown, hts⟩ (c_M_height l D cI cC ht ht_op ht_to ht_newOp ht_newTo ht_draft ht_text ht_todo ht_with ht_holes ht_variable ht_stack ht_signs ht_output ht_blocks t_many t_letters t_length t_where t_tree t_top t_hole t_at t_made t_high t_signsHigh t_printed t_done t_value t_op (t_to v1.toNatClampNeg) q1 hc _) (cwV 1 hts (gG_V mt_4_19 mt_4_21 mp_26 mt_1_7 mt_4_22) rfl rfl rfl (by decide +kernel) ⟨Nat.le_of_ble_eq_true rfl, Nat.le_of_ble_eq_true rfl⟩) (gpV hK hP hD [0, 1] rfl (by decide) (ci := 6) 0 rfl rfl) rfl rfl hl.1 rfl (lv_room (Nat.le_of_ble_eq_true rfl)) d_M_isWrong_142 ⟨Nat.zero_le _, Nat.zero_le _⟩) hK hP hD hS hA [0, 1] rfl (by decide) rfl rfl (fun H locs (hP : va_P D vwCl [(ht, .inr (6, [.ref ht_op, .ref ht_to, .ref ht_newOp, .ref ht_newTo, .ref ht_draft, .ref ht_text, .int t_many, .int t_letters, .int t_length, .int t_where, .int t_tree, .ref ht_todo, .ref ht_with, .ref ht_holes, .int t_top, .int t_hole, .int t_at, .int t_made, .ref ht_variable, .ref ht_stack, .ref ht_signs, .ref ht_output, .ref ht_blocks, .int t_high, .int t_signsHigh, .int t_printed, .int t_done, .int t_value])), (ht_op, .inl (cI, 30, .inl t_op)), (ht_to, .inl (cI, 31, .inl t_to))] H) (hD : va_D A [(ht, .inr (6, [.ref ht_op, .ref ht_to, .ref ht_newOp, .ref ht_newTo, .ref ht_draft, .ref ht_text, .int t_many, .int t_letters, .int t_length, .int t_where, .int t_tree, .ref ht_todo, .ref ht_with, .ref ht_holes, .int t_top, .int t_hole, .int t_at, .int t_made, .ref ht_variable, .ref ht_stack, .ref ht_signs, .ref ht_output, .ref ht_blocks, .int t_high, .int t_signsHigh, .int t_printed, .int t_done, .int t_value])), (ht_op, .inl (cI, 30, .inl t_op)), (ht_to, .inl (cI, 31, .inl t_to))]) hS => ?_)
      refine lv_if_eq (tgt := 152) hx hb d_M_isWrong_145 (by decide) (fun ec => ?_) (fun ec => ?_)
      · have h := g_t ec h
        refine lv_iconst (v := (0 : Int32)) hx hb d_M_isWrong_152 (by decide) ?_
        cases h
        exact gr_z (v := (0 : Int32)) (by decide) hx hb hr hlocks hK hP hD hS d_M_isWrong_153
      · have h := g_f ec h
        refine lv_iconst (v := (1 : Int32)) hx hb d_M_isWrong_148 (by decide) ?_
        refine lv_goto (tgt := 153) hx hb d_M_isWrong_149 (by decide) ?_
        cases h
        exact gr_z (v := (1 : Int32)) (by decide) hx hb hr hlocks hK hP hD hS d_M_isWrong_153
  have hP : va_P D vwCl [(ht, .inr (6, [.ref ht_op, .ref ht_to, .ref ht_newOp, .ref ht_newTo, .ref ht_draft, .ref ht_text, .int t_many, .int t_letters, .int t_length, .int t_where, .int t_tree, .ref ht_todo, .ref ht_with, .ref ht_holes, .int t_top, .int t_hole, .int t_at, .int t_made, .ref ht_variable, .ref ht_stack, .ref ht_signs, .ref ht_output, .ref ht_blocks, .int t_high, .int t_signsHigh, .int t_printed, .int t_done, .int t_value])), (ht_op, .inl (cI, 30, .inl t_op)), (ht_to, .inl (cI, 31, .inl t_to))] s.heap := hP
  have hl := lv_entry ([.ref ht, .int a1]) (n := 4) (Nat.le_of_ble_eq_true rfl)
  rw [lg_entry_eq]
  generalize (lg_sl ([.ref ht, .int a1]) ++ List.replicate (4 - (lg_sl ([.ref ht, .int a1])).length) Slot.unset).toArray = ls at hl ⊢
  have hl : lv_has ls 4 [(0, .ref ht), (1, .int a1)] := hl
  unfold g_M_isWrong at h
  refine lv_aload_n hx hb d_M_isWrong_0 rfl (lv_at hl 0 rfl) ?_
  refine lv_iload_n hx hb d_M_isWrong_1 rfl (lv_at hl 1 rfl) ?_
  obtain ⟨q1, hc, h⟩ := g_bd h
  refine gk_i (va_runV (As := [.int a1]) (rest := []) ⟨hx, hb, hml, hown, hts⟩ (c_M_height l D cI cC ht ht_op ht_to ht_newOp ht_newTo ht_draft ht_text ht_todo ht_with ht_holes ht_variable ht_stack ht_signs ht_output ht_blocks t_many t_letters t_length t_where t_tree t_top t_hole t_at t_made t_high t_signsHigh t_printed t_done t_value t_op a1 q1 hc _) (cwV 1 hts (gG_V mt_4_19 mt_4_21 mp_26 mt_1_7 mt_4_22) rfl rfl rfl (by decide +kernel) ⟨Nat.le_of_ble_eq_true rfl, Nat.le_of_ble_eq_true rfl⟩) (gpV hK hP hD [0, 1] rfl (by decide) (ci := 6) 0 rfl rfl) rfl rfl hl.1 rfl (lv_room (Nat.le_of_ble_eq_true rfl)) d_M_isWrong_2 ⟨Nat.zero_le _, Nat.zero_le _⟩) hK hP hD hS hA [0, 1] rfl (by decide) rfl rfl (fun H locs (hP : va_P D vwCl [(ht, .inr (6, [.ref ht_op, .ref ht_to, .ref ht_newOp, .ref ht_newTo, .ref ht_draft, .ref ht_text, .int t_many, .int t_letters, .int t_length, .int t_where, .int t_tree, .ref ht_todo, .ref ht_with, .ref ht_holes, .int t_top, .int t_hole, .int t_at, .int t_made, .ref ht_variable, .ref ht_stack, .ref ht_signs, .ref ht_output, .ref ht_blocks, .int t_high, .int t_signsHigh, .int t_printed, .int t_done, .int t_value])), (ht_op, .inl (cI, 30, .inl t_op)), (ht_to, .inl (cI, 31, .inl t_to))] H) (hD : va_D A [(ht, .inr (6, [.ref ht_op, .ref ht_to, .ref ht_newOp, .ref ht_newTo, .ref ht_draft, .ref ht_text, .int t_many, .int t_letters, .int t_length, .int t_where, .int t_tree, .ref ht_todo, .ref ht_with, .ref ht_holes, .int t_top, .int t_hole, .int t_at, .int t_made, .ref ht_variable, .ref ht_stack, .ref ht_signs, .ref ht_output, .ref ht_blocks, .int t_high, .int t_signsHigh, .int t_printed, .int t_done, .int t_value])), (ht_op, .inl (cI, 30, .inl t_op)), (ht_to, .inl (cI, 31, .inl t_to))]) hS => ?_)
  refine lv_istore_n (lv' := [(2, .int q1), (0, .ref ht), (1, .int a1)]) hx hb d_M_isWrong_5 rfl hl (by decide) rfl (fun ls hl => ?_)
  refine lv_iload_n hx hb d_M_isWrong_6 rfl (lv_at hl 2 rfl) ?_
  refine lv_aload_n hx hb d_M_isWrong_7 rfl (lv_at hl 1 rfl) ?_
  refine va_get (D := D) (ci := 6) (v := .int t_many) (C := R_M) (T := F_M) (N := 28) hx hb hts u_M hown hK hP 0 rfl rfl 6 (by decide) f_64 (fun _ h9 => h9) rfl d_M_isWrong_8 ?_
  refine lv_icmp_ne (tgt := 24) hx hb d_M_isWrong_11 (by decide) (fun ec => ?_) (fun ec => ?_)
  · have h := g_f ec h
    refine lv_aload_n hx hb d_M_isWrong_24 rfl (lv_at hl 1 rfl) ?_
    refine va_get (D := D) (ci := 6) (v := .ref ht_op) (C := R_M) (T := F_M) (N := 28) hx hb hts u_M hown hK hP 0 rfl rfl 0 (by decide) f_7 (fun _ h9 => h9) rfl d_M_isWrong_25 ?_
    refine lv_iload_n hx hb d_M_isWrong_28 rfl (lv_at hl 2 rfl) ?_
    obtain ⟨hi, h⟩ := g_ck h
    refine va_iald hx hb hK hP 1 0 rfl rfl hi d_M_isWrong_29 ?_
    refine lv_istore_n (lv' := [(3, .int (t_op a1.toNatClampNeg)), (2, .int q1), (0, .ref ht), (1, .int a1)]) hx hb d_M_isWrong_30 rfl hl (by decide) rfl (fun ls hl => ?_)
    refine lv_iload_n hx hb d_M_isWrong_31 rfl (lv_at hl 0 rfl) ?_
    refine lv_if_eq (tgt := 40) hx hb d_M_isWrong_32 (by decide) (fun ec => ?_) (fun ec => ?_)
    · have h := g_t ec h
      refine lv_iload_n hx hb d_M_isWrong_40 rfl (lv_at hl 1 rfl) ?_
      refine lv_bipush (v := (7 : Int32)) hx hb d_M_isWrong_41 (by decide) ?_
      refine lv_icmp_le (tgt := 50) hx hb d_M_isWrong_43 (by decide) (fun ec => ?_) (fun ec => ?_)
      · have h := g_t ec h
        refine lv_iconst (v := (0 : Int32)) hx hb d_M_isWrong_50 (by decide) ?_
        cases h
        exact gr_z (v := (0 : Int32)) (by decide) hx hb hr hlocks hK hP hD hS d_M_isWrong_51
      · have h := g_f ec h
        refine lv_iconst (v := (1 : Int32)) hx hb d_M_isWrong_46 (by decide) ?_
        refine lv_goto (tgt := 51) hx hb d_M_isWrong_47 (by decide) ?_
        cases h
        exact gr_z (v := (1 : Int32)) (by decide) hx hb hr hlocks hK hP hD hS d_M_isWrong_51
    · have h := g_f ec h
      refine lv_iload_n hx hb d_M_isWrong_35 rfl (lv_at hl 0 rfl) ?_
      refine lv_iconst (v := (1 : Int32)) hx hb d_M_isWrong_36 (by decide) ?_
      refine lv_icmp_ne (tgt := 52) hx hb d_M_isWrong_37 (by decide) (fun ec => ?_) (fun ec => ?_)
      · have h := g_f ec h
        refine lv_iload_n hx hb d_M_isWrong_52 rfl (lv_at hl 0 rfl) ?_
        refine lv_bipush (v := (7 : Int32)) hx hb d_M_isWrong_53 (by decide) ?_
        refine lv_icmp_ne (tgt := 69) hx hb d_M_isWrong_55 (by decide) (fun ec => ?_) (fun ec => ?_)
        · have h := g_f ec h
          refine lv_iload_n hx hb d_M_isWrong_69 rfl (lv_at hl 0 rfl) ?_
          refine lv_iconst (v := (3 : Int32)) hx hb d_M_isWrong_70 (by decide) ?_
          refine lv_bipush (v := (6 : Int32)) hx hb d_M_isWrong_71 (by decide) ?_
          obtain ⟨q2, hc, h⟩ := g_bd h
          refine gk_i (va_runS (As := [.int (t_op a1.toNatClampNeg), .int (3 : Int32), .int (6 : Int32)]) (rest := []) ⟨hx, hb, hml, hown, hts⟩ (c_M_in l D cI cC (t_op a1.toNatClampNeg) (3 : Int32) (6 : Int32) q2 hc _) (va_cwS 3 hts (gG_S mt_4_0 mt_4_1 mt_1_7 mt_4_2) rfl rfl rfl (by decide +kernel) ⟨Nat.le_of_ble_eq_true rfl, Nat.le_of_ble_eq_true rfl⟩) (gpS hK hP hD [] rfl (by decide)) rfl rfl hl.1 rfl (lv_room (Nat.le_of_ble_eq_true rfl)) d_M_isWrong_73 ⟨Nat.zero_le _, Nat.zero_le _⟩) hK hP hD hS hA [] rfl (by decide) rfl rfl (fun H locs (hP : va_P D vwCl [(ht, .inr (6, [.ref ht_op, .ref ht_to, .ref ht_newOp, .ref ht_newTo, .ref ht_draft, .ref ht_text, .int t_many, .int t_letters, .int t_length, .int t_where, .int t_tree, .ref ht_todo, .ref ht_with, .ref ht_holes, .int t_top, .int t_hole, .int t_at, .int t_made, .ref ht_variable, .ref ht_stack, .ref ht_signs, .ref ht_output, .ref ht_blocks, .int t_high, .int t_signsHigh, .int t_printed, .int t_done, .int t_value])), (ht_op, .inl (cI, 30, .inl t_op)), (ht_to, .inl (cI, 31, .inl t_to))] H) (hD : va_D A [(ht, .inr (6, [.ref ht_op, .ref ht_to, .ref ht_newOp, .ref ht_newTo, .ref ht_draft, .ref ht_text, .int t_many, .int t_letters, .int t_length, .int t_where, .int t_tree, .ref ht_todo, .ref ht_with, .ref ht_holes, .int t_top, .int t_hole, .int t_at, .int t_made, .ref ht_variable, .ref ht_stack, .ref ht_signs, .ref ht_output, .ref ht_blocks, .int t_high, .int t_signsHigh, .int t_printed, .int t_done, .int t_value])), (ht_op, .inl (cI, 30, .inl t_op)), (ht_to, .inl (cI, 31, .inl t_to))]) hS => ?_)
          refine lv_if_eq (tgt := 90) hx hb d_M_isWrong_76 (by decide) (fun ec => ?_) (fun ec => ?_)
          · have h := g_t ec h
            refine lv_iload_n hx hb d_M_isWrong_90 rfl (lv_at hl 0 rfl) ?_
            refine lv_bipush (v := (8 : Int32)) hx hb d_M_isWrong_91 (by decide) ?_
            refine lv_icmp_ne (tgt := 103) hx hb d_M_isWrong_93 (by decide) (fun ec => ?_) (fun ec => ?_)
            · have h := g_f ec h
              refine lv_iload_n hx hb d_M_isWrong_103 rfl (lv_at hl 1 rfl) ?_
              refine lv_iconst (v := (1 : Int32)) hx hb d_M_isWrong_104 (by decide) ?_
              refine lv_icmp_eq (tgt := 110) hx hb d_M_isWrong_105 (by decide) (fun ec => ?_) (fun ec => ?_)
              · have h := g_t ec h
                refine lv_iload_n hx hb d_M_isWrong_110 rfl (lv_at hl 0 rfl) ?_
                refine lv_bipush (v := (8 : Int32)) hx hb d_M_isWrong_111 (by decide) ?_
                refine lv_icmp_eq (tgt := 122) hx hb d_M_isWrong_113 (by decide) (fun ec => ?_) (fun ec => ?_)
                · have h := g_t ec h
                  exact J_122 _ h _ _ _ hP hD hS (lv_sub hl [2, 3] rfl)
                · have h := g_f ec h
                  refine lv_iload_n hx hb d_M_isWrong_116 rfl (lv_at hl 0 rfl) ?_
                  refine lv_bipush (v := (9 : Int32)) hx hb d_M_isWrong_117 (by decide) ?_
                  refine lv_icmp_ne (tgt := 152) hx hb d_M_isWrong_119 (by decide) (fun ec => ?_) (fun ec => ?_)
                  · have h := g_f ec h
                    refine lv_iconst (v := (0 : Int32)) hx hb d_M_isWrong_152 (by decide) ?_
                    cases h
                    exact gr_z (v := (0 : Int32)) (by decide) hx hb hr hlocks hK hP hD hS d_M_isWrong_153
                  · have h := g_t ec h
                    exact J_122 _ h _ _ _ hP hD hS (lv_sub hl [2, 3] rfl)
              · have h := g_f ec h
                refine lv_iconst (v := (1 : Int32)) hx hb d_M_isWrong_108 (by decide) ?_
                cases h
                exact gr_z (v := (1 : Int32)) (by decide) hx hb hr hlocks hK hP hD hS d_M_isWrong_109
            · have h := g_t ec h
              refine lv_iload_n hx hb d_M_isWrong_96 rfl (lv_at hl 1 rfl) ?_
              refine lv_if_eq (tgt := 110) hx hb d_M_isWrong_97 (by decide) (fun ec => ?_) (fun ec => ?_)
              · have h := g_t ec h
                refine lv_iload_n hx hb d_M_isWrong_110 rfl (lv_at hl 0 rfl) ?_
                refine lv_bipush (v := (8 : Int32)) hx hb d_M_isWrong_111 (by decide) ?_
                refine lv_icmp_eq (tgt := 122) hx hb d_M_isWrong_113 (by decide) (fun ec => ?_) (fun ec => ?_)
                · have h := g_t ec h
                  exact J_122 _ h _ _ _ hP hD hS (lv_sub hl [2, 3] rfl)
                · have h := g_f ec h
                  refine lv_iload_n hx hb d_M_isWrong_116 rfl (lv_at hl 0 rfl) ?_
                  refine lv_bipush (v := (9 : Int32)) hx hb d_M_isWrong_117 (by decide) ?_
                  refine lv_icmp_ne (tgt := 152) hx hb d_M_isWrong_119 (by decide) (fun ec => ?_) (fun ec => ?_)
                  · have h := g_f ec h
                    refine lv_iconst (v := (0 : Int32)) hx hb d_M_isWrong_152 (by decide) ?_
                    cases h
                    exact gr_z (v := (0 : Int32)) (by decide) hx hb hr hlocks hK hP hD hS d_M_isWrong_153
                  · have h := g_t ec h
                    exact J_122 _ h _ _ _ hP hD hS (lv_sub hl [2, 3] rfl)
              · have h := g_f ec h
                refine lv_goto (tgt := 108) hx hb d_M_isWrong_100 (by decide) ?_
                refine lv_iconst (v := (1 : Int32)) hx hb d_M_isWrong_108 (by decide) ?_
                cases h
                exact gr_z (v := (1 : Int32)) (by decide) hx hb hr hlocks hK hP hD hS d_M_isWrong_109
          · have h := g_f ec h
            refine lv_iload_n hx hb d_M_isWrong_79 rfl (lv_at hl 1 rfl) ?_
            refine lv_iconst (v := (2 : Int32)) hx hb d_M_isWrong_80 (by decide) ?_
            refine lv_icmp_ge (tgt := 88) hx hb d_M_isWrong_81 (by decide) (fun ec => ?_) (fun ec => ?_)
            · have h := g_t ec h
              refine lv_iconst (v := (0 : Int32)) hx hb d_M_isWrong_88 (by decide) ?_
              cases h
              exact gr_z (v := (0 : Int32)) (by decide) hx hb hr hlocks hK hP hD hS d_M_isWrong_89
            · have h := g_f ec h
              refine lv_iconst (v := (1 : Int32)) hx hb d_M_isWrong_84 (by decide) ?_
              refine lv_goto (tgt := 89) hx hb d_M_isWrong_85 (by decide) ?_
              cases h
              exact gr_z (v := (1 : Int32)) (by decide) hx hb hr hlocks hK hP hD hS d_M_isWrong_89
        · have h := g_t ec h
          refine lv_iload_n hx hb d_M_isWrong_58 rfl (lv_at hl 1 rfl) ?_
          refine lv_iconst (v := (1 : Int32)) hx hb d_M_isWrong_59 (by decide) ?_
          refine lv_icmp_ge (tgt := 67) hx hb d_M_isWrong_60 (by decide) (fun ec => ?_) (fun ec => ?_)
          · have h := g_t ec h
            refine lv_iconst (v := (0 : Int32)) hx hb d_M_isWrong_67 (by decide) ?_
            cases h
            exact gr_z (v := (0 : Int32)) (by decide) hx hb hr hlocks hK hP hD hS d_M_isWrong_68
          · have h := g_f ec h
            refine lv_iconst (v := (1 : Int32)) hx hb d_M_isWrong_63 (by decide) ?_
            refine lv_goto (tgt := 68) hx hb d_M_isWrong_64 (by decide) ?_
            cases h
            exact gr_z (v := (1 : Int32)) (by decide) hx hb hr hlocks hK hP hD hS d_M_isWrong_68
      · have h := g_t ec h
        refine lv_iload_n hx hb d_M_isWrong_40 rfl (lv_at hl 1 rfl) ?_
        refine lv_bipush (v := (7 : Int32)) hx hb d_M_isWrong_41 (by decide) ?_
        refine lv_icmp_le (tgt := 50) hx hb d_M_isWrong_43 (by decide) (fun ec => ?_) (fun ec => ?_)
        · have h := g_t ec h
          refine lv_iconst (v := (0 : Int32)) hx hb d_M_isWrong_50 (by decide) ?_
          cases h
          exact gr_z (v := (0 : Int32)) (by decide) hx hb hr hlocks hK hP hD hS d_M_isWrong_51
        · have h := g_f ec h
          refine lv_iconst (v := (1 : Int32)) hx hb d_M_isWrong_46 (by decide) ?_
          refine lv_goto (tgt := 51) hx hb d_M_isWrong_47 (by decide) ?_
          cases h
          exact gr_z (v := (1 : Int32)) (by decide) hx hb hr hlocks hK hP hD hS d_M_isWrong_51
  · have h := g_t ec h
    refine lv_iload_n hx hb d_M_isWrong_14 rfl (lv_at hl 0 rfl) ?_
    refine lv_if_eq (tgt := 22) hx hb d_M_isWrong_15 (by decide) (fun ec => ?_) (fun ec => ?_)
    · have h := g_t ec h
      refine lv_iconst (v := (0 : Int32)) hx hb d_M_isWrong_22 (by decide) ?_
      cases h
      exact gr_z (v := (0 : Int32)) (by decide) hx hb hr hlocks hK hP hD hS d_M_isWrong_23
    · have h := g_f ec h
      refine lv_iconst (v := (1 : Int32)) hx hb d_M_isWrong_18 (by decide) ?_
      refine lv_goto (tgt := 23) hx hb d_M_isWrong_19 (by decide) ?_
      cases h
      exact gr_z (v := (1 : Int32)) (by decide) hx hb hr hlocks hK hP hD hS d_M_isWrong_23
def K_M_verify (l : Launch) (D : va_G) (cI cC : ClassId) : Prop :=
  ∀ (ht ht_op ht_to ht_newOp ht_newTo ht_draft ht_text ht_todo ht_with ht_holes ht_variable ht_stack ht_signs ht_output ht_blocks : Nat) (t_many : Int32) (t_letters : Int32) (t_length : Int32) (t_where : Int32) (t_tree : Int32) (t_top : Int32) (t_hole : Int32) (t_at : Int32) (t_made : Int32) (t_high : Int32) (t_signsHigh : Int32) (t_printed : Int32) (t_done : Int32) (t_value : Int32) (t_op : Nat → Int32) (t_to : Nat → Int32) (q : Int32), g_M_verify t_op t_to t_many = some q → ∀ (sz : Nat), Met l y_M_verify w_M_verify ({ frames := 3, cells := 0, slots := 0, locals := 66 }) (va_Pc [.ref ht] (gB D (gT cI cC) [(ht, .inr (6, [.ref ht_op, .ref ht_to, .ref ht_newOp, .ref ht_newTo, .ref ht_draft, .ref ht_text, .int t_many, .int t_letters, .int t_length, .int t_where, .int t_tree, .ref ht_todo, .ref ht_with, .ref ht_holes, .int t_top, .int t_hole, .int t_at, .int t_made, .ref ht_variable, .ref ht_stack, .ref ht_signs, .ref ht_output, .ref ht_blocks, .int t_high, .int t_signsHigh, .int t_printed, .int t_done, .int t_value])), (ht_op, .inl (cI, 30, .inl t_op)), (ht_to, .inl (cI, 31, .inl t_to))] sz)) (gQi D (gT cI cC) q [(ht, .inr (6, [.ref ht_op, .ref ht_to, .ref ht_newOp, .ref ht_newTo, .ref ht_draft, .ref ht_text, .int t_many, .int t_letters, .int t_length, .int t_where, .int t_tree, .ref ht_todo, .ref ht_with, .ref ht_holes, .int t_top, .int t_hole, .int t_at, .int t_made, .ref ht_variable, .ref ht_stack, .ref ht_signs, .ref ht_output, .ref ht_blocks, .int t_high, .int t_signsHigh, .int t_printed, .int t_done, .int t_value])), (ht_op, .inl (cI, 30, .inl t_op)), (ht_to, .inl (cI, 31, .inl t_to))] (va_A [(ht, .inr (6, [.ref ht_op, .ref ht_to, .ref ht_newOp, .ref ht_newTo, .ref ht_draft, .ref ht_text, .int t_many, .int t_letters, .int t_length, .int t_where, .int t_tree, .ref ht_todo, .ref ht_with, .ref ht_holes, .int t_top, .int t_hole, .int t_at, .int t_made, .ref ht_variable, .ref ht_stack, .ref ht_signs, .ref ht_output, .ref ht_blocks, .int t_high, .int t_signsHigh, .int t_printed, .int t_done, .int t_value])), (ht_op, .inl (cI, 30, .inl t_op)), (ht_to, .inl (cI, 31, .inl t_to))] sz)) 0 0 (va_A [(ht, .inr (6, [.ref ht_op, .ref ht_to, .ref ht_newOp, .ref ht_newTo, .ref ht_draft, .ref ht_text, .int t_many, .int t_letters, .int t_length, .int t_where, .int t_tree, .ref ht_todo, .ref ht_with, .ref ht_holes, .int t_top, .int t_hole, .int t_at, .int t_made, .ref ht_variable, .ref ht_stack, .ref ht_signs, .ref ht_output, .ref ht_blocks, .int t_high, .int t_signsHigh, .int t_printed, .int t_done, .int t_value])), (ht_op, .inl (cI, 30, .inl t_op)), (ht_to, .inl (cI, 31, .inl t_to))] sz)
set_option maxHeartbeats 4000000 in
set_option maxRecDepth 100000 in
theorem c_M_verify (l : Launch) (D : va_G) (cI cC : ClassId) : K_M_verify l D cI cC := by
  intro ht ht_op ht_to ht_newOp ht_newTo ht_draft ht_text ht_todo ht_with ht_holes ht_variable ht_stack ht_signs ht_output ht_blocks t_many t_letters t_length t_where t_tree t_top t_hole t_at t_made t_high t_signsHigh t_printed t_done t_value t_op t_to q h sz
  refine Met.ofW (cc := k_M_verify) (maxL := 2) (ret := (some .int)) (by decide) rfl ?_
  intro p e s m args below meth c s₁ B hml hv
  obtain ⟨rfl, hsz, hP, hK, hD0⟩ := hv
  have hx := B.exec
  have hb := B.bytes
  have hr := B.returns
  have hts : ∀ w ∈ lw_t, w.before ([.ref ht] : List Value).toArray s = true := fun w h => atoms_spec (ws := w_M_verify) B.pre w (List.mem_cons_of_mem _ h)
  have hown : s.vm.findClass R_M = some m.cls := findClass_of_methodNamed B.named
  have hlocks := B.notSynchronized
  subst hsz
  have hD := hD0.self (sz := s.heap.size)
  generalize hAe : va_A [(ht, .inr (6, [.ref ht_op, .ref ht_to, .ref ht_newOp, .ref ht_newTo, .ref ht_draft, .ref ht_text, .int t_many, .int t_letters, .int t_length, .int t_where, .int t_tree, .ref ht_todo, .ref ht_with, .ref ht_holes, .int t_top, .int t_hole, .int t_at, .int t_made, .ref ht_variable, .ref ht_stack, .ref ht_signs, .ref ht_output, .ref ht_blocks, .int t_high, .int t_signsHigh, .int t_printed, .int t_done, .int t_value])), (ht_op, .inl (cI, 30, .inl t_op)), (ht_to, .inl (cI, 31, .inl t_to))] s.heap.size = A at hD ⊢
  have hA : ∀ q : Nat, s.heap.size ≤ q → A q := fun q h => by rw [← hAe]; exact Or.inr h
  have hS : va_S A s.heap s.heap [] := va_S.rf
  have f_64 := hts _ mt_3_154
  have LP_2 : ∀ nn_2 : Nat, ∀ (v1 : Int32), b_M_verify_2 t_op t_to t_many nn_2 v1 = some q → gJ p l e (headSpec w_M_verify ({ frames := 3, cells := 0, slots := 0, locals := 66 })).room s m ([.ref ht] : List Value).toArray below meth c D A 2 (MQ below (gQi D (gT cI cC) q [(ht, .inr (6, [.ref ht_op, .ref ht_to, .ref ht_newOp, .ref ht_newTo, .ref ht_draft, .ref ht_text, .int t_many, .int t_letters, .int t_length, .int t_where, .int t_tree, .ref ht_todo, .ref ht_with, .ref ht_holes, .int t_top, .int t_hole, .int t_at, .int t_made, .ref ht_variable, .ref ht_stack, .ref ht_signs, .ref ht_output, .ref ht_blocks, .int t_high, .int t_signsHigh, .int t_printed, .int t_done, .int t_value])), (ht_op, .inl (cI, 30, .inl t_op)), (ht_to, .inl (cI, 31, .inl t_to))] A) ([.ref ht] : List Value).toArray s 0 0 A) 2 [(ht, .inr (6, [.ref ht_op, .ref ht_to, .ref ht_newOp, .ref ht_newTo, .ref ht_draft, .ref ht_text, .int t_many, .int t_letters, .int t_length, .int t_where, .int t_tree, .ref ht_todo, .ref ht_with, .ref ht_holes, .int t_top, .int t_hole, .int t_at, .int t_made, .ref ht_variable, .ref ht_stack, .ref ht_signs, .ref ht_output, .ref ht_blocks, .int t_high, .int t_signsHigh, .int t_printed, .int t_done, .int t_value])), (ht_op, .inl (cI, 30, .inl t_op)), (ht_to, .inl (cI, 31, .inl t_to))] [(0, .ref ht), (1, .int v1)] [] := by
    intro nn_2
    induction nn_2 with
    | zero => intro v1 h; exact g_no h
    | succ nn_2 ih_2 =>
      intro v1 h H locs ls hP hD hS hl
      rw [b_M_verify_2] at h
      refine lv_iload_n hx hb d_M_verify_2 rfl (lv_at hl 1 rfl) ?_
      refine lv_aload_n hx hb d_M_verify_3 rfl (lv_at hl 0 rfl) ?_
      refine va_get (D := D) (ci := 6) (v := .int t_many) (C := R_M) (T := F_M) (N := 28) hx hb hts u_M hown hK hP 0 rfl rfl 6 (by decide) f_64 (fun _ h9 => h9) rfl d_M_verify_4 ?_
      refine lv_icmp_gt (tgt := 26) hx hb d_M_verify_7 (by decide) (fun ec => ?_) (fun ec => ?_)
      · have h := g_t ec h
        refine lv_bipush (v := (-2 : Int32)) hx hb d_M_verify_26 (by decide) ?_
        cases h
        exact gr_i hx hb hr hlocks hK hP hD hS d_M_verify_28
      · have h := g_f ec h
        refine lv_aload_n hx hb d_M_verify_10 rfl (lv_at hl 0 rfl) ?_
        refine lv_iload_n hx hb d_M_verify_11 rfl (lv_at hl 1 rfl) ?_
        obtain ⟨q1, hc, h⟩ := g_bd h
        refine gk_i (va_runV (As := [.int v1]) (rest := []) ⟨hx, hb, hml, hown, hts⟩ (c_M_isWrong l D cI cC ht ht_op ht_to ht_newOp ht_newTo ht_draft ht_text ht_todo ht_with ht_holes ht_variable ht_stack ht_signs ht_output ht_blocks t_many t_letters t_length t_where t_tree t_top t_hole t_at t_made t_high t_signsHigh t_printed t_done t_value t_op t_to v1 q1 hc _) (cwV 1 hts (gG_V mt_4_30 mt_4_32 mp_27 mt_1_7 mt_4_33) rfl rfl rfl (by decide +kernel) ⟨Nat.le_of_ble_eq_true rfl, Nat.le_of_ble_eq_true rfl⟩) (gpV hK hP hD [0, 1, 2] rfl (by decide) (ci := 6) 0 rfl rfl) rfl rfl hl.1 rfl (lv_room (Nat.le_of_ble_eq_true rfl)) d_M_verify_12 ⟨Nat.zero_le _, Nat.zero_le _⟩) hK hP hD hS hA [0, 1, 2] rfl (by decide) rfl rfl (fun H locs (hP : va_P D vwCl [(ht, .inr (6, [.ref ht_op, .ref ht_to, .ref ht_newOp, .ref ht_newTo, .ref ht_draft, .ref ht_text, .int t_many, .int t_letters, .int t_length, .int t_where, .int t_tree, .ref ht_todo, .ref ht_with, .ref ht_holes, .int t_top, .int t_hole, .int t_at, .int t_made, .ref ht_variable, .ref ht_stack, .ref ht_signs, .ref ht_output, .ref ht_blocks, .int t_high, .int t_signsHigh, .int t_printed, .int t_done, .int t_value])), (ht_op, .inl (cI, 30, .inl t_op)), (ht_to, .inl (cI, 31, .inl t_to))] H) (hD : va_D A [(ht, .inr (6, [.ref ht_op, .ref ht_to, .ref ht_newOp, .ref ht_newTo, .ref ht_draft, .ref ht_text, .int t_many, .int t_letters, .int t_length, .int t_where, .int t_tree, .ref ht_todo, .ref ht_with, .ref ht_holes, .int t_top, .int t_hole, .int t_at, .int t_made, .ref ht_variable, .ref ht_stack, .ref ht_signs, .ref ht_output, .ref ht_blocks, .int t_high, .int t_signsHigh, .int t_printed, .int t_done, .int t_value])), (ht_op, .inl (cI, 30, .inl t_op)), (ht_to, .inl (cI, 31, .inl t_to))]) hS => ?_)
        refine lv_if_eq (tgt := 20) hx hb d_M_verify_15 (by decide) (fun ec => ?_) (fun ec => ?_)
        · have h := g_t ec h
          refine lv_iinc (v := v1 + (1 : Int32)) (lv' := [(1, .int (v1 + (1 : Int32))), (0, .ref ht)]) hx hb d_M_verify_20 hl (k := 1) rfl rfl (by decide) rfl (fun ls hl => ?_)
          refine lv_goto (tgt := 2) hx hb d_M_verify_23 (by decide) ?_
          exact ih_2 _ h _ _ _ hP hD hS (lv_sub hl [1, 0] rfl)
        · have h := g_f ec h
          refine lv_iload_n hx hb d_M_verify_18 rfl (lv_at hl 1 rfl) ?_
          cases h
          exact gr_i hx hb hr hlocks hK hP hD hS d_M_verify_19
  have hP : va_P D vwCl [(ht, .inr (6, [.ref ht_op, .ref ht_to, .ref ht_newOp, .ref ht_newTo, .ref ht_draft, .ref ht_text, .int t_many, .int t_letters, .int t_length, .int t_where, .int t_tree, .ref ht_todo, .ref ht_with, .ref ht_holes, .int t_top, .int t_hole, .int t_at, .int t_made, .ref ht_variable, .ref ht_stack, .ref ht_signs, .ref ht_output, .ref ht_blocks, .int t_high, .int t_signsHigh, .int t_printed, .int t_done, .int t_value])), (ht_op, .inl (cI, 30, .inl t_op)), (ht_to, .inl (cI, 31, .inl t_to))] s.heap := hP
  have hl := lv_entry ([.ref ht]) (n := 2) (Nat.le_of_ble_eq_true rfl)
  rw [lg_entry_eq]
  generalize (lg_sl ([.ref ht]) ++ List.replicate (2 - (lg_sl ([.ref ht])).length) Slot.unset).toArray = ls at hl ⊢
  have hl : lv_has ls 2 [(0, .ref ht)] := hl
  unfold g_M_verify at h
  refine lv_iconst (v := (0 : Int32)) hx hb d_M_verify_0 (by decide) ?_
  refine lv_istore_n (lv' := [(1, .int (0 : Int32)), (0, .ref ht)]) hx hb d_M_verify_1 rfl hl (by decide) rfl (fun ls hl => ?_)
  exact LP_2 500 _ h _ _ _ hP hD hS (lv_sub hl [1, 0] rfl)
def K_M_write (l : Launch) (D : va_G) (cI cC : ClassId) : Prop :=
  ∀ (ht ht_op ht_to ht_newOp ht_newTo ht_draft ht_text ht_todo ht_with ht_holes ht_variable ht_stack ht_signs ht_output ht_blocks : Nat) (t_many : Int32) (t_letters : Int32) (t_length : Int32) (t_where : Int32) (t_tree : Int32) (t_top : Int32) (t_hole : Int32) (t_at : Int32) (t_made : Int32) (t_high : Int32) (t_signsHigh : Int32) (t_printed : Int32) (t_done : Int32) (t_value : Int32) (t_text : Nat → Int32) (a1 : Int32) (q : (Nat → Int32) × Int32), g_M_write t_text t_length a1 = some q → ∀ (sz : Nat), Met l y_M_write w_M_write ({ frames := 0, cells := 0, slots := 0, locals := 0 }) (va_Pc [.ref ht, .int a1] (gB D (gT cI cC) [(ht, .inr (6, [.ref ht_op, .ref ht_to, .ref ht_newOp, .ref ht_newTo, .ref ht_draft, .ref ht_text, .int t_many, .int t_letters, .int t_length, .int t_where, .int t_tree, .ref ht_todo, .ref ht_with, .ref ht_holes, .int t_top, .int t_hole, .int t_at, .int t_made, .ref ht_variable, .ref ht_stack, .ref ht_signs, .ref ht_output, .ref ht_blocks, .int t_high, .int t_signsHigh, .int t_printed, .int t_done, .int t_value])), (ht_text, .inl (cI, 600, .inl t_text))] sz)) (gQv D (gT cI cC) [(ht, .inr (6, [.ref ht_op, .ref ht_to, .ref ht_newOp, .ref ht_newTo, .ref ht_draft, .ref ht_text, .int t_many, .int t_letters, .int q.2, .int t_where, .int t_tree, .ref ht_todo, .ref ht_with, .ref ht_holes, .int t_top, .int t_hole, .int t_at, .int t_made, .ref ht_variable, .ref ht_stack, .ref ht_signs, .ref ht_output, .ref ht_blocks, .int t_high, .int t_signsHigh, .int t_printed, .int t_done, .int t_value])), (ht_text, .inl (cI, 600, .inl q.1))] (va_A [(ht, .inr (6, [.ref ht_op, .ref ht_to, .ref ht_newOp, .ref ht_newTo, .ref ht_draft, .ref ht_text, .int t_many, .int t_letters, .int t_length, .int t_where, .int t_tree, .ref ht_todo, .ref ht_with, .ref ht_holes, .int t_top, .int t_hole, .int t_at, .int t_made, .ref ht_variable, .ref ht_stack, .ref ht_signs, .ref ht_output, .ref ht_blocks, .int t_high, .int t_signsHigh, .int t_printed, .int t_done, .int t_value])), (ht_text, .inl (cI, 600, .inl t_text))] sz)) 0 0 (va_A [(ht, .inr (6, [.ref ht_op, .ref ht_to, .ref ht_newOp, .ref ht_newTo, .ref ht_draft, .ref ht_text, .int t_many, .int t_letters, .int t_length, .int t_where, .int t_tree, .ref ht_todo, .ref ht_with, .ref ht_holes, .int t_top, .int t_hole, .int t_at, .int t_made, .ref ht_variable, .ref ht_stack, .ref ht_signs, .ref ht_output, .ref ht_blocks, .int t_high, .int t_signsHigh, .int t_printed, .int t_done, .int t_value])), (ht_text, .inl (cI, 600, .inl t_text))] sz)
set_option maxHeartbeats 4000000 in
set_option maxRecDepth 100000 in
theorem c_M_write (l : Launch) (D : va_G) (cI cC : ClassId) : K_M_write l D cI cC := by
  intro ht ht_op ht_to ht_newOp ht_newTo ht_draft ht_text ht_todo ht_with ht_holes ht_variable ht_stack ht_signs ht_output ht_blocks t_many t_letters t_length t_where t_tree t_top t_hole t_at t_made t_high t_signsHigh t_printed t_done t_value t_text a1 q h sz
  refine Met.ofW (cc := k_M_write) (maxL := 2) (ret := none) (by decide) rfl ?_
  intro p e s m args below meth c s₁ B hml hv
  obtain ⟨rfl, hsz, hP, hK, hD0⟩ := hv
  have hx := B.exec
  have hb := B.bytes
  have hr := B.returns
  have hts : ∀ w ∈ lw_t, w.before ([.ref ht, .int a1] : List Value).toArray s = true := fun w h => atoms_spec (ws := w_M_write) B.pre w (List.mem_cons_of_mem _ h)
  have hown : s.vm.findClass R_M = some m.cls := findClass_of_methodNamed B.named
  have hlocks := B.notSynchronized
  subst hsz
  have hD := hD0.self (sz := s.heap.size)
  generalize hAe : va_A [(ht, .inr (6, [.ref ht_op, .ref ht_to, .ref ht_newOp, .ref ht_newTo, .ref ht_draft, .ref ht_text, .int t_many, .int t_letters, .int t_length, .int t_where, .int t_tree, .ref ht_todo, .ref ht_with, .ref ht_holes, .int t_top, .int t_hole, .int t_at, .int t_made, .ref ht_variable, .ref ht_stack, .ref ht_signs, .ref ht_output, .ref ht_blocks, .int t_high, .int t_signsHigh, .int t_printed, .int t_done, .int t_value])), (ht_text, .inl (cI, 600, .inl t_text))] s.heap.size = A at hD ⊢
  have hA : ∀ q : Nat, s.heap.size ≤ q → A q := fun q h => by rw [← hAe]; exact Or.inr h
  have hS : va_S A s.heap s.heap [] := va_S.rf
  have f_25 := hts _ mt_3_153
  have f_87 := hts _ mt_3_156
  have hP : va_P D vwCl [(ht, .inr (6, [.ref ht_op, .ref ht_to, .ref ht_newOp, .ref ht_newTo, .ref ht_draft, .ref ht_text, .int t_many, .int t_letters, .int t_length, .int t_where, .int t_tree, .ref ht_todo, .ref ht_with, .ref ht_holes, .int t_top, .int t_hole, .int t_at, .int t_made, .ref ht_variable, .ref ht_stack, .ref ht_signs, .ref ht_output, .ref ht_blocks, .int t_high, .int t_signsHigh, .int t_printed, .int t_done, .int t_value])), (ht_text, .inl (cI, 600, .inl t_text))] s.heap := hP
  have hl := lv_entry ([.ref ht, .int a1]) (n := 2) (Nat.le_of_ble_eq_true rfl)
  rw [lg_entry_eq]
  generalize (lg_sl ([.ref ht, .int a1]) ++ List.replicate (2 - (lg_sl ([.ref ht, .int a1])).length) Slot.unset).toArray = ls at hl ⊢
  have hl : lv_has ls 2 [(0, .ref ht), (1, .int a1)] := hl
  unfold g_M_write at h
  refine lv_aload_n hx hb d_M_write_0 rfl (lv_at hl 0 rfl) ?_
  refine va_get (D := D) (ci := 6) (v := .ref ht_text) (C := R_M) (T := F_M) (N := 28) hx hb hts u_M hown hK hP 0 rfl rfl 5 (by decide) f_25 (fun _ h9 => h9) rfl d_M_write_1 ?_
  refine lv_aload_n hx hb d_M_write_4 rfl (lv_at hl 0 rfl) ?_
  refine va_get (D := D) (ci := 6) (v := .int t_length) (C := R_M) (T := F_M) (N := 28) hx hb hts u_M hown hK hP 0 rfl rfl 8 (by decide) f_87 (fun _ h9 => h9) rfl d_M_write_5 ?_
  refine lv_iload_n hx hb d_M_write_8 rfl (lv_at hl 1 rfl) ?_
  obtain ⟨hi, h⟩ := g_ck h
  refine va_iast hx hb hK hP hD hS 1 0 rfl rfl hi d_M_write_9 (fun H locs (hP : va_P D vwCl [(ht, .inr (6, [.ref ht_op, .ref ht_to, .ref ht_newOp, .ref ht_newTo, .ref ht_draft, .ref ht_text, .int t_many, .int t_letters, .int t_length, .int t_where, .int t_tree, .ref ht_todo, .ref ht_with, .ref ht_holes, .int t_top, .int t_hole, .int t_at, .int t_made, .ref ht_variable, .ref ht_stack, .ref ht_signs, .ref ht_output, .ref ht_blocks, .int t_high, .int t_signsHigh, .int t_printed, .int t_done, .int t_value])), (ht_text, .inl (cI, 600, .inl (upd t_text t_length.toNatClampNeg a1)))] H) (hD : va_D A [(ht, .inr (6, [.ref ht_op, .ref ht_to, .ref ht_newOp, .ref ht_newTo, .ref ht_draft, .ref ht_text, .int t_many, .int t_letters, .int t_length, .int t_where, .int t_tree, .ref ht_todo, .ref ht_with, .ref ht_holes, .int t_top, .int t_hole, .int t_at, .int t_made, .ref ht_variable, .ref ht_stack, .ref ht_signs, .ref ht_output, .ref ht_blocks, .int t_high, .int t_signsHigh, .int t_printed, .int t_done, .int t_value])), (ht_text, .inl (cI, 600, .inl (upd t_text t_length.toNatClampNeg a1)))]) hS => ?_)
  refine lv_aload_n hx hb d_M_write_10 rfl (lv_at hl 0 rfl) ?_
  refine lv_dup hx hb d_M_write_11 rfl ?_
  refine va_get (D := D) (ci := 6) (v := .int t_length) (C := R_M) (T := F_M) (N := 28) hx hb hts u_M hown hK hP 0 rfl rfl 8 (by decide) f_87 (fun _ h9 => h9) rfl d_M_write_12 ?_
  refine lv_iconst (v := (1 : Int32)) hx hb d_M_write_15 (by decide) ?_
  refine lv_iadd hx hb d_M_write_16 ?_
  refine va_put (D := D) (ci := 6) (v := .int (t_length + (1 : Int32))) (ty := .int) (C := R_M) (T := F_M) (N := 28) hx hb hts u_M t_M t_M_ok n_M hown hK hP hD hS 0 rfl rfl 8 (by decide) f_87 (fun _ h9 => h9) rfl (by decide +kernel) rfl rfl (Nat.le_of_ble_eq_true rfl) d_M_write_17 (fun H locs (hP : va_P D vwCl [(ht, .inr (6, [.ref ht_op, .ref ht_to, .ref ht_newOp, .ref ht_newTo, .ref ht_draft, .ref ht_text, .int t_many, .int t_letters, .int (t_length + (1 : Int32)), .int t_where, .int t_tree, .ref ht_todo, .ref ht_with, .ref ht_holes, .int t_top, .int t_hole, .int t_at, .int t_made, .ref ht_variable, .ref ht_stack, .ref ht_signs, .ref ht_output, .ref ht_blocks, .int t_high, .int t_signsHigh, .int t_printed, .int t_done, .int t_value])), (ht_text, .inl (cI, 600, .inl (upd t_text t_length.toNatClampNeg a1)))] H) (hD : va_D A [(ht, .inr (6, [.ref ht_op, .ref ht_to, .ref ht_newOp, .ref ht_newTo, .ref ht_draft, .ref ht_text, .int t_many, .int t_letters, .int (t_length + (1 : Int32)), .int t_where, .int t_tree, .ref ht_todo, .ref ht_with, .ref ht_holes, .int t_top, .int t_hole, .int t_at, .int t_made, .ref ht_variable, .ref ht_stack, .ref ht_signs, .ref ht_output, .ref ht_blocks, .int t_high, .int t_signsHigh, .int t_printed, .int t_done, .int t_value])), (ht_text, .inl (cI, 600, .inl (upd t_text t_length.toNatClampNeg a1)))]) hS => ?_)
  cases h
  exact gr_v hx hb hr hlocks hK hP hD hS d_M_write_20
def K_M_push (l : Launch) (D : va_G) (cI cC : ClassId) : Prop :=
  ∀ (ht ht_op ht_to ht_newOp ht_newTo ht_draft ht_text ht_todo ht_with ht_holes ht_variable ht_stack ht_signs ht_output ht_blocks : Nat) (t_many : Int32) (t_letters : Int32) (t_length : Int32) (t_where : Int32) (t_tree : Int32) (t_top : Int32) (t_hole : Int32) (t_at : Int32) (t_made : Int32) (t_high : Int32) (t_signsHigh : Int32) (t_printed : Int32) (t_done : Int32) (t_value : Int32) (t_todo : Nat → Int32) (t_with : Nat → Int32) (a1 a2 : Int32) (q : (Nat → Int32) × (Nat → Int32) × Int32), g_M_push t_todo t_with t_top a1 a2 = some q → ∀ (sz : Nat), Met l y_M_push w_M_push ({ frames := 0, cells := 0, slots := 0, locals := 0 }) (va_Pc [.ref ht, .int a1, .int a2] (gB D (gT cI cC) [(ht, .inr (6, [.ref ht_op, .ref ht_to, .ref ht_newOp, .ref ht_newTo, .ref ht_draft, .ref ht_text, .int t_many, .int t_letters, .int t_length, .int t_where, .int t_tree, .ref ht_todo, .ref ht_with, .ref ht_holes, .int t_top, .int t_hole, .int t_at, .int t_made, .ref ht_variable, .ref ht_stack, .ref ht_signs, .ref ht_output, .ref ht_blocks, .int t_high, .int t_signsHigh, .int t_printed, .int t_done, .int t_value])), (ht_todo, .inl (cI, 600, .inl t_todo)), (ht_with, .inl (cI, 600, .inl t_with))] sz)) (gQv D (gT cI cC) [(ht, .inr (6, [.ref ht_op, .ref ht_to, .ref ht_newOp, .ref ht_newTo, .ref ht_draft, .ref ht_text, .int t_many, .int t_letters, .int t_length, .int t_where, .int t_tree, .ref ht_todo, .ref ht_with, .ref ht_holes, .int q.2.2, .int t_hole, .int t_at, .int t_made, .ref ht_variable, .ref ht_stack, .ref ht_signs, .ref ht_output, .ref ht_blocks, .int t_high, .int t_signsHigh, .int t_printed, .int t_done, .int t_value])), (ht_todo, .inl (cI, 600, .inl q.1)), (ht_with, .inl (cI, 600, .inl q.2.1))] (va_A [(ht, .inr (6, [.ref ht_op, .ref ht_to, .ref ht_newOp, .ref ht_newTo, .ref ht_draft, .ref ht_text, .int t_many, .int t_letters, .int t_length, .int t_where, .int t_tree, .ref ht_todo, .ref ht_with, .ref ht_holes, .int t_top, .int t_hole, .int t_at, .int t_made, .ref ht_variable, .ref ht_stack, .ref ht_signs, .ref ht_output, .ref ht_blocks, .int t_high, .int t_signsHigh, .int t_printed, .int t_done, .int t_value])), (ht_todo, .inl (cI, 600, .inl t_todo)), (ht_with, .inl (cI, 600, .inl t_with))] sz)) 0 0 (va_A [(ht, .inr (6, [.ref ht_op, .ref ht_to, .ref ht_newOp, .ref ht_newTo, .ref ht_draft, .ref ht_text, .int t_many, .int t_letters, .int t_length, .int t_where, .int t_tree, .ref ht_todo, .ref ht_with, .ref ht_holes, .int t_top, .int t_hole, .int t_at, .int t_made, .ref ht_variable, .ref ht_stack, .ref ht_signs, .ref ht_output, .ref ht_blocks, .int t_high, .int t_signsHigh, .int t_printed, .int t_done, .int t_value])), (ht_todo, .inl (cI, 600, .inl t_todo)), (ht_with, .inl (cI, 600, .inl t_with))] sz)
set_option maxHeartbeats 4000000 in
set_option maxRecDepth 100000 in
theorem c_M_push (l : Launch) (D : va_G) (cI cC : ClassId) : K_M_push l D cI cC := by
  intro ht ht_op ht_to ht_newOp ht_newTo ht_draft ht_text ht_todo ht_with ht_holes ht_variable ht_stack ht_signs ht_output ht_blocks t_many t_letters t_length t_where t_tree t_top t_hole t_at t_made t_high t_signsHigh t_printed t_done t_value t_todo t_with a1 a2 q h sz
  refine Met.ofW (cc := k_M_push) (maxL := 3) (ret := none) (by decide) rfl ?_
  intro p e s m args below meth c s₁ B hml hv
  obtain ⟨rfl, hsz, hP, hK, hD0⟩ := hv
  have hx := B.exec
  have hb := B.bytes
  have hr := B.returns
  have hts : ∀ w ∈ lw_t, w.before ([.ref ht, .int a1, .int a2] : List Value).toArray s = true := fun w h => atoms_spec (ws := w_M_push) B.pre w (List.mem_cons_of_mem _ h)
  have hown : s.vm.findClass R_M = some m.cls := findClass_of_methodNamed B.named
  have hlocks := B.notSynchronized
  subst hsz
  have hD := hD0.self (sz := s.heap.size)
  generalize hAe : va_A [(ht, .inr (6, [.ref ht_op, .ref ht_to, .ref ht_newOp, .ref ht_newTo, .ref ht_draft, .ref ht_text, .int t_many, .int t_letters, .int t_length, .int t_where, .int t_tree, .ref ht_todo, .ref ht_with, .ref ht_holes, .int t_top, .int t_hole, .int t_at, .int t_made, .ref ht_variable, .ref ht_stack, .ref ht_signs, .ref ht_output, .ref ht_blocks, .int t_high, .int t_signsHigh, .int t_printed, .int t_done, .int t_value])), (ht_todo, .inl (cI, 600, .inl t_todo)), (ht_with, .inl (cI, 600, .inl t_with))] s.heap.size = A at hD ⊢
  have hA : ∀ q : Nat, s.heap.size ≤ q → A q := fun q h => by rw [← hAe]; exact Or.inr h
  have hS : va_S A s.heap s.heap [] := va_S.rf
  have f_32 := hts _ mt_3_159
  have f_35 := hts _ mt_3_160
  have f_90 := hts _ mt_3_162
  have hP : va_P D vwCl [(ht, .inr (6, [.ref ht_op, .ref ht_to, .ref ht_newOp, .ref ht_newTo, .ref ht_draft, .ref ht_text, .int t_many, .int t_letters, .int t_length, .int t_where, .int t_tree, .ref ht_todo, .ref ht_with, .ref ht_holes, .int t_top, .int t_hole, .int t_at, .int t_made, .ref ht_variable, .ref ht_stack, .ref ht_signs, .ref ht_output, .ref ht_blocks, .int t_high, .int t_signsHigh, .int t_printed, .int t_done, .int t_value])), (ht_todo, .inl (cI, 600, .inl t_todo)), (ht_with, .inl (cI, 600, .inl t_with))] s.heap := hP
  have hl := lv_entry ([.ref ht, .int a1, .int a2]) (n := 3) (Nat.le_of_ble_eq_true rfl)
  rw [lg_entry_eq]
  generalize (lg_sl ([.ref ht, .int a1, .int a2]) ++ List.replicate (3 - (lg_sl ([.ref ht, .int a1, .int a2])).length) Slot.unset).toArray = ls at hl ⊢
  have hl : lv_has ls 3 [(0, .ref ht), (1, .int a1), (2, .int a2)] := hl
  unfold g_M_push at h
  refine lv_aload_n hx hb d_M_push_0 rfl (lv_at hl 0 rfl) ?_
  refine va_get (D := D) (ci := 6) (v := .ref ht_todo) (C := R_M) (T := F_M) (N := 28) hx hb hts u_M hown hK hP 0 rfl rfl 11 (by decide) f_32 (fun _ h9 => h9) rfl d_M_push_1 ?_
  refine lv_aload_n hx hb d_M_push_4 rfl (lv_at hl 0 rfl) ?_
  refine va_get (D := D) (ci := 6) (v := .int t_top) (C := R_M) (T := F_M) (N := 28) hx hb hts u_M hown hK hP 0 rfl rfl 14 (by decide) f_90 (fun _ h9 => h9) rfl d_M_push_5 ?_
  refine lv_iload_n hx hb d_M_push_8 rfl (lv_at hl 1 rfl) ?_
  obtain ⟨hi, h⟩ := g_ck h
  refine va_iast hx hb hK hP hD hS 1 0 rfl rfl hi d_M_push_9 (fun H locs (hP : va_P D vwCl [(ht, .inr (6, [.ref ht_op, .ref ht_to, .ref ht_newOp, .ref ht_newTo, .ref ht_draft, .ref ht_text, .int t_many, .int t_letters, .int t_length, .int t_where, .int t_tree, .ref ht_todo, .ref ht_with, .ref ht_holes, .int t_top, .int t_hole, .int t_at, .int t_made, .ref ht_variable, .ref ht_stack, .ref ht_signs, .ref ht_output, .ref ht_blocks, .int t_high, .int t_signsHigh, .int t_printed, .int t_done, .int t_value])), (ht_todo, .inl (cI, 600, .inl (upd t_todo t_top.toNatClampNeg a1))), (ht_with, .inl (cI, 600, .inl t_with))] H) (hD : va_D A [(ht, .inr (6, [.ref ht_op, .ref ht_to, .ref ht_newOp, .ref ht_newTo, .ref ht_draft, .ref ht_text, .int t_many, .int t_letters, .int t_length, .int t_where, .int t_tree, .ref ht_todo, .ref ht_with, .ref ht_holes, .int t_top, .int t_hole, .int t_at, .int t_made, .ref ht_variable, .ref ht_stack, .ref ht_signs, .ref ht_output, .ref ht_blocks, .int t_high, .int t_signsHigh, .int t_printed, .int t_done, .int t_value])), (ht_todo, .inl (cI, 600, .inl (upd t_todo t_top.toNatClampNeg a1))), (ht_with, .inl (cI, 600, .inl t_with))]) hS => ?_)
  refine lv_aload_n hx hb d_M_push_10 rfl (lv_at hl 0 rfl) ?_
  refine va_get (D := D) (ci := 6) (v := .ref ht_with) (C := R_M) (T := F_M) (N := 28) hx hb hts u_M hown hK hP 0 rfl rfl 12 (by decide) f_35 (fun _ h9 => h9) rfl d_M_push_11 ?_
  refine lv_aload_n hx hb d_M_push_14 rfl (lv_at hl 0 rfl) ?_
  refine va_get (D := D) (ci := 6) (v := .int t_top) (C := R_M) (T := F_M) (N := 28) hx hb hts u_M hown hK hP 0 rfl rfl 14 (by decide) f_90 (fun _ h9 => h9) rfl d_M_push_15 ?_
  refine lv_iload_n hx hb d_M_push_18 rfl (lv_at hl 2 rfl) ?_
  obtain ⟨hi, h⟩ := g_ck h
  refine va_iast hx hb hK hP hD hS 2 0 rfl rfl hi d_M_push_19 (fun H locs (hP : va_P D vwCl [(ht, .inr (6, [.ref ht_op, .ref ht_to, .ref ht_newOp, .ref ht_newTo, .ref ht_draft, .ref ht_text, .int t_many, .int t_letters, .int t_length, .int t_where, .int t_tree, .ref ht_todo, .ref ht_with, .ref ht_holes, .int t_top, .int t_hole, .int t_at, .int t_made, .ref ht_variable, .ref ht_stack, .ref ht_signs, .ref ht_output, .ref ht_blocks, .int t_high, .int t_signsHigh, .int t_printed, .int t_done, .int t_value])), (ht_todo, .inl (cI, 600, .inl (upd t_todo t_top.toNatClampNeg a1))), (ht_with, .inl (cI, 600, .inl (upd t_with t_top.toNatClampNeg a2)))] H) (hD : va_D A [(ht, .inr (6, [.ref ht_op, .ref ht_to, .ref ht_newOp, .ref ht_newTo, .ref ht_draft, .ref ht_text, .int t_many, .int t_letters, .int t_length, .int t_where, .int t_tree, .ref ht_todo, .ref ht_with, .ref ht_holes, .int t_top, .int t_hole, .int t_at, .int t_made, .ref ht_variable, .ref ht_stack, .ref ht_signs, .ref ht_output, .ref ht_blocks, .int t_high, .int t_signsHigh, .int t_printed, .int t_done, .int t_value])), (ht_todo, .inl (cI, 600, .inl (upd t_todo t_top.toNatClampNeg a1))), (ht_with, .inl (cI, 600, .inl (upd t_with t_top.toNatClampNeg a2)))]) hS => ?_)
  refine lv_aload_n hx hb d_M_push_20 rfl (lv_at hl 0 rfl) ?_
  refine lv_dup hx hb d_M_push_21 rfl ?_
  refine va_get (D := D) (ci := 6) (v := .int t_top) (C := R_M) (T := F_M) (N := 28) hx hb hts u_M hown hK hP 0 rfl rfl 14 (by decide) f_90 (fun _ h9 => h9) rfl d_M_push_22 ?_
  refine lv_iconst (v := (1 : Int32)) hx hb d_M_push_25 (by decide) ?_
  refine lv_iadd hx hb d_M_push_26 ?_
  refine va_put (D := D) (ci := 6) (v := .int (t_top + (1 : Int32))) (ty := .int) (C := R_M) (T := F_M) (N := 28) hx hb hts u_M t_M t_M_ok n_M hown hK hP hD hS 0 rfl rfl 14 (by decide) f_90 (fun _ h9 => h9) rfl (by decide +kernel) rfl rfl (Nat.le_of_ble_eq_true rfl) d_M_push_27 (fun H locs (hP : va_P D vwCl [(ht, .inr (6, [.ref ht_op, .ref ht_to, .ref ht_newOp, .ref ht_newTo, .ref ht_draft, .ref ht_text, .int t_many, .int t_letters, .int t_length, .int t_where, .int t_tree, .ref ht_todo, .ref ht_with, .ref ht_holes, .int (t_top + (1 : Int32)), .int t_hole, .int t_at, .int t_made, .ref ht_variable, .ref ht_stack, .ref ht_signs, .ref ht_output, .ref ht_blocks, .int t_high, .int t_signsHigh, .int t_printed, .int t_done, .int t_value])), (ht_todo, .inl (cI, 600, .inl (upd t_todo t_top.toNatClampNeg a1))), (ht_with, .inl (cI, 600, .inl (upd t_with t_top.toNatClampNeg a2)))] H) (hD : va_D A [(ht, .inr (6, [.ref ht_op, .ref ht_to, .ref ht_newOp, .ref ht_newTo, .ref ht_draft, .ref ht_text, .int t_many, .int t_letters, .int t_length, .int t_where, .int t_tree, .ref ht_todo, .ref ht_with, .ref ht_holes, .int (t_top + (1 : Int32)), .int t_hole, .int t_at, .int t_made, .ref ht_variable, .ref ht_stack, .ref ht_signs, .ref ht_output, .ref ht_blocks, .int t_high, .int t_signsHigh, .int t_printed, .int t_done, .int t_value])), (ht_todo, .inl (cI, 600, .inl (upd t_todo t_top.toNatClampNeg a1))), (ht_with, .inl (cI, 600, .inl (upd t_with t_top.toNatClampNeg a2)))]) hS => ?_)
  cases h
  exact gr_v hx hb hr hlocks hK hP hD hS d_M_push_30
def K_M_startOf (l : Launch) (D : va_G) (cI cC : ClassId) : Prop :=
  ∀ (ht ht_op ht_to ht_newOp ht_newTo ht_draft ht_text ht_todo ht_with ht_holes ht_variable ht_stack ht_signs ht_output ht_blocks : Nat) (t_many : Int32) (t_letters : Int32) (t_length : Int32) (t_where : Int32) (t_tree : Int32) (t_top : Int32) (t_hole : Int32) (t_at : Int32) (t_made : Int32) (t_high : Int32) (t_signsHigh : Int32) (t_printed : Int32) (t_done : Int32) (t_value : Int32) (t_op : Nat → Int32) (a1 : Int32) (q : Int32), g_M_startOf t_op a1 = some q → ∀ (sz : Nat), Met l y_M_startOf w_M_startOf ({ frames := 0, cells := 0, slots := 0, locals := 0 }) (va_Pc [.ref ht, .int a1] (gB D (gT cI cC) [(ht, .inr (6, [.ref ht_op, .ref ht_to, .ref ht_newOp, .ref ht_newTo, .ref ht_draft, .ref ht_text, .int t_many, .int t_letters, .int t_length, .int t_where, .int t_tree, .ref ht_todo, .ref ht_with, .ref ht_holes, .int t_top, .int t_hole, .int t_at, .int t_made, .ref ht_variable, .ref ht_stack, .ref ht_signs, .ref ht_output, .ref ht_blocks, .int t_high, .int t_signsHigh, .int t_printed, .int t_done, .int t_value])), (ht_op, .inl (cI, 30, .inl t_op))] sz)) (gQi D (gT cI cC) q [(ht, .inr (6, [.ref ht_op, .ref ht_to, .ref ht_newOp, .ref ht_newTo, .ref ht_draft, .ref ht_text, .int t_many, .int t_letters, .int t_length, .int t_where, .int t_tree, .ref ht_todo, .ref ht_with, .ref ht_holes, .int t_top, .int t_hole, .int t_at, .int t_made, .ref ht_variable, .ref ht_stack, .ref ht_signs, .ref ht_output, .ref ht_blocks, .int t_high, .int t_signsHigh, .int t_printed, .int t_done, .int t_value])), (ht_op, .inl (cI, 30, .inl t_op))] (va_A [(ht, .inr (6, [.ref ht_op, .ref ht_to, .ref ht_newOp, .ref ht_newTo, .ref ht_draft, .ref ht_text, .int t_many, .int t_letters, .int t_length, .int t_where, .int t_tree, .ref ht_todo, .ref ht_with, .ref ht_holes, .int t_top, .int t_hole, .int t_at, .int t_made, .ref ht_variable, .ref ht_stack, .ref ht_signs, .ref ht_output, .ref ht_blocks, .int t_high, .int t_signsHigh, .int t_printed, .int t_done, .int t_value])), (ht_op, .inl (cI, 30, .inl t_op))] sz)) 0 0 (va_A [(ht, .inr (6, [.ref ht_op, .ref ht_to, .ref ht_newOp, .ref ht_newTo, .ref ht_draft, .ref ht_text, .int t_many, .int t_letters, .int t_length, .int t_where, .int t_tree, .ref ht_todo, .ref ht_with, .ref ht_holes, .int t_top, .int t_hole, .int t_at, .int t_made, .ref ht_variable, .ref ht_stack, .ref ht_signs, .ref ht_output, .ref ht_blocks, .int t_high, .int t_signsHigh, .int t_printed, .int t_done, .int t_value])), (ht_op, .inl (cI, 30, .inl t_op))] sz)
set_option maxHeartbeats 4000000 in
set_option maxRecDepth 100000 in
theorem c_M_startOf (l : Launch) (D : va_G) (cI cC : ClassId) : K_M_startOf l D cI cC := by
  intro ht ht_op ht_to ht_newOp ht_newTo ht_draft ht_text ht_todo ht_with ht_holes ht_variable ht_stack ht_signs ht_output ht_blocks t_many t_letters t_length t_where t_tree t_top t_hole t_at t_made t_high t_signsHigh t_printed t_done t_value t_op a1 q h sz
  refine Met.ofW (cc := k_M_startOf) (maxL := 4) (ret := (some .int)) (by decide) rfl ?_
  intro p e s m args below meth c s₁ B hml hv
  obtain ⟨rfl, hsz, hP, hK, hD0⟩ := hv
  have hx := B.exec
  have hb := B.bytes
  have hr := B.returns
  have hts : ∀ w ∈ lw_t, w.before ([.ref ht, .int a1] : List Value).toArray s = true := fun w h => atoms_spec (ws := w_M_startOf) B.pre w (List.mem_cons_of_mem _ h)
  have hown : s.vm.findClass R_M = some m.cls := findClass_of_methodNamed B.named
  have hlocks := B.notSynchronized
  subst hsz
  have hD := hD0.self (sz := s.heap.size)
  generalize hAe : va_A [(ht, .inr (6, [.ref ht_op, .ref ht_to, .ref ht_newOp, .ref ht_newTo, .ref ht_draft, .ref ht_text, .int t_many, .int t_letters, .int t_length, .int t_where, .int t_tree, .ref ht_todo, .ref ht_with, .ref ht_holes, .int t_top, .int t_hole, .int t_at, .int t_made, .ref ht_variable, .ref ht_stack, .ref ht_signs, .ref ht_output, .ref ht_blocks, .int t_high, .int t_signsHigh, .int t_printed, .int t_done, .int t_value])), (ht_op, .inl (cI, 30, .inl t_op))] s.heap.size = A at hD ⊢
  have hA : ∀ q : Nat, s.heap.size ≤ q → A q := fun q h => by rw [← hAe]; exact Or.inr h
  have hS : va_S A s.heap s.heap [] := va_S.rf
  have f_7 := hts _ mt_3_148
  have LP_4 : ∀ nn_4 : Nat, ∀ (v2 : Int32) (v3 : Int32), b_M_startOf_4 t_op nn_4 v2 v3 = some q → gJ p l e (headSpec w_M_startOf ({ frames := 0, cells := 0, slots := 0, locals := 0 })).room s m ([.ref ht, .int a1] : List Value).toArray below meth c D A 4 (MQ below (gQi D (gT cI cC) q [(ht, .inr (6, [.ref ht_op, .ref ht_to, .ref ht_newOp, .ref ht_newTo, .ref ht_draft, .ref ht_text, .int t_many, .int t_letters, .int t_length, .int t_where, .int t_tree, .ref ht_todo, .ref ht_with, .ref ht_holes, .int t_top, .int t_hole, .int t_at, .int t_made, .ref ht_variable, .ref ht_stack, .ref ht_signs, .ref ht_output, .ref ht_blocks, .int t_high, .int t_signsHigh, .int t_printed, .int t_done, .int t_value])), (ht_op, .inl (cI, 30, .inl t_op))] A) ([.ref ht, .int a1] : List Value).toArray s 0 0 A) 4 [(ht, .inr (6, [.ref ht_op, .ref ht_to, .ref ht_newOp, .ref ht_newTo, .ref ht_draft, .ref ht_text, .int t_many, .int t_letters, .int t_length, .int t_where, .int t_tree, .ref ht_todo, .ref ht_with, .ref ht_holes, .int t_top, .int t_hole, .int t_at, .int t_made, .ref ht_variable, .ref ht_stack, .ref ht_signs, .ref ht_output, .ref ht_blocks, .int t_high, .int t_signsHigh, .int t_printed, .int t_done, .int t_value])), (ht_op, .inl (cI, 30, .inl t_op))] [(0, .ref ht), (2, .int v2), (3, .int v3)] [] := by
    intro nn_4
    induction nn_4 with
    | zero => intro v2 v3 h; exact g_no h
    | succ nn_4 ih_4 =>
      intro v2 v3 h H locs ls hP hD hS hl
      rw [b_M_startOf_4] at h
      refine lv_iload_n hx hb d_M_startOf_4 rfl (lv_at hl 1 rfl) ?_
      refine lv_if_le (tgt := 47) hx hb d_M_startOf_5 (by decide) (fun ec => ?_) (fun ec => ?_)
      · have h := g_t ec h
        refine lv_iload_n hx hb d_M_startOf_47 rfl (lv_at hl 2 rfl) ?_
        refine lv_iconst (v := (1 : Int32)) hx hb d_M_startOf_48 (by decide) ?_
        refine lv_iadd hx hb d_M_startOf_49 ?_
        cases h
        exact gr_i hx hb hr hlocks hK hP hD hS d_M_startOf_50
      · have h := g_f ec h
        refine lv_iload_n hx hb d_M_startOf_8 rfl (lv_at hl 1 rfl) ?_
        refine lv_aload_n hx hb d_M_startOf_9 rfl (lv_at hl 0 rfl) ?_
        refine va_get (D := D) (ci := 6) (v := .ref ht_op) (C := R_M) (T := F_M) (N := 28) hx hb hts u_M hown hK hP 0 rfl rfl 0 (by decide) f_7 (fun _ h9 => h9) rfl d_M_startOf_10 ?_
        refine lv_iload_n hx hb d_M_startOf_13 rfl (lv_at hl 2 rfl) ?_
        obtain ⟨hi, h⟩ := g_ck h
        refine va_iald hx hb hK hP 1 0 rfl rfl hi d_M_startOf_14 ?_
        refine lv_iconst (v := (2 : Int32)) hx hb d_M_startOf_15 (by decide) ?_
        refine lv_icmp_ge (tgt := 23) hx hb d_M_startOf_16 (by decide) (fun ec => ?_) (fun ec => ?_)
        · have h := g_t ec h
          refine lv_aload_n hx hb d_M_startOf_23 rfl (lv_at hl 0 rfl) ?_
          refine va_get (D := D) (ci := 6) (v := .ref ht_op) (C := R_M) (T := F_M) (N := 28) hx hb hts u_M hown hK hP 0 rfl rfl 0 (by decide) f_7 (fun _ h9 => h9) rfl d_M_startOf_24 ?_
          refine lv_iload_n hx hb d_M_startOf_27 rfl (lv_at hl 2 rfl) ?_
          obtain ⟨hi, h⟩ := g_ck h
          refine va_iald hx hb hK hP 1 0 rfl rfl hi d_M_startOf_28 ?_
          refine lv_bipush (v := (7 : Int32)) hx hb d_M_startOf_29 (by decide) ?_
          refine lv_icmp_ne (tgt := 38) hx hb d_M_startOf_31 (by decide) (fun ec => ?_) (fun ec => ?_)
          · have h := g_f ec h
            refine lv_iconst (v := (1 : Int32)) hx hb d_M_startOf_38 (by decide) ?_
            refine lv_iadd hx hb d_M_startOf_39 ?_
            refine lv_istore_n (lv' := [(2, .int (v2 + (1 : Int32))), (0, .ref ht), (3, .int v3)]) hx hb d_M_startOf_40 rfl hl (by decide) rfl (fun ls hl => ?_)
            refine lv_iinc (v := v3 + (-1 : Int32)) (lv' := [(3, .int (v3 + (-1 : Int32))), (2, .int (v2 + (1 : Int32))), (0, .ref ht)]) hx hb d_M_startOf_41 hl (k := 2) rfl rfl (by decide) rfl (fun ls hl => ?_)
            refine lv_goto (tgt := 4) hx hb d_M_startOf_44 (by decide) ?_
            exact ih_4 _ _ h _ _ _ hP hD hS (lv_sub hl [2, 1, 0] rfl)
          · have h := g_t ec h
            refine lv_iconst (v := (0 : Int32)) hx hb d_M_startOf_34 (by decide) ?_
            refine lv_goto (tgt := 39) hx hb d_M_startOf_35 (by decide) ?_
            refine lv_iadd hx hb d_M_startOf_39 ?_
            refine lv_istore_n (lv' := [(2, .int (v2 + (0 : Int32))), (0, .ref ht), (3, .int v3)]) hx hb d_M_startOf_40 rfl hl (by decide) rfl (fun ls hl => ?_)
            refine lv_iinc (v := v3 + (-1 : Int32)) (lv' := [(3, .int (v3 + (-1 : Int32))), (2, .int (v2 + (0 : Int32))), (0, .ref ht)]) hx hb d_M_startOf_41 hl (k := 2) rfl rfl (by decide) rfl (fun ls hl => ?_)
            refine lv_goto (tgt := 4) hx hb d_M_startOf_44 (by decide) ?_
            exact ih_4 _ _ h _ _ _ hP hD hS (lv_sub hl [2, 1, 0] rfl)
        · have h := g_f ec h
          refine lv_iconst (v := (-1 : Int32)) hx hb d_M_startOf_19 (by decide) ?_
          refine lv_goto (tgt := 39) hx hb d_M_startOf_20 (by decide) ?_
          refine lv_iadd hx hb d_M_startOf_39 ?_
          refine lv_istore_n (lv' := [(2, .int (v2 + (-1 : Int32))), (0, .ref ht), (3, .int v3)]) hx hb d_M_startOf_40 rfl hl (by decide) rfl (fun ls hl => ?_)
          refine lv_iinc (v := v3 + (-1 : Int32)) (lv' := [(3, .int (v3 + (-1 : Int32))), (2, .int (v2 + (-1 : Int32))), (0, .ref ht)]) hx hb d_M_startOf_41 hl (k := 2) rfl rfl (by decide) rfl (fun ls hl => ?_)
          refine lv_goto (tgt := 4) hx hb d_M_startOf_44 (by decide) ?_
          exact ih_4 _ _ h _ _ _ hP hD hS (lv_sub hl [2, 1, 0] rfl)
  have hP : va_P D vwCl [(ht, .inr (6, [.ref ht_op, .ref ht_to, .ref ht_newOp, .ref ht_newTo, .ref ht_draft, .ref ht_text, .int t_many, .int t_letters, .int t_length, .int t_where, .int t_tree, .ref ht_todo, .ref ht_with, .ref ht_holes, .int t_top, .int t_hole, .int t_at, .int t_made, .ref ht_variable, .ref ht_stack, .ref ht_signs, .ref ht_output, .ref ht_blocks, .int t_high, .int t_signsHigh, .int t_printed, .int t_done, .int t_value])), (ht_op, .inl (cI, 30, .inl t_op))] s.heap := hP
  have hl := lv_entry ([.ref ht, .int a1]) (n := 4) (Nat.le_of_ble_eq_true rfl)
  rw [lg_entry_eq]
  generalize (lg_sl ([.ref ht, .int a1]) ++ List.replicate (4 - (lg_sl ([.ref ht, .int a1])).length) Slot.unset).toArray = ls at hl ⊢
  have hl : lv_has ls 4 [(0, .ref ht), (1, .int a1)] := hl
  unfold g_M_startOf at h
  refine lv_iconst (v := (1 : Int32)) hx hb d_M_startOf_0 (by decide) ?_
  refine lv_istore_n (lv' := [(2, .int (1 : Int32)), (0, .ref ht), (1, .int a1)]) hx hb d_M_startOf_1 rfl hl (by decide) rfl (fun ls hl => ?_)
  refine lv_iload_n hx hb d_M_startOf_2 rfl (lv_at hl 2 rfl) ?_
  refine lv_istore_n (lv' := [(3, .int a1), (2, .int (1 : Int32)), (0, .ref ht), (1, .int a1)]) hx hb d_M_startOf_3 rfl hl (by decide) rfl (fun ls hl => ?_)
  exact LP_4 500 _ _ h _ _ _ hP hD hS (lv_sub hl [2, 1, 0] rfl)
def K_M_tell (l : Launch) (D : va_G) (cI cC : ClassId) : Prop :=
  ∀ (ht ht_op ht_to ht_newOp ht_newTo ht_draft ht_text ht_todo ht_with ht_holes ht_variable ht_stack ht_signs ht_output ht_blocks : Nat) (t_many : Int32) (t_letters : Int32) (t_length : Int32) (t_where : Int32) (t_tree : Int32) (t_top : Int32) (t_hole : Int32) (t_at : Int32) (t_made : Int32) (t_high : Int32) (t_signsHigh : Int32) (t_printed : Int32) (t_done : Int32) (t_value : Int32) (t_op : Nat → Int32) (t_to : Nat → Int32) (t_text : Nat → Int32) (t_todo : Nat → Int32) (t_with : Nat → Int32) (a1 : Int32) (q : (Nat → Int32) × Int32 × (Nat → Int32) × (Nat → Int32) × Int32), g_M_tell t_op t_to t_text t_length t_todo t_with t_top a1 = some q → ∀ (sz : Nat), Met l y_M_tell w_M_tell ({ frames := 1, cells := 0, slots := 0, locals := 23 }) (va_Pc [.ref ht, .int a1] (gB D (gT cI cC) [(ht, .inr (6, [.ref ht_op, .ref ht_to, .ref ht_newOp, .ref ht_newTo, .ref ht_draft, .ref ht_text, .int t_many, .int t_letters, .int t_length, .int t_where, .int t_tree, .ref ht_todo, .ref ht_with, .ref ht_holes, .int t_top, .int t_hole, .int t_at, .int t_made, .ref ht_variable, .ref ht_stack, .ref ht_signs, .ref ht_output, .ref ht_blocks, .int t_high, .int t_signsHigh, .int t_printed, .int t_done, .int t_value])), (ht_op, .inl (cI, 30, .inl t_op)), (ht_to, .inl (cI, 31, .inl t_to)), (ht_text, .inl (cI, 600, .inl t_text)), (ht_todo, .inl (cI, 600, .inl t_todo)), (ht_with, .inl (cI, 600, .inl t_with))] sz)) (gQv D (gT cI cC) [(ht, .inr (6, [.ref ht_op, .ref ht_to, .ref ht_newOp, .ref ht_newTo, .ref ht_draft, .ref ht_text, .int t_many, .int t_letters, .int q.2.1, .int t_where, .int t_tree, .ref ht_todo, .ref ht_with, .ref ht_holes, .int q.2.2.2.2, .int t_hole, .int t_at, .int t_made, .ref ht_variable, .ref ht_stack, .ref ht_signs, .ref ht_output, .ref ht_blocks, .int t_high, .int t_signsHigh, .int t_printed, .int t_done, .int t_value])), (ht_op, .inl (cI, 30, .inl t_op)), (ht_to, .inl (cI, 31, .inl t_to)), (ht_text, .inl (cI, 600, .inl q.1)), (ht_todo, .inl (cI, 600, .inl q.2.2.1)), (ht_with, .inl (cI, 600, .inl q.2.2.2.1))] (va_A [(ht, .inr (6, [.ref ht_op, .ref ht_to, .ref ht_newOp, .ref ht_newTo, .ref ht_draft, .ref ht_text, .int t_many, .int t_letters, .int t_length, .int t_where, .int t_tree, .ref ht_todo, .ref ht_with, .ref ht_holes, .int t_top, .int t_hole, .int t_at, .int t_made, .ref ht_variable, .ref ht_stack, .ref ht_signs, .ref ht_output, .ref ht_blocks, .int t_high, .int t_signsHigh, .int t_printed, .int t_done, .int t_value])), (ht_op, .inl (cI, 30, .inl t_op)), (ht_to, .inl (cI, 31, .inl t_to)), (ht_text, .inl (cI, 600, .inl t_text)), (ht_todo, .inl (cI, 600, .inl t_todo)), (ht_with, .inl (cI, 600, .inl t_with))] sz)) 0 0 (va_A [(ht, .inr (6, [.ref ht_op, .ref ht_to, .ref ht_newOp, .ref ht_newTo, .ref ht_draft, .ref ht_text, .int t_many, .int t_letters, .int t_length, .int t_where, .int t_tree, .ref ht_todo, .ref ht_with, .ref ht_holes, .int t_top, .int t_hole, .int t_at, .int t_made, .ref ht_variable, .ref ht_stack, .ref ht_signs, .ref ht_output, .ref ht_blocks, .int t_high, .int t_signsHigh, .int t_printed, .int t_done, .int t_value])), (ht_op, .inl (cI, 30, .inl t_op)), (ht_to, .inl (cI, 31, .inl t_to)), (ht_text, .inl (cI, 600, .inl t_text)), (ht_todo, .inl (cI, 600, .inl t_todo)), (ht_with, .inl (cI, 600, .inl t_with))] sz)
set_option maxHeartbeats 4000000 in
set_option maxRecDepth 100000 in
theorem c_M_tell (l : Launch) (D : va_G) (cI cC : ClassId) : K_M_tell l D cI cC := by
  intro ht ht_op ht_to ht_newOp ht_newTo ht_draft ht_text ht_todo ht_with ht_holes ht_variable ht_stack ht_signs ht_output ht_blocks t_many t_letters t_length t_where t_tree t_top t_hole t_at t_made t_high t_signsHigh t_printed t_done t_value t_op t_to t_text t_todo t_with a1 q h sz
  refine Met.ofW (cc := k_M_tell) (maxL := 4) (ret := none) (by decide) rfl ?_
  intro p e s m args below meth c s₁ B hml hv
  obtain ⟨rfl, hsz, hP, hK, hD0⟩ := hv
  have hx := B.exec
  have hb := B.bytes
  have hr := B.returns
  have hts : ∀ w ∈ lw_t, w.before ([.ref ht, .int a1] : List Value).toArray s = true := fun w h => atoms_spec (ws := w_M_tell) B.pre w (List.mem_cons_of_mem _ h)
  have hown : s.vm.findClass R_M = some m.cls := findClass_of_methodNamed B.named
  have hlocks := B.notSynchronized
  subst hsz
  have hD := hD0.self (sz := s.heap.size)
  generalize hAe : va_A [(ht, .inr (6, [.ref ht_op, .ref ht_to, .ref ht_newOp, .ref ht_newTo, .ref ht_draft, .ref ht_text, .int t_many, .int t_letters, .int t_length, .int t_where, .int t_tree, .ref ht_todo, .ref ht_with, .ref ht_holes, .int t_top, .int t_hole, .int t_at, .int t_made, .ref ht_variable, .ref ht_stack, .ref ht_signs, .ref ht_output, .ref ht_blocks, .int t_high, .int t_signsHigh, .int t_printed, .int t_done, .int t_value])), (ht_op, .inl (cI, 30, .inl t_op)), (ht_to, .inl (cI, 31, .inl t_to)), (ht_text, .inl (cI, 600, .inl t_text)), (ht_todo, .inl (cI, 600, .inl t_todo)), (ht_with, .inl (cI, 600, .inl t_with))] s.heap.size = A at hD ⊢
  have hA : ∀ q : Nat, s.heap.size ≤ q → A q := fun q h => by rw [← hAe]; exact Or.inr h
  have hS : va_S A s.heap s.heap [] := va_S.rf
  have f_13 := hts _ mt_3_149
  have f_32 := hts _ mt_3_159
  have f_35 := hts _ mt_3_160
  have f_7 := hts _ mt_3_148
  have f_90 := hts _ mt_3_162
  have LP_11 : ∀ nn_11 : Nat, ∀ (t_text : Nat → Int32) (t_length : Int32) (t_todo : Nat → Int32) (t_with : Nat → Int32) (t_top : Int32) (v2 : Int32), b_M_tell_11 t_op t_to nn_11 t_text t_length t_todo t_with t_top v2 = some q → gJ p l e (headSpec w_M_tell ({ frames := 1, cells := 0, slots := 0, locals := 23 })).room s m ([.ref ht, .int a1] : List Value).toArray below meth c D A 4 (MQ below (gQv D (gT cI cC) [(ht, .inr (6, [.ref ht_op, .ref ht_to, .ref ht_newOp, .ref ht_newTo, .ref ht_draft, .ref ht_text, .int t_many, .int t_letters, .int q.2.1, .int t_where, .int t_tree, .ref ht_todo, .ref ht_with, .ref ht_holes, .int q.2.2.2.2, .int t_hole, .int t_at, .int t_made, .ref ht_variable, .ref ht_stack, .ref ht_signs, .ref ht_output, .ref ht_blocks, .int t_high, .int t_signsHigh, .int t_printed, .int t_done, .int t_value])), (ht_op, .inl (cI, 30, .inl t_op)), (ht_to, .inl (cI, 31, .inl t_to)), (ht_text, .inl (cI, 600, .inl q.1)), (ht_todo, .inl (cI, 600, .inl q.2.2.1)), (ht_with, .inl (cI, 600, .inl q.2.2.2.1))] A) ([.ref ht, .int a1] : List Value).toArray s 0 0 A) 11 [(ht, .inr (6, [.ref ht_op, .ref ht_to, .ref ht_newOp, .ref ht_newTo, .ref ht_draft, .ref ht_text, .int t_many, .int t_letters, .int t_length, .int t_where, .int t_tree, .ref ht_todo, .ref ht_with, .ref ht_holes, .int t_top, .int t_hole, .int t_at, .int t_made, .ref ht_variable, .ref ht_stack, .ref ht_signs, .ref ht_output, .ref ht_blocks, .int t_high, .int t_signsHigh, .int t_printed, .int t_done, .int t_value])), (ht_op, .inl (cI, 30, .inl t_op)), (ht_to, .inl (cI, 31, .inl t_to)), (ht_text, .inl (cI, 600, .inl t_text)), (ht_todo, .inl (cI, 600, .inl t_todo)), (ht_with, .inl (cI, 600, .inl t_with))] [(0, .ref ht), (2, .int v2)] [] := by
    intro nn_11
    induction nn_11 with
    | zero => intro t_text t_length t_todo t_with t_top v2 h; exact g_no h
    | succ nn_11 ih_11 =>
      intro t_text t_length t_todo t_with t_top v2 h H locs ls hP hD hS hl
      rw [b_M_tell_11] at h
      have J_239 : ∀ (t_text : Nat → Int32) (t_length : Int32) (t_todo : Nat → Int32) (t_with : Nat → Int32) (t_top : Int32) (v2 : Int32) (v3 : Int32) (k1 : Int32) (k2 : Int32), b_M_tell_239 t_op t_to (b_M_tell_11 t_op t_to nn_11) t_text t_length t_todo t_with t_top v2 v3 k1 k2 = some q → gJ p l e (headSpec w_M_tell ({ frames := 1, cells := 0, slots := 0, locals := 23 })).room s m ([.ref ht, .int a1] : List Value).toArray below meth c D A 4 (MQ below (gQv D (gT cI cC) [(ht, .inr (6, [.ref ht_op, .ref ht_to, .ref ht_newOp, .ref ht_newTo, .ref ht_draft, .ref ht_text, .int t_many, .int t_letters, .int q.2.1, .int t_where, .int t_tree, .ref ht_todo, .ref ht_with, .ref ht_holes, .int q.2.2.2.2, .int t_hole, .int t_at, .int t_made, .ref ht_variable, .ref ht_stack, .ref ht_signs, .ref ht_output, .ref ht_blocks, .int t_high, .int t_signsHigh, .int t_printed, .int t_done, .int t_value])), (ht_op, .inl (cI, 30, .inl t_op)), (ht_to, .inl (cI, 31, .inl t_to)), (ht_text, .inl (cI, 600, .inl q.1)), (ht_todo, .inl (cI, 600, .inl q.2.2.1)), (ht_with, .inl (cI, 600, .inl q.2.2.2.1))] A) ([.ref ht, .int a1] : List Value).toArray s 0 0 A) 239 [(ht, .inr (6, [.ref ht_op, .ref ht_to, .ref ht_newOp, .ref ht_newTo, .ref ht_draft, .ref ht_text, .int t_many, .int t_letters, .int t_length, .int t_where, .int t_tree, .ref ht_todo, .ref ht_with, .ref ht_holes, .int t_top, .int t_hole, .int t_at, .int t_made, .ref ht_variable, .ref ht_stack, .ref ht_signs, .ref ht_output, .ref ht_blocks, .int t_high, .int t_signsHigh, .int t_printed, .int t_done, .int t_value])), (ht_op, .inl (cI, 30, .inl t_op)), (ht_to, .inl (cI, 31, .inl t_to)), (ht_text, .inl (cI, 600, .inl t_text)), (ht_todo, .inl (cI, 600, .inl t_todo)), (ht_with, .inl (cI, 600, .inl t_with))] [(0, .ref ht), (2, .int v2), (3, .int v3)] [.int k2, .int k1, .ref ht] := by
        intro t_text t_length t_todo t_with t_top v2 v3 k1 k2 h H locs ls hP hD hS hl
        unfold b_M_tell_239 at h
        obtain ⟨q1, hc, h⟩ := g_bd h
        refine gk_v (va_runV (As := [.int k1, .int k2]) (rest := []) ⟨hx, hb, hml, hown, hts⟩ (c_M_push l D cI cC ht ht_op ht_to ht_newOp ht_newTo ht_draft ht_text ht_todo ht_with ht_holes ht_variable ht_stack ht_signs ht_output ht_blocks t_many t_letters t_length t_where t_tree t_top t_hole t_at t_made t_high t_signsHigh t_printed t_done t_value t_todo t_with k1 k2 q1 hc _) (cwV 2 hts (gG_V mt_4_39 mt_4_41 mp_28 mt_1_7 mt_4_42) rfl rfl rfl (by decide +kernel) ⟨Nat.le_of_ble_eq_true rfl, Nat.le_of_ble_eq_true rfl⟩) (gpV hK hP hD [0, 4, 5] rfl (by decide) (ci := 6) 0 rfl rfl) rfl rfl hl.1 rfl (lv_room (Nat.le_of_ble_eq_true rfl)) d_M_tell_239 ⟨Nat.zero_le _, Nat.zero_le _⟩) hK hP hD hS hA [0, 4, 5] rfl (by decide) rfl rfl (fun H locs (hP : va_P D vwCl [(ht, .inr (6, [.ref ht_op, .ref ht_to, .ref ht_newOp, .ref ht_newTo, .ref ht_draft, .ref ht_text, .int t_many, .int t_letters, .int t_length, .int t_where, .int t_tree, .ref ht_todo, .ref ht_with, .ref ht_holes, .int q1.2.2, .int t_hole, .int t_at, .int t_made, .ref ht_variable, .ref ht_stack, .ref ht_signs, .ref ht_output, .ref ht_blocks, .int t_high, .int t_signsHigh, .int t_printed, .int t_done, .int t_value])), (ht_op, .inl (cI, 30, .inl t_op)), (ht_to, .inl (cI, 31, .inl t_to)), (ht_text, .inl (cI, 600, .inl t_text)), (ht_todo, .inl (cI, 600, .inl q1.1)), (ht_with, .inl (cI, 600, .inl q1.2.1))] H) (hD : va_D A [(ht, .inr (6, [.ref ht_op, .ref ht_to, .ref ht_newOp, .ref ht_newTo, .ref ht_draft, .ref ht_text, .int t_many, .int t_letters, .int t_length, .int t_where, .int t_tree, .ref ht_todo, .ref ht_with, .ref ht_holes, .int q1.2.2, .int t_hole, .int t_at, .int t_made, .ref ht_variable, .ref ht_stack, .ref ht_signs, .ref ht_output, .ref ht_blocks, .int t_high, .int t_signsHigh, .int t_printed, .int t_done, .int t_value])), (ht_op, .inl (cI, 30, .inl t_op)), (ht_to, .inl (cI, 31, .inl t_to)), (ht_text, .inl (cI, 600, .inl t_text)), (ht_todo, .inl (cI, 600, .inl q1.1)), (ht_with, .inl (cI, 600, .inl q1.2.1))]) hS => ?_)
        refine lv_aload_n hx hb d_M_tell_242 rfl (lv_at hl 0 rfl) ?_
        refine lv_iconst (v := (2 : Int32)) hx hb d_M_tell_243 (by decide) ?_
        refine lv_aload_n hx hb d_M_tell_244 rfl (lv_at hl 0 rfl) ?_
        refine lv_iload_n hx hb d_M_tell_245 rfl (lv_at hl 2 rfl) ?_
        refine lv_iconst (v := (1 : Int32)) hx hb d_M_tell_246 (by decide) ?_
        refine lv_isub hx hb d_M_tell_247 ?_
        obtain ⟨q2, hc, h⟩ := g_bd h
        refine gk_i (va_runV (As := [.int (v3 - (1 : Int32))]) (rest := [.int (2 : Int32), .ref ht]) ⟨hx, hb, hml, hown, hts⟩ (c_M_startOf l D cI cC ht ht_op ht_to ht_newOp ht_newTo ht_draft ht_text ht_todo ht_with ht_holes ht_variable ht_stack ht_signs ht_output ht_blocks t_many t_letters t_length t_where t_tree q1.2.2 t_hole t_at t_made t_high t_signsHigh t_printed t_done t_value t_op (v3 - (1 : Int32)) q2 hc _) (cwV 1 hts (gG_V mt_4_55 mt_4_57 mp_32 mt_1_7 mt_4_58) rfl rfl rfl (by decide +kernel) ⟨Nat.le_of_ble_eq_true rfl, Nat.le_of_ble_eq_true rfl⟩) (gpV hK hP hD [0, 1] rfl (by decide) (ci := 6) 0 rfl rfl) rfl rfl hl.1 rfl (lv_room (Nat.le_of_ble_eq_true rfl)) d_M_tell_248 ⟨Nat.zero_le _, Nat.zero_le _⟩) hK hP hD hS hA [0, 1] rfl (by decide) rfl rfl (fun H locs (hP : va_P D vwCl [(ht, .inr (6, [.ref ht_op, .ref ht_to, .ref ht_newOp, .ref ht_newTo, .ref ht_draft, .ref ht_text, .int t_many, .int t_letters, .int t_length, .int t_where, .int t_tree, .ref ht_todo, .ref ht_with, .ref ht_holes, .int q1.2.2, .int t_hole, .int t_at, .int t_made, .ref ht_variable, .ref ht_stack, .ref ht_signs, .ref ht_output, .ref ht_blocks, .int t_high, .int t_signsHigh, .int t_printed, .int t_done, .int t_value])), (ht_op, .inl (cI, 30, .inl t_op)), (ht_to, .inl (cI, 31, .inl t_to)), (ht_text, .inl (cI, 600, .inl t_text)), (ht_todo, .inl (cI, 600, .inl q1.1)), (ht_with, .inl (cI, 600, .inl q1.2.1))] H) (hD : va_D A [(ht, .inr (6, [.ref ht_op, .ref ht_to, .ref ht_newOp, .ref ht_newTo, .ref ht_draft, .ref ht_text, .int t_many, .int t_letters, .int t_length, .int t_where, .int t_tree, .ref ht_todo, .ref ht_with, .ref ht_holes, .int q1.2.2, .int t_hole, .int t_at, .int t_made, .ref ht_variable, .ref ht_stack, .ref ht_signs, .ref ht_output, .ref ht_blocks, .int t_high, .int t_signsHigh, .int t_printed, .int t_done, .int t_value])), (ht_op, .inl (cI, 30, .inl t_op)), (ht_to, .inl (cI, 31, .inl t_to)), (ht_text, .inl (cI, 600, .inl t_text)), (ht_todo, .inl (cI, 600, .inl q1.1)), (ht_with, .inl (cI, 600, .inl q1.2.1))]) hS => ?_)
        refine lv_iconst (v := (1 : Int32)) hx hb d_M_tell_251 (by decide) ?_
        refine lv_isub hx hb d_M_tell_252 ?_
        obtain ⟨q3, hc, h⟩ := g_bd h
        refine gk_v (va_runV (As := [.int (2 : Int32), .int (q2 - (1 : Int32))]) (rest := []) ⟨hx, hb, hml, hown, hts⟩ (c_M_push l D cI cC ht ht_op ht_to ht_newOp ht_newTo ht_draft ht_text ht_todo ht_with ht_holes ht_variable ht_stack ht_signs ht_output ht_blocks t_many t_letters t_length t_where t_tree q1.2.2 t_hole t_at t_made t_high t_signsHigh t_printed t_done t_value q1.1 q1.2.1 (2 : Int32) (q2 - (1 : Int32)) q3 hc _) (cwV 2 hts (gG_V mt_4_39 mt_4_41 mp_28 mt_1_7 mt_4_42) rfl rfl rfl (by decide +kernel) ⟨Nat.le_of_ble_eq_true rfl, Nat.le_of_ble_eq_true rfl⟩) (gpV hK hP hD [0, 4, 5] rfl (by decide) (ci := 6) 0 rfl rfl) rfl rfl hl.1 rfl (lv_room (Nat.le_of_ble_eq_true rfl)) d_M_tell_253 ⟨Nat.zero_le _, Nat.zero_le _⟩) hK hP hD hS hA [0, 4, 5] rfl (by decide) rfl rfl (fun H locs (hP : va_P D vwCl [(ht, .inr (6, [.ref ht_op, .ref ht_to, .ref ht_newOp, .ref ht_newTo, .ref ht_draft, .ref ht_text, .int t_many, .int t_letters, .int t_length, .int t_where, .int t_tree, .ref ht_todo, .ref ht_with, .ref ht_holes, .int q3.2.2, .int t_hole, .int t_at, .int t_made, .ref ht_variable, .ref ht_stack, .ref ht_signs, .ref ht_output, .ref ht_blocks, .int t_high, .int t_signsHigh, .int t_printed, .int t_done, .int t_value])), (ht_op, .inl (cI, 30, .inl t_op)), (ht_to, .inl (cI, 31, .inl t_to)), (ht_text, .inl (cI, 600, .inl t_text)), (ht_todo, .inl (cI, 600, .inl q3.1)), (ht_with, .inl (cI, 600, .inl q3.2.1))] H) (hD : va_D A [(ht, .inr (6, [.ref ht_op, .ref ht_to, .ref ht_newOp, .ref ht_newTo, .ref ht_draft, .ref ht_text, .int t_many, .int t_letters, .int t_length, .int t_where, .int t_tree, .ref ht_todo, .ref ht_with, .ref ht_holes, .int q3.2.2, .int t_hole, .int t_at, .int t_made, .ref ht_variable, .ref ht_stack, .ref ht_signs, .ref ht_output, .ref ht_blocks, .int t_high, .int t_signsHigh, .int t_printed, .int t_done, .int t_value])), (ht_op, .inl (cI, 30, .inl t_op)), (ht_to, .inl (cI, 31, .inl t_to)), (ht_text, .inl (cI, 600, .inl t_text)), (ht_todo, .inl (cI, 600, .inl q3.1)), (ht_with, .inl (cI, 600, .inl q3.2.1))]) hS => ?_)
        refine lv_goto (tgt := 11) hx hb d_M_tell_256 (by decide) ?_
        exact ih_11 _ _ _ _ _ _ h _ _ _ hP hD hS (lv_sub hl [0, 1] rfl)
      refine lv_aload_n hx hb d_M_tell_11 rfl (lv_at hl 0 rfl) ?_
      refine va_get (D := D) (ci := 6) (v := .int t_top) (C := R_M) (T := F_M) (N := 28) hx hb hts u_M hown hK hP 0 rfl rfl 14 (by decide) f_90 (fun _ h9 => h9) rfl d_M_tell_12 ?_
      refine lv_iload_n hx hb d_M_tell_15 rfl (lv_at hl 1 rfl) ?_
      refine lv_icmp_le (tgt := 259) hx hb d_M_tell_16 (by decide) (fun ec => ?_) (fun ec => ?_)
      · have h := g_t ec h
        cases h
        exact gr_v hx hb hr hlocks hK hP hD hS d_M_tell_259
      · have h := g_f ec h
        refine lv_aload_n hx hb d_M_tell_19 rfl (lv_at hl 0 rfl) ?_
        refine lv_dup hx hb d_M_tell_20 rfl ?_
        refine va_get (D := D) (ci := 6) (v := .int t_top) (C := R_M) (T := F_M) (N := 28) hx hb hts u_M hown hK hP 0 rfl rfl 14 (by decide) f_90 (fun _ h9 => h9) rfl d_M_tell_21 ?_
        refine lv_iconst (v := (1 : Int32)) hx hb d_M_tell_24 (by decide) ?_
        refine lv_isub hx hb d_M_tell_25 ?_
        refine va_put (D := D) (ci := 6) (v := .int (t_top - (1 : Int32))) (ty := .int) (C := R_M) (T := F_M) (N := 28) hx hb hts u_M t_M t_M_ok n_M hown hK hP hD hS 0 rfl rfl 14 (by decide) f_90 (fun _ h9 => h9) rfl (by decide +kernel) rfl rfl (Nat.le_of_ble_eq_true rfl) d_M_tell_26 (fun H locs (hP : va_P D vwCl [(ht, .inr (6, [.ref ht_op, .ref ht_to, .ref ht_newOp, .ref ht_newTo, .ref ht_draft, .ref ht_text, .int t_many, .int t_letters, .int t_length, .int t_where, .int t_tree, .ref ht_todo, .ref ht_with, .ref ht_holes, .int (t_top - (1 : Int32)), .int t_hole, .int t_at, .int t_made, .ref ht_variable, .ref ht_stack, .ref ht_signs, .ref ht_output, .ref ht_blocks, .int t_high, .int t_signsHigh, .int t_printed, .int t_done, .int t_value])), (ht_op, .inl (cI, 30, .inl t_op)), (ht_to, .inl (cI, 31, .inl t_to)), (ht_text, .inl (cI, 600, .inl t_text)), (ht_todo, .inl (cI, 600, .inl t_todo)), (ht_with, .inl (cI, 600, .inl t_with))] H) (hD : va_D A [(ht, .inr (6, [.ref ht_op, .ref ht_to, .ref ht_newOp, .ref ht_newTo, .ref ht_draft, .ref ht_text, .int t_many, .int t_letters, .int t_length, .int t_where, .int t_tree, .ref ht_todo, .ref ht_with, .ref ht_holes, .int (t_top - (1 : Int32)), .int t_hole, .int t_at, .int t_made, .ref ht_variable, .ref ht_stack, .ref ht_signs, .ref ht_output, .ref ht_blocks, .int t_high, .int t_signsHigh, .int t_printed, .int t_done, .int t_value])), (ht_op, .inl (cI, 30, .inl t_op)), (ht_to, .inl (cI, 31, .inl t_to)), (ht_text, .inl (cI, 600, .inl t_text)), (ht_todo, .inl (cI, 600, .inl t_todo)), (ht_with, .inl (cI, 600, .inl t_with))]) hS => ?_)
        refine lv_aload_n hx hb d_M_tell_29 rfl (lv_at hl 0 rfl) ?_
        refine va_get (D := D) (ci := 6) (v := .ref ht_with) (C := R_M) (T := F_M) (N := 28) hx hb hts u_M hown hK hP 0 rfl rfl 12 (by decide) f_35 (fun _ h9 => h9) rfl d_M_tell_30 ?_
        refine lv_aload_n hx hb d_M_tell_33 rfl (lv_at hl 0 rfl) ?_
        refine va_get (D := D) (ci := 6) (v := .int (t_top - (1 : Int32))) (C := R_M) (T := F_M) (N := 28) hx hb hts u_M hown hK hP 0 rfl rfl 14 (by decide) f_90 (fun _ h9 => h9) rfl d_M_tell_34 ?_
        obtain ⟨hi, h⟩ := g_ck h
        refine va_iald hx hb hK hP 5 0 rfl rfl hi d_M_tell_37 ?_
        refine lv_istore_n (lv' := [(3, .int (t_with (t_top - (1 : Int32)).toNatClampNeg)), (0, .ref ht), (2, .int v2)]) hx hb d_M_tell_38 rfl hl (by decide) rfl (fun ls hl => ?_)
        refine lv_aload_n hx hb d_M_tell_39 rfl (lv_at hl 1 rfl) ?_
        refine va_get (D := D) (ci := 6) (v := .ref ht_todo) (C := R_M) (T := F_M) (N := 28) hx hb hts u_M hown hK hP 0 rfl rfl 11 (by decide) f_32 (fun _ h9 => h9) rfl d_M_tell_40 ?_
        refine lv_aload_n hx hb d_M_tell_43 rfl (lv_at hl 1 rfl) ?_
        refine va_get (D := D) (ci := 6) (v := .int (t_top - (1 : Int32))) (C := R_M) (T := F_M) (N := 28) hx hb hts u_M hown hK hP 0 rfl rfl 14 (by decide) f_90 (fun _ h9 => h9) rfl d_M_tell_44 ?_
        obtain ⟨hi, h⟩ := g_ck h
        refine va_iald hx hb hK hP 4 0 rfl rfl hi d_M_tell_47 ?_
        refine lv_iconst (v := (1 : Int32)) hx hb d_M_tell_48 (by decide) ?_
        refine lv_icmp_ne (tgt := 60) hx hb d_M_tell_49 (by decide) (fun ec => ?_) (fun ec => ?_)
        · have h := g_f ec h
          refine lv_aload_n hx hb d_M_tell_60 rfl (lv_at hl 1 rfl) ?_
          refine va_get (D := D) (ci := 6) (v := .ref ht_op) (C := R_M) (T := F_M) (N := 28) hx hb hts u_M hown hK hP 0 rfl rfl 0 (by decide) f_7 (fun _ h9 => h9) rfl d_M_tell_61 ?_
          refine lv_iload_n hx hb d_M_tell_64 rfl (lv_at hl 0 rfl) ?_
          obtain ⟨hi, h⟩ := g_ck h
          refine va_iald hx hb hK hP 1 0 rfl rfl hi d_M_tell_65 ?_
          refine lv_if_ne (tgt := 115) hx hb d_M_tell_66 (by decide) (fun ec => ?_) (fun ec => ?_)
          · have h := g_f ec h
            refine lv_aload_n hx hb d_M_tell_115 rfl (lv_at hl 1 rfl) ?_
            refine va_get (D := D) (ci := 6) (v := .ref ht_op) (C := R_M) (T := F_M) (N := 28) hx hb hts u_M hown hK hP 0 rfl rfl 0 (by decide) f_7 (fun _ h9 => h9) rfl d_M_tell_116 ?_
            refine lv_iload_n hx hb d_M_tell_119 rfl (lv_at hl 0 rfl) ?_
            obtain ⟨hi, h⟩ := g_ck h
            refine va_iald hx hb hK hP 1 0 rfl rfl hi d_M_tell_120 ?_
            refine lv_iconst (v := (1 : Int32)) hx hb d_M_tell_121 (by decide) ?_
            refine lv_icmp_ne (tgt := 141) hx hb d_M_tell_122 (by decide) (fun ec => ?_) (fun ec => ?_)
            · have h := g_f ec h
              refine lv_aload_n hx hb d_M_tell_141 rfl (lv_at hl 1 rfl) ?_
              refine va_get (D := D) (ci := 6) (v := .ref ht_op) (C := R_M) (T := F_M) (N := 28) hx hb hts u_M hown hK hP 0 rfl rfl 0 (by decide) f_7 (fun _ h9 => h9) rfl d_M_tell_142 ?_
              refine lv_iload_n hx hb d_M_tell_145 rfl (lv_at hl 0 rfl) ?_
              obtain ⟨hi, h⟩ := g_ck h
              refine va_iald hx hb hK hP 1 0 rfl rfl hi d_M_tell_146 ?_
              refine lv_bipush (v := (7 : Int32)) hx hb d_M_tell_147 (by decide) ?_
              refine lv_icmp_ne (tgt := 169) hx hb d_M_tell_149 (by decide) (fun ec => ?_) (fun ec => ?_)
              · have h := g_f ec h
                refine lv_aload_n hx hb d_M_tell_169 rfl (lv_at hl 1 rfl) ?_
                refine lv_bipush (v := (40 : Int32)) hx hb d_M_tell_170 (by decide) ?_
                obtain ⟨q1, hc, h⟩ := g_bd h
                refine gk_v (va_runV (As := [.int (40 : Int32)]) (rest := []) ⟨hx, hb, hml, hown, hts⟩ (c_M_write l D cI cC ht ht_op ht_to ht_newOp ht_newTo ht_draft ht_text ht_todo ht_with ht_holes ht_variable ht_stack ht_signs ht_output ht_blocks t_many t_letters t_length t_where t_tree (t_top - (1 : Int32)) t_hole t_at t_made t_high t_signsHigh t_printed t_done t_value t_text (40 : Int32) q1 hc _) (cwV 1 hts (gG_V mt_4_43 mt_4_45 mp_29 mt_1_7 mt_4_46) rfl rfl rfl (by decide +kernel) ⟨Nat.le_of_ble_eq_true rfl, Nat.le_of_ble_eq_true rfl⟩) (gpV hK hP hD [0, 3] rfl (by decide) (ci := 6) 0 rfl rfl) rfl rfl hl.1 rfl (lv_room (Nat.le_of_ble_eq_true rfl)) d_M_tell_172 ⟨Nat.zero_le _, Nat.zero_le _⟩) hK hP hD hS hA [0, 3] rfl (by decide) rfl rfl (fun H locs (hP : va_P D vwCl [(ht, .inr (6, [.ref ht_op, .ref ht_to, .ref ht_newOp, .ref ht_newTo, .ref ht_draft, .ref ht_text, .int t_many, .int t_letters, .int q1.2, .int t_where, .int t_tree, .ref ht_todo, .ref ht_with, .ref ht_holes, .int (t_top - (1 : Int32)), .int t_hole, .int t_at, .int t_made, .ref ht_variable, .ref ht_stack, .ref ht_signs, .ref ht_output, .ref ht_blocks, .int t_high, .int t_signsHigh, .int t_printed, .int t_done, .int t_value])), (ht_op, .inl (cI, 30, .inl t_op)), (ht_to, .inl (cI, 31, .inl t_to)), (ht_text, .inl (cI, 600, .inl q1.1)), (ht_todo, .inl (cI, 600, .inl t_todo)), (ht_with, .inl (cI, 600, .inl t_with))] H) (hD : va_D A [(ht, .inr (6, [.ref ht_op, .ref ht_to, .ref ht_newOp, .ref ht_newTo, .ref ht_draft, .ref ht_text, .int t_many, .int t_letters, .int q1.2, .int t_where, .int t_tree, .ref ht_todo, .ref ht_with, .ref ht_holes, .int (t_top - (1 : Int32)), .int t_hole, .int t_at, .int t_made, .ref ht_variable, .ref ht_stack, .ref ht_signs, .ref ht_output, .ref ht_blocks, .int t_high, .int t_signsHigh, .int t_printed, .int t_done, .int t_value])), (ht_op, .inl (cI, 30, .inl t_op)), (ht_to, .inl (cI, 31, .inl t_to)), (ht_text, .inl (cI, 600, .inl q1.1)), (ht_todo, .inl (cI, 600, .inl t_todo)), (ht_with, .inl (cI, 600, .inl t_with))]) hS => ?_)
                refine lv_aload_n hx hb d_M_tell_175 rfl (lv_at hl 1 rfl) ?_
                refine lv_iconst (v := (1 : Int32)) hx hb d_M_tell_176 (by decide) ?_
                refine lv_bipush (v := (41 : Int32)) hx hb d_M_tell_177 (by decide) ?_
                obtain ⟨q2, hc, h⟩ := g_bd h
                refine gk_v (va_runV (As := [.int (1 : Int32), .int (41 : Int32)]) (rest := []) ⟨hx, hb, hml, hown, hts⟩ (c_M_push l D cI cC ht ht_op ht_to ht_newOp ht_newTo ht_draft ht_text ht_todo ht_with ht_holes ht_variable ht_stack ht_signs ht_output ht_blocks t_many t_letters q1.2 t_where t_tree (t_top - (1 : Int32)) t_hole t_at t_made t_high t_signsHigh t_printed t_done t_value t_todo t_with (1 : Int32) (41 : Int32) q2 hc _) (cwV 2 hts (gG_V mt_4_39 mt_4_41 mp_28 mt_1_7 mt_4_42) rfl rfl rfl (by decide +kernel) ⟨Nat.le_of_ble_eq_true rfl, Nat.le_of_ble_eq_true rfl⟩) (gpV hK hP hD [0, 4, 5] rfl (by decide) (ci := 6) 0 rfl rfl) rfl rfl hl.1 rfl (lv_room (Nat.le_of_ble_eq_true rfl)) d_M_tell_179 ⟨Nat.zero_le _, Nat.zero_le _⟩) hK hP hD hS hA [0, 4, 5] rfl (by decide) rfl rfl (fun H locs (hP : va_P D vwCl [(ht, .inr (6, [.ref ht_op, .ref ht_to, .ref ht_newOp, .ref ht_newTo, .ref ht_draft, .ref ht_text, .int t_many, .int t_letters, .int q1.2, .int t_where, .int t_tree, .ref ht_todo, .ref ht_with, .ref ht_holes, .int q2.2.2, .int t_hole, .int t_at, .int t_made, .ref ht_variable, .ref ht_stack, .ref ht_signs, .ref ht_output, .ref ht_blocks, .int t_high, .int t_signsHigh, .int t_printed, .int t_done, .int t_value])), (ht_op, .inl (cI, 30, .inl t_op)), (ht_to, .inl (cI, 31, .inl t_to)), (ht_text, .inl (cI, 600, .inl q1.1)), (ht_todo, .inl (cI, 600, .inl q2.1)), (ht_with, .inl (cI, 600, .inl q2.2.1))] H) (hD : va_D A [(ht, .inr (6, [.ref ht_op, .ref ht_to, .ref ht_newOp, .ref ht_newTo, .ref ht_draft, .ref ht_text, .int t_many, .int t_letters, .int q1.2, .int t_where, .int t_tree, .ref ht_todo, .ref ht_with, .ref ht_holes, .int q2.2.2, .int t_hole, .int t_at, .int t_made, .ref ht_variable, .ref ht_stack, .ref ht_signs, .ref ht_output, .ref ht_blocks, .int t_high, .int t_signsHigh, .int t_printed, .int t_done, .int t_value])), (ht_op, .inl (cI, 30, .inl t_op)), (ht_to, .inl (cI, 31, .inl t_to)), (ht_text, .inl (cI, 600, .inl q1.1)), (ht_todo, .inl (cI, 600, .inl q2.1)), (ht_with, .inl (cI, 600, .inl q2.2.1))]) hS => ?_)
                refine lv_aload_n hx hb d_M_tell_182 rfl (lv_at hl 1 rfl) ?_
                refine lv_iconst (v := (2 : Int32)) hx hb d_M_tell_183 (by decide) ?_
                refine lv_iload_n hx hb d_M_tell_184 rfl (lv_at hl 0 rfl) ?_
                refine lv_iconst (v := (1 : Int32)) hx hb d_M_tell_185 (by decide) ?_
                refine lv_isub hx hb d_M_tell_186 ?_
                obtain ⟨q3, hc, h⟩ := g_bd h
                refine gk_v (va_runV (As := [.int (2 : Int32), .int ((t_with (t_top - (1 : Int32)).toNatClampNeg) - (1 : Int32))]) (rest := []) ⟨hx, hb, hml, hown, hts⟩ (c_M_push l D cI cC ht ht_op ht_to ht_newOp ht_newTo ht_draft ht_text ht_todo ht_with ht_holes ht_variable ht_stack ht_signs ht_output ht_blocks t_many t_letters q1.2 t_where t_tree q2.2.2 t_hole t_at t_made t_high t_signsHigh t_printed t_done t_value q2.1 q2.2.1 (2 : Int32) ((t_with (t_top - (1 : Int32)).toNatClampNeg) - (1 : Int32)) q3 hc _) (cwV 2 hts (gG_V mt_4_39 mt_4_41 mp_28 mt_1_7 mt_4_42) rfl rfl rfl (by decide +kernel) ⟨Nat.le_of_ble_eq_true rfl, Nat.le_of_ble_eq_true rfl⟩) (gpV hK hP hD [0, 4, 5] rfl (by decide) (ci := 6) 0 rfl rfl) rfl rfl hl.1 rfl (lv_room (Nat.le_of_ble_eq_true rfl)) d_M_tell_187 ⟨Nat.zero_le _, Nat.zero_le _⟩) hK hP hD hS hA [0, 4, 5] rfl (by decide) rfl rfl (fun H locs (hP : va_P D vwCl [(ht, .inr (6, [.ref ht_op, .ref ht_to, .ref ht_newOp, .ref ht_newTo, .ref ht_draft, .ref ht_text, .int t_many, .int t_letters, .int q1.2, .int t_where, .int t_tree, .ref ht_todo, .ref ht_with, .ref ht_holes, .int q3.2.2, .int t_hole, .int t_at, .int t_made, .ref ht_variable, .ref ht_stack, .ref ht_signs, .ref ht_output, .ref ht_blocks, .int t_high, .int t_signsHigh, .int t_printed, .int t_done, .int t_value])), (ht_op, .inl (cI, 30, .inl t_op)), (ht_to, .inl (cI, 31, .inl t_to)), (ht_text, .inl (cI, 600, .inl q1.1)), (ht_todo, .inl (cI, 600, .inl q3.1)), (ht_with, .inl (cI, 600, .inl q3.2.1))] H) (hD : va_D A [(ht, .inr (6, [.ref ht_op, .ref ht_to, .ref ht_newOp, .ref ht_newTo, .ref ht_draft, .ref ht_text, .int t_many, .int t_letters, .int q1.2, .int t_where, .int t_tree, .ref ht_todo, .ref ht_with, .ref ht_holes, .int q3.2.2, .int t_hole, .int t_at, .int t_made, .ref ht_variable, .ref ht_stack, .ref ht_signs, .ref ht_output, .ref ht_blocks, .int t_high, .int t_signsHigh, .int t_printed, .int t_done, .int t_value])), (ht_op, .inl (cI, 30, .inl t_op)), (ht_to, .inl (cI, 31, .inl t_to)), (ht_text, .inl (cI, 600, .inl q1.1)), (ht_todo, .inl (cI, 600, .inl q3.1)), (ht_with, .inl (cI, 600, .inl q3.2.1))]) hS => ?_)
                refine lv_aload_n hx hb d_M_tell_190 rfl (lv_at hl 1 rfl) ?_
                refine lv_iconst (v := (1 : Int32)) hx hb d_M_tell_191 (by decide) ?_
                refine lv_aload_n hx hb d_M_tell_192 rfl (lv_at hl 1 rfl) ?_
                refine va_get (D := D) (ci := 6) (v := .ref ht_op) (C := R_M) (T := F_M) (N := 28) hx hb hts u_M hown hK hP 0 rfl rfl 0 (by decide) f_7 (fun _ h9 => h9) rfl d_M_tell_193 ?_
                refine lv_iload_n hx hb d_M_tell_196 rfl (lv_at hl 0 rfl) ?_
                obtain ⟨hi, h⟩ := g_ck h
                refine va_iald hx hb hK hP 1 0 rfl rfl hi d_M_tell_197 ?_
                refine lv_iconst (v := (3 : Int32)) hx hb d_M_tell_198 (by decide) ?_
                refine lv_icmp_ne (tgt := 207) hx hb d_M_tell_199 (by decide) (fun ec => ?_) (fun ec => ?_)
                · have h := g_f ec h
                  refine lv_aload_n hx hb d_M_tell_207 rfl (lv_at hl 1 rfl) ?_
                  refine va_get (D := D) (ci := 6) (v := .ref ht_op) (C := R_M) (T := F_M) (N := 28) hx hb hts u_M hown hK hP 0 rfl rfl 0 (by decide) f_7 (fun _ h9 => h9) rfl d_M_tell_208 ?_
                  refine lv_iload_n hx hb d_M_tell_211 rfl (lv_at hl 0 rfl) ?_
                  obtain ⟨hi, h⟩ := g_ck h
                  refine va_iald hx hb hK hP 1 0 rfl rfl hi d_M_tell_212 ?_
                  refine lv_iconst (v := (4 : Int32)) hx hb d_M_tell_213 (by decide) ?_
                  refine lv_icmp_ne (tgt := 222) hx hb d_M_tell_214 (by decide) (fun ec => ?_) (fun ec => ?_)
                  · have h := g_f ec h
                    refine lv_aload_n hx hb d_M_tell_222 rfl (lv_at hl 1 rfl) ?_
                    refine va_get (D := D) (ci := 6) (v := .ref ht_op) (C := R_M) (T := F_M) (N := 28) hx hb hts u_M hown hK hP 0 rfl rfl 0 (by decide) f_7 (fun _ h9 => h9) rfl d_M_tell_223 ?_
                    refine lv_iload_n hx hb d_M_tell_226 rfl (lv_at hl 0 rfl) ?_
                    obtain ⟨hi, h⟩ := g_ck h
                    refine va_iald hx hb hK hP 1 0 rfl rfl hi d_M_tell_227 ?_
                    refine lv_iconst (v := (5 : Int32)) hx hb d_M_tell_228 (by decide) ?_
                    refine lv_icmp_ne (tgt := 237) hx hb d_M_tell_229 (by decide) (fun ec => ?_) (fun ec => ?_)
                    · have h := g_f ec h
                      refine lv_bipush (v := (60 : Int32)) hx hb d_M_tell_237 (by decide) ?_
                      exact J_239 _ _ _ _ _ _ _ _ _ h _ _ _ hP hD hS (lv_sub hl [1, 2, 0] rfl)
                    · have h := g_t ec h
                      refine lv_bipush (v := (42 : Int32)) hx hb d_M_tell_232 (by decide) ?_
                      refine lv_goto (tgt := 239) hx hb d_M_tell_234 (by decide) ?_
                      exact J_239 _ _ _ _ _ _ _ _ _ h _ _ _ hP hD hS (lv_sub hl [1, 2, 0] rfl)
                  · have h := g_t ec h
                    refine lv_bipush (v := (45 : Int32)) hx hb d_M_tell_217 (by decide) ?_
                    refine lv_goto (tgt := 239) hx hb d_M_tell_219 (by decide) ?_
                    exact J_239 _ _ _ _ _ _ _ _ _ h _ _ _ hP hD hS (lv_sub hl [1, 2, 0] rfl)
                · have h := g_t ec h
                  refine lv_bipush (v := (43 : Int32)) hx hb d_M_tell_202 (by decide) ?_
                  refine lv_goto (tgt := 239) hx hb d_M_tell_204 (by decide) ?_
                  exact J_239 _ _ _ _ _ _ _ _ _ h _ _ _ hP hD hS (lv_sub hl [1, 2, 0] rfl)
              · have h := g_t ec h
                refine lv_aload_n hx hb d_M_tell_152 rfl (lv_at hl 1 rfl) ?_
                refine lv_bipush (v := (33 : Int32)) hx hb d_M_tell_153 (by decide) ?_
                obtain ⟨q4, hc, h⟩ := g_bd h
                refine gk_v (va_runV (As := [.int (33 : Int32)]) (rest := []) ⟨hx, hb, hml, hown, hts⟩ (c_M_write l D cI cC ht ht_op ht_to ht_newOp ht_newTo ht_draft ht_text ht_todo ht_with ht_holes ht_variable ht_stack ht_signs ht_output ht_blocks t_many t_letters t_length t_where t_tree (t_top - (1 : Int32)) t_hole t_at t_made t_high t_signsHigh t_printed t_done t_value t_text (33 : Int32) q4 hc _) (cwV 1 hts (gG_V mt_4_43 mt_4_45 mp_29 mt_1_7 mt_4_46) rfl rfl rfl (by decide +kernel) ⟨Nat.le_of_ble_eq_true rfl, Nat.le_of_ble_eq_true rfl⟩) (gpV hK hP hD [0, 3] rfl (by decide) (ci := 6) 0 rfl rfl) rfl rfl hl.1 rfl (lv_room (Nat.le_of_ble_eq_true rfl)) d_M_tell_155 ⟨Nat.zero_le _, Nat.zero_le _⟩) hK hP hD hS hA [0, 3] rfl (by decide) rfl rfl (fun H locs (hP : va_P D vwCl [(ht, .inr (6, [.ref ht_op, .ref ht_to, .ref ht_newOp, .ref ht_newTo, .ref ht_draft, .ref ht_text, .int t_many, .int t_letters, .int q4.2, .int t_where, .int t_tree, .ref ht_todo, .ref ht_with, .ref ht_holes, .int (t_top - (1 : Int32)), .int t_hole, .int t_at, .int t_made, .ref ht_variable, .ref ht_stack, .ref ht_signs, .ref ht_output, .ref ht_blocks, .int t_high, .int t_signsHigh, .int t_printed, .int t_done, .int t_value])), (ht_op, .inl (cI, 30, .inl t_op)), (ht_to, .inl (cI, 31, .inl t_to)), (ht_text, .inl (cI, 600, .inl q4.1)), (ht_todo, .inl (cI, 600, .inl t_todo)), (ht_with, .inl (cI, 600, .inl t_with))] H) (hD : va_D A [(ht, .inr (6, [.ref ht_op, .ref ht_to, .ref ht_newOp, .ref ht_newTo, .ref ht_draft, .ref ht_text, .int t_many, .int t_letters, .int q4.2, .int t_where, .int t_tree, .ref ht_todo, .ref ht_with, .ref ht_holes, .int (t_top - (1 : Int32)), .int t_hole, .int t_at, .int t_made, .ref ht_variable, .ref ht_stack, .ref ht_signs, .ref ht_output, .ref ht_blocks, .int t_high, .int t_signsHigh, .int t_printed, .int t_done, .int t_value])), (ht_op, .inl (cI, 30, .inl t_op)), (ht_to, .inl (cI, 31, .inl t_to)), (ht_text, .inl (cI, 600, .inl q4.1)), (ht_todo, .inl (cI, 600, .inl t_todo)), (ht_with, .inl (cI, 600, .inl t_with))]) hS => ?_)
                refine lv_aload_n hx hb d_M_tell_158 rfl (lv_at hl 1 rfl) ?_
                refine lv_iconst (v := (2 : Int32)) hx hb d_M_tell_159 (by decide) ?_
                refine lv_iload_n hx hb d_M_tell_160 rfl (lv_at hl 0 rfl) ?_
                refine lv_iconst (v := (1 : Int32)) hx hb d_M_tell_161 (by decide) ?_
                refine lv_isub hx hb d_M_tell_162 ?_
                obtain ⟨q5, hc, h⟩ := g_bd h
                refine gk_v (va_runV (As := [.int (2 : Int32), .int ((t_with (t_top - (1 : Int32)).toNatClampNeg) - (1 : Int32))]) (rest := []) ⟨hx, hb, hml, hown, hts⟩ (c_M_push l D cI cC ht ht_op ht_to ht_newOp ht_newTo ht_draft ht_text ht_todo ht_with ht_holes ht_variable ht_stack ht_signs ht_output ht_blocks t_many t_letters q4.2 t_where t_tree (t_top - (1 : Int32)) t_hole t_at t_made t_high t_signsHigh t_printed t_done t_value t_todo t_with (2 : Int32) ((t_with (t_top - (1 : Int32)).toNatClampNeg) - (1 : Int32)) q5 hc _) (cwV 2 hts (gG_V mt_4_39 mt_4_41 mp_28 mt_1_7 mt_4_42) rfl rfl rfl (by decide +kernel) ⟨Nat.le_of_ble_eq_true rfl, Nat.le_of_ble_eq_true rfl⟩) (gpV hK hP hD [0, 4, 5] rfl (by decide) (ci := 6) 0 rfl rfl) rfl rfl hl.1 rfl (lv_room (Nat.le_of_ble_eq_true rfl)) d_M_tell_163 ⟨Nat.zero_le _, Nat.zero_le _⟩) hK hP hD hS hA [0, 4, 5] rfl (by decide) rfl rfl (fun H locs (hP : va_P D vwCl [(ht, .inr (6, [.ref ht_op, .ref ht_to, .ref ht_newOp, .ref ht_newTo, .ref ht_draft, .ref ht_text, .int t_many, .int t_letters, .int q4.2, .int t_where, .int t_tree, .ref ht_todo, .ref ht_with, .ref ht_holes, .int q5.2.2, .int t_hole, .int t_at, .int t_made, .ref ht_variable, .ref ht_stack, .ref ht_signs, .ref ht_output, .ref ht_blocks, .int t_high, .int t_signsHigh, .int t_printed, .int t_done, .int t_value])), (ht_op, .inl (cI, 30, .inl t_op)), (ht_to, .inl (cI, 31, .inl t_to)), (ht_text, .inl (cI, 600, .inl q4.1)), (ht_todo, .inl (cI, 600, .inl q5.1)), (ht_with, .inl (cI, 600, .inl q5.2.1))] H) (hD : va_D A [(ht, .inr (6, [.ref ht_op, .ref ht_to, .ref ht_newOp, .ref ht_newTo, .ref ht_draft, .ref ht_text, .int t_many, .int t_letters, .int q4.2, .int t_where, .int t_tree, .ref ht_todo, .ref ht_with, .ref ht_holes, .int q5.2.2, .int t_hole, .int t_at, .int t_made, .ref ht_variable, .ref ht_stack, .ref ht_signs, .ref ht_output, .ref ht_blocks, .int t_high, .int t_signsHigh, .int t_printed, .int t_done, .int t_value])), (ht_op, .inl (cI, 30, .inl t_op)), (ht_to, .inl (cI, 31, .inl t_to)), (ht_text, .inl (cI, 600, .inl q4.1)), (ht_todo, .inl (cI, 600, .inl q5.1)), (ht_with, .inl (cI, 600, .inl q5.2.1))]) hS => ?_)
                refine lv_goto (tgt := 256) hx hb d_M_tell_166 (by decide) ?_
                refine lv_goto (tgt := 11) hx hb d_M_tell_256 (by decide) ?_
                exact ih_11 _ _ _ _ _ _ h _ _ _ hP hD hS (lv_sub hl [1, 2] rfl)
            · have h := g_t ec h
              refine lv_aload_n hx hb d_M_tell_125 rfl (lv_at hl 1 rfl) ?_
              refine lv_bipush (v := (97 : Int32)) hx hb d_M_tell_126 (by decide) ?_
              refine lv_aload_n hx hb d_M_tell_128 rfl (lv_at hl 1 rfl) ?_
              refine va_get (D := D) (ci := 6) (v := .ref ht_to) (C := R_M) (T := F_M) (N := 28) hx hb hts u_M hown hK hP 0 rfl rfl 1 (by decide) f_13 (fun _ h9 => h9) rfl d_M_tell_129 ?_
              refine lv_iload_n hx hb d_M_tell_132 rfl (lv_at hl 0 rfl) ?_
              obtain ⟨hi, h⟩ := g_ck h
              refine va_iald hx hb hK hP 2 0 rfl rfl hi d_M_tell_133 ?_
              refine lv_iadd hx hb d_M_tell_134 ?_
              obtain ⟨q6, hc, h⟩ := g_bd h
              refine gk_v (va_runV (As := [.int ((97 : Int32) + (t_to (t_with (t_top - (1 : Int32)).toNatClampNeg).toNatClampNeg))]) (rest := []) ⟨hx, hb, hml, hown, hts⟩ (c_M_write l D cI cC ht ht_op ht_to ht_newOp ht_newTo ht_draft ht_text ht_todo ht_with ht_holes ht_variable ht_stack ht_signs ht_output ht_blocks t_many t_letters t_length t_where t_tree (t_top - (1 : Int32)) t_hole t_at t_made t_high t_signsHigh t_printed t_done t_value t_text ((97 : Int32) + (t_to (t_with (t_top - (1 : Int32)).toNatClampNeg).toNatClampNeg)) q6 hc _) (cwV 1 hts (gG_V mt_4_43 mt_4_45 mp_29 mt_1_7 mt_4_46) rfl rfl rfl (by decide +kernel) ⟨Nat.le_of_ble_eq_true rfl, Nat.le_of_ble_eq_true rfl⟩) (gpV hK hP hD [0, 3] rfl (by decide) (ci := 6) 0 rfl rfl) rfl rfl hl.1 rfl (lv_room (Nat.le_of_ble_eq_true rfl)) d_M_tell_135 ⟨Nat.zero_le _, Nat.zero_le _⟩) hK hP hD hS hA [0, 3] rfl (by decide) rfl rfl (fun H locs (hP : va_P D vwCl [(ht, .inr (6, [.ref ht_op, .ref ht_to, .ref ht_newOp, .ref ht_newTo, .ref ht_draft, .ref ht_text, .int t_many, .int t_letters, .int q6.2, .int t_where, .int t_tree, .ref ht_todo, .ref ht_with, .ref ht_holes, .int (t_top - (1 : Int32)), .int t_hole, .int t_at, .int t_made, .ref ht_variable, .ref ht_stack, .ref ht_signs, .ref ht_output, .ref ht_blocks, .int t_high, .int t_signsHigh, .int t_printed, .int t_done, .int t_value])), (ht_op, .inl (cI, 30, .inl t_op)), (ht_to, .inl (cI, 31, .inl t_to)), (ht_text, .inl (cI, 600, .inl q6.1)), (ht_todo, .inl (cI, 600, .inl t_todo)), (ht_with, .inl (cI, 600, .inl t_with))] H) (hD : va_D A [(ht, .inr (6, [.ref ht_op, .ref ht_to, .ref ht_newOp, .ref ht_newTo, .ref ht_draft, .ref ht_text, .int t_many, .int t_letters, .int q6.2, .int t_where, .int t_tree, .ref ht_todo, .ref ht_with, .ref ht_holes, .int (t_top - (1 : Int32)), .int t_hole, .int t_at, .int t_made, .ref ht_variable, .ref ht_stack, .ref ht_signs, .ref ht_output, .ref ht_blocks, .int t_high, .int t_signsHigh, .int t_printed, .int t_done, .int t_value])), (ht_op, .inl (cI, 30, .inl t_op)), (ht_to, .inl (cI, 31, .inl t_to)), (ht_text, .inl (cI, 600, .inl q6.1)), (ht_todo, .inl (cI, 600, .inl t_todo)), (ht_with, .inl (cI, 600, .inl t_with))]) hS => ?_)
              refine lv_goto (tgt := 256) hx hb d_M_tell_138 (by decide) ?_
              refine lv_goto (tgt := 11) hx hb d_M_tell_256 (by decide) ?_
              exact ih_11 _ _ _ _ _ _ h _ _ _ hP hD hS (lv_sub hl [1, 2] rfl)
          · have h := g_t ec h
            refine lv_aload_n hx hb d_M_tell_69 rfl (lv_at hl 1 rfl) ?_
            refine va_get (D := D) (ci := 6) (v := .ref ht_to) (C := R_M) (T := F_M) (N := 28) hx hb hts u_M hown hK hP 0 rfl rfl 1 (by decide) f_13 (fun _ h9 => h9) rfl d_M_tell_70 ?_
            refine lv_iload_n hx hb d_M_tell_73 rfl (lv_at hl 0 rfl) ?_
            obtain ⟨hi, h⟩ := g_ck h
            refine va_iald hx hb hK hP 2 0 rfl rfl hi d_M_tell_74 ?_
            refine lv_bipush (v := (9 : Int32)) hx hb d_M_tell_75 (by decide) ?_
            refine lv_icmp_le (tgt := 96) hx hb d_M_tell_77 (by decide) (fun ec => ?_) (fun ec => ?_)
            · have h := g_t ec h
              refine lv_aload_n hx hb d_M_tell_96 rfl (lv_at hl 1 rfl) ?_
              refine lv_bipush (v := (48 : Int32)) hx hb d_M_tell_97 (by decide) ?_
              refine lv_aload_n hx hb d_M_tell_99 rfl (lv_at hl 1 rfl) ?_
              refine va_get (D := D) (ci := 6) (v := .ref ht_to) (C := R_M) (T := F_M) (N := 28) hx hb hts u_M hown hK hP 0 rfl rfl 1 (by decide) f_13 (fun _ h9 => h9) rfl d_M_tell_100 ?_
              refine lv_iload_n hx hb d_M_tell_103 rfl (lv_at hl 0 rfl) ?_
              obtain ⟨hi, h⟩ := g_ck h
              refine va_iald hx hb hK hP 2 0 rfl rfl hi d_M_tell_104 ?_
              refine lv_bipush (v := (10 : Int32)) hx hb d_M_tell_105 (by decide) ?_
              refine lv_irem hx hb d_M_tell_107 (by decide) ?_
              refine lv_iadd hx hb d_M_tell_108 ?_
              obtain ⟨q7, hc, h⟩ := g_bd h
              refine gk_v (va_runV (As := [.int ((48 : Int32) + ((t_to (t_with (t_top - (1 : Int32)).toNatClampNeg).toNatClampNeg) - (t_to (t_with (t_top - (1 : Int32)).toNatClampNeg).toNatClampNeg) / (10 : Int32) * (10 : Int32)))]) (rest := []) ⟨hx, hb, hml, hown, hts⟩ (c_M_write l D cI cC ht ht_op ht_to ht_newOp ht_newTo ht_draft ht_text ht_todo ht_with ht_holes ht_variable ht_stack ht_signs ht_output ht_blocks t_many t_letters t_length t_where t_tree (t_top - (1 : Int32)) t_hole t_at t_made t_high t_signsHigh t_printed t_done t_value t_text ((48 : Int32) + ((t_to (t_with (t_top - (1 : Int32)).toNatClampNeg).toNatClampNeg) - (t_to (t_with (t_top - (1 : Int32)).toNatClampNeg).toNatClampNeg) / (10 : Int32) * (10 : Int32))) q7 hc _) (cwV 1 hts (gG_V mt_4_43 mt_4_45 mp_29 mt_1_7 mt_4_46) rfl rfl rfl (by decide +kernel) ⟨Nat.le_of_ble_eq_true rfl, Nat.le_of_ble_eq_true rfl⟩) (gpV hK hP hD [0, 3] rfl (by decide) (ci := 6) 0 rfl rfl) rfl rfl hl.1 rfl (lv_room (Nat.le_of_ble_eq_true rfl)) d_M_tell_109 ⟨Nat.zero_le _, Nat.zero_le _⟩) hK hP hD hS hA [0, 3] rfl (by decide) rfl rfl (fun H locs (hP : va_P D vwCl [(ht, .inr (6, [.ref ht_op, .ref ht_to, .ref ht_newOp, .ref ht_newTo, .ref ht_draft, .ref ht_text, .int t_many, .int t_letters, .int q7.2, .int t_where, .int t_tree, .ref ht_todo, .ref ht_with, .ref ht_holes, .int (t_top - (1 : Int32)), .int t_hole, .int t_at, .int t_made, .ref ht_variable, .ref ht_stack, .ref ht_signs, .ref ht_output, .ref ht_blocks, .int t_high, .int t_signsHigh, .int t_printed, .int t_done, .int t_value])), (ht_op, .inl (cI, 30, .inl t_op)), (ht_to, .inl (cI, 31, .inl t_to)), (ht_text, .inl (cI, 600, .inl q7.1)), (ht_todo, .inl (cI, 600, .inl t_todo)), (ht_with, .inl (cI, 600, .inl t_with))] H) (hD : va_D A [(ht, .inr (6, [.ref ht_op, .ref ht_to, .ref ht_newOp, .ref ht_newTo, .ref ht_draft, .ref ht_text, .int t_many, .int t_letters, .int q7.2, .int t_where, .int t_tree, .ref ht_todo, .ref ht_with, .ref ht_holes, .int (t_top - (1 : Int32)), .int t_hole, .int t_at, .int t_made, .ref ht_variable, .ref ht_stack, .ref ht_signs, .ref ht_output, .ref ht_blocks, .int t_high, .int t_signsHigh, .int t_printed, .int t_done, .int t_value])), (ht_op, .inl (cI, 30, .inl t_op)), (ht_to, .inl (cI, 31, .inl t_to)), (ht_text, .inl (cI, 600, .inl q7.1)), (ht_todo, .inl (cI, 600, .inl t_todo)), (ht_with, .inl (cI, 600, .inl t_with))]) hS => ?_)
              refine lv_goto (tgt := 256) hx hb d_M_tell_112 (by decide) ?_
              refine lv_goto (tgt := 11) hx hb d_M_tell_256 (by decide) ?_
              exact ih_11 _ _ _ _ _ _ h _ _ _ hP hD hS (lv_sub hl [1, 2] rfl)
            · have h := g_f ec h
              refine lv_aload_n hx hb d_M_tell_80 rfl (lv_at hl 1 rfl) ?_
              refine lv_bipush (v := (48 : Int32)) hx hb d_M_tell_81 (by decide) ?_
              refine lv_aload_n hx hb d_M_tell_83 rfl (lv_at hl 1 rfl) ?_
              refine va_get (D := D) (ci := 6) (v := .ref ht_to) (C := R_M) (T := F_M) (N := 28) hx hb hts u_M hown hK hP 0 rfl rfl 1 (by decide) f_13 (fun _ h9 => h9) rfl d_M_tell_84 ?_
              refine lv_iload_n hx hb d_M_tell_87 rfl (lv_at hl 0 rfl) ?_
              obtain ⟨hi, h⟩ := g_ck h
              refine va_iald hx hb hK hP 2 0 rfl rfl hi d_M_tell_88 ?_
              refine lv_bipush (v := (10 : Int32)) hx hb d_M_tell_89 (by decide) ?_
              refine lv_idiv hx hb d_M_tell_91 (by decide) ?_
              refine lv_iadd hx hb d_M_tell_92 ?_
              obtain ⟨q8, hc, h⟩ := g_bd h
              refine gk_v (va_runV (As := [.int ((48 : Int32) + ((t_to (t_with (t_top - (1 : Int32)).toNatClampNeg).toNatClampNeg) / (10 : Int32)))]) (rest := []) ⟨hx, hb, hml, hown, hts⟩ (c_M_write l D cI cC ht ht_op ht_to ht_newOp ht_newTo ht_draft ht_text ht_todo ht_with ht_holes ht_variable ht_stack ht_signs ht_output ht_blocks t_many t_letters t_length t_where t_tree (t_top - (1 : Int32)) t_hole t_at t_made t_high t_signsHigh t_printed t_done t_value t_text ((48 : Int32) + ((t_to (t_with (t_top - (1 : Int32)).toNatClampNeg).toNatClampNeg) / (10 : Int32))) q8 hc _) (cwV 1 hts (gG_V mt_4_43 mt_4_45 mp_29 mt_1_7 mt_4_46) rfl rfl rfl (by decide +kernel) ⟨Nat.le_of_ble_eq_true rfl, Nat.le_of_ble_eq_true rfl⟩) (gpV hK hP hD [0, 3] rfl (by decide) (ci := 6) 0 rfl rfl) rfl rfl hl.1 rfl (lv_room (Nat.le_of_ble_eq_true rfl)) d_M_tell_93 ⟨Nat.zero_le _, Nat.zero_le _⟩) hK hP hD hS hA [0, 3] rfl (by decide) rfl rfl (fun H locs (hP : va_P D vwCl [(ht, .inr (6, [.ref ht_op, .ref ht_to, .ref ht_newOp, .ref ht_newTo, .ref ht_draft, .ref ht_text, .int t_many, .int t_letters, .int q8.2, .int t_where, .int t_tree, .ref ht_todo, .ref ht_with, .ref ht_holes, .int (t_top - (1 : Int32)), .int t_hole, .int t_at, .int t_made, .ref ht_variable, .ref ht_stack, .ref ht_signs, .ref ht_output, .ref ht_blocks, .int t_high, .int t_signsHigh, .int t_printed, .int t_done, .int t_value])), (ht_op, .inl (cI, 30, .inl t_op)), (ht_to, .inl (cI, 31, .inl t_to)), (ht_text, .inl (cI, 600, .inl q8.1)), (ht_todo, .inl (cI, 600, .inl t_todo)), (ht_with, .inl (cI, 600, .inl t_with))] H) (hD : va_D A [(ht, .inr (6, [.ref ht_op, .ref ht_to, .ref ht_newOp, .ref ht_newTo, .ref ht_draft, .ref ht_text, .int t_many, .int t_letters, .int q8.2, .int t_where, .int t_tree, .ref ht_todo, .ref ht_with, .ref ht_holes, .int (t_top - (1 : Int32)), .int t_hole, .int t_at, .int t_made, .ref ht_variable, .ref ht_stack, .ref ht_signs, .ref ht_output, .ref ht_blocks, .int t_high, .int t_signsHigh, .int t_printed, .int t_done, .int t_value])), (ht_op, .inl (cI, 30, .inl t_op)), (ht_to, .inl (cI, 31, .inl t_to)), (ht_text, .inl (cI, 600, .inl q8.1)), (ht_todo, .inl (cI, 600, .inl t_todo)), (ht_with, .inl (cI, 600, .inl t_with))]) hS => ?_)
              refine lv_aload_n hx hb d_M_tell_96 rfl (lv_at hl 1 rfl) ?_
              refine lv_bipush (v := (48 : Int32)) hx hb d_M_tell_97 (by decide) ?_
              refine lv_aload_n hx hb d_M_tell_99 rfl (lv_at hl 1 rfl) ?_
              refine va_get (D := D) (ci := 6) (v := .ref ht_to) (C := R_M) (T := F_M) (N := 28) hx hb hts u_M hown hK hP 0 rfl rfl 1 (by decide) f_13 (fun _ h9 => h9) rfl d_M_tell_100 ?_
              refine lv_iload_n hx hb d_M_tell_103 rfl (lv_at hl 0 rfl) ?_
              obtain ⟨hi, h⟩ := g_ck h
              refine va_iald hx hb hK hP 2 0 rfl rfl hi d_M_tell_104 ?_
              refine lv_bipush (v := (10 : Int32)) hx hb d_M_tell_105 (by decide) ?_
              refine lv_irem hx hb d_M_tell_107 (by decide) ?_
              refine lv_iadd hx hb d_M_tell_108 ?_
              obtain ⟨q9, hc, h⟩ := g_bd h
              refine gk_v (va_runV (As := [.int ((48 : Int32) + ((t_to (t_with (t_top - (1 : Int32)).toNatClampNeg).toNatClampNeg) - (t_to (t_with (t_top - (1 : Int32)).toNatClampNeg).toNatClampNeg) / (10 : Int32) * (10 : Int32)))]) (rest := []) ⟨hx, hb, hml, hown, hts⟩ (c_M_write l D cI cC ht ht_op ht_to ht_newOp ht_newTo ht_draft ht_text ht_todo ht_with ht_holes ht_variable ht_stack ht_signs ht_output ht_blocks t_many t_letters q8.2 t_where t_tree (t_top - (1 : Int32)) t_hole t_at t_made t_high t_signsHigh t_printed t_done t_value q8.1 ((48 : Int32) + ((t_to (t_with (t_top - (1 : Int32)).toNatClampNeg).toNatClampNeg) - (t_to (t_with (t_top - (1 : Int32)).toNatClampNeg).toNatClampNeg) / (10 : Int32) * (10 : Int32))) q9 hc _) (cwV 1 hts (gG_V mt_4_43 mt_4_45 mp_29 mt_1_7 mt_4_46) rfl rfl rfl (by decide +kernel) ⟨Nat.le_of_ble_eq_true rfl, Nat.le_of_ble_eq_true rfl⟩) (gpV hK hP hD [0, 3] rfl (by decide) (ci := 6) 0 rfl rfl) rfl rfl hl.1 rfl (lv_room (Nat.le_of_ble_eq_true rfl)) d_M_tell_109 ⟨Nat.zero_le _, Nat.zero_le _⟩) hK hP hD hS hA [0, 3] rfl (by decide) rfl rfl (fun H locs (hP : va_P D vwCl [(ht, .inr (6, [.ref ht_op, .ref ht_to, .ref ht_newOp, .ref ht_newTo, .ref ht_draft, .ref ht_text, .int t_many, .int t_letters, .int q9.2, .int t_where, .int t_tree, .ref ht_todo, .ref ht_with, .ref ht_holes, .int (t_top - (1 : Int32)), .int t_hole, .int t_at, .int t_made, .ref ht_variable, .ref ht_stack, .ref ht_signs, .ref ht_output, .ref ht_blocks, .int t_high, .int t_signsHigh, .int t_printed, .int t_done, .int t_value])), (ht_op, .inl (cI, 30, .inl t_op)), (ht_to, .inl (cI, 31, .inl t_to)), (ht_text, .inl (cI, 600, .inl q9.1)), (ht_todo, .inl (cI, 600, .inl t_todo)), (ht_with, .inl (cI, 600, .inl t_with))] H) (hD : va_D A [(ht, .inr (6, [.ref ht_op, .ref ht_to, .ref ht_newOp, .ref ht_newTo, .ref ht_draft, .ref ht_text, .int t_many, .int t_letters, .int q9.2, .int t_where, .int t_tree, .ref ht_todo, .ref ht_with, .ref ht_holes, .int (t_top - (1 : Int32)), .int t_hole, .int t_at, .int t_made, .ref ht_variable, .ref ht_stack, .ref ht_signs, .ref ht_output, .ref ht_blocks, .int t_high, .int t_signsHigh, .int t_printed, .int t_done, .int t_value])), (ht_op, .inl (cI, 30, .inl t_op)), (ht_to, .inl (cI, 31, .inl t_to)), (ht_text, .inl (cI, 600, .inl q9.1)), (ht_todo, .inl (cI, 600, .inl t_todo)), (ht_with, .inl (cI, 600, .inl t_with))]) hS => ?_)
              refine lv_goto (tgt := 256) hx hb d_M_tell_112 (by decide) ?_
              refine lv_goto (tgt := 11) hx hb d_M_tell_256 (by decide) ?_
              exact ih_11 _ _ _ _ _ _ h _ _ _ hP hD hS (lv_sub hl [1, 2] rfl)
        · have h := g_t ec h
          refine lv_aload_n hx hb d_M_tell_52 rfl (lv_at hl 1 rfl) ?_
          refine lv_iload_n hx hb d_M_tell_53 rfl (lv_at hl 0 rfl) ?_
          obtain ⟨q10, hc, h⟩ := g_bd h
          refine gk_v (va_runV (As := [.int (t_with (t_top - (1 : Int32)).toNatClampNeg)]) (rest := []) ⟨hx, hb, hml, hown, hts⟩ (c_M_write l D cI cC ht ht_op ht_to ht_newOp ht_newTo ht_draft ht_text ht_todo ht_with ht_holes ht_variable ht_stack ht_signs ht_output ht_blocks t_many t_letters t_length t_where t_tree (t_top - (1 : Int32)) t_hole t_at t_made t_high t_signsHigh t_printed t_done t_value t_text (t_with (t_top - (1 : Int32)).toNatClampNeg) q10 hc _) (cwV 1 hts (gG_V mt_4_43 mt_4_45 mp_29 mt_1_7 mt_4_46) rfl rfl rfl (by decide +kernel) ⟨Nat.le_of_ble_eq_true rfl, Nat.le_of_ble_eq_true rfl⟩) (gpV hK hP hD [0, 3] rfl (by decide) (ci := 6) 0 rfl rfl) rfl rfl hl.1 rfl (lv_room (Nat.le_of_ble_eq_true rfl)) d_M_tell_54 ⟨Nat.zero_le _, Nat.zero_le _⟩) hK hP hD hS hA [0, 3] rfl (by decide) rfl rfl (fun H locs (hP : va_P D vwCl [(ht, .inr (6, [.ref ht_op, .ref ht_to, .ref ht_newOp, .ref ht_newTo, .ref ht_draft, .ref ht_text, .int t_many, .int t_letters, .int q10.2, .int t_where, .int t_tree, .ref ht_todo, .ref ht_with, .ref ht_holes, .int (t_top - (1 : Int32)), .int t_hole, .int t_at, .int t_made, .ref ht_variable, .ref ht_stack, .ref ht_signs, .ref ht_output, .ref ht_blocks, .int t_high, .int t_signsHigh, .int t_printed, .int t_done, .int t_value])), (ht_op, .inl (cI, 30, .inl t_op)), (ht_to, .inl (cI, 31, .inl t_to)), (ht_text, .inl (cI, 600, .inl q10.1)), (ht_todo, .inl (cI, 600, .inl t_todo)), (ht_with, .inl (cI, 600, .inl t_with))] H) (hD : va_D A [(ht, .inr (6, [.ref ht_op, .ref ht_to, .ref ht_newOp, .ref ht_newTo, .ref ht_draft, .ref ht_text, .int t_many, .int t_letters, .int q10.2, .int t_where, .int t_tree, .ref ht_todo, .ref ht_with, .ref ht_holes, .int (t_top - (1 : Int32)), .int t_hole, .int t_at, .int t_made, .ref ht_variable, .ref ht_stack, .ref ht_signs, .ref ht_output, .ref ht_blocks, .int t_high, .int t_signsHigh, .int t_printed, .int t_done, .int t_value])), (ht_op, .inl (cI, 30, .inl t_op)), (ht_to, .inl (cI, 31, .inl t_to)), (ht_text, .inl (cI, 600, .inl q10.1)), (ht_todo, .inl (cI, 600, .inl t_todo)), (ht_with, .inl (cI, 600, .inl t_with))]) hS => ?_)
          refine lv_goto (tgt := 256) hx hb d_M_tell_57 (by decide) ?_
          refine lv_goto (tgt := 11) hx hb d_M_tell_256 (by decide) ?_
          exact ih_11 _ _ _ _ _ _ h _ _ _ hP hD hS (lv_sub hl [1, 2] rfl)
  have hP : va_P D vwCl [(ht, .inr (6, [.ref ht_op, .ref ht_to, .ref ht_newOp, .ref ht_newTo, .ref ht_draft, .ref ht_text, .int t_many, .int t_letters, .int t_length, .int t_where, .int t_tree, .ref ht_todo, .ref ht_with, .ref ht_holes, .int t_top, .int t_hole, .int t_at, .int t_made, .ref ht_variable, .ref ht_stack, .ref ht_signs, .ref ht_output, .ref ht_blocks, .int t_high, .int t_signsHigh, .int t_printed, .int t_done, .int t_value])), (ht_op, .inl (cI, 30, .inl t_op)), (ht_to, .inl (cI, 31, .inl t_to)), (ht_text, .inl (cI, 600, .inl t_text)), (ht_todo, .inl (cI, 600, .inl t_todo)), (ht_with, .inl (cI, 600, .inl t_with))] s.heap := hP
  have hl := lv_entry ([.ref ht, .int a1]) (n := 4) (Nat.le_of_ble_eq_true rfl)
  rw [lg_entry_eq]
  generalize (lg_sl ([.ref ht, .int a1]) ++ List.replicate (4 - (lg_sl ([.ref ht, .int a1])).length) Slot.unset).toArray = ls at hl ⊢
  have hl : lv_has ls 4 [(0, .ref ht), (1, .int a1)] := hl
  unfold g_M_tell at h
  refine lv_aload_n hx hb d_M_tell_0 rfl (lv_at hl 0 rfl) ?_
  refine va_get (D := D) (ci := 6) (v := .int t_top) (C := R_M) (T := F_M) (N := 28) hx hb hts u_M hown hK hP 0 rfl rfl 14 (by decide) f_90 (fun _ h9 => h9) rfl d_M_tell_1 ?_
  refine lv_istore_n (lv' := [(2, .int t_top), (0, .ref ht), (1, .int a1)]) hx hb d_M_tell_4 rfl hl (by decide) rfl (fun ls hl => ?_)
  refine lv_aload_n hx hb d_M_tell_5 rfl (lv_at hl 1 rfl) ?_
  refine lv_iconst (v := (2 : Int32)) hx hb d_M_tell_6 (by decide) ?_
  refine lv_iload_n hx hb d_M_tell_7 rfl (lv_at hl 2 rfl) ?_
  obtain ⟨q1, hc, h⟩ := g_bd h
  refine gk_v (va_runV (As := [.int (2 : Int32), .int a1]) (rest := []) ⟨hx, hb, hml, hown, hts⟩ (c_M_push l D cI cC ht ht_op ht_to ht_newOp ht_newTo ht_draft ht_text ht_todo ht_with ht_holes ht_variable ht_stack ht_signs ht_output ht_blocks t_many t_letters t_length t_where t_tree t_top t_hole t_at t_made t_high t_signsHigh t_printed t_done t_value t_todo t_with (2 : Int32) a1 q1 hc _) (cwV 2 hts (gG_V mt_4_39 mt_4_41 mp_28 mt_1_7 mt_4_42) rfl rfl rfl (by decide +kernel) ⟨Nat.le_of_ble_eq_true rfl, Nat.le_of_ble_eq_true rfl⟩) (gpV hK hP hD [0, 4, 5] rfl (by decide) (ci := 6) 0 rfl rfl) rfl rfl hl.1 rfl (lv_room (Nat.le_of_ble_eq_true rfl)) d_M_tell_8 ⟨Nat.zero_le _, Nat.zero_le _⟩) hK hP hD hS hA [0, 4, 5] rfl (by decide) rfl rfl (fun H locs (hP : va_P D vwCl [(ht, .inr (6, [.ref ht_op, .ref ht_to, .ref ht_newOp, .ref ht_newTo, .ref ht_draft, .ref ht_text, .int t_many, .int t_letters, .int t_length, .int t_where, .int t_tree, .ref ht_todo, .ref ht_with, .ref ht_holes, .int q1.2.2, .int t_hole, .int t_at, .int t_made, .ref ht_variable, .ref ht_stack, .ref ht_signs, .ref ht_output, .ref ht_blocks, .int t_high, .int t_signsHigh, .int t_printed, .int t_done, .int t_value])), (ht_op, .inl (cI, 30, .inl t_op)), (ht_to, .inl (cI, 31, .inl t_to)), (ht_text, .inl (cI, 600, .inl t_text)), (ht_todo, .inl (cI, 600, .inl q1.1)), (ht_with, .inl (cI, 600, .inl q1.2.1))] H) (hD : va_D A [(ht, .inr (6, [.ref ht_op, .ref ht_to, .ref ht_newOp, .ref ht_newTo, .ref ht_draft, .ref ht_text, .int t_many, .int t_letters, .int t_length, .int t_where, .int t_tree, .ref ht_todo, .ref ht_with, .ref ht_holes, .int q1.2.2, .int t_hole, .int t_at, .int t_made, .ref ht_variable, .ref ht_stack, .ref ht_signs, .ref ht_output, .ref ht_blocks, .int t_high, .int t_signsHigh, .int t_printed, .int t_done, .int t_value])), (ht_op, .inl (cI, 30, .inl t_op)), (ht_to, .inl (cI, 31, .inl t_to)), (ht_text, .inl (cI, 600, .inl t_text)), (ht_todo, .inl (cI, 600, .inl q1.1)), (ht_with, .inl (cI, 600, .inl q1.2.1))]) hS => ?_)
  exact LP_11 1000 _ _ _ _ _ _ h _ _ _ hP hD hS (lv_sub hl [1, 0] rfl)
