def K_M_start (l : Launch) (D : va_G) (cI cC : ClassId) : Prop :=
  ∀ (ht ht_op ht_to ht_newOp ht_newTo ht_draft ht_text ht_todo ht_with ht_holes ht_variable ht_stack ht_signs ht_output ht_blocks : Nat) (t_many : Int32) (t_letters : Int32) (t_length : Int32) (t_where : Int32) (t_tree : Int32) (t_top : Int32) (t_hole : Int32) (t_at : Int32) (t_made : Int32) (t_high : Int32) (t_signsHigh : Int32) (t_printed : Int32) (t_done : Int32) (t_value : Int32) (t_variable : Nat → Int32) (t_output : Nat → Int32) (a1 : Int32) (q : (Nat → Int32) × (Nat → Int32) × Int32 × Int32 × Int32), g_M_start t_variable t_output t_high t_printed t_done a1 = some q → ∀ (sz : Nat), Met l y_M_start w_M_start ({ frames := 0, cells := 0, slots := 0, locals := 0 }) (va_Pc [.ref ht, .int a1] (gB D (gT cI cC) [(ht, .inr (6, [.ref ht_op, .ref ht_to, .ref ht_newOp, .ref ht_newTo, .ref ht_draft, .ref ht_text, .int t_many, .int t_letters, .int t_length, .int t_where, .int t_tree, .ref ht_todo, .ref ht_with, .ref ht_holes, .int t_top, .int t_hole, .int t_at, .int t_made, .ref ht_variable, .ref ht_stack, .ref ht_signs, .ref ht_output, .ref ht_blocks, .int t_high, .int t_signsHigh, .int t_printed, .int t_done, .int t_value])), (ht_variable, .inl (cI, 6, .inl t_variable)), (ht_output, .inl (cI, 20, .inl t_output))] sz)) (gQv D (gT cI cC) [(ht, .inr (6, [.ref ht_op, .ref ht_to, .ref ht_newOp, .ref ht_newTo, .ref ht_draft, .ref ht_text, .int t_many, .int t_letters, .int t_length, .int t_where, .int t_tree, .ref ht_todo, .ref ht_with, .ref ht_holes, .int t_top, .int t_hole, .int t_at, .int t_made, .ref ht_variable, .ref ht_stack, .ref ht_signs, .ref ht_output, .ref ht_blocks, .int q.2.2.1, .int t_signsHigh, .int q.2.2.2.1, .int q.2.2.2.2, .int t_value])), (ht_variable, .inl (cI, 6, .inl q.1)), (ht_output, .inl (cI, 20, .inl q.2.1))] (va_A [(ht, .inr (6, [.ref ht_op, .ref ht_to, .ref ht_newOp, .ref ht_newTo, .ref ht_draft, .ref ht_text, .int t_many, .int t_letters, .int t_length, .int t_where, .int t_tree, .ref ht_todo, .ref ht_with, .ref ht_holes, .int t_top, .int t_hole, .int t_at, .int t_made, .ref ht_variable, .ref ht_stack, .ref ht_signs, .ref ht_output, .ref ht_blocks, .int t_high, .int t_signsHigh, .int t_printed, .int t_done, .int t_value])), (ht_variable, .inl (cI, 6, .inl t_variable)), (ht_output, .inl (cI, 20, .inl t_output))] sz)) 0 0 (va_A [(ht, .inr (6, [.ref ht_op, .ref ht_to, .ref ht_newOp, .ref ht_newTo, .ref ht_draft, .ref ht_text, .int t_many, .int t_letters, .int t_length, .int t_where, .int t_tree, .ref ht_todo, .ref ht_with, .ref ht_holes, .int t_top, .int t_hole, .int t_at, .int t_made, .ref ht_variable, .ref ht_stack, .ref ht_signs, .ref ht_output, .ref ht_blocks, .int t_high, .int t_signsHigh, .int t_printed, .int t_done, .int t_value])), (ht_variable, .inl (cI, 6, .inl t_variable)), (ht_output, .inl (cI, 20, .inl t_output))] sz)
set_option maxHeartbeats 4000000 in
set_option maxRecDepth 100000 in
theorem c_M_start (l : Launch) (D : va_G) (cI cC : ClassId) : K_M_start l D cI cC := by
  intro ht ht_op ht_to ht_newOp ht_newTo ht_draft ht_text ht_todo ht_with ht_holes ht_variable ht_stack ht_signs ht_output ht_blocks t_many t_letters t_length t_where t_tree t_top t_hole t_at t_made t_high t_signsHigh t_printed t_done t_value t_variable t_output a1 q h sz
  refine Met.ofW (cc := k_M_start) (maxL := 3) (ret := none) (by decide) rfl ?_
  intro p e s m args below meth c s₁ B hml hv
  obtain ⟨rfl, hsz, hP, hK, hD0⟩ := hv
  have hx := B.exec
  have hb := B.bytes
  have hr := B.returns
  have hts : ∀ w ∈ lw_t, w.before ([.ref ht, .int a1] : List Value).toArray s = true := fun w h => atoms_spec (ws := w_M_start) B.pre w (List.mem_cons_of_mem _ h)
  have hown : s.vm.findClass R_M = some m.cls := findClass_of_methodNamed B.named
  have hlocks := B.notSynchronized
  subst hsz
  have hD := hD0.self (sz := s.heap.size)
  generalize hAe : va_A [(ht, .inr (6, [.ref ht_op, .ref ht_to, .ref ht_newOp, .ref ht_newTo, .ref ht_draft, .ref ht_text, .int t_many, .int t_letters, .int t_length, .int t_where, .int t_tree, .ref ht_todo, .ref ht_with, .ref ht_holes, .int t_top, .int t_hole, .int t_at, .int t_made, .ref ht_variable, .ref ht_stack, .ref ht_signs, .ref ht_output, .ref ht_blocks, .int t_high, .int t_signsHigh, .int t_printed, .int t_done, .int t_value])), (ht_variable, .inl (cI, 6, .inl t_variable)), (ht_output, .inl (cI, 20, .inl t_output))] s.heap.size = A at hD ⊢
  have hA : ∀ q : Nat, s.heap.size ≤ q → A q := fun q h => by rw [← hAe]; exact Or.inr h
  have hS : va_S A s.heap s.heap [] := va_S.rf
  have f_157 := hts _ mt_3_171
  have f_160 := hts _ mt_3_173
  have f_163 := hts _ mt_3_174
  have f_41 := hts _ mt_3_166
  have f_50 := hts _ mt_3_169
  have LP_45 : ∀ nn_45 : Nat, ∀ (t_variable : Nat → Int32) (t_output : Nat → Int32) (t_high : Int32) (t_printed : Int32) (t_done : Int32) (v2 : Int32), b_M_start_45 nn_45 t_variable t_output t_high t_printed t_done v2 = some q → gJ p l e (headSpec w_M_start ({ frames := 0, cells := 0, slots := 0, locals := 0 })).room s m ([.ref ht, .int a1] : List Value).toArray below meth c D A 3 (MQ below (gQv D (gT cI cC) [(ht, .inr (6, [.ref ht_op, .ref ht_to, .ref ht_newOp, .ref ht_newTo, .ref ht_draft, .ref ht_text, .int t_many, .int t_letters, .int t_length, .int t_where, .int t_tree, .ref ht_todo, .ref ht_with, .ref ht_holes, .int t_top, .int t_hole, .int t_at, .int t_made, .ref ht_variable, .ref ht_stack, .ref ht_signs, .ref ht_output, .ref ht_blocks, .int q.2.2.1, .int t_signsHigh, .int q.2.2.2.1, .int q.2.2.2.2, .int t_value])), (ht_variable, .inl (cI, 6, .inl q.1)), (ht_output, .inl (cI, 20, .inl q.2.1))] A) ([.ref ht, .int a1] : List Value).toArray s 0 0 A) 45 [(ht, .inr (6, [.ref ht_op, .ref ht_to, .ref ht_newOp, .ref ht_newTo, .ref ht_draft, .ref ht_text, .int t_many, .int t_letters, .int t_length, .int t_where, .int t_tree, .ref ht_todo, .ref ht_with, .ref ht_holes, .int t_top, .int t_hole, .int t_at, .int t_made, .ref ht_variable, .ref ht_stack, .ref ht_signs, .ref ht_output, .ref ht_blocks, .int t_high, .int t_signsHigh, .int t_printed, .int t_done, .int t_value])), (ht_variable, .inl (cI, 6, .inl t_variable)), (ht_output, .inl (cI, 20, .inl t_output))] [(0, .ref ht), (2, .int v2)] [] := by
    intro nn_45
    induction nn_45 with
    | zero => intro t_variable t_output t_high t_printed t_done v2 h; exact g_no h
    | succ nn_45 ih_45 =>
      intro t_variable t_output t_high t_printed t_done v2 h H locs ls hP hD hS hl
      rw [b_M_start_45] at h
      refine lv_iload_n hx hb d_M_start_45 rfl (lv_at hl 1 rfl) ?_
      refine lv_bipush (v := (20 : Int32)) hx hb d_M_start_46 (by decide) ?_
      refine lv_icmp_ge (tgt := 64) hx hb d_M_start_48 (by decide) (fun ec => ?_) (fun ec => ?_)
      · have h := g_t ec h
        cases h
        exact gr_v hx hb hr hlocks hK hP hD hS d_M_start_64
      · have h := g_f ec h
        refine lv_aload_n hx hb d_M_start_51 rfl (lv_at hl 0 rfl) ?_
        refine va_get (D := D) (ci := 6) (v := .ref ht_output) (C := R_M) (T := F_M) (N := 28) hx hb hts u_M hown hK hP 0 rfl rfl 21 (by decide) f_50 (fun _ h9 => h9) rfl d_M_start_52 ?_
        refine lv_iload_n hx hb d_M_start_55 rfl (lv_at hl 1 rfl) ?_
        refine lv_iconst (v := (0 : Int32)) hx hb d_M_start_56 (by decide) ?_
        obtain ⟨hi, h⟩ := g_ck h
        refine va_iast hx hb hK hP hD hS 2 0 rfl rfl hi d_M_start_57 (fun H locs (hP : va_P D vwCl [(ht, .inr (6, [.ref ht_op, .ref ht_to, .ref ht_newOp, .ref ht_newTo, .ref ht_draft, .ref ht_text, .int t_many, .int t_letters, .int t_length, .int t_where, .int t_tree, .ref ht_todo, .ref ht_with, .ref ht_holes, .int t_top, .int t_hole, .int t_at, .int t_made, .ref ht_variable, .ref ht_stack, .ref ht_signs, .ref ht_output, .ref ht_blocks, .int t_high, .int t_signsHigh, .int t_printed, .int t_done, .int t_value])), (ht_variable, .inl (cI, 6, .inl t_variable)), (ht_output, .inl (cI, 20, .inl (upd t_output v2.toNatClampNeg (0 : Int32))))] H) (hD : va_D A [(ht, .inr (6, [.ref ht_op, .ref ht_to, .ref ht_newOp, .ref ht_newTo, .ref ht_draft, .ref ht_text, .int t_many, .int t_letters, .int t_length, .int t_where, .int t_tree, .ref ht_todo, .ref ht_with, .ref ht_holes, .int t_top, .int t_hole, .int t_at, .int t_made, .ref ht_variable, .ref ht_stack, .ref ht_signs, .ref ht_output, .ref ht_blocks, .int t_high, .int t_signsHigh, .int t_printed, .int t_done, .int t_value])), (ht_variable, .inl (cI, 6, .inl t_variable)), (ht_output, .inl (cI, 20, .inl (upd t_output v2.toNatClampNeg (0 : Int32))))]) hS => ?_)
        refine lv_iinc (v := v2 + (1 : Int32)) (lv' := [(2, .int (v2 + (1 : Int32))), (0, .ref ht)]) hx hb d_M_start_58 hl (k := 1) rfl rfl (by decide) rfl (fun ls hl => ?_)
        refine lv_goto (tgt := 45) hx hb d_M_start_61 (by decide) ?_
        exact ih_45 _ _ _ _ _ _ h _ _ _ hP hD hS (lv_sub hl [1, 0] rfl)
  have LP_2 : ∀ nn_2 : Nat, ∀ (t_variable : Nat → Int32) (t_output : Nat → Int32) (t_high : Int32) (t_printed : Int32) (t_done : Int32) (v1 : Int32) (v2 : Int32), b_M_start_2 nn_2 t_variable t_output t_high t_printed t_done v1 v2 = some q → gJ p l e (headSpec w_M_start ({ frames := 0, cells := 0, slots := 0, locals := 0 })).room s m ([.ref ht, .int a1] : List Value).toArray below meth c D A 3 (MQ below (gQv D (gT cI cC) [(ht, .inr (6, [.ref ht_op, .ref ht_to, .ref ht_newOp, .ref ht_newTo, .ref ht_draft, .ref ht_text, .int t_many, .int t_letters, .int t_length, .int t_where, .int t_tree, .ref ht_todo, .ref ht_with, .ref ht_holes, .int t_top, .int t_hole, .int t_at, .int t_made, .ref ht_variable, .ref ht_stack, .ref ht_signs, .ref ht_output, .ref ht_blocks, .int q.2.2.1, .int t_signsHigh, .int q.2.2.2.1, .int q.2.2.2.2, .int t_value])), (ht_variable, .inl (cI, 6, .inl q.1)), (ht_output, .inl (cI, 20, .inl q.2.1))] A) ([.ref ht, .int a1] : List Value).toArray s 0 0 A) 2 [(ht, .inr (6, [.ref ht_op, .ref ht_to, .ref ht_newOp, .ref ht_newTo, .ref ht_draft, .ref ht_text, .int t_many, .int t_letters, .int t_length, .int t_where, .int t_tree, .ref ht_todo, .ref ht_with, .ref ht_holes, .int t_top, .int t_hole, .int t_at, .int t_made, .ref ht_variable, .ref ht_stack, .ref ht_signs, .ref ht_output, .ref ht_blocks, .int t_high, .int t_signsHigh, .int t_printed, .int t_done, .int t_value])), (ht_variable, .inl (cI, 6, .inl t_variable)), (ht_output, .inl (cI, 20, .inl t_output))] [(0, .ref ht), (1, .int v1), (2, .int v2)] [] := by
    intro nn_2
    induction nn_2 with
    | zero => intro t_variable t_output t_high t_printed t_done v1 v2 h; exact g_no h
    | succ nn_2 ih_2 =>
      intro t_variable t_output t_high t_printed t_done v1 v2 h H locs ls hP hD hS hl
      rw [b_M_start_2] at h
      refine lv_iload_n hx hb d_M_start_2 rfl (lv_at hl 2 rfl) ?_
      refine lv_bipush (v := (6 : Int32)) hx hb d_M_start_3 (by decide) ?_
      refine lv_icmp_ge (tgt := 21) hx hb d_M_start_5 (by decide) (fun ec => ?_) (fun ec => ?_)
      · have h := g_t ec h
        refine lv_aload_n hx hb d_M_start_21 rfl (lv_at hl 0 rfl) ?_
        refine va_get (D := D) (ci := 6) (v := .ref ht_variable) (C := R_M) (T := F_M) (N := 28) hx hb hts u_M hown hK hP 0 rfl rfl 18 (by decide) f_41 (fun _ h9 => h9) rfl d_M_start_22 ?_
        refine lv_iconst (v := (0 : Int32)) hx hb d_M_start_25 (by decide) ?_
        refine lv_iload_n hx hb d_M_start_26 rfl (lv_at hl 1 rfl) ?_
        obtain ⟨hi, h⟩ := g_ck h
        refine va_iast hx hb hK hP hD hS 1 0 rfl rfl hi d_M_start_27 (fun H locs (hP : va_P D vwCl [(ht, .inr (6, [.ref ht_op, .ref ht_to, .ref ht_newOp, .ref ht_newTo, .ref ht_draft, .ref ht_text, .int t_many, .int t_letters, .int t_length, .int t_where, .int t_tree, .ref ht_todo, .ref ht_with, .ref ht_holes, .int t_top, .int t_hole, .int t_at, .int t_made, .ref ht_variable, .ref ht_stack, .ref ht_signs, .ref ht_output, .ref ht_blocks, .int t_high, .int t_signsHigh, .int t_printed, .int t_done, .int t_value])), (ht_variable, .inl (cI, 6, .inl (upd t_variable (0 : Int32).toNatClampNeg v1))), (ht_output, .inl (cI, 20, .inl t_output))] H) (hD : va_D A [(ht, .inr (6, [.ref ht_op, .ref ht_to, .ref ht_newOp, .ref ht_newTo, .ref ht_draft, .ref ht_text, .int t_many, .int t_letters, .int t_length, .int t_where, .int t_tree, .ref ht_todo, .ref ht_with, .ref ht_holes, .int t_top, .int t_hole, .int t_at, .int t_made, .ref ht_variable, .ref ht_stack, .ref ht_signs, .ref ht_output, .ref ht_blocks, .int t_high, .int t_signsHigh, .int t_printed, .int t_done, .int t_value])), (ht_variable, .inl (cI, 6, .inl (upd t_variable (0 : Int32).toNatClampNeg v1))), (ht_output, .inl (cI, 20, .inl t_output))]) hS => ?_)
        refine lv_aload_n hx hb d_M_start_28 rfl (lv_at hl 0 rfl) ?_
        refine lv_iconst (v := (0 : Int32)) hx hb d_M_start_29 (by decide) ?_
        refine va_put (D := D) (ci := 6) (v := .int (0 : Int32)) (ty := .int) (C := R_M) (T := F_M) (N := 28) hx hb hts u_M t_M t_M_ok n_M hown hK hP hD hS 0 rfl rfl 23 (by decide) f_157 (fun _ h9 => h9) rfl (by decide +kernel) rfl rfl (Nat.le_of_ble_eq_true rfl) d_M_start_30 (fun H locs (hP : va_P D vwCl [(ht, .inr (6, [.ref ht_op, .ref ht_to, .ref ht_newOp, .ref ht_newTo, .ref ht_draft, .ref ht_text, .int t_many, .int t_letters, .int t_length, .int t_where, .int t_tree, .ref ht_todo, .ref ht_with, .ref ht_holes, .int t_top, .int t_hole, .int t_at, .int t_made, .ref ht_variable, .ref ht_stack, .ref ht_signs, .ref ht_output, .ref ht_blocks, .int (0 : Int32), .int t_signsHigh, .int t_printed, .int t_done, .int t_value])), (ht_variable, .inl (cI, 6, .inl (upd t_variable (0 : Int32).toNatClampNeg v1))), (ht_output, .inl (cI, 20, .inl t_output))] H) (hD : va_D A [(ht, .inr (6, [.ref ht_op, .ref ht_to, .ref ht_newOp, .ref ht_newTo, .ref ht_draft, .ref ht_text, .int t_many, .int t_letters, .int t_length, .int t_where, .int t_tree, .ref ht_todo, .ref ht_with, .ref ht_holes, .int t_top, .int t_hole, .int t_at, .int t_made, .ref ht_variable, .ref ht_stack, .ref ht_signs, .ref ht_output, .ref ht_blocks, .int (0 : Int32), .int t_signsHigh, .int t_printed, .int t_done, .int t_value])), (ht_variable, .inl (cI, 6, .inl (upd t_variable (0 : Int32).toNatClampNeg v1))), (ht_output, .inl (cI, 20, .inl t_output))]) hS => ?_)
        refine lv_aload_n hx hb d_M_start_33 rfl (lv_at hl 0 rfl) ?_
        refine lv_iconst (v := (0 : Int32)) hx hb d_M_start_34 (by decide) ?_
        refine va_put (D := D) (ci := 6) (v := .int (0 : Int32)) (ty := .int) (C := R_M) (T := F_M) (N := 28) hx hb hts u_M t_M t_M_ok n_M hown hK hP hD hS 0 rfl rfl 25 (by decide) f_160 (fun _ h9 => h9) rfl (by decide +kernel) rfl rfl (Nat.le_of_ble_eq_true rfl) d_M_start_35 (fun H locs (hP : va_P D vwCl [(ht, .inr (6, [.ref ht_op, .ref ht_to, .ref ht_newOp, .ref ht_newTo, .ref ht_draft, .ref ht_text, .int t_many, .int t_letters, .int t_length, .int t_where, .int t_tree, .ref ht_todo, .ref ht_with, .ref ht_holes, .int t_top, .int t_hole, .int t_at, .int t_made, .ref ht_variable, .ref ht_stack, .ref ht_signs, .ref ht_output, .ref ht_blocks, .int (0 : Int32), .int t_signsHigh, .int (0 : Int32), .int t_done, .int t_value])), (ht_variable, .inl (cI, 6, .inl (upd t_variable (0 : Int32).toNatClampNeg v1))), (ht_output, .inl (cI, 20, .inl t_output))] H) (hD : va_D A [(ht, .inr (6, [.ref ht_op, .ref ht_to, .ref ht_newOp, .ref ht_newTo, .ref ht_draft, .ref ht_text, .int t_many, .int t_letters, .int t_length, .int t_where, .int t_tree, .ref ht_todo, .ref ht_with, .ref ht_holes, .int t_top, .int t_hole, .int t_at, .int t_made, .ref ht_variable, .ref ht_stack, .ref ht_signs, .ref ht_output, .ref ht_blocks, .int (0 : Int32), .int t_signsHigh, .int (0 : Int32), .int t_done, .int t_value])), (ht_variable, .inl (cI, 6, .inl (upd t_variable (0 : Int32).toNatClampNeg v1))), (ht_output, .inl (cI, 20, .inl t_output))]) hS => ?_)
        refine lv_aload_n hx hb d_M_start_38 rfl (lv_at hl 0 rfl) ?_
        refine lv_iconst (v := (0 : Int32)) hx hb d_M_start_39 (by decide) ?_
        refine va_put (D := D) (ci := 6) (v := .int (0 : Int32)) (ty := .int) (C := R_M) (T := F_M) (N := 28) hx hb hts u_M t_M t_M_ok n_M hown hK hP hD hS 0 rfl rfl 26 (by decide) f_163 (fun _ h9 => h9) rfl (by decide +kernel) rfl rfl (Nat.le_of_ble_eq_true rfl) d_M_start_40 (fun H locs (hP : va_P D vwCl [(ht, .inr (6, [.ref ht_op, .ref ht_to, .ref ht_newOp, .ref ht_newTo, .ref ht_draft, .ref ht_text, .int t_many, .int t_letters, .int t_length, .int t_where, .int t_tree, .ref ht_todo, .ref ht_with, .ref ht_holes, .int t_top, .int t_hole, .int t_at, .int t_made, .ref ht_variable, .ref ht_stack, .ref ht_signs, .ref ht_output, .ref ht_blocks, .int (0 : Int32), .int t_signsHigh, .int (0 : Int32), .int (0 : Int32), .int t_value])), (ht_variable, .inl (cI, 6, .inl (upd t_variable (0 : Int32).toNatClampNeg v1))), (ht_output, .inl (cI, 20, .inl t_output))] H) (hD : va_D A [(ht, .inr (6, [.ref ht_op, .ref ht_to, .ref ht_newOp, .ref ht_newTo, .ref ht_draft, .ref ht_text, .int t_many, .int t_letters, .int t_length, .int t_where, .int t_tree, .ref ht_todo, .ref ht_with, .ref ht_holes, .int t_top, .int t_hole, .int t_at, .int t_made, .ref ht_variable, .ref ht_stack, .ref ht_signs, .ref ht_output, .ref ht_blocks, .int (0 : Int32), .int t_signsHigh, .int (0 : Int32), .int (0 : Int32), .int t_value])), (ht_variable, .inl (cI, 6, .inl (upd t_variable (0 : Int32).toNatClampNeg v1))), (ht_output, .inl (cI, 20, .inl t_output))]) hS => ?_)
        refine lv_iconst (v := (0 : Int32)) hx hb d_M_start_43 (by decide) ?_
        refine lv_istore_n (lv' := [(2, .int (0 : Int32)), (0, .ref ht), (1, .int v1)]) hx hb d_M_start_44 rfl hl (by decide) rfl (fun ls hl => ?_)
        exact LP_45 500 _ _ _ _ _ _ h _ _ _ hP hD hS (lv_sub hl [1, 0] rfl)
      · have h := g_f ec h
        refine lv_aload_n hx hb d_M_start_8 rfl (lv_at hl 0 rfl) ?_
        refine va_get (D := D) (ci := 6) (v := .ref ht_variable) (C := R_M) (T := F_M) (N := 28) hx hb hts u_M hown hK hP 0 rfl rfl 18 (by decide) f_41 (fun _ h9 => h9) rfl d_M_start_9 ?_
        refine lv_iload_n hx hb d_M_start_12 rfl (lv_at hl 2 rfl) ?_
        refine lv_iconst (v := (0 : Int32)) hx hb d_M_start_13 (by decide) ?_
        obtain ⟨hi, h⟩ := g_ck h
        refine va_iast hx hb hK hP hD hS 1 0 rfl rfl hi d_M_start_14 (fun H locs (hP : va_P D vwCl [(ht, .inr (6, [.ref ht_op, .ref ht_to, .ref ht_newOp, .ref ht_newTo, .ref ht_draft, .ref ht_text, .int t_many, .int t_letters, .int t_length, .int t_where, .int t_tree, .ref ht_todo, .ref ht_with, .ref ht_holes, .int t_top, .int t_hole, .int t_at, .int t_made, .ref ht_variable, .ref ht_stack, .ref ht_signs, .ref ht_output, .ref ht_blocks, .int t_high, .int t_signsHigh, .int t_printed, .int t_done, .int t_value])), (ht_variable, .inl (cI, 6, .inl (upd t_variable v2.toNatClampNeg (0 : Int32)))), (ht_output, .inl (cI, 20, .inl t_output))] H) (hD : va_D A [(ht, .inr (6, [.ref ht_op, .ref ht_to, .ref ht_newOp, .ref ht_newTo, .ref ht_draft, .ref ht_text, .int t_many, .int t_letters, .int t_length, .int t_where, .int t_tree, .ref ht_todo, .ref ht_with, .ref ht_holes, .int t_top, .int t_hole, .int t_at, .int t_made, .ref ht_variable, .ref ht_stack, .ref ht_signs, .ref ht_output, .ref ht_blocks, .int t_high, .int t_signsHigh, .int t_printed, .int t_done, .int t_value])), (ht_variable, .inl (cI, 6, .inl (upd t_variable v2.toNatClampNeg (0 : Int32)))), (ht_output, .inl (cI, 20, .inl t_output))]) hS => ?_)
        refine lv_iinc (v := v2 + (1 : Int32)) (lv' := [(2, .int (v2 + (1 : Int32))), (0, .ref ht), (1, .int v1)]) hx hb d_M_start_15 hl (k := 2) rfl rfl (by decide) rfl (fun ls hl => ?_)
        refine lv_goto (tgt := 2) hx hb d_M_start_18 (by decide) ?_
        exact ih_2 _ _ _ _ _ _ _ h _ _ _ hP hD hS (lv_sub hl [1, 2, 0] rfl)
  have hP : va_P D vwCl [(ht, .inr (6, [.ref ht_op, .ref ht_to, .ref ht_newOp, .ref ht_newTo, .ref ht_draft, .ref ht_text, .int t_many, .int t_letters, .int t_length, .int t_where, .int t_tree, .ref ht_todo, .ref ht_with, .ref ht_holes, .int t_top, .int t_hole, .int t_at, .int t_made, .ref ht_variable, .ref ht_stack, .ref ht_signs, .ref ht_output, .ref ht_blocks, .int t_high, .int t_signsHigh, .int t_printed, .int t_done, .int t_value])), (ht_variable, .inl (cI, 6, .inl t_variable)), (ht_output, .inl (cI, 20, .inl t_output))] s.heap := hP
  have hl := lv_entry ([.ref ht, .int a1]) (n := 3) (Nat.le_of_ble_eq_true rfl)
  rw [lg_entry_eq]
  generalize (lg_sl ([.ref ht, .int a1]) ++ List.replicate (3 - (lg_sl ([.ref ht, .int a1])).length) Slot.unset).toArray = ls at hl ⊢
  have hl : lv_has ls 3 [(0, .ref ht), (1, .int a1)] := hl
  unfold g_M_start at h
  refine lv_iconst (v := (0 : Int32)) hx hb d_M_start_0 (by decide) ?_
  refine lv_istore_n (lv' := [(2, .int (0 : Int32)), (0, .ref ht), (1, .int a1)]) hx hb d_M_start_1 rfl hl (by decide) rfl (fun ls hl => ?_)
  exact LP_2 500 _ _ _ _ _ _ _ h _ _ _ hP hD hS (lv_sub hl [1, 2, 0] rfl)
def K_M_come (l : Launch) (D : va_G) (cI cC : ClassId) : Prop :=
  ∀ (ht ht_op ht_to ht_newOp ht_newTo ht_draft ht_text ht_todo ht_with ht_holes ht_variable ht_stack ht_signs ht_output ht_blocks : Nat) (t_many : Int32) (t_letters : Int32) (t_length : Int32) (t_where : Int32) (t_tree : Int32) (t_top : Int32) (t_hole : Int32) (t_at : Int32) (t_made : Int32) (t_high : Int32) (t_signsHigh : Int32) (t_printed : Int32) (t_done : Int32) (t_value : Int32) (t_stack : Nat → Int32) (a1 : Int32) (q : (Nat → Int32) × Int32), g_M_come t_stack t_high a1 = some q → ∀ (sz : Nat), Met l y_M_come w_M_come ({ frames := 0, cells := 0, slots := 0, locals := 0 }) (va_Pc [.ref ht, .int a1] (gB D (gT cI cC) [(ht, .inr (6, [.ref ht_op, .ref ht_to, .ref ht_newOp, .ref ht_newTo, .ref ht_draft, .ref ht_text, .int t_many, .int t_letters, .int t_length, .int t_where, .int t_tree, .ref ht_todo, .ref ht_with, .ref ht_holes, .int t_top, .int t_hole, .int t_at, .int t_made, .ref ht_variable, .ref ht_stack, .ref ht_signs, .ref ht_output, .ref ht_blocks, .int t_high, .int t_signsHigh, .int t_printed, .int t_done, .int t_value])), (ht_stack, .inl (cI, 64, .inl t_stack))] sz)) (gQv D (gT cI cC) [(ht, .inr (6, [.ref ht_op, .ref ht_to, .ref ht_newOp, .ref ht_newTo, .ref ht_draft, .ref ht_text, .int t_many, .int t_letters, .int t_length, .int t_where, .int t_tree, .ref ht_todo, .ref ht_with, .ref ht_holes, .int t_top, .int t_hole, .int t_at, .int t_made, .ref ht_variable, .ref ht_stack, .ref ht_signs, .ref ht_output, .ref ht_blocks, .int q.2, .int t_signsHigh, .int t_printed, .int t_done, .int t_value])), (ht_stack, .inl (cI, 64, .inl q.1))] (va_A [(ht, .inr (6, [.ref ht_op, .ref ht_to, .ref ht_newOp, .ref ht_newTo, .ref ht_draft, .ref ht_text, .int t_many, .int t_letters, .int t_length, .int t_where, .int t_tree, .ref ht_todo, .ref ht_with, .ref ht_holes, .int t_top, .int t_hole, .int t_at, .int t_made, .ref ht_variable, .ref ht_stack, .ref ht_signs, .ref ht_output, .ref ht_blocks, .int t_high, .int t_signsHigh, .int t_printed, .int t_done, .int t_value])), (ht_stack, .inl (cI, 64, .inl t_stack))] sz)) 0 0 (va_A [(ht, .inr (6, [.ref ht_op, .ref ht_to, .ref ht_newOp, .ref ht_newTo, .ref ht_draft, .ref ht_text, .int t_many, .int t_letters, .int t_length, .int t_where, .int t_tree, .ref ht_todo, .ref ht_with, .ref ht_holes, .int t_top, .int t_hole, .int t_at, .int t_made, .ref ht_variable, .ref ht_stack, .ref ht_signs, .ref ht_output, .ref ht_blocks, .int t_high, .int t_signsHigh, .int t_printed, .int t_done, .int t_value])), (ht_stack, .inl (cI, 64, .inl t_stack))] sz)
set_option maxHeartbeats 4000000 in
set_option maxRecDepth 100000 in
theorem c_M_come (l : Launch) (D : va_G) (cI cC : ClassId) : K_M_come l D cI cC := by
  intro ht ht_op ht_to ht_newOp ht_newTo ht_draft ht_text ht_todo ht_with ht_holes ht_variable ht_stack ht_signs ht_output ht_blocks t_many t_letters t_length t_where t_tree t_top t_hole t_at t_made t_high t_signsHigh t_printed t_done t_value t_stack a1 q h sz
  refine Met.ofW (cc := k_M_come) (maxL := 2) (ret := none) (by decide) rfl ?_
  intro p e s m args below meth c s₁ B hml hv
  obtain ⟨rfl, hsz, hP, hK, hD0⟩ := hv
  have hx := B.exec
  have hb := B.bytes
  have hr := B.returns
  have hts : ∀ w ∈ lw_t, w.before ([.ref ht, .int a1] : List Value).toArray s = true := fun w h => atoms_spec (ws := w_M_come) B.pre w (List.mem_cons_of_mem _ h)
  have hown : s.vm.findClass R_M = some m.cls := findClass_of_methodNamed B.named
  have hlocks := B.notSynchronized
  subst hsz
  have hD := hD0.self (sz := s.heap.size)
  generalize hAe : va_A [(ht, .inr (6, [.ref ht_op, .ref ht_to, .ref ht_newOp, .ref ht_newTo, .ref ht_draft, .ref ht_text, .int t_many, .int t_letters, .int t_length, .int t_where, .int t_tree, .ref ht_todo, .ref ht_with, .ref ht_holes, .int t_top, .int t_hole, .int t_at, .int t_made, .ref ht_variable, .ref ht_stack, .ref ht_signs, .ref ht_output, .ref ht_blocks, .int t_high, .int t_signsHigh, .int t_printed, .int t_done, .int t_value])), (ht_stack, .inl (cI, 64, .inl t_stack))] s.heap.size = A at hD ⊢
  have hA : ∀ q : Nat, s.heap.size ≤ q → A q := fun q h => by rw [← hAe]; exact Or.inr h
  have hS : va_S A s.heap s.heap [] := va_S.rf
  have f_157 := hts _ mt_3_171
  have f_44 := hts _ mt_3_167
  have hP : va_P D vwCl [(ht, .inr (6, [.ref ht_op, .ref ht_to, .ref ht_newOp, .ref ht_newTo, .ref ht_draft, .ref ht_text, .int t_many, .int t_letters, .int t_length, .int t_where, .int t_tree, .ref ht_todo, .ref ht_with, .ref ht_holes, .int t_top, .int t_hole, .int t_at, .int t_made, .ref ht_variable, .ref ht_stack, .ref ht_signs, .ref ht_output, .ref ht_blocks, .int t_high, .int t_signsHigh, .int t_printed, .int t_done, .int t_value])), (ht_stack, .inl (cI, 64, .inl t_stack))] s.heap := hP
  have hl := lv_entry ([.ref ht, .int a1]) (n := 2) (Nat.le_of_ble_eq_true rfl)
  rw [lg_entry_eq]
  generalize (lg_sl ([.ref ht, .int a1]) ++ List.replicate (2 - (lg_sl ([.ref ht, .int a1])).length) Slot.unset).toArray = ls at hl ⊢
  have hl : lv_has ls 2 [(0, .ref ht), (1, .int a1)] := hl
  unfold g_M_come at h
  refine lv_aload_n hx hb d_M_come_0 rfl (lv_at hl 0 rfl) ?_
  refine va_get (D := D) (ci := 6) (v := .int t_high) (C := R_M) (T := F_M) (N := 28) hx hb hts u_M hown hK hP 0 rfl rfl 23 (by decide) f_157 (fun _ h9 => h9) rfl d_M_come_1 ?_
  refine lv_bipush (v := (16 : Int32)) hx hb d_M_come_4 (by decide) ?_
  refine lv_icmp_ne (tgt := 10) hx hb d_M_come_6 (by decide) (fun ec => ?_) (fun ec => ?_)
  · have h := g_f ec h
    refine lv_aload_n hx hb d_M_come_10 rfl (lv_at hl 0 rfl) ?_
    refine va_get (D := D) (ci := 6) (v := .ref ht_stack) (C := R_M) (T := F_M) (N := 28) hx hb hts u_M hown hK hP 0 rfl rfl 19 (by decide) f_44 (fun _ h9 => h9) rfl d_M_come_11 ?_
    refine lv_aload_n hx hb d_M_come_14 rfl (lv_at hl 0 rfl) ?_
    refine va_get (D := D) (ci := 6) (v := .int t_high) (C := R_M) (T := F_M) (N := 28) hx hb hts u_M hown hK hP 0 rfl rfl 23 (by decide) f_157 (fun _ h9 => h9) rfl d_M_come_15 ?_
    refine lv_iload_n hx hb d_M_come_18 rfl (lv_at hl 1 rfl) ?_
    obtain ⟨hi, h⟩ := g_ck h
    refine va_iast hx hb hK hP hD hS 1 0 rfl rfl hi d_M_come_19 (fun H locs (hP : va_P D vwCl [(ht, .inr (6, [.ref ht_op, .ref ht_to, .ref ht_newOp, .ref ht_newTo, .ref ht_draft, .ref ht_text, .int t_many, .int t_letters, .int t_length, .int t_where, .int t_tree, .ref ht_todo, .ref ht_with, .ref ht_holes, .int t_top, .int t_hole, .int t_at, .int t_made, .ref ht_variable, .ref ht_stack, .ref ht_signs, .ref ht_output, .ref ht_blocks, .int t_high, .int t_signsHigh, .int t_printed, .int t_done, .int t_value])), (ht_stack, .inl (cI, 64, .inl (upd t_stack t_high.toNatClampNeg a1)))] H) (hD : va_D A [(ht, .inr (6, [.ref ht_op, .ref ht_to, .ref ht_newOp, .ref ht_newTo, .ref ht_draft, .ref ht_text, .int t_many, .int t_letters, .int t_length, .int t_where, .int t_tree, .ref ht_todo, .ref ht_with, .ref ht_holes, .int t_top, .int t_hole, .int t_at, .int t_made, .ref ht_variable, .ref ht_stack, .ref ht_signs, .ref ht_output, .ref ht_blocks, .int t_high, .int t_signsHigh, .int t_printed, .int t_done, .int t_value])), (ht_stack, .inl (cI, 64, .inl (upd t_stack t_high.toNatClampNeg a1)))]) hS => ?_)
    refine lv_aload_n hx hb d_M_come_20 rfl (lv_at hl 0 rfl) ?_
    refine lv_dup hx hb d_M_come_21 rfl ?_
    refine va_get (D := D) (ci := 6) (v := .int t_high) (C := R_M) (T := F_M) (N := 28) hx hb hts u_M hown hK hP 0 rfl rfl 23 (by decide) f_157 (fun _ h9 => h9) rfl d_M_come_22 ?_
    refine lv_iconst (v := (1 : Int32)) hx hb d_M_come_25 (by decide) ?_
    refine lv_iadd hx hb d_M_come_26 ?_
    refine va_put (D := D) (ci := 6) (v := .int (t_high + (1 : Int32))) (ty := .int) (C := R_M) (T := F_M) (N := 28) hx hb hts u_M t_M t_M_ok n_M hown hK hP hD hS 0 rfl rfl 23 (by decide) f_157 (fun _ h9 => h9) rfl (by decide +kernel) rfl rfl (Nat.le_of_ble_eq_true rfl) d_M_come_27 (fun H locs (hP : va_P D vwCl [(ht, .inr (6, [.ref ht_op, .ref ht_to, .ref ht_newOp, .ref ht_newTo, .ref ht_draft, .ref ht_text, .int t_many, .int t_letters, .int t_length, .int t_where, .int t_tree, .ref ht_todo, .ref ht_with, .ref ht_holes, .int t_top, .int t_hole, .int t_at, .int t_made, .ref ht_variable, .ref ht_stack, .ref ht_signs, .ref ht_output, .ref ht_blocks, .int (t_high + (1 : Int32)), .int t_signsHigh, .int t_printed, .int t_done, .int t_value])), (ht_stack, .inl (cI, 64, .inl (upd t_stack t_high.toNatClampNeg a1)))] H) (hD : va_D A [(ht, .inr (6, [.ref ht_op, .ref ht_to, .ref ht_newOp, .ref ht_newTo, .ref ht_draft, .ref ht_text, .int t_many, .int t_letters, .int t_length, .int t_where, .int t_tree, .ref ht_todo, .ref ht_with, .ref ht_holes, .int t_top, .int t_hole, .int t_at, .int t_made, .ref ht_variable, .ref ht_stack, .ref ht_signs, .ref ht_output, .ref ht_blocks, .int (t_high + (1 : Int32)), .int t_signsHigh, .int t_printed, .int t_done, .int t_value])), (ht_stack, .inl (cI, 64, .inl (upd t_stack t_high.toNatClampNeg a1)))]) hS => ?_)
    cases h
    exact gr_v hx hb hr hlocks hK hP hD hS d_M_come_30
  · have h := g_t ec h
    cases h
    exact gr_v hx hb hr hlocks hK hP hD hS d_M_come_9
def K_M_take (l : Launch) (D : va_G) (cI cC : ClassId) : Prop :=
  ∀ (ht ht_op ht_to ht_newOp ht_newTo ht_draft ht_text ht_todo ht_with ht_holes ht_variable ht_stack ht_signs ht_output ht_blocks : Nat) (t_many : Int32) (t_letters : Int32) (t_length : Int32) (t_where : Int32) (t_tree : Int32) (t_top : Int32) (t_hole : Int32) (t_at : Int32) (t_made : Int32) (t_high : Int32) (t_signsHigh : Int32) (t_printed : Int32) (t_done : Int32) (t_value : Int32) (t_stack : Nat → Int32) (q : Int32 × Int32), g_M_take t_stack t_high = some q → ∀ (sz : Nat), Met l y_M_take w_M_take ({ frames := 0, cells := 0, slots := 0, locals := 0 }) (va_Pc [.ref ht] (gB D (gT cI cC) [(ht, .inr (6, [.ref ht_op, .ref ht_to, .ref ht_newOp, .ref ht_newTo, .ref ht_draft, .ref ht_text, .int t_many, .int t_letters, .int t_length, .int t_where, .int t_tree, .ref ht_todo, .ref ht_with, .ref ht_holes, .int t_top, .int t_hole, .int t_at, .int t_made, .ref ht_variable, .ref ht_stack, .ref ht_signs, .ref ht_output, .ref ht_blocks, .int t_high, .int t_signsHigh, .int t_printed, .int t_done, .int t_value])), (ht_stack, .inl (cI, 64, .inl t_stack))] sz)) (gQi D (gT cI cC) q.1 [(ht, .inr (6, [.ref ht_op, .ref ht_to, .ref ht_newOp, .ref ht_newTo, .ref ht_draft, .ref ht_text, .int t_many, .int t_letters, .int t_length, .int t_where, .int t_tree, .ref ht_todo, .ref ht_with, .ref ht_holes, .int t_top, .int t_hole, .int t_at, .int t_made, .ref ht_variable, .ref ht_stack, .ref ht_signs, .ref ht_output, .ref ht_blocks, .int q.2, .int t_signsHigh, .int t_printed, .int t_done, .int t_value])), (ht_stack, .inl (cI, 64, .inl t_stack))] (va_A [(ht, .inr (6, [.ref ht_op, .ref ht_to, .ref ht_newOp, .ref ht_newTo, .ref ht_draft, .ref ht_text, .int t_many, .int t_letters, .int t_length, .int t_where, .int t_tree, .ref ht_todo, .ref ht_with, .ref ht_holes, .int t_top, .int t_hole, .int t_at, .int t_made, .ref ht_variable, .ref ht_stack, .ref ht_signs, .ref ht_output, .ref ht_blocks, .int t_high, .int t_signsHigh, .int t_printed, .int t_done, .int t_value])), (ht_stack, .inl (cI, 64, .inl t_stack))] sz)) 0 0 (va_A [(ht, .inr (6, [.ref ht_op, .ref ht_to, .ref ht_newOp, .ref ht_newTo, .ref ht_draft, .ref ht_text, .int t_many, .int t_letters, .int t_length, .int t_where, .int t_tree, .ref ht_todo, .ref ht_with, .ref ht_holes, .int t_top, .int t_hole, .int t_at, .int t_made, .ref ht_variable, .ref ht_stack, .ref ht_signs, .ref ht_output, .ref ht_blocks, .int t_high, .int t_signsHigh, .int t_printed, .int t_done, .int t_value])), (ht_stack, .inl (cI, 64, .inl t_stack))] sz)
set_option maxHeartbeats 4000000 in
set_option maxRecDepth 100000 in
theorem c_M_take (l : Launch) (D : va_G) (cI cC : ClassId) : K_M_take l D cI cC := by
  intro ht ht_op ht_to ht_newOp ht_newTo ht_draft ht_text ht_todo ht_with ht_holes ht_variable ht_stack ht_signs ht_output ht_blocks t_many t_letters t_length t_where t_tree t_top t_hole t_at t_made t_high t_signsHigh t_printed t_done t_value t_stack q h sz
  refine Met.ofW (cc := k_M_take) (maxL := 1) (ret := (some .int)) (by decide) rfl ?_
  intro p e s m args below meth c s₁ B hml hv
  obtain ⟨rfl, hsz, hP, hK, hD0⟩ := hv
  have hx := B.exec
  have hb := B.bytes
  have hr := B.returns
  have hts : ∀ w ∈ lw_t, w.before ([.ref ht] : List Value).toArray s = true := fun w h => atoms_spec (ws := w_M_take) B.pre w (List.mem_cons_of_mem _ h)
  have hown : s.vm.findClass R_M = some m.cls := findClass_of_methodNamed B.named
  have hlocks := B.notSynchronized
  subst hsz
  have hD := hD0.self (sz := s.heap.size)
  generalize hAe : va_A [(ht, .inr (6, [.ref ht_op, .ref ht_to, .ref ht_newOp, .ref ht_newTo, .ref ht_draft, .ref ht_text, .int t_many, .int t_letters, .int t_length, .int t_where, .int t_tree, .ref ht_todo, .ref ht_with, .ref ht_holes, .int t_top, .int t_hole, .int t_at, .int t_made, .ref ht_variable, .ref ht_stack, .ref ht_signs, .ref ht_output, .ref ht_blocks, .int t_high, .int t_signsHigh, .int t_printed, .int t_done, .int t_value])), (ht_stack, .inl (cI, 64, .inl t_stack))] s.heap.size = A at hD ⊢
  have hA : ∀ q : Nat, s.heap.size ≤ q → A q := fun q h => by rw [← hAe]; exact Or.inr h
  have hS : va_S A s.heap s.heap [] := va_S.rf
  have f_157 := hts _ mt_3_171
  have f_44 := hts _ mt_3_167
  have hP : va_P D vwCl [(ht, .inr (6, [.ref ht_op, .ref ht_to, .ref ht_newOp, .ref ht_newTo, .ref ht_draft, .ref ht_text, .int t_many, .int t_letters, .int t_length, .int t_where, .int t_tree, .ref ht_todo, .ref ht_with, .ref ht_holes, .int t_top, .int t_hole, .int t_at, .int t_made, .ref ht_variable, .ref ht_stack, .ref ht_signs, .ref ht_output, .ref ht_blocks, .int t_high, .int t_signsHigh, .int t_printed, .int t_done, .int t_value])), (ht_stack, .inl (cI, 64, .inl t_stack))] s.heap := hP
  have hl := lv_entry ([.ref ht]) (n := 1) (Nat.le_of_ble_eq_true rfl)
  rw [lg_entry_eq]
  generalize (lg_sl ([.ref ht]) ++ List.replicate (1 - (lg_sl ([.ref ht])).length) Slot.unset).toArray = ls at hl ⊢
  have hl : lv_has ls 1 [(0, .ref ht)] := hl
  unfold g_M_take at h
  refine lv_aload_n hx hb d_M_take_0 rfl (lv_at hl 0 rfl) ?_
  refine va_get (D := D) (ci := 6) (v := .int t_high) (C := R_M) (T := F_M) (N := 28) hx hb hts u_M hown hK hP 0 rfl rfl 23 (by decide) f_157 (fun _ h9 => h9) rfl d_M_take_1 ?_
  refine lv_if_ne (tgt := 9) hx hb d_M_take_4 (by decide) (fun ec => ?_) (fun ec => ?_)
  · have h := g_f ec h
    refine lv_aload_n hx hb d_M_take_9 rfl (lv_at hl 0 rfl) ?_
    refine lv_dup hx hb d_M_take_10 rfl ?_
    refine va_get (D := D) (ci := 6) (v := .int t_high) (C := R_M) (T := F_M) (N := 28) hx hb hts u_M hown hK hP 0 rfl rfl 23 (by decide) f_157 (fun _ h9 => h9) rfl d_M_take_11 ?_
    refine lv_iconst (v := (1 : Int32)) hx hb d_M_take_14 (by decide) ?_
    refine lv_isub hx hb d_M_take_15 ?_
    refine va_put (D := D) (ci := 6) (v := .int (t_high - (1 : Int32))) (ty := .int) (C := R_M) (T := F_M) (N := 28) hx hb hts u_M t_M t_M_ok n_M hown hK hP hD hS 0 rfl rfl 23 (by decide) f_157 (fun _ h9 => h9) rfl (by decide +kernel) rfl rfl (Nat.le_of_ble_eq_true rfl) d_M_take_16 (fun H locs (hP : va_P D vwCl [(ht, .inr (6, [.ref ht_op, .ref ht_to, .ref ht_newOp, .ref ht_newTo, .ref ht_draft, .ref ht_text, .int t_many, .int t_letters, .int t_length, .int t_where, .int t_tree, .ref ht_todo, .ref ht_with, .ref ht_holes, .int t_top, .int t_hole, .int t_at, .int t_made, .ref ht_variable, .ref ht_stack, .ref ht_signs, .ref ht_output, .ref ht_blocks, .int (t_high - (1 : Int32)), .int t_signsHigh, .int t_printed, .int t_done, .int t_value])), (ht_stack, .inl (cI, 64, .inl t_stack))] H) (hD : va_D A [(ht, .inr (6, [.ref ht_op, .ref ht_to, .ref ht_newOp, .ref ht_newTo, .ref ht_draft, .ref ht_text, .int t_many, .int t_letters, .int t_length, .int t_where, .int t_tree, .ref ht_todo, .ref ht_with, .ref ht_holes, .int t_top, .int t_hole, .int t_at, .int t_made, .ref ht_variable, .ref ht_stack, .ref ht_signs, .ref ht_output, .ref ht_blocks, .int (t_high - (1 : Int32)), .int t_signsHigh, .int t_printed, .int t_done, .int t_value])), (ht_stack, .inl (cI, 64, .inl t_stack))]) hS => ?_)
    refine lv_aload_n hx hb d_M_take_19 rfl (lv_at hl 0 rfl) ?_
    refine va_get (D := D) (ci := 6) (v := .ref ht_stack) (C := R_M) (T := F_M) (N := 28) hx hb hts u_M hown hK hP 0 rfl rfl 19 (by decide) f_44 (fun _ h9 => h9) rfl d_M_take_20 ?_
    refine lv_aload_n hx hb d_M_take_23 rfl (lv_at hl 0 rfl) ?_
    refine va_get (D := D) (ci := 6) (v := .int (t_high - (1 : Int32))) (C := R_M) (T := F_M) (N := 28) hx hb hts u_M hown hK hP 0 rfl rfl 23 (by decide) f_157 (fun _ h9 => h9) rfl d_M_take_24 ?_
    obtain ⟨hi, h⟩ := g_ck h
    refine va_iald hx hb hK hP 1 0 rfl rfl hi d_M_take_27 ?_
    cases h
    exact gr_i hx hb hr hlocks hK hP hD hS d_M_take_28
  · have h := g_t ec h
    refine lv_iconst (v := (0 : Int32)) hx hb d_M_take_7 (by decide) ?_
    cases h
    exact gr_i hx hb hr hlocks hK hP hD hS d_M_take_8
def K_M_print (l : Launch) (D : va_G) (cI cC : ClassId) : Prop :=
  ∀ (ht ht_op ht_to ht_newOp ht_newTo ht_draft ht_text ht_todo ht_with ht_holes ht_variable ht_stack ht_signs ht_output ht_blocks : Nat) (t_many : Int32) (t_letters : Int32) (t_length : Int32) (t_where : Int32) (t_tree : Int32) (t_top : Int32) (t_hole : Int32) (t_at : Int32) (t_made : Int32) (t_high : Int32) (t_signsHigh : Int32) (t_printed : Int32) (t_done : Int32) (t_value : Int32) (t_output : Nat → Int32) (a1 : Int32) (q : (Nat → Int32) × Int32), g_M_print t_output t_printed a1 = some q → ∀ (sz : Nat), Met l y_M_print w_M_print ({ frames := 0, cells := 0, slots := 0, locals := 0 }) (va_Pc [.ref ht, .int a1] (gB D (gT cI cC) [(ht, .inr (6, [.ref ht_op, .ref ht_to, .ref ht_newOp, .ref ht_newTo, .ref ht_draft, .ref ht_text, .int t_many, .int t_letters, .int t_length, .int t_where, .int t_tree, .ref ht_todo, .ref ht_with, .ref ht_holes, .int t_top, .int t_hole, .int t_at, .int t_made, .ref ht_variable, .ref ht_stack, .ref ht_signs, .ref ht_output, .ref ht_blocks, .int t_high, .int t_signsHigh, .int t_printed, .int t_done, .int t_value])), (ht_output, .inl (cI, 20, .inl t_output))] sz)) (gQv D (gT cI cC) [(ht, .inr (6, [.ref ht_op, .ref ht_to, .ref ht_newOp, .ref ht_newTo, .ref ht_draft, .ref ht_text, .int t_many, .int t_letters, .int t_length, .int t_where, .int t_tree, .ref ht_todo, .ref ht_with, .ref ht_holes, .int t_top, .int t_hole, .int t_at, .int t_made, .ref ht_variable, .ref ht_stack, .ref ht_signs, .ref ht_output, .ref ht_blocks, .int t_high, .int t_signsHigh, .int q.2, .int t_done, .int t_value])), (ht_output, .inl (cI, 20, .inl q.1))] (va_A [(ht, .inr (6, [.ref ht_op, .ref ht_to, .ref ht_newOp, .ref ht_newTo, .ref ht_draft, .ref ht_text, .int t_many, .int t_letters, .int t_length, .int t_where, .int t_tree, .ref ht_todo, .ref ht_with, .ref ht_holes, .int t_top, .int t_hole, .int t_at, .int t_made, .ref ht_variable, .ref ht_stack, .ref ht_signs, .ref ht_output, .ref ht_blocks, .int t_high, .int t_signsHigh, .int t_printed, .int t_done, .int t_value])), (ht_output, .inl (cI, 20, .inl t_output))] sz)) 0 0 (va_A [(ht, .inr (6, [.ref ht_op, .ref ht_to, .ref ht_newOp, .ref ht_newTo, .ref ht_draft, .ref ht_text, .int t_many, .int t_letters, .int t_length, .int t_where, .int t_tree, .ref ht_todo, .ref ht_with, .ref ht_holes, .int t_top, .int t_hole, .int t_at, .int t_made, .ref ht_variable, .ref ht_stack, .ref ht_signs, .ref ht_output, .ref ht_blocks, .int t_high, .int t_signsHigh, .int t_printed, .int t_done, .int t_value])), (ht_output, .inl (cI, 20, .inl t_output))] sz)
set_option maxHeartbeats 4000000 in
set_option maxRecDepth 100000 in
theorem c_M_print (l : Launch) (D : va_G) (cI cC : ClassId) : K_M_print l D cI cC := by
  intro ht ht_op ht_to ht_newOp ht_newTo ht_draft ht_text ht_todo ht_with ht_holes ht_variable ht_stack ht_signs ht_output ht_blocks t_many t_letters t_length t_where t_tree t_top t_hole t_at t_made t_high t_signsHigh t_printed t_done t_value t_output a1 q h sz
  refine Met.ofW (cc := k_M_print) (maxL := 2) (ret := none) (by decide) rfl ?_
  intro p e s m args below meth c s₁ B hml hv
  obtain ⟨rfl, hsz, hP, hK, hD0⟩ := hv
  have hx := B.exec
  have hb := B.bytes
  have hr := B.returns
  have hts : ∀ w ∈ lw_t, w.before ([.ref ht, .int a1] : List Value).toArray s = true := fun w h => atoms_spec (ws := w_M_print) B.pre w (List.mem_cons_of_mem _ h)
  have hown : s.vm.findClass R_M = some m.cls := findClass_of_methodNamed B.named
  have hlocks := B.notSynchronized
  subst hsz
  have hD := hD0.self (sz := s.heap.size)
  generalize hAe : va_A [(ht, .inr (6, [.ref ht_op, .ref ht_to, .ref ht_newOp, .ref ht_newTo, .ref ht_draft, .ref ht_text, .int t_many, .int t_letters, .int t_length, .int t_where, .int t_tree, .ref ht_todo, .ref ht_with, .ref ht_holes, .int t_top, .int t_hole, .int t_at, .int t_made, .ref ht_variable, .ref ht_stack, .ref ht_signs, .ref ht_output, .ref ht_blocks, .int t_high, .int t_signsHigh, .int t_printed, .int t_done, .int t_value])), (ht_output, .inl (cI, 20, .inl t_output))] s.heap.size = A at hD ⊢
  have hA : ∀ q : Nat, s.heap.size ≤ q → A q := fun q h => by rw [← hAe]; exact Or.inr h
  have hS : va_S A s.heap s.heap [] := va_S.rf
  have f_160 := hts _ mt_3_173
  have f_50 := hts _ mt_3_169
  have hP : va_P D vwCl [(ht, .inr (6, [.ref ht_op, .ref ht_to, .ref ht_newOp, .ref ht_newTo, .ref ht_draft, .ref ht_text, .int t_many, .int t_letters, .int t_length, .int t_where, .int t_tree, .ref ht_todo, .ref ht_with, .ref ht_holes, .int t_top, .int t_hole, .int t_at, .int t_made, .ref ht_variable, .ref ht_stack, .ref ht_signs, .ref ht_output, .ref ht_blocks, .int t_high, .int t_signsHigh, .int t_printed, .int t_done, .int t_value])), (ht_output, .inl (cI, 20, .inl t_output))] s.heap := hP
  have hl := lv_entry ([.ref ht, .int a1]) (n := 2) (Nat.le_of_ble_eq_true rfl)
  rw [lg_entry_eq]
  generalize (lg_sl ([.ref ht, .int a1]) ++ List.replicate (2 - (lg_sl ([.ref ht, .int a1])).length) Slot.unset).toArray = ls at hl ⊢
  have hl : lv_has ls 2 [(0, .ref ht), (1, .int a1)] := hl
  unfold g_M_print at h
  refine lv_aload_n hx hb d_M_print_0 rfl (lv_at hl 0 rfl) ?_
  refine va_get (D := D) (ci := 6) (v := .int t_printed) (C := R_M) (T := F_M) (N := 28) hx hb hts u_M hown hK hP 0 rfl rfl 25 (by decide) f_160 (fun _ h9 => h9) rfl d_M_print_1 ?_
  refine lv_bipush (v := (20 : Int32)) hx hb d_M_print_4 (by decide) ?_
  refine lv_icmp_ge (tgt := 19) hx hb d_M_print_6 (by decide) (fun ec => ?_) (fun ec => ?_)
  · have h := g_t ec h
    refine lv_aload_n hx hb d_M_print_19 rfl (lv_at hl 0 rfl) ?_
    refine lv_dup hx hb d_M_print_20 rfl ?_
    refine va_get (D := D) (ci := 6) (v := .int t_printed) (C := R_M) (T := F_M) (N := 28) hx hb hts u_M hown hK hP 0 rfl rfl 25 (by decide) f_160 (fun _ h9 => h9) rfl d_M_print_21 ?_
    refine lv_iconst (v := (1 : Int32)) hx hb d_M_print_24 (by decide) ?_
    refine lv_iadd hx hb d_M_print_25 ?_
    refine va_put (D := D) (ci := 6) (v := .int (t_printed + (1 : Int32))) (ty := .int) (C := R_M) (T := F_M) (N := 28) hx hb hts u_M t_M t_M_ok n_M hown hK hP hD hS 0 rfl rfl 25 (by decide) f_160 (fun _ h9 => h9) rfl (by decide +kernel) rfl rfl (Nat.le_of_ble_eq_true rfl) d_M_print_26 (fun H locs (hP : va_P D vwCl [(ht, .inr (6, [.ref ht_op, .ref ht_to, .ref ht_newOp, .ref ht_newTo, .ref ht_draft, .ref ht_text, .int t_many, .int t_letters, .int t_length, .int t_where, .int t_tree, .ref ht_todo, .ref ht_with, .ref ht_holes, .int t_top, .int t_hole, .int t_at, .int t_made, .ref ht_variable, .ref ht_stack, .ref ht_signs, .ref ht_output, .ref ht_blocks, .int t_high, .int t_signsHigh, .int (t_printed + (1 : Int32)), .int t_done, .int t_value])), (ht_output, .inl (cI, 20, .inl t_output))] H) (hD : va_D A [(ht, .inr (6, [.ref ht_op, .ref ht_to, .ref ht_newOp, .ref ht_newTo, .ref ht_draft, .ref ht_text, .int t_many, .int t_letters, .int t_length, .int t_where, .int t_tree, .ref ht_todo, .ref ht_with, .ref ht_holes, .int t_top, .int t_hole, .int t_at, .int t_made, .ref ht_variable, .ref ht_stack, .ref ht_signs, .ref ht_output, .ref ht_blocks, .int t_high, .int t_signsHigh, .int (t_printed + (1 : Int32)), .int t_done, .int t_value])), (ht_output, .inl (cI, 20, .inl t_output))]) hS => ?_)
    cases h
    exact gr_v hx hb hr hlocks hK hP hD hS d_M_print_29
  · have h := g_f ec h
    refine lv_aload_n hx hb d_M_print_9 rfl (lv_at hl 0 rfl) ?_
    refine va_get (D := D) (ci := 6) (v := .ref ht_output) (C := R_M) (T := F_M) (N := 28) hx hb hts u_M hown hK hP 0 rfl rfl 21 (by decide) f_50 (fun _ h9 => h9) rfl d_M_print_10 ?_
    refine lv_aload_n hx hb d_M_print_13 rfl (lv_at hl 0 rfl) ?_
    refine va_get (D := D) (ci := 6) (v := .int t_printed) (C := R_M) (T := F_M) (N := 28) hx hb hts u_M hown hK hP 0 rfl rfl 25 (by decide) f_160 (fun _ h9 => h9) rfl d_M_print_14 ?_
    refine lv_iload_n hx hb d_M_print_17 rfl (lv_at hl 1 rfl) ?_
    obtain ⟨hi, h⟩ := g_ck h
    refine va_iast hx hb hK hP hD hS 1 0 rfl rfl hi d_M_print_18 (fun H locs (hP : va_P D vwCl [(ht, .inr (6, [.ref ht_op, .ref ht_to, .ref ht_newOp, .ref ht_newTo, .ref ht_draft, .ref ht_text, .int t_many, .int t_letters, .int t_length, .int t_where, .int t_tree, .ref ht_todo, .ref ht_with, .ref ht_holes, .int t_top, .int t_hole, .int t_at, .int t_made, .ref ht_variable, .ref ht_stack, .ref ht_signs, .ref ht_output, .ref ht_blocks, .int t_high, .int t_signsHigh, .int t_printed, .int t_done, .int t_value])), (ht_output, .inl (cI, 20, .inl (upd t_output t_printed.toNatClampNeg a1)))] H) (hD : va_D A [(ht, .inr (6, [.ref ht_op, .ref ht_to, .ref ht_newOp, .ref ht_newTo, .ref ht_draft, .ref ht_text, .int t_many, .int t_letters, .int t_length, .int t_where, .int t_tree, .ref ht_todo, .ref ht_with, .ref ht_holes, .int t_top, .int t_hole, .int t_at, .int t_made, .ref ht_variable, .ref ht_stack, .ref ht_signs, .ref ht_output, .ref ht_blocks, .int t_high, .int t_signsHigh, .int t_printed, .int t_done, .int t_value])), (ht_output, .inl (cI, 20, .inl (upd t_output t_printed.toNatClampNeg a1)))]) hS => ?_)
    refine lv_aload_n hx hb d_M_print_19 rfl (lv_at hl 0 rfl) ?_
    refine lv_dup hx hb d_M_print_20 rfl ?_
    refine va_get (D := D) (ci := 6) (v := .int t_printed) (C := R_M) (T := F_M) (N := 28) hx hb hts u_M hown hK hP 0 rfl rfl 25 (by decide) f_160 (fun _ h9 => h9) rfl d_M_print_21 ?_
    refine lv_iconst (v := (1 : Int32)) hx hb d_M_print_24 (by decide) ?_
    refine lv_iadd hx hb d_M_print_25 ?_
    refine va_put (D := D) (ci := 6) (v := .int (t_printed + (1 : Int32))) (ty := .int) (C := R_M) (T := F_M) (N := 28) hx hb hts u_M t_M t_M_ok n_M hown hK hP hD hS 0 rfl rfl 25 (by decide) f_160 (fun _ h9 => h9) rfl (by decide +kernel) rfl rfl (Nat.le_of_ble_eq_true rfl) d_M_print_26 (fun H locs (hP : va_P D vwCl [(ht, .inr (6, [.ref ht_op, .ref ht_to, .ref ht_newOp, .ref ht_newTo, .ref ht_draft, .ref ht_text, .int t_many, .int t_letters, .int t_length, .int t_where, .int t_tree, .ref ht_todo, .ref ht_with, .ref ht_holes, .int t_top, .int t_hole, .int t_at, .int t_made, .ref ht_variable, .ref ht_stack, .ref ht_signs, .ref ht_output, .ref ht_blocks, .int t_high, .int t_signsHigh, .int (t_printed + (1 : Int32)), .int t_done, .int t_value])), (ht_output, .inl (cI, 20, .inl (upd t_output t_printed.toNatClampNeg a1)))] H) (hD : va_D A [(ht, .inr (6, [.ref ht_op, .ref ht_to, .ref ht_newOp, .ref ht_newTo, .ref ht_draft, .ref ht_text, .int t_many, .int t_letters, .int t_length, .int t_where, .int t_tree, .ref ht_todo, .ref ht_with, .ref ht_holes, .int t_top, .int t_hole, .int t_at, .int t_made, .ref ht_variable, .ref ht_stack, .ref ht_signs, .ref ht_output, .ref ht_blocks, .int t_high, .int t_signsHigh, .int (t_printed + (1 : Int32)), .int t_done, .int t_value])), (ht_output, .inl (cI, 20, .inl (upd t_output t_printed.toNatClampNeg a1)))]) hS => ?_)
    cases h
    exact gr_v hx hb hr hlocks hK hP hD hS d_M_print_29
def K_M_both (l : Launch) (D : va_G) (cI cC : ClassId) : Prop :=
  ∀ (a0 a1 a2 : Int32) (q : Int32), g_M_both a0 a1 a2 = some q → ∀ (sz : Nat), Met l y_M_both w_M_both ({ frames := 0, cells := 0, slots := 0, locals := 0 }) (va_Pc [.int a0, .int a1, .int a2] (gB D (gT cI cC) [] sz)) (gQi D (gT cI cC) q [] (va_A [] sz)) 0 0 (va_A [] sz)
set_option maxHeartbeats 4000000 in
set_option maxRecDepth 100000 in
theorem c_M_both (l : Launch) (D : va_G) (cI cC : ClassId) : K_M_both l D cI cC := by
  intro a0 a1 a2 q h sz
  refine Met.ofW (cc := k_M_both) (maxL := 3) (ret := (some .int)) (by decide) rfl ?_
  intro p e s m args below meth c s₁ B hml hv
  obtain ⟨rfl, hsz, hP, hK, hD0⟩ := hv
  have hx := B.exec
  have hb := B.bytes
  have hr := B.returns
  have hts : ∀ w ∈ lw_t, w.before ([.int a0, .int a1, .int a2] : List Value).toArray s = true := fun w h => atoms_spec (ws := w_M_both) B.pre w (List.mem_cons_of_mem _ h)
  have hown : s.vm.findClass R_M = some m.cls := findClass_of_methodNamed B.named
  have hlocks := B.notSynchronized
  subst hsz
  have hD := hD0.self (sz := s.heap.size)
  generalize hAe : va_A [] s.heap.size = A at hD ⊢
  have hA : ∀ q : Nat, s.heap.size ≤ q → A q := fun q h => by rw [← hAe]; exact Or.inr h
  have hS : va_S A s.heap s.heap [] := va_S.rf
  have hP : va_P D vwCl [] s.heap := hP
  have hl := lv_entry ([.int a0, .int a1, .int a2]) (n := 3) (Nat.le_of_ble_eq_true rfl)
  rw [lg_entry_eq]
  generalize (lg_sl ([.int a0, .int a1, .int a2]) ++ List.replicate (3 - (lg_sl ([.int a0, .int a1, .int a2])).length) Slot.unset).toArray = ls at hl ⊢
  have hl : lv_has ls 3 [(0, .int a0), (1, .int a1), (2, .int a2)] := hl
  unfold g_M_both at h
  refine lv_iload_n hx hb d_M_both_0 rfl (lv_at hl 0 rfl) ?_
  refine lv_iconst (v := (3 : Int32)) hx hb d_M_both_1 (by decide) ?_
  refine lv_icmp_eq (tgt := 11) hx hb d_M_both_2 (by decide) (fun ec => ?_) (fun ec => ?_)
  · have h := g_t ec h
    refine lv_iload_n hx hb d_M_both_11 rfl (lv_at hl 1 rfl) ?_
    refine lv_iload_n hx hb d_M_both_12 rfl (lv_at hl 2 rfl) ?_
    refine lv_iadd hx hb d_M_both_13 ?_
    refine lv_goto (tgt := 61) hx hb d_M_both_14 (by decide) ?_
    cases h
    exact gr_i hx hb hr hlocks hK hP hD hS d_M_both_61
  · have h := g_f ec h
    refine lv_iload_n hx hb d_M_both_5 rfl (lv_at hl 0 rfl) ?_
    refine lv_bipush (v := (43 : Int32)) hx hb d_M_both_6 (by decide) ?_
    refine lv_icmp_ne (tgt := 17) hx hb d_M_both_8 (by decide) (fun ec => ?_) (fun ec => ?_)
    · have h := g_f ec h
      refine lv_iload_n hx hb d_M_both_17 rfl (lv_at hl 0 rfl) ?_
      refine lv_iconst (v := (4 : Int32)) hx hb d_M_both_18 (by decide) ?_
      refine lv_icmp_eq (tgt := 28) hx hb d_M_both_19 (by decide) (fun ec => ?_) (fun ec => ?_)
      · have h := g_t ec h
        refine lv_iload_n hx hb d_M_both_28 rfl (lv_at hl 1 rfl) ?_
        refine lv_iload_n hx hb d_M_both_29 rfl (lv_at hl 2 rfl) ?_
        refine lv_isub hx hb d_M_both_30 ?_
        refine lv_goto (tgt := 61) hx hb d_M_both_31 (by decide) ?_
        cases h
        exact gr_i hx hb hr hlocks hK hP hD hS d_M_both_61
      · have h := g_f ec h
        refine lv_iload_n hx hb d_M_both_22 rfl (lv_at hl 0 rfl) ?_
        refine lv_bipush (v := (45 : Int32)) hx hb d_M_both_23 (by decide) ?_
        refine lv_icmp_ne (tgt := 34) hx hb d_M_both_25 (by decide) (fun ec => ?_) (fun ec => ?_)
        · have h := g_f ec h
          refine lv_iload_n hx hb d_M_both_34 rfl (lv_at hl 0 rfl) ?_
          refine lv_iconst (v := (5 : Int32)) hx hb d_M_both_35 (by decide) ?_
          refine lv_icmp_eq (tgt := 45) hx hb d_M_both_36 (by decide) (fun ec => ?_) (fun ec => ?_)
          · have h := g_t ec h
            refine lv_iload_n hx hb d_M_both_45 rfl (lv_at hl 1 rfl) ?_
            refine lv_iload_n hx hb d_M_both_46 rfl (lv_at hl 2 rfl) ?_
            refine lv_imul hx hb d_M_both_47 ?_
            refine lv_goto (tgt := 61) hx hb d_M_both_48 (by decide) ?_
            cases h
            exact gr_i hx hb hr hlocks hK hP hD hS d_M_both_61
          · have h := g_f ec h
            refine lv_iload_n hx hb d_M_both_39 rfl (lv_at hl 0 rfl) ?_
            refine lv_bipush (v := (42 : Int32)) hx hb d_M_both_40 (by decide) ?_
            refine lv_icmp_ne (tgt := 51) hx hb d_M_both_42 (by decide) (fun ec => ?_) (fun ec => ?_)
            · have h := g_f ec h
              refine lv_iload_n hx hb d_M_both_51 rfl (lv_at hl 1 rfl) ?_
              refine lv_iload_n hx hb d_M_both_52 rfl (lv_at hl 2 rfl) ?_
              refine lv_icmp_ge (tgt := 60) hx hb d_M_both_53 (by decide) (fun ec => ?_) (fun ec => ?_)
              · have h := g_t ec h
                refine lv_iconst (v := (0 : Int32)) hx hb d_M_both_60 (by decide) ?_
                cases h
                exact gr_i hx hb hr hlocks hK hP hD hS d_M_both_61
              · have h := g_f ec h
                refine lv_iconst (v := (1 : Int32)) hx hb d_M_both_56 (by decide) ?_
                refine lv_goto (tgt := 61) hx hb d_M_both_57 (by decide) ?_
                cases h
                exact gr_i hx hb hr hlocks hK hP hD hS d_M_both_61
            · have h := g_t ec h
              refine lv_iload_n hx hb d_M_both_45 rfl (lv_at hl 1 rfl) ?_
              refine lv_iload_n hx hb d_M_both_46 rfl (lv_at hl 2 rfl) ?_
              refine lv_imul hx hb d_M_both_47 ?_
              refine lv_goto (tgt := 61) hx hb d_M_both_48 (by decide) ?_
              cases h
              exact gr_i hx hb hr hlocks hK hP hD hS d_M_both_61
        · have h := g_t ec h
          refine lv_iload_n hx hb d_M_both_28 rfl (lv_at hl 1 rfl) ?_
          refine lv_iload_n hx hb d_M_both_29 rfl (lv_at hl 2 rfl) ?_
          refine lv_isub hx hb d_M_both_30 ?_
          refine lv_goto (tgt := 61) hx hb d_M_both_31 (by decide) ?_
          cases h
          exact gr_i hx hb hr hlocks hK hP hD hS d_M_both_61
    · have h := g_t ec h
      refine lv_iload_n hx hb d_M_both_11 rfl (lv_at hl 1 rfl) ?_
      refine lv_iload_n hx hb d_M_both_12 rfl (lv_at hl 2 rfl) ?_
      refine lv_iadd hx hb d_M_both_13 ?_
      refine lv_goto (tgt := 61) hx hb d_M_both_14 (by decide) ?_
      cases h
      exact gr_i hx hb hr hlocks hK hP hD hS d_M_both_61
def K_M_run (l : Launch) (D : va_G) (cI cC : ClassId) : Prop :=
  ∀ (ht ht_op ht_to ht_newOp ht_newTo ht_draft ht_text ht_todo ht_with ht_holes ht_variable ht_stack ht_signs ht_output ht_blocks : Nat) (t_many : Int32) (t_letters : Int32) (t_length : Int32) (t_where : Int32) (t_tree : Int32) (t_top : Int32) (t_hole : Int32) (t_at : Int32) (t_made : Int32) (t_high : Int32) (t_signsHigh : Int32) (t_printed : Int32) (t_done : Int32) (t_value : Int32) (t_op : Nat → Int32) (t_to : Nat → Int32) (t_variable : Nat → Int32) (t_stack : Nat → Int32) (t_output : Nat → Int32) (a1 a2 : Int32) (q : Int32 × (Nat → Int32) × (Nat → Int32) × (Nat → Int32) × Int32 × Int32 × Int32), g_M_run t_op t_to t_many t_variable t_stack t_output t_high t_printed t_done a1 a2 = some q → ∀ (sz : Nat), Met l y_M_run w_M_run ({ frames := 1, cells := 0, slots := 0, locals := 22 }) (va_Pc [.ref ht, .int a1, .int a2] (gB D (gT cI cC) [(ht, .inr (6, [.ref ht_op, .ref ht_to, .ref ht_newOp, .ref ht_newTo, .ref ht_draft, .ref ht_text, .int t_many, .int t_letters, .int t_length, .int t_where, .int t_tree, .ref ht_todo, .ref ht_with, .ref ht_holes, .int t_top, .int t_hole, .int t_at, .int t_made, .ref ht_variable, .ref ht_stack, .ref ht_signs, .ref ht_output, .ref ht_blocks, .int t_high, .int t_signsHigh, .int t_printed, .int t_done, .int t_value])), (ht_op, .inl (cI, 30, .inl t_op)), (ht_to, .inl (cI, 31, .inl t_to)), (ht_variable, .inl (cI, 6, .inl t_variable)), (ht_stack, .inl (cI, 64, .inl t_stack)), (ht_output, .inl (cI, 20, .inl t_output))] sz)) (gQi D (gT cI cC) q.1 [(ht, .inr (6, [.ref ht_op, .ref ht_to, .ref ht_newOp, .ref ht_newTo, .ref ht_draft, .ref ht_text, .int t_many, .int t_letters, .int t_length, .int t_where, .int t_tree, .ref ht_todo, .ref ht_with, .ref ht_holes, .int t_top, .int t_hole, .int t_at, .int t_made, .ref ht_variable, .ref ht_stack, .ref ht_signs, .ref ht_output, .ref ht_blocks, .int q.2.2.2.2.1, .int t_signsHigh, .int q.2.2.2.2.2.1, .int q.2.2.2.2.2.2, .int t_value])), (ht_op, .inl (cI, 30, .inl t_op)), (ht_to, .inl (cI, 31, .inl t_to)), (ht_variable, .inl (cI, 6, .inl q.2.1)), (ht_stack, .inl (cI, 64, .inl q.2.2.1)), (ht_output, .inl (cI, 20, .inl q.2.2.2.1))] (va_A [(ht, .inr (6, [.ref ht_op, .ref ht_to, .ref ht_newOp, .ref ht_newTo, .ref ht_draft, .ref ht_text, .int t_many, .int t_letters, .int t_length, .int t_where, .int t_tree, .ref ht_todo, .ref ht_with, .ref ht_holes, .int t_top, .int t_hole, .int t_at, .int t_made, .ref ht_variable, .ref ht_stack, .ref ht_signs, .ref ht_output, .ref ht_blocks, .int t_high, .int t_signsHigh, .int t_printed, .int t_done, .int t_value])), (ht_op, .inl (cI, 30, .inl t_op)), (ht_to, .inl (cI, 31, .inl t_to)), (ht_variable, .inl (cI, 6, .inl t_variable)), (ht_stack, .inl (cI, 64, .inl t_stack)), (ht_output, .inl (cI, 20, .inl t_output))] sz)) 0 0 (va_A [(ht, .inr (6, [.ref ht_op, .ref ht_to, .ref ht_newOp, .ref ht_newTo, .ref ht_draft, .ref ht_text, .int t_many, .int t_letters, .int t_length, .int t_where, .int t_tree, .ref ht_todo, .ref ht_with, .ref ht_holes, .int t_top, .int t_hole, .int t_at, .int t_made, .ref ht_variable, .ref ht_stack, .ref ht_signs, .ref ht_output, .ref ht_blocks, .int t_high, .int t_signsHigh, .int t_printed, .int t_done, .int t_value])), (ht_op, .inl (cI, 30, .inl t_op)), (ht_to, .inl (cI, 31, .inl t_to)), (ht_variable, .inl (cI, 6, .inl t_variable)), (ht_stack, .inl (cI, 64, .inl t_stack)), (ht_output, .inl (cI, 20, .inl t_output))] sz)
set_option maxHeartbeats 4000000 in
set_option maxRecDepth 100000 in
theorem c_M_run (l : Launch) (D : va_G) (cI cC : ClassId) : K_M_run l D cI cC := by
  intro ht ht_op ht_to ht_newOp ht_newTo ht_draft ht_text ht_todo ht_with ht_holes ht_variable ht_stack ht_signs ht_output ht_blocks t_many t_letters t_length t_where t_tree t_top t_hole t_at t_made t_high t_signsHigh t_printed t_done t_value t_op t_to t_variable t_stack t_output a1 a2 q h sz
  refine Met.ofW (cc := k_M_run) (maxL := 8) (ret := (some .int)) (by decide) rfl ?_
  intro p e s m args below meth c s₁ B hml hv
  obtain ⟨rfl, hsz, hP, hK, hD0⟩ := hv
  have hx := B.exec
  have hb := B.bytes
  have hr := B.returns
  have hts : ∀ w ∈ lw_t, w.before ([.ref ht, .int a1, .int a2] : List Value).toArray s = true := fun w h => atoms_spec (ws := w_M_run) B.pre w (List.mem_cons_of_mem _ h)
  have hown : s.vm.findClass R_M = some m.cls := findClass_of_methodNamed B.named
  have hlocks := B.notSynchronized
  subst hsz
  have hD := hD0.self (sz := s.heap.size)
  generalize hAe : va_A [(ht, .inr (6, [.ref ht_op, .ref ht_to, .ref ht_newOp, .ref ht_newTo, .ref ht_draft, .ref ht_text, .int t_many, .int t_letters, .int t_length, .int t_where, .int t_tree, .ref ht_todo, .ref ht_with, .ref ht_holes, .int t_top, .int t_hole, .int t_at, .int t_made, .ref ht_variable, .ref ht_stack, .ref ht_signs, .ref ht_output, .ref ht_blocks, .int t_high, .int t_signsHigh, .int t_printed, .int t_done, .int t_value])), (ht_op, .inl (cI, 30, .inl t_op)), (ht_to, .inl (cI, 31, .inl t_to)), (ht_variable, .inl (cI, 6, .inl t_variable)), (ht_stack, .inl (cI, 64, .inl t_stack)), (ht_output, .inl (cI, 20, .inl t_output))] s.heap.size = A at hD ⊢
  have hA : ∀ q : Nat, s.heap.size ≤ q → A q := fun q h => by rw [← hAe]; exact Or.inr h
  have hS : va_S A s.heap s.heap [] := va_S.rf
  have f_13 := hts _ mt_3_149
  have f_160 := hts _ mt_3_173
  have f_163 := hts _ mt_3_174
  have f_41 := hts _ mt_3_166
  have f_64 := hts _ mt_3_154
  have f_7 := hts _ mt_3_148
  have LP_20 : ∀ nn_20 : Nat, ∀ (t_variable : Nat → Int32) (t_stack : Nat → Int32) (t_output : Nat → Int32) (t_high : Int32) (t_printed : Int32) (t_done : Int32) (v2 : Int32) (v3 : Int32), b_M_run_20 t_op t_to t_many nn_20 t_variable t_stack t_output t_high t_printed t_done v2 v3 = some q → gJ p l e (headSpec w_M_run ({ frames := 1, cells := 0, slots := 0, locals := 22 })).room s m ([.ref ht, .int a1, .int a2] : List Value).toArray below meth c D A 8 (MQ below (gQi D (gT cI cC) q.1 [(ht, .inr (6, [.ref ht_op, .ref ht_to, .ref ht_newOp, .ref ht_newTo, .ref ht_draft, .ref ht_text, .int t_many, .int t_letters, .int t_length, .int t_where, .int t_tree, .ref ht_todo, .ref ht_with, .ref ht_holes, .int t_top, .int t_hole, .int t_at, .int t_made, .ref ht_variable, .ref ht_stack, .ref ht_signs, .ref ht_output, .ref ht_blocks, .int q.2.2.2.2.1, .int t_signsHigh, .int q.2.2.2.2.2.1, .int q.2.2.2.2.2.2, .int t_value])), (ht_op, .inl (cI, 30, .inl t_op)), (ht_to, .inl (cI, 31, .inl t_to)), (ht_variable, .inl (cI, 6, .inl q.2.1)), (ht_stack, .inl (cI, 64, .inl q.2.2.1)), (ht_output, .inl (cI, 20, .inl q.2.2.2.1))] A) ([.ref ht, .int a1, .int a2] : List Value).toArray s 0 0 A) 20 [(ht, .inr (6, [.ref ht_op, .ref ht_to, .ref ht_newOp, .ref ht_newTo, .ref ht_draft, .ref ht_text, .int t_many, .int t_letters, .int t_length, .int t_where, .int t_tree, .ref ht_todo, .ref ht_with, .ref ht_holes, .int t_top, .int t_hole, .int t_at, .int t_made, .ref ht_variable, .ref ht_stack, .ref ht_signs, .ref ht_output, .ref ht_blocks, .int t_high, .int t_signsHigh, .int t_printed, .int t_done, .int t_value])), (ht_op, .inl (cI, 30, .inl t_op)), (ht_to, .inl (cI, 31, .inl t_to)), (ht_variable, .inl (cI, 6, .inl t_variable)), (ht_stack, .inl (cI, 64, .inl t_stack)), (ht_output, .inl (cI, 20, .inl t_output))] [(0, .ref ht), (2, .int v2), (3, .int v3)] [] := by
    intro nn_20
    induction nn_20 with
    | zero => intro t_variable t_stack t_output t_high t_printed t_done v2 v3 h; exact g_no h
    | succ nn_20 ih_20 =>
      intro t_variable t_stack t_output t_high t_printed t_done v2 v3 h H locs ls hP hD hS hl
      rw [b_M_run_20] at h
      refine lv_iload_n hx hb d_M_run_20 rfl (lv_at hl 2 rfl) ?_
      refine lv_aload_n hx hb d_M_run_21 rfl (lv_at hl 0 rfl) ?_
      refine va_get (D := D) (ci := 6) (v := .int t_many) (C := R_M) (T := F_M) (N := 28) hx hb hts u_M hown hK hP 0 rfl rfl 6 (by decide) f_64 (fun _ h9 => h9) rfl d_M_run_22 ?_
      refine lv_icmp_ge (tgt := 228) hx hb d_M_run_25 (by decide) (fun ec => ?_) (fun ec => ?_)
      · have h := g_t ec h
        refine lv_iload_n hx hb d_M_run_228 rfl (lv_at hl 2 rfl) ?_
        refine lv_aload_n hx hb d_M_run_229 rfl (lv_at hl 0 rfl) ?_
        refine va_get (D := D) (ci := 6) (v := .int t_many) (C := R_M) (T := F_M) (N := 28) hx hb hts u_M hown hK hP 0 rfl rfl 6 (by decide) f_64 (fun _ h9 => h9) rfl d_M_run_230 ?_
        refine lv_icmp_ge (tgt := 241) hx hb d_M_run_233 (by decide) (fun ec => ?_) (fun ec => ?_)
        · have h := g_t ec h
          refine lv_aload_n hx hb d_M_run_241 rfl (lv_at hl 0 rfl) ?_
          refine va_get (D := D) (ci := 6) (v := .int t_printed) (C := R_M) (T := F_M) (N := 28) hx hb hts u_M hown hK hP 0 rfl rfl 25 (by decide) f_160 (fun _ h9 => h9) rfl d_M_run_242 ?_
          cases h
          exact gr_i hx hb hr hlocks hK hP hD hS d_M_run_245
        · have h := g_f ec h
          refine lv_bipush (v := (-7 : Int32)) hx hb d_M_run_236 (by decide) ?_
          refine lv_goto (tgt := 245) hx hb d_M_run_238 (by decide) ?_
          cases h
          exact gr_i hx hb hr hlocks hK hP hD hS d_M_run_245
      · have h := g_f ec h
        refine lv_aload_n hx hb d_M_run_28 rfl (lv_at hl 0 rfl) ?_
        refine va_get (D := D) (ci := 6) (v := .int t_done) (C := R_M) (T := F_M) (N := 28) hx hb hts u_M hown hK hP 0 rfl rfl 26 (by decide) f_163 (fun _ h9 => h9) rfl d_M_run_29 ?_
        refine lv_iload_n hx hb d_M_run_32 rfl (lv_at hl 1 rfl) ?_
        refine lv_icmp_ge (tgt := 228) hx hb d_M_run_33 (by decide) (fun ec => ?_) (fun ec => ?_)
        · have h := g_t ec h
          refine lv_iload_n hx hb d_M_run_228 rfl (lv_at hl 2 rfl) ?_
          refine lv_aload_n hx hb d_M_run_229 rfl (lv_at hl 0 rfl) ?_
          refine va_get (D := D) (ci := 6) (v := .int t_many) (C := R_M) (T := F_M) (N := 28) hx hb hts u_M hown hK hP 0 rfl rfl 6 (by decide) f_64 (fun _ h9 => h9) rfl d_M_run_230 ?_
          refine lv_icmp_ge (tgt := 241) hx hb d_M_run_233 (by decide) (fun ec => ?_) (fun ec => ?_)
          · have h := g_t ec h
            refine lv_aload_n hx hb d_M_run_241 rfl (lv_at hl 0 rfl) ?_
            refine va_get (D := D) (ci := 6) (v := .int t_printed) (C := R_M) (T := F_M) (N := 28) hx hb hts u_M hown hK hP 0 rfl rfl 25 (by decide) f_160 (fun _ h9 => h9) rfl d_M_run_242 ?_
            cases h
            exact gr_i hx hb hr hlocks hK hP hD hS d_M_run_245
          · have h := g_f ec h
            refine lv_bipush (v := (-7 : Int32)) hx hb d_M_run_236 (by decide) ?_
            refine lv_goto (tgt := 245) hx hb d_M_run_238 (by decide) ?_
            cases h
            exact gr_i hx hb hr hlocks hK hP hD hS d_M_run_245
        · have h := g_f ec h
          refine lv_aload_n hx hb d_M_run_36 rfl (lv_at hl 0 rfl) ?_
          refine va_get (D := D) (ci := 6) (v := .ref ht_op) (C := R_M) (T := F_M) (N := 28) hx hb hts u_M hown hK hP 0 rfl rfl 0 (by decide) f_7 (fun _ h9 => h9) rfl d_M_run_37 ?_
          refine lv_iload_n hx hb d_M_run_40 rfl (lv_at hl 2 rfl) ?_
          obtain ⟨hi, h⟩ := g_ck h
          refine va_iald hx hb hK hP 1 0 rfl rfl hi d_M_run_41 ?_
          refine lv_istore (lv' := [(4, .int (t_op v3.toNatClampNeg)), (0, .ref ht), (2, .int v2), (3, .int v3)]) hx hb d_M_run_42 hl (by decide) rfl (fun ls hl => ?_)
          refine lv_aload_n hx hb d_M_run_44 rfl (lv_at hl 1 rfl) ?_
          refine va_get (D := D) (ci := 6) (v := .ref ht_to) (C := R_M) (T := F_M) (N := 28) hx hb hts u_M hown hK hP 0 rfl rfl 1 (by decide) f_13 (fun _ h9 => h9) rfl d_M_run_45 ?_
          refine lv_iload_n hx hb d_M_run_48 rfl (lv_at hl 3 rfl) ?_
          obtain ⟨hi, h⟩ := g_ck h
          refine va_iald hx hb hK hP 2 0 rfl rfl hi d_M_run_49 ?_
          refine lv_istore (lv' := [(5, .int (t_to v3.toNatClampNeg)), (4, .int (t_op v3.toNatClampNeg)), (0, .ref ht), (2, .int v2), (3, .int v3)]) hx hb d_M_run_50 hl (by decide) rfl (fun ls hl => ?_)
          refine lv_aload_n hx hb d_M_run_52 rfl (lv_at hl 2 rfl) ?_
          refine lv_dup hx hb d_M_run_53 rfl ?_
          refine va_get (D := D) (ci := 6) (v := .int t_done) (C := R_M) (T := F_M) (N := 28) hx hb hts u_M hown hK hP 0 rfl rfl 26 (by decide) f_163 (fun _ h9 => h9) rfl d_M_run_54 ?_
          refine lv_iconst (v := (1 : Int32)) hx hb d_M_run_57 (by decide) ?_
          refine lv_iadd hx hb d_M_run_58 ?_
          refine va_put (D := D) (ci := 6) (v := .int (t_done + (1 : Int32))) (ty := .int) (C := R_M) (T := F_M) (N := 28) hx hb hts u_M t_M t_M_ok n_M hown hK hP hD hS 0 rfl rfl 26 (by decide) f_163 (fun _ h9 => h9) rfl (by decide +kernel) rfl rfl (Nat.le_of_ble_eq_true rfl) d_M_run_59 (fun H locs (hP : va_P D vwCl [(ht, .inr (6, [.ref ht_op, .ref ht_to, .ref ht_newOp, .ref ht_newTo, .ref ht_draft, .ref ht_text, .int t_many, .int t_letters, .int t_length, .int t_where, .int t_tree, .ref ht_todo, .ref ht_with, .ref ht_holes, .int t_top, .int t_hole, .int t_at, .int t_made, .ref ht_variable, .ref ht_stack, .ref ht_signs, .ref ht_output, .ref ht_blocks, .int t_high, .int t_signsHigh, .int t_printed, .int (t_done + (1 : Int32)), .int t_value])), (ht_op, .inl (cI, 30, .inl t_op)), (ht_to, .inl (cI, 31, .inl t_to)), (ht_variable, .inl (cI, 6, .inl t_variable)), (ht_stack, .inl (cI, 64, .inl t_stack)), (ht_output, .inl (cI, 20, .inl t_output))] H) (hD : va_D A [(ht, .inr (6, [.ref ht_op, .ref ht_to, .ref ht_newOp, .ref ht_newTo, .ref ht_draft, .ref ht_text, .int t_many, .int t_letters, .int t_length, .int t_where, .int t_tree, .ref ht_todo, .ref ht_with, .ref ht_holes, .int t_top, .int t_hole, .int t_at, .int t_made, .ref ht_variable, .ref ht_stack, .ref ht_signs, .ref ht_output, .ref ht_blocks, .int t_high, .int t_signsHigh, .int t_printed, .int (t_done + (1 : Int32)), .int t_value])), (ht_op, .inl (cI, 30, .inl t_op)), (ht_to, .inl (cI, 31, .inl t_to)), (ht_variable, .inl (cI, 6, .inl t_variable)), (ht_stack, .inl (cI, 64, .inl t_stack)), (ht_output, .inl (cI, 20, .inl t_output))]) hS => ?_)
          refine lv_iinc (v := v3 + (1 : Int32)) (lv' := [(3, .int (v3 + (1 : Int32))), (5, .int (t_to v3.toNatClampNeg)), (4, .int (t_op v3.toNatClampNeg)), (0, .ref ht), (2, .int v2)]) hx hb d_M_run_62 hl (k := 4) rfl rfl (by decide) rfl (fun ls hl => ?_)
          refine lv_iload hx hb d_M_run_65 (lv_at hl 2 rfl) ?_
          refine lv_if_ne (tgt := 79) hx hb d_M_run_67 (by decide) (fun ec => ?_) (fun ec => ?_)
          · have h := g_f ec h
            refine lv_iload hx hb d_M_run_79 (lv_at hl 2 rfl) ?_
            refine lv_iconst (v := (1 : Int32)) hx hb d_M_run_81 (by decide) ?_
            refine lv_icmp_ne (tgt := 99) hx hb d_M_run_82 (by decide) (fun ec => ?_) (fun ec => ?_)
            · have h := g_f ec h
              refine lv_iload hx hb d_M_run_99 (lv_at hl 2 rfl) ?_
              refine lv_iconst (v := (2 : Int32)) hx hb d_M_run_101 (by decide) ?_
              refine lv_icmp_ne (tgt := 119) hx hb d_M_run_102 (by decide) (fun ec => ?_) (fun ec => ?_)
              · have h := g_f ec h
                refine lv_iload hx hb d_M_run_119 (lv_at hl 2 rfl) ?_
                refine lv_bipush (v := (7 : Int32)) hx hb d_M_run_121 (by decide) ?_
                refine lv_icmp_ne (tgt := 145) hx hb d_M_run_123 (by decide) (fun ec => ?_) (fun ec => ?_)
                · have h := g_f ec h
                  refine lv_iload hx hb d_M_run_145 (lv_at hl 2 rfl) ?_
                  refine lv_bipush (v := (8 : Int32)) hx hb d_M_run_147 (by decide) ?_
                  refine lv_icmp_ne (tgt := 158) hx hb d_M_run_149 (by decide) (fun ec => ?_) (fun ec => ?_)
                  · have h := g_f ec h
                    refine lv_iload hx hb d_M_run_158 (lv_at hl 2 rfl) ?_
                    refine lv_bipush (v := (9 : Int32)) hx hb d_M_run_160 (by decide) ?_
                    refine lv_icmp_ne (tgt := 182) hx hb d_M_run_162 (by decide) (fun ec => ?_) (fun ec => ?_)
                    · have h := g_f ec h
                      refine lv_iload hx hb d_M_run_182 (lv_at hl 2 rfl) ?_
                      refine lv_bipush (v := (10 : Int32)) hx hb d_M_run_184 (by decide) ?_
                      refine lv_icmp_ne (tgt := 200) hx hb d_M_run_186 (by decide) (fun ec => ?_) (fun ec => ?_)
                      · have h := g_f ec h
                        refine lv_aload_n hx hb d_M_run_200 rfl (lv_at hl 3 rfl) ?_
                        obtain ⟨q1, hc, h⟩ := g_bd h
                        refine gk_i (va_runV (As := []) (rest := []) ⟨hx, hb, hml, hown, hts⟩ (c_M_take l D cI cC ht ht_op ht_to ht_newOp ht_newTo ht_draft ht_text ht_todo ht_with ht_holes ht_variable ht_stack ht_signs ht_output ht_blocks t_many t_letters t_length t_where t_tree t_top t_hole t_at t_made t_high t_signsHigh t_printed (t_done + (1 : Int32)) t_value t_stack q1 hc _) (cwV 0 hts (gG_V mt_4_129 mt_4_131 mp_43 mt_1_7 mt_4_132) rfl rfl rfl (by decide +kernel) ⟨Nat.le_of_ble_eq_true rfl, Nat.le_of_ble_eq_true rfl⟩) (gpV hK hP hD [0, 4] rfl (by decide) (ci := 6) 0 rfl rfl) rfl rfl hl.1 rfl (lv_room (Nat.le_of_ble_eq_true rfl)) d_M_run_201 ⟨Nat.zero_le _, Nat.zero_le _⟩) hK hP hD hS hA [0, 4] rfl (by decide) rfl rfl (fun H locs (hP : va_P D vwCl [(ht, .inr (6, [.ref ht_op, .ref ht_to, .ref ht_newOp, .ref ht_newTo, .ref ht_draft, .ref ht_text, .int t_many, .int t_letters, .int t_length, .int t_where, .int t_tree, .ref ht_todo, .ref ht_with, .ref ht_holes, .int t_top, .int t_hole, .int t_at, .int t_made, .ref ht_variable, .ref ht_stack, .ref ht_signs, .ref ht_output, .ref ht_blocks, .int q1.2, .int t_signsHigh, .int t_printed, .int (t_done + (1 : Int32)), .int t_value])), (ht_op, .inl (cI, 30, .inl t_op)), (ht_to, .inl (cI, 31, .inl t_to)), (ht_variable, .inl (cI, 6, .inl t_variable)), (ht_stack, .inl (cI, 64, .inl t_stack)), (ht_output, .inl (cI, 20, .inl t_output))] H) (hD : va_D A [(ht, .inr (6, [.ref ht_op, .ref ht_to, .ref ht_newOp, .ref ht_newTo, .ref ht_draft, .ref ht_text, .int t_many, .int t_letters, .int t_length, .int t_where, .int t_tree, .ref ht_todo, .ref ht_with, .ref ht_holes, .int t_top, .int t_hole, .int t_at, .int t_made, .ref ht_variable, .ref ht_stack, .ref ht_signs, .ref ht_output, .ref ht_blocks, .int q1.2, .int t_signsHigh, .int t_printed, .int (t_done + (1 : Int32)), .int t_value])), (ht_op, .inl (cI, 30, .inl t_op)), (ht_to, .inl (cI, 31, .inl t_to)), (ht_variable, .inl (cI, 6, .inl t_variable)), (ht_stack, .inl (cI, 64, .inl t_stack)), (ht_output, .inl (cI, 20, .inl t_output))]) hS => ?_)
                        refine lv_istore (lv' := [(6, .int q1.1), (3, .int (v3 + (1 : Int32))), (5, .int (t_to v3.toNatClampNeg)), (4, .int (t_op v3.toNatClampNeg)), (0, .ref ht), (2, .int v2)]) hx hb d_M_run_204 hl (by decide) rfl (fun ls hl => ?_)
                        refine lv_aload_n hx hb d_M_run_206 rfl (lv_at hl 4 rfl) ?_
                        obtain ⟨q2, hc, h⟩ := g_bd h
                        refine gk_i (va_runV (As := []) (rest := []) ⟨hx, hb, hml, hown, hts⟩ (c_M_take l D cI cC ht ht_op ht_to ht_newOp ht_newTo ht_draft ht_text ht_todo ht_with ht_holes ht_variable ht_stack ht_signs ht_output ht_blocks t_many t_letters t_length t_where t_tree t_top t_hole t_at t_made q1.2 t_signsHigh t_printed (t_done + (1 : Int32)) t_value t_stack q2 hc _) (cwV 0 hts (gG_V mt_4_129 mt_4_131 mp_43 mt_1_7 mt_4_132) rfl rfl rfl (by decide +kernel) ⟨Nat.le_of_ble_eq_true rfl, Nat.le_of_ble_eq_true rfl⟩) (gpV hK hP hD [0, 4] rfl (by decide) (ci := 6) 0 rfl rfl) rfl rfl hl.1 rfl (lv_room (Nat.le_of_ble_eq_true rfl)) d_M_run_207 ⟨Nat.zero_le _, Nat.zero_le _⟩) hK hP hD hS hA [0, 4] rfl (by decide) rfl rfl (fun H locs (hP : va_P D vwCl [(ht, .inr (6, [.ref ht_op, .ref ht_to, .ref ht_newOp, .ref ht_newTo, .ref ht_draft, .ref ht_text, .int t_many, .int t_letters, .int t_length, .int t_where, .int t_tree, .ref ht_todo, .ref ht_with, .ref ht_holes, .int t_top, .int t_hole, .int t_at, .int t_made, .ref ht_variable, .ref ht_stack, .ref ht_signs, .ref ht_output, .ref ht_blocks, .int q2.2, .int t_signsHigh, .int t_printed, .int (t_done + (1 : Int32)), .int t_value])), (ht_op, .inl (cI, 30, .inl t_op)), (ht_to, .inl (cI, 31, .inl t_to)), (ht_variable, .inl (cI, 6, .inl t_variable)), (ht_stack, .inl (cI, 64, .inl t_stack)), (ht_output, .inl (cI, 20, .inl t_output))] H) (hD : va_D A [(ht, .inr (6, [.ref ht_op, .ref ht_to, .ref ht_newOp, .ref ht_newTo, .ref ht_draft, .ref ht_text, .int t_many, .int t_letters, .int t_length, .int t_where, .int t_tree, .ref ht_todo, .ref ht_with, .ref ht_holes, .int t_top, .int t_hole, .int t_at, .int t_made, .ref ht_variable, .ref ht_stack, .ref ht_signs, .ref ht_output, .ref ht_blocks, .int q2.2, .int t_signsHigh, .int t_printed, .int (t_done + (1 : Int32)), .int t_value])), (ht_op, .inl (cI, 30, .inl t_op)), (ht_to, .inl (cI, 31, .inl t_to)), (ht_variable, .inl (cI, 6, .inl t_variable)), (ht_stack, .inl (cI, 64, .inl t_stack)), (ht_output, .inl (cI, 20, .inl t_output))]) hS => ?_)
                        refine lv_istore (lv' := [(7, .int q2.1), (6, .int q1.1), (3, .int (v3 + (1 : Int32))), (5, .int (t_to v3.toNatClampNeg)), (4, .int (t_op v3.toNatClampNeg)), (0, .ref ht), (2, .int v2)]) hx hb d_M_run_210 hl (by decide) rfl (fun ls hl => ?_)
                        refine lv_aload_n hx hb d_M_run_212 rfl (lv_at hl 5 rfl) ?_
                        refine lv_iload hx hb d_M_run_213 (lv_at hl 4 rfl) ?_
                        refine lv_iload hx hb d_M_run_215 (lv_at hl 0 rfl) ?_
                        refine lv_iload hx hb d_M_run_217 (lv_at hl 1 rfl) ?_
                        obtain ⟨q3, hc, h⟩ := g_bd h
                        refine gk_i (va_runS (As := [.int (t_op v3.toNatClampNeg), .int q2.1, .int q1.1]) (rest := [.ref ht]) ⟨hx, hb, hml, hown, hts⟩ (c_M_both l D cI cC (t_op v3.toNatClampNeg) q2.1 q1.1 q3 hc _) (va_cwS 3 hts (gG_S mt_4_137 mt_4_138 mt_1_7 mt_4_139) rfl rfl rfl (by decide +kernel) ⟨Nat.le_of_ble_eq_true rfl, Nat.le_of_ble_eq_true rfl⟩) (gpS hK hP hD [] rfl (by decide)) rfl rfl hl.1 rfl (lv_room (Nat.le_of_ble_eq_true rfl)) d_M_run_219 ⟨Nat.zero_le _, Nat.zero_le _⟩) hK hP hD hS hA [] rfl (by decide) rfl rfl (fun H locs (hP : va_P D vwCl [(ht, .inr (6, [.ref ht_op, .ref ht_to, .ref ht_newOp, .ref ht_newTo, .ref ht_draft, .ref ht_text, .int t_many, .int t_letters, .int t_length, .int t_where, .int t_tree, .ref ht_todo, .ref ht_with, .ref ht_holes, .int t_top, .int t_hole, .int t_at, .int t_made, .ref ht_variable, .ref ht_stack, .ref ht_signs, .ref ht_output, .ref ht_blocks, .int q2.2, .int t_signsHigh, .int t_printed, .int (t_done + (1 : Int32)), .int t_value])), (ht_op, .inl (cI, 30, .inl t_op)), (ht_to, .inl (cI, 31, .inl t_to)), (ht_variable, .inl (cI, 6, .inl t_variable)), (ht_stack, .inl (cI, 64, .inl t_stack)), (ht_output, .inl (cI, 20, .inl t_output))] H) (hD : va_D A [(ht, .inr (6, [.ref ht_op, .ref ht_to, .ref ht_newOp, .ref ht_newTo, .ref ht_draft, .ref ht_text, .int t_many, .int t_letters, .int t_length, .int t_where, .int t_tree, .ref ht_todo, .ref ht_with, .ref ht_holes, .int t_top, .int t_hole, .int t_at, .int t_made, .ref ht_variable, .ref ht_stack, .ref ht_signs, .ref ht_output, .ref ht_blocks, .int q2.2, .int t_signsHigh, .int t_printed, .int (t_done + (1 : Int32)), .int t_value])), (ht_op, .inl (cI, 30, .inl t_op)), (ht_to, .inl (cI, 31, .inl t_to)), (ht_variable, .inl (cI, 6, .inl t_variable)), (ht_stack, .inl (cI, 64, .inl t_stack)), (ht_output, .inl (cI, 20, .inl t_output))]) hS => ?_)
                        obtain ⟨q4, hc, h⟩ := g_bd h
                        refine gk_v (va_runV (As := [.int q3]) (rest := []) ⟨hx, hb, hml, hown, hts⟩ (c_M_come l D cI cC ht ht_op ht_to ht_newOp ht_newTo ht_draft ht_text ht_todo ht_with ht_holes ht_variable ht_stack ht_signs ht_output ht_blocks t_many t_letters t_length t_where t_tree t_top t_hole t_at t_made q2.2 t_signsHigh t_printed (t_done + (1 : Int32)) t_value t_stack q3 q4 hc _) (cwV 1 hts (gG_V mt_4_125 mt_4_127 mp_42 mt_1_7 mt_4_128) rfl rfl rfl (by decide +kernel) ⟨Nat.le_of_ble_eq_true rfl, Nat.le_of_ble_eq_true rfl⟩) (gpV hK hP hD [0, 4] rfl (by decide) (ci := 6) 0 rfl rfl) rfl rfl hl.1 rfl (lv_room (Nat.le_of_ble_eq_true rfl)) d_M_run_222 ⟨Nat.zero_le _, Nat.zero_le _⟩) hK hP hD hS hA [0, 4] rfl (by decide) rfl rfl (fun H locs (hP : va_P D vwCl [(ht, .inr (6, [.ref ht_op, .ref ht_to, .ref ht_newOp, .ref ht_newTo, .ref ht_draft, .ref ht_text, .int t_many, .int t_letters, .int t_length, .int t_where, .int t_tree, .ref ht_todo, .ref ht_with, .ref ht_holes, .int t_top, .int t_hole, .int t_at, .int t_made, .ref ht_variable, .ref ht_stack, .ref ht_signs, .ref ht_output, .ref ht_blocks, .int q4.2, .int t_signsHigh, .int t_printed, .int (t_done + (1 : Int32)), .int t_value])), (ht_op, .inl (cI, 30, .inl t_op)), (ht_to, .inl (cI, 31, .inl t_to)), (ht_variable, .inl (cI, 6, .inl t_variable)), (ht_stack, .inl (cI, 64, .inl q4.1)), (ht_output, .inl (cI, 20, .inl t_output))] H) (hD : va_D A [(ht, .inr (6, [.ref ht_op, .ref ht_to, .ref ht_newOp, .ref ht_newTo, .ref ht_draft, .ref ht_text, .int t_many, .int t_letters, .int t_length, .int t_where, .int t_tree, .ref ht_todo, .ref ht_with, .ref ht_holes, .int t_top, .int t_hole, .int t_at, .int t_made, .ref ht_variable, .ref ht_stack, .ref ht_signs, .ref ht_output, .ref ht_blocks, .int q4.2, .int t_signsHigh, .int t_printed, .int (t_done + (1 : Int32)), .int t_value])), (ht_op, .inl (cI, 30, .inl t_op)), (ht_to, .inl (cI, 31, .inl t_to)), (ht_variable, .inl (cI, 6, .inl t_variable)), (ht_stack, .inl (cI, 64, .inl q4.1)), (ht_output, .inl (cI, 20, .inl t_output))]) hS => ?_)
                        refine lv_goto (tgt := 20) hx hb d_M_run_225 (by decide) ?_
                        exact ih_20 _ _ _ _ _ _ _ _ h _ _ _ hP hD hS (lv_sub hl [5, 6, 2] rfl)
                      · have h := g_t ec h
                        refine lv_aload_n hx hb d_M_run_189 rfl (lv_at hl 3 rfl) ?_
                        refine lv_aload_n hx hb d_M_run_190 rfl (lv_at hl 3 rfl) ?_
                        obtain ⟨q5, hc, h⟩ := g_bd h
                        refine gk_i (va_runV (As := []) (rest := [.ref ht]) ⟨hx, hb, hml, hown, hts⟩ (c_M_take l D cI cC ht ht_op ht_to ht_newOp ht_newTo ht_draft ht_text ht_todo ht_with ht_holes ht_variable ht_stack ht_signs ht_output ht_blocks t_many t_letters t_length t_where t_tree t_top t_hole t_at t_made t_high t_signsHigh t_printed (t_done + (1 : Int32)) t_value t_stack q5 hc _) (cwV 0 hts (gG_V mt_4_129 mt_4_131 mp_43 mt_1_7 mt_4_132) rfl rfl rfl (by decide +kernel) ⟨Nat.le_of_ble_eq_true rfl, Nat.le_of_ble_eq_true rfl⟩) (gpV hK hP hD [0, 4] rfl (by decide) (ci := 6) 0 rfl rfl) rfl rfl hl.1 rfl (lv_room (Nat.le_of_ble_eq_true rfl)) d_M_run_191 ⟨Nat.zero_le _, Nat.zero_le _⟩) hK hP hD hS hA [0, 4] rfl (by decide) rfl rfl (fun H locs (hP : va_P D vwCl [(ht, .inr (6, [.ref ht_op, .ref ht_to, .ref ht_newOp, .ref ht_newTo, .ref ht_draft, .ref ht_text, .int t_many, .int t_letters, .int t_length, .int t_where, .int t_tree, .ref ht_todo, .ref ht_with, .ref ht_holes, .int t_top, .int t_hole, .int t_at, .int t_made, .ref ht_variable, .ref ht_stack, .ref ht_signs, .ref ht_output, .ref ht_blocks, .int q5.2, .int t_signsHigh, .int t_printed, .int (t_done + (1 : Int32)), .int t_value])), (ht_op, .inl (cI, 30, .inl t_op)), (ht_to, .inl (cI, 31, .inl t_to)), (ht_variable, .inl (cI, 6, .inl t_variable)), (ht_stack, .inl (cI, 64, .inl t_stack)), (ht_output, .inl (cI, 20, .inl t_output))] H) (hD : va_D A [(ht, .inr (6, [.ref ht_op, .ref ht_to, .ref ht_newOp, .ref ht_newTo, .ref ht_draft, .ref ht_text, .int t_many, .int t_letters, .int t_length, .int t_where, .int t_tree, .ref ht_todo, .ref ht_with, .ref ht_holes, .int t_top, .int t_hole, .int t_at, .int t_made, .ref ht_variable, .ref ht_stack, .ref ht_signs, .ref ht_output, .ref ht_blocks, .int q5.2, .int t_signsHigh, .int t_printed, .int (t_done + (1 : Int32)), .int t_value])), (ht_op, .inl (cI, 30, .inl t_op)), (ht_to, .inl (cI, 31, .inl t_to)), (ht_variable, .inl (cI, 6, .inl t_variable)), (ht_stack, .inl (cI, 64, .inl t_stack)), (ht_output, .inl (cI, 20, .inl t_output))]) hS => ?_)
                        obtain ⟨q6, hc, h⟩ := g_bd h
                        refine gk_v (va_runV (As := [.int q5.1]) (rest := []) ⟨hx, hb, hml, hown, hts⟩ (c_M_print l D cI cC ht ht_op ht_to ht_newOp ht_newTo ht_draft ht_text ht_todo ht_with ht_holes ht_variable ht_stack ht_signs ht_output ht_blocks t_many t_letters t_length t_where t_tree t_top t_hole t_at t_made q5.2 t_signsHigh t_printed (t_done + (1 : Int32)) t_value t_output q5.1 q6 hc _) (cwV 1 hts (gG_V mt_4_133 mt_4_135 mp_44 mt_1_7 mt_4_136) rfl rfl rfl (by decide +kernel) ⟨Nat.le_of_ble_eq_true rfl, Nat.le_of_ble_eq_true rfl⟩) (gpV hK hP hD [0, 5] rfl (by decide) (ci := 6) 0 rfl rfl) rfl rfl hl.1 rfl (lv_room (Nat.le_of_ble_eq_true rfl)) d_M_run_194 ⟨Nat.zero_le _, Nat.zero_le _⟩) hK hP hD hS hA [0, 5] rfl (by decide) rfl rfl (fun H locs (hP : va_P D vwCl [(ht, .inr (6, [.ref ht_op, .ref ht_to, .ref ht_newOp, .ref ht_newTo, .ref ht_draft, .ref ht_text, .int t_many, .int t_letters, .int t_length, .int t_where, .int t_tree, .ref ht_todo, .ref ht_with, .ref ht_holes, .int t_top, .int t_hole, .int t_at, .int t_made, .ref ht_variable, .ref ht_stack, .ref ht_signs, .ref ht_output, .ref ht_blocks, .int q5.2, .int t_signsHigh, .int q6.2, .int (t_done + (1 : Int32)), .int t_value])), (ht_op, .inl (cI, 30, .inl t_op)), (ht_to, .inl (cI, 31, .inl t_to)), (ht_variable, .inl (cI, 6, .inl t_variable)), (ht_stack, .inl (cI, 64, .inl t_stack)), (ht_output, .inl (cI, 20, .inl q6.1))] H) (hD : va_D A [(ht, .inr (6, [.ref ht_op, .ref ht_to, .ref ht_newOp, .ref ht_newTo, .ref ht_draft, .ref ht_text, .int t_many, .int t_letters, .int t_length, .int t_where, .int t_tree, .ref ht_todo, .ref ht_with, .ref ht_holes, .int t_top, .int t_hole, .int t_at, .int t_made, .ref ht_variable, .ref ht_stack, .ref ht_signs, .ref ht_output, .ref ht_blocks, .int q5.2, .int t_signsHigh, .int q6.2, .int (t_done + (1 : Int32)), .int t_value])), (ht_op, .inl (cI, 30, .inl t_op)), (ht_to, .inl (cI, 31, .inl t_to)), (ht_variable, .inl (cI, 6, .inl t_variable)), (ht_stack, .inl (cI, 64, .inl t_stack)), (ht_output, .inl (cI, 20, .inl q6.1))]) hS => ?_)
                        refine lv_goto (tgt := 225) hx hb d_M_run_197 (by decide) ?_
                        refine lv_goto (tgt := 20) hx hb d_M_run_225 (by decide) ?_
                        exact ih_20 _ _ _ _ _ _ _ _ h _ _ _ hP hD hS (lv_sub hl [3, 4, 0] rfl)
                    · have h := g_t ec h
                      refine lv_aload_n hx hb d_M_run_165 rfl (lv_at hl 3 rfl) ?_
                      obtain ⟨q7, hc, h⟩ := g_bd h
                      refine gk_i (va_runV (As := []) (rest := []) ⟨hx, hb, hml, hown, hts⟩ (c_M_take l D cI cC ht ht_op ht_to ht_newOp ht_newTo ht_draft ht_text ht_todo ht_with ht_holes ht_variable ht_stack ht_signs ht_output ht_blocks t_many t_letters t_length t_where t_tree t_top t_hole t_at t_made t_high t_signsHigh t_printed (t_done + (1 : Int32)) t_value t_stack q7 hc _) (cwV 0 hts (gG_V mt_4_129 mt_4_131 mp_43 mt_1_7 mt_4_132) rfl rfl rfl (by decide +kernel) ⟨Nat.le_of_ble_eq_true rfl, Nat.le_of_ble_eq_true rfl⟩) (gpV hK hP hD [0, 4] rfl (by decide) (ci := 6) 0 rfl rfl) rfl rfl hl.1 rfl (lv_room (Nat.le_of_ble_eq_true rfl)) d_M_run_166 ⟨Nat.zero_le _, Nat.zero_le _⟩) hK hP hD hS hA [0, 4] rfl (by decide) rfl rfl (fun H locs (hP : va_P D vwCl [(ht, .inr (6, [.ref ht_op, .ref ht_to, .ref ht_newOp, .ref ht_newTo, .ref ht_draft, .ref ht_text, .int t_many, .int t_letters, .int t_length, .int t_where, .int t_tree, .ref ht_todo, .ref ht_with, .ref ht_holes, .int t_top, .int t_hole, .int t_at, .int t_made, .ref ht_variable, .ref ht_stack, .ref ht_signs, .ref ht_output, .ref ht_blocks, .int q7.2, .int t_signsHigh, .int t_printed, .int (t_done + (1 : Int32)), .int t_value])), (ht_op, .inl (cI, 30, .inl t_op)), (ht_to, .inl (cI, 31, .inl t_to)), (ht_variable, .inl (cI, 6, .inl t_variable)), (ht_stack, .inl (cI, 64, .inl t_stack)), (ht_output, .inl (cI, 20, .inl t_output))] H) (hD : va_D A [(ht, .inr (6, [.ref ht_op, .ref ht_to, .ref ht_newOp, .ref ht_newTo, .ref ht_draft, .ref ht_text, .int t_many, .int t_letters, .int t_length, .int t_where, .int t_tree, .ref ht_todo, .ref ht_with, .ref ht_holes, .int t_top, .int t_hole, .int t_at, .int t_made, .ref ht_variable, .ref ht_stack, .ref ht_signs, .ref ht_output, .ref ht_blocks, .int q7.2, .int t_signsHigh, .int t_printed, .int (t_done + (1 : Int32)), .int t_value])), (ht_op, .inl (cI, 30, .inl t_op)), (ht_to, .inl (cI, 31, .inl t_to)), (ht_variable, .inl (cI, 6, .inl t_variable)), (ht_stack, .inl (cI, 64, .inl t_stack)), (ht_output, .inl (cI, 20, .inl t_output))]) hS => ?_)
                      refine lv_if_ne (tgt := 177) hx hb d_M_run_169 (by decide) (fun ec => ?_) (fun ec => ?_)
                      · have h := g_f ec h
                        refine lv_iload_n hx hb d_M_run_177 rfl (lv_at hl 0 rfl) ?_
                        refine lv_istore_n (lv' := [(3, .int (v3 + (1 : Int32))), (5, .int (t_to v3.toNatClampNeg)), (4, .int (t_op v3.toNatClampNeg)), (0, .ref ht), (2, .int v2)]) hx hb d_M_run_178 rfl hl (by decide) rfl (fun ls hl => ?_)
                        refine lv_goto (tgt := 225) hx hb d_M_run_179 (by decide) ?_
                        refine lv_goto (tgt := 20) hx hb d_M_run_225 (by decide) ?_
                        exact ih_20 _ _ _ _ _ _ _ _ h _ _ _ hP hD hS (lv_sub hl [3, 4, 0] rfl)
                      · have h := g_t ec h
                        refine lv_iload hx hb d_M_run_172 (lv_at hl 1 rfl) ?_
                        refine lv_goto (tgt := 178) hx hb d_M_run_174 (by decide) ?_
                        refine lv_istore_n (lv' := [(3, .int (t_to v3.toNatClampNeg)), (5, .int (t_to v3.toNatClampNeg)), (4, .int (t_op v3.toNatClampNeg)), (0, .ref ht), (2, .int v2)]) hx hb d_M_run_178 rfl hl (by decide) rfl (fun ls hl => ?_)
                        refine lv_goto (tgt := 225) hx hb d_M_run_179 (by decide) ?_
                        refine lv_goto (tgt := 20) hx hb d_M_run_225 (by decide) ?_
                        exact ih_20 _ _ _ _ _ _ _ _ h _ _ _ hP hD hS (lv_sub hl [3, 4, 0] rfl)
                  · have h := g_t ec h
                    refine lv_iload hx hb d_M_run_152 (lv_at hl 1 rfl) ?_
                    refine lv_istore_n (lv' := [(3, .int (t_to v3.toNatClampNeg)), (5, .int (t_to v3.toNatClampNeg)), (4, .int (t_op v3.toNatClampNeg)), (0, .ref ht), (2, .int v2)]) hx hb d_M_run_154 rfl hl (by decide) rfl (fun ls hl => ?_)
                    refine lv_goto (tgt := 225) hx hb d_M_run_155 (by decide) ?_
                    refine lv_goto (tgt := 20) hx hb d_M_run_225 (by decide) ?_
                    exact ih_20 _ _ _ _ _ _ _ _ h _ _ _ hP hD hS (lv_sub hl [3, 4, 0] rfl)
                · have h := g_t ec h
                  refine lv_aload_n hx hb d_M_run_126 rfl (lv_at hl 3 rfl) ?_
                  refine lv_aload_n hx hb d_M_run_127 rfl (lv_at hl 3 rfl) ?_
                  obtain ⟨q8, hc, h⟩ := g_bd h
                  refine gk_i (va_runV (As := []) (rest := [.ref ht]) ⟨hx, hb, hml, hown, hts⟩ (c_M_take l D cI cC ht ht_op ht_to ht_newOp ht_newTo ht_draft ht_text ht_todo ht_with ht_holes ht_variable ht_stack ht_signs ht_output ht_blocks t_many t_letters t_length t_where t_tree t_top t_hole t_at t_made t_high t_signsHigh t_printed (t_done + (1 : Int32)) t_value t_stack q8 hc _) (cwV 0 hts (gG_V mt_4_129 mt_4_131 mp_43 mt_1_7 mt_4_132) rfl rfl rfl (by decide +kernel) ⟨Nat.le_of_ble_eq_true rfl, Nat.le_of_ble_eq_true rfl⟩) (gpV hK hP hD [0, 4] rfl (by decide) (ci := 6) 0 rfl rfl) rfl rfl hl.1 rfl (lv_room (Nat.le_of_ble_eq_true rfl)) d_M_run_128 ⟨Nat.zero_le _, Nat.zero_le _⟩) hK hP hD hS hA [0, 4] rfl (by decide) rfl rfl (fun H locs (hP : va_P D vwCl [(ht, .inr (6, [.ref ht_op, .ref ht_to, .ref ht_newOp, .ref ht_newTo, .ref ht_draft, .ref ht_text, .int t_many, .int t_letters, .int t_length, .int t_where, .int t_tree, .ref ht_todo, .ref ht_with, .ref ht_holes, .int t_top, .int t_hole, .int t_at, .int t_made, .ref ht_variable, .ref ht_stack, .ref ht_signs, .ref ht_output, .ref ht_blocks, .int q8.2, .int t_signsHigh, .int t_printed, .int (t_done + (1 : Int32)), .int t_value])), (ht_op, .inl (cI, 30, .inl t_op)), (ht_to, .inl (cI, 31, .inl t_to)), (ht_variable, .inl (cI, 6, .inl t_variable)), (ht_stack, .inl (cI, 64, .inl t_stack)), (ht_output, .inl (cI, 20, .inl t_output))] H) (hD : va_D A [(ht, .inr (6, [.ref ht_op, .ref ht_to, .ref ht_newOp, .ref ht_newTo, .ref ht_draft, .ref ht_text, .int t_many, .int t_letters, .int t_length, .int t_where, .int t_tree, .ref ht_todo, .ref ht_with, .ref ht_holes, .int t_top, .int t_hole, .int t_at, .int t_made, .ref ht_variable, .ref ht_stack, .ref ht_signs, .ref ht_output, .ref ht_blocks, .int q8.2, .int t_signsHigh, .int t_printed, .int (t_done + (1 : Int32)), .int t_value])), (ht_op, .inl (cI, 30, .inl t_op)), (ht_to, .inl (cI, 31, .inl t_to)), (ht_variable, .inl (cI, 6, .inl t_variable)), (ht_stack, .inl (cI, 64, .inl t_stack)), (ht_output, .inl (cI, 20, .inl t_output))]) hS => ?_)
                  refine lv_if_ne (tgt := 138) hx hb d_M_run_131 (by decide) (fun ec => ?_) (fun ec => ?_)
                  · have h := g_f ec h
                    refine lv_iconst (v := (0 : Int32)) hx hb d_M_run_138 (by decide) ?_
                    obtain ⟨q9, hc, h⟩ := g_bd h
                    refine gk_v (va_runV (As := [.int (0 : Int32)]) (rest := []) ⟨hx, hb, hml, hown, hts⟩ (c_M_come l D cI cC ht ht_op ht_to ht_newOp ht_newTo ht_draft ht_text ht_todo ht_with ht_holes ht_variable ht_stack ht_signs ht_output ht_blocks t_many t_letters t_length t_where t_tree t_top t_hole t_at t_made q8.2 t_signsHigh t_printed (t_done + (1 : Int32)) t_value t_stack (0 : Int32) q9 hc _) (cwV 1 hts (gG_V mt_4_125 mt_4_127 mp_42 mt_1_7 mt_4_128) rfl rfl rfl (by decide +kernel) ⟨Nat.le_of_ble_eq_true rfl, Nat.le_of_ble_eq_true rfl⟩) (gpV hK hP hD [0, 4] rfl (by decide) (ci := 6) 0 rfl rfl) rfl rfl hl.1 rfl (lv_room (Nat.le_of_ble_eq_true rfl)) d_M_run_139 ⟨Nat.zero_le _, Nat.zero_le _⟩) hK hP hD hS hA [0, 4] rfl (by decide) rfl rfl (fun H locs (hP : va_P D vwCl [(ht, .inr (6, [.ref ht_op, .ref ht_to, .ref ht_newOp, .ref ht_newTo, .ref ht_draft, .ref ht_text, .int t_many, .int t_letters, .int t_length, .int t_where, .int t_tree, .ref ht_todo, .ref ht_with, .ref ht_holes, .int t_top, .int t_hole, .int t_at, .int t_made, .ref ht_variable, .ref ht_stack, .ref ht_signs, .ref ht_output, .ref ht_blocks, .int q9.2, .int t_signsHigh, .int t_printed, .int (t_done + (1 : Int32)), .int t_value])), (ht_op, .inl (cI, 30, .inl t_op)), (ht_to, .inl (cI, 31, .inl t_to)), (ht_variable, .inl (cI, 6, .inl t_variable)), (ht_stack, .inl (cI, 64, .inl q9.1)), (ht_output, .inl (cI, 20, .inl t_output))] H) (hD : va_D A [(ht, .inr (6, [.ref ht_op, .ref ht_to, .ref ht_newOp, .ref ht_newTo, .ref ht_draft, .ref ht_text, .int t_many, .int t_letters, .int t_length, .int t_where, .int t_tree, .ref ht_todo, .ref ht_with, .ref ht_holes, .int t_top, .int t_hole, .int t_at, .int t_made, .ref ht_variable, .ref ht_stack, .ref ht_signs, .ref ht_output, .ref ht_blocks, .int q9.2, .int t_signsHigh, .int t_printed, .int (t_done + (1 : Int32)), .int t_value])), (ht_op, .inl (cI, 30, .inl t_op)), (ht_to, .inl (cI, 31, .inl t_to)), (ht_variable, .inl (cI, 6, .inl t_variable)), (ht_stack, .inl (cI, 64, .inl q9.1)), (ht_output, .inl (cI, 20, .inl t_output))]) hS => ?_)
                    refine lv_goto (tgt := 225) hx hb d_M_run_142 (by decide) ?_
                    refine lv_goto (tgt := 20) hx hb d_M_run_225 (by decide) ?_
                    exact ih_20 _ _ _ _ _ _ _ _ h _ _ _ hP hD hS (lv_sub hl [3, 4, 0] rfl)
                  · have h := g_t ec h
                    refine lv_iconst (v := (1 : Int32)) hx hb d_M_run_134 (by decide) ?_
                    refine lv_goto (tgt := 139) hx hb d_M_run_135 (by decide) ?_
                    obtain ⟨q10, hc, h⟩ := g_bd h
                    refine gk_v (va_runV (As := [.int (1 : Int32)]) (rest := []) ⟨hx, hb, hml, hown, hts⟩ (c_M_come l D cI cC ht ht_op ht_to ht_newOp ht_newTo ht_draft ht_text ht_todo ht_with ht_holes ht_variable ht_stack ht_signs ht_output ht_blocks t_many t_letters t_length t_where t_tree t_top t_hole t_at t_made q8.2 t_signsHigh t_printed (t_done + (1 : Int32)) t_value t_stack (1 : Int32) q10 hc _) (cwV 1 hts (gG_V mt_4_125 mt_4_127 mp_42 mt_1_7 mt_4_128) rfl rfl rfl (by decide +kernel) ⟨Nat.le_of_ble_eq_true rfl, Nat.le_of_ble_eq_true rfl⟩) (gpV hK hP hD [0, 4] rfl (by decide) (ci := 6) 0 rfl rfl) rfl rfl hl.1 rfl (lv_room (Nat.le_of_ble_eq_true rfl)) d_M_run_139 ⟨Nat.zero_le _, Nat.zero_le _⟩) hK hP hD hS hA [0, 4] rfl (by decide) rfl rfl (fun H locs (hP : va_P D vwCl [(ht, .inr (6, [.ref ht_op, .ref ht_to, .ref ht_newOp, .ref ht_newTo, .ref ht_draft, .ref ht_text, .int t_many, .int t_letters, .int t_length, .int t_where, .int t_tree, .ref ht_todo, .ref ht_with, .ref ht_holes, .int t_top, .int t_hole, .int t_at, .int t_made, .ref ht_variable, .ref ht_stack, .ref ht_signs, .ref ht_output, .ref ht_blocks, .int q10.2, .int t_signsHigh, .int t_printed, .int (t_done + (1 : Int32)), .int t_value])), (ht_op, .inl (cI, 30, .inl t_op)), (ht_to, .inl (cI, 31, .inl t_to)), (ht_variable, .inl (cI, 6, .inl t_variable)), (ht_stack, .inl (cI, 64, .inl q10.1)), (ht_output, .inl (cI, 20, .inl t_output))] H) (hD : va_D A [(ht, .inr (6, [.ref ht_op, .ref ht_to, .ref ht_newOp, .ref ht_newTo, .ref ht_draft, .ref ht_text, .int t_many, .int t_letters, .int t_length, .int t_where, .int t_tree, .ref ht_todo, .ref ht_with, .ref ht_holes, .int t_top, .int t_hole, .int t_at, .int t_made, .ref ht_variable, .ref ht_stack, .ref ht_signs, .ref ht_output, .ref ht_blocks, .int q10.2, .int t_signsHigh, .int t_printed, .int (t_done + (1 : Int32)), .int t_value])), (ht_op, .inl (cI, 30, .inl t_op)), (ht_to, .inl (cI, 31, .inl t_to)), (ht_variable, .inl (cI, 6, .inl t_variable)), (ht_stack, .inl (cI, 64, .inl q10.1)), (ht_output, .inl (cI, 20, .inl t_output))]) hS => ?_)
                    refine lv_goto (tgt := 225) hx hb d_M_run_142 (by decide) ?_
                    refine lv_goto (tgt := 20) hx hb d_M_run_225 (by decide) ?_
                    exact ih_20 _ _ _ _ _ _ _ _ h _ _ _ hP hD hS (lv_sub hl [3, 4, 0] rfl)
              · have h := g_t ec h
                refine lv_aload_n hx hb d_M_run_105 rfl (lv_at hl 3 rfl) ?_
                refine va_get (D := D) (ci := 6) (v := .ref ht_variable) (C := R_M) (T := F_M) (N := 28) hx hb hts u_M hown hK hP 0 rfl rfl 18 (by decide) f_41 (fun _ h9 => h9) rfl d_M_run_106 ?_
                refine lv_iload hx hb d_M_run_109 (lv_at hl 1 rfl) ?_
                refine lv_aload_n hx hb d_M_run_111 rfl (lv_at hl 3 rfl) ?_
                obtain ⟨q11, hc, h⟩ := g_bd h
                refine gk_i (va_runV (As := []) (rest := [.int (t_to v3.toNatClampNeg), .ref ht_variable]) ⟨hx, hb, hml, hown, hts⟩ (c_M_take l D cI cC ht ht_op ht_to ht_newOp ht_newTo ht_draft ht_text ht_todo ht_with ht_holes ht_variable ht_stack ht_signs ht_output ht_blocks t_many t_letters t_length t_where t_tree t_top t_hole t_at t_made t_high t_signsHigh t_printed (t_done + (1 : Int32)) t_value t_stack q11 hc _) (cwV 0 hts (gG_V mt_4_129 mt_4_131 mp_43 mt_1_7 mt_4_132) rfl rfl rfl (by decide +kernel) ⟨Nat.le_of_ble_eq_true rfl, Nat.le_of_ble_eq_true rfl⟩) (gpV hK hP hD [0, 4] rfl (by decide) (ci := 6) 0 rfl rfl) rfl rfl hl.1 rfl (lv_room (Nat.le_of_ble_eq_true rfl)) d_M_run_112 ⟨Nat.zero_le _, Nat.zero_le _⟩) hK hP hD hS hA [0, 4] rfl (by decide) rfl rfl (fun H locs (hP : va_P D vwCl [(ht, .inr (6, [.ref ht_op, .ref ht_to, .ref ht_newOp, .ref ht_newTo, .ref ht_draft, .ref ht_text, .int t_many, .int t_letters, .int t_length, .int t_where, .int t_tree, .ref ht_todo, .ref ht_with, .ref ht_holes, .int t_top, .int t_hole, .int t_at, .int t_made, .ref ht_variable, .ref ht_stack, .ref ht_signs, .ref ht_output, .ref ht_blocks, .int q11.2, .int t_signsHigh, .int t_printed, .int (t_done + (1 : Int32)), .int t_value])), (ht_op, .inl (cI, 30, .inl t_op)), (ht_to, .inl (cI, 31, .inl t_to)), (ht_variable, .inl (cI, 6, .inl t_variable)), (ht_stack, .inl (cI, 64, .inl t_stack)), (ht_output, .inl (cI, 20, .inl t_output))] H) (hD : va_D A [(ht, .inr (6, [.ref ht_op, .ref ht_to, .ref ht_newOp, .ref ht_newTo, .ref ht_draft, .ref ht_text, .int t_many, .int t_letters, .int t_length, .int t_where, .int t_tree, .ref ht_todo, .ref ht_with, .ref ht_holes, .int t_top, .int t_hole, .int t_at, .int t_made, .ref ht_variable, .ref ht_stack, .ref ht_signs, .ref ht_output, .ref ht_blocks, .int q11.2, .int t_signsHigh, .int t_printed, .int (t_done + (1 : Int32)), .int t_value])), (ht_op, .inl (cI, 30, .inl t_op)), (ht_to, .inl (cI, 31, .inl t_to)), (ht_variable, .inl (cI, 6, .inl t_variable)), (ht_stack, .inl (cI, 64, .inl t_stack)), (ht_output, .inl (cI, 20, .inl t_output))]) hS => ?_)
                obtain ⟨hi, h⟩ := g_ck h
                refine va_iast hx hb hK hP hD hS 3 0 rfl rfl hi d_M_run_115 (fun H locs (hP : va_P D vwCl [(ht, .inr (6, [.ref ht_op, .ref ht_to, .ref ht_newOp, .ref ht_newTo, .ref ht_draft, .ref ht_text, .int t_many, .int t_letters, .int t_length, .int t_where, .int t_tree, .ref ht_todo, .ref ht_with, .ref ht_holes, .int t_top, .int t_hole, .int t_at, .int t_made, .ref ht_variable, .ref ht_stack, .ref ht_signs, .ref ht_output, .ref ht_blocks, .int q11.2, .int t_signsHigh, .int t_printed, .int (t_done + (1 : Int32)), .int t_value])), (ht_op, .inl (cI, 30, .inl t_op)), (ht_to, .inl (cI, 31, .inl t_to)), (ht_variable, .inl (cI, 6, .inl (upd t_variable (t_to v3.toNatClampNeg).toNatClampNeg q11.1))), (ht_stack, .inl (cI, 64, .inl t_stack)), (ht_output, .inl (cI, 20, .inl t_output))] H) (hD : va_D A [(ht, .inr (6, [.ref ht_op, .ref ht_to, .ref ht_newOp, .ref ht_newTo, .ref ht_draft, .ref ht_text, .int t_many, .int t_letters, .int t_length, .int t_where, .int t_tree, .ref ht_todo, .ref ht_with, .ref ht_holes, .int t_top, .int t_hole, .int t_at, .int t_made, .ref ht_variable, .ref ht_stack, .ref ht_signs, .ref ht_output, .ref ht_blocks, .int q11.2, .int t_signsHigh, .int t_printed, .int (t_done + (1 : Int32)), .int t_value])), (ht_op, .inl (cI, 30, .inl t_op)), (ht_to, .inl (cI, 31, .inl t_to)), (ht_variable, .inl (cI, 6, .inl (upd t_variable (t_to v3.toNatClampNeg).toNatClampNeg q11.1))), (ht_stack, .inl (cI, 64, .inl t_stack)), (ht_output, .inl (cI, 20, .inl t_output))]) hS => ?_)
                refine lv_goto (tgt := 225) hx hb d_M_run_116 (by decide) ?_
                refine lv_goto (tgt := 20) hx hb d_M_run_225 (by decide) ?_
                exact ih_20 _ _ _ _ _ _ _ _ h _ _ _ hP hD hS (lv_sub hl [3, 4, 0] rfl)
            · have h := g_t ec h
              refine lv_aload_n hx hb d_M_run_85 rfl (lv_at hl 3 rfl) ?_
              refine lv_aload_n hx hb d_M_run_86 rfl (lv_at hl 3 rfl) ?_
              refine va_get (D := D) (ci := 6) (v := .ref ht_variable) (C := R_M) (T := F_M) (N := 28) hx hb hts u_M hown hK hP 0 rfl rfl 18 (by decide) f_41 (fun _ h9 => h9) rfl d_M_run_87 ?_
              refine lv_iload hx hb d_M_run_90 (lv_at hl 1 rfl) ?_
              obtain ⟨hi, h⟩ := g_ck h
              refine va_iald hx hb hK hP 3 0 rfl rfl hi d_M_run_92 ?_
              obtain ⟨q12, hc, h⟩ := g_bd h
              refine gk_v (va_runV (As := [.int (t_variable (t_to v3.toNatClampNeg).toNatClampNeg)]) (rest := []) ⟨hx, hb, hml, hown, hts⟩ (c_M_come l D cI cC ht ht_op ht_to ht_newOp ht_newTo ht_draft ht_text ht_todo ht_with ht_holes ht_variable ht_stack ht_signs ht_output ht_blocks t_many t_letters t_length t_where t_tree t_top t_hole t_at t_made t_high t_signsHigh t_printed (t_done + (1 : Int32)) t_value t_stack (t_variable (t_to v3.toNatClampNeg).toNatClampNeg) q12 hc _) (cwV 1 hts (gG_V mt_4_125 mt_4_127 mp_42 mt_1_7 mt_4_128) rfl rfl rfl (by decide +kernel) ⟨Nat.le_of_ble_eq_true rfl, Nat.le_of_ble_eq_true rfl⟩) (gpV hK hP hD [0, 4] rfl (by decide) (ci := 6) 0 rfl rfl) rfl rfl hl.1 rfl (lv_room (Nat.le_of_ble_eq_true rfl)) d_M_run_93 ⟨Nat.zero_le _, Nat.zero_le _⟩) hK hP hD hS hA [0, 4] rfl (by decide) rfl rfl (fun H locs (hP : va_P D vwCl [(ht, .inr (6, [.ref ht_op, .ref ht_to, .ref ht_newOp, .ref ht_newTo, .ref ht_draft, .ref ht_text, .int t_many, .int t_letters, .int t_length, .int t_where, .int t_tree, .ref ht_todo, .ref ht_with, .ref ht_holes, .int t_top, .int t_hole, .int t_at, .int t_made, .ref ht_variable, .ref ht_stack, .ref ht_signs, .ref ht_output, .ref ht_blocks, .int q12.2, .int t_signsHigh, .int t_printed, .int (t_done + (1 : Int32)), .int t_value])), (ht_op, .inl (cI, 30, .inl t_op)), (ht_to, .inl (cI, 31, .inl t_to)), (ht_variable, .inl (cI, 6, .inl t_variable)), (ht_stack, .inl (cI, 64, .inl q12.1)), (ht_output, .inl (cI, 20, .inl t_output))] H) (hD : va_D A [(ht, .inr (6, [.ref ht_op, .ref ht_to, .ref ht_newOp, .ref ht_newTo, .ref ht_draft, .ref ht_text, .int t_many, .int t_letters, .int t_length, .int t_where, .int t_tree, .ref ht_todo, .ref ht_with, .ref ht_holes, .int t_top, .int t_hole, .int t_at, .int t_made, .ref ht_variable, .ref ht_stack, .ref ht_signs, .ref ht_output, .ref ht_blocks, .int q12.2, .int t_signsHigh, .int t_printed, .int (t_done + (1 : Int32)), .int t_value])), (ht_op, .inl (cI, 30, .inl t_op)), (ht_to, .inl (cI, 31, .inl t_to)), (ht_variable, .inl (cI, 6, .inl t_variable)), (ht_stack, .inl (cI, 64, .inl q12.1)), (ht_output, .inl (cI, 20, .inl t_output))]) hS => ?_)
              refine lv_goto (tgt := 225) hx hb d_M_run_96 (by decide) ?_
              refine lv_goto (tgt := 20) hx hb d_M_run_225 (by decide) ?_
              exact ih_20 _ _ _ _ _ _ _ _ h _ _ _ hP hD hS (lv_sub hl [3, 4, 0] rfl)
          · have h := g_t ec h
            refine lv_aload_n hx hb d_M_run_70 rfl (lv_at hl 3 rfl) ?_
            refine lv_iload hx hb d_M_run_71 (lv_at hl 1 rfl) ?_
            obtain ⟨q13, hc, h⟩ := g_bd h
            refine gk_v (va_runV (As := [.int (t_to v3.toNatClampNeg)]) (rest := []) ⟨hx, hb, hml, hown, hts⟩ (c_M_come l D cI cC ht ht_op ht_to ht_newOp ht_newTo ht_draft ht_text ht_todo ht_with ht_holes ht_variable ht_stack ht_signs ht_output ht_blocks t_many t_letters t_length t_where t_tree t_top t_hole t_at t_made t_high t_signsHigh t_printed (t_done + (1 : Int32)) t_value t_stack (t_to v3.toNatClampNeg) q13 hc _) (cwV 1 hts (gG_V mt_4_125 mt_4_127 mp_42 mt_1_7 mt_4_128) rfl rfl rfl (by decide +kernel) ⟨Nat.le_of_ble_eq_true rfl, Nat.le_of_ble_eq_true rfl⟩) (gpV hK hP hD [0, 4] rfl (by decide) (ci := 6) 0 rfl rfl) rfl rfl hl.1 rfl (lv_room (Nat.le_of_ble_eq_true rfl)) d_M_run_73 ⟨Nat.zero_le _, Nat.zero_le _⟩) hK hP hD hS hA [0, 4] rfl (by decide) rfl rfl (fun H locs (hP : va_P D vwCl [(ht, .inr (6, [.ref ht_op, .ref ht_to, .ref ht_newOp, .ref ht_newTo, .ref ht_draft, .ref ht_text, .int t_many, .int t_letters, .int t_length, .int t_where, .int t_tree, .ref ht_todo, .ref ht_with, .ref ht_holes, .int t_top, .int t_hole, .int t_at, .int t_made, .ref ht_variable, .ref ht_stack, .ref ht_signs, .ref ht_output, .ref ht_blocks, .int q13.2, .int t_signsHigh, .int t_printed, .int (t_done + (1 : Int32)), .int t_value])), (ht_op, .inl (cI, 30, .inl t_op)), (ht_to, .inl (cI, 31, .inl t_to)), (ht_variable, .inl (cI, 6, .inl t_variable)), (ht_stack, .inl (cI, 64, .inl q13.1)), (ht_output, .inl (cI, 20, .inl t_output))] H) (hD : va_D A [(ht, .inr (6, [.ref ht_op, .ref ht_to, .ref ht_newOp, .ref ht_newTo, .ref ht_draft, .ref ht_text, .int t_many, .int t_letters, .int t_length, .int t_where, .int t_tree, .ref ht_todo, .ref ht_with, .ref ht_holes, .int t_top, .int t_hole, .int t_at, .int t_made, .ref ht_variable, .ref ht_stack, .ref ht_signs, .ref ht_output, .ref ht_blocks, .int q13.2, .int t_signsHigh, .int t_printed, .int (t_done + (1 : Int32)), .int t_value])), (ht_op, .inl (cI, 30, .inl t_op)), (ht_to, .inl (cI, 31, .inl t_to)), (ht_variable, .inl (cI, 6, .inl t_variable)), (ht_stack, .inl (cI, 64, .inl q13.1)), (ht_output, .inl (cI, 20, .inl t_output))]) hS => ?_)
            refine lv_goto (tgt := 225) hx hb d_M_run_76 (by decide) ?_
            refine lv_goto (tgt := 20) hx hb d_M_run_225 (by decide) ?_
            exact ih_20 _ _ _ _ _ _ _ _ h _ _ _ hP hD hS (lv_sub hl [3, 4, 0] rfl)
  have hP : va_P D vwCl [(ht, .inr (6, [.ref ht_op, .ref ht_to, .ref ht_newOp, .ref ht_newTo, .ref ht_draft, .ref ht_text, .int t_many, .int t_letters, .int t_length, .int t_where, .int t_tree, .ref ht_todo, .ref ht_with, .ref ht_holes, .int t_top, .int t_hole, .int t_at, .int t_made, .ref ht_variable, .ref ht_stack, .ref ht_signs, .ref ht_output, .ref ht_blocks, .int t_high, .int t_signsHigh, .int t_printed, .int t_done, .int t_value])), (ht_op, .inl (cI, 30, .inl t_op)), (ht_to, .inl (cI, 31, .inl t_to)), (ht_variable, .inl (cI, 6, .inl t_variable)), (ht_stack, .inl (cI, 64, .inl t_stack)), (ht_output, .inl (cI, 20, .inl t_output))] s.heap := hP
  have hl := lv_entry ([.ref ht, .int a1, .int a2]) (n := 8) (Nat.le_of_ble_eq_true rfl)
  rw [lg_entry_eq]
  generalize (lg_sl ([.ref ht, .int a1, .int a2]) ++ List.replicate (8 - (lg_sl ([.ref ht, .int a1, .int a2])).length) Slot.unset).toArray = ls at hl ⊢
  have hl : lv_has ls 8 [(0, .ref ht), (1, .int a1), (2, .int a2)] := hl
  unfold g_M_run at h
  refine lv_iload_n hx hb d_M_run_0 rfl (lv_at hl 2 rfl) ?_
  refine lv_iconst (v := (0 : Int32)) hx hb d_M_run_1 (by decide) ?_
  refine lv_sipush (v := (400 : Int32)) hx hb d_M_run_2 (by decide) ?_
  obtain ⟨q1, hc, h⟩ := g_bd h
  refine gk_i (va_runS (As := [.int a2, .int (0 : Int32), .int (400 : Int32)]) (rest := []) ⟨hx, hb, hml, hown, hts⟩ (c_M_in l D cI cC a2 (0 : Int32) (400 : Int32) q1 hc _) (va_cwS 3 hts (gG_S mt_4_0 mt_4_1 mt_1_7 mt_4_2) rfl rfl rfl (by decide +kernel) ⟨Nat.le_of_ble_eq_true rfl, Nat.le_of_ble_eq_true rfl⟩) (gpS hK hP hD [] rfl (by decide)) rfl rfl hl.1 rfl (lv_room (Nat.le_of_ble_eq_true rfl)) d_M_run_5 ⟨Nat.zero_le _, Nat.zero_le _⟩) hK hP hD hS hA [] rfl (by decide) rfl rfl (fun H locs (hP : va_P D vwCl [(ht, .inr (6, [.ref ht_op, .ref ht_to, .ref ht_newOp, .ref ht_newTo, .ref ht_draft, .ref ht_text, .int t_many, .int t_letters, .int t_length, .int t_where, .int t_tree, .ref ht_todo, .ref ht_with, .ref ht_holes, .int t_top, .int t_hole, .int t_at, .int t_made, .ref ht_variable, .ref ht_stack, .ref ht_signs, .ref ht_output, .ref ht_blocks, .int t_high, .int t_signsHigh, .int t_printed, .int t_done, .int t_value])), (ht_op, .inl (cI, 30, .inl t_op)), (ht_to, .inl (cI, 31, .inl t_to)), (ht_variable, .inl (cI, 6, .inl t_variable)), (ht_stack, .inl (cI, 64, .inl t_stack)), (ht_output, .inl (cI, 20, .inl t_output))] H) (hD : va_D A [(ht, .inr (6, [.ref ht_op, .ref ht_to, .ref ht_newOp, .ref ht_newTo, .ref ht_draft, .ref ht_text, .int t_many, .int t_letters, .int t_length, .int t_where, .int t_tree, .ref ht_todo, .ref ht_with, .ref ht_holes, .int t_top, .int t_hole, .int t_at, .int t_made, .ref ht_variable, .ref ht_stack, .ref ht_signs, .ref ht_output, .ref ht_blocks, .int t_high, .int t_signsHigh, .int t_printed, .int t_done, .int t_value])), (ht_op, .inl (cI, 30, .inl t_op)), (ht_to, .inl (cI, 31, .inl t_to)), (ht_variable, .inl (cI, 6, .inl t_variable)), (ht_stack, .inl (cI, 64, .inl t_stack)), (ht_output, .inl (cI, 20, .inl t_output))]) hS => ?_)
  refine lv_if_ne (tgt := 13) hx hb d_M_run_8 (by decide) (fun ec => ?_) (fun ec => ?_)
  · have h := g_f ec h
    refine lv_aload_n hx hb d_M_run_13 rfl (lv_at hl 0 rfl) ?_
    refine lv_iload_n hx hb d_M_run_14 rfl (lv_at hl 1 rfl) ?_
    obtain ⟨q2, hc, h⟩ := g_bd h
    refine gk_v (va_runV (As := [.int a1]) (rest := []) ⟨hx, hb, hml, hown, hts⟩ (c_M_start l D cI cC ht ht_op ht_to ht_newOp ht_newTo ht_draft ht_text ht_todo ht_with ht_holes ht_variable ht_stack ht_signs ht_output ht_blocks t_many t_letters t_length t_where t_tree t_top t_hole t_at t_made t_high t_signsHigh t_printed t_done t_value t_variable t_output a1 q2 hc _) (cwV 1 hts (gG_V mt_4_121 mt_4_123 mp_41 mt_1_7 mt_4_124) rfl rfl rfl (by decide +kernel) ⟨Nat.le_of_ble_eq_true rfl, Nat.le_of_ble_eq_true rfl⟩) (gpV hK hP hD [0, 3, 5] rfl (by decide) (ci := 6) 0 rfl rfl) rfl rfl hl.1 rfl (lv_room (Nat.le_of_ble_eq_true rfl)) d_M_run_15 ⟨Nat.zero_le _, Nat.zero_le _⟩) hK hP hD hS hA [0, 3, 5] rfl (by decide) rfl rfl (fun H locs (hP : va_P D vwCl [(ht, .inr (6, [.ref ht_op, .ref ht_to, .ref ht_newOp, .ref ht_newTo, .ref ht_draft, .ref ht_text, .int t_many, .int t_letters, .int t_length, .int t_where, .int t_tree, .ref ht_todo, .ref ht_with, .ref ht_holes, .int t_top, .int t_hole, .int t_at, .int t_made, .ref ht_variable, .ref ht_stack, .ref ht_signs, .ref ht_output, .ref ht_blocks, .int q2.2.2.1, .int t_signsHigh, .int q2.2.2.2.1, .int q2.2.2.2.2, .int t_value])), (ht_op, .inl (cI, 30, .inl t_op)), (ht_to, .inl (cI, 31, .inl t_to)), (ht_variable, .inl (cI, 6, .inl q2.1)), (ht_stack, .inl (cI, 64, .inl t_stack)), (ht_output, .inl (cI, 20, .inl q2.2.1))] H) (hD : va_D A [(ht, .inr (6, [.ref ht_op, .ref ht_to, .ref ht_newOp, .ref ht_newTo, .ref ht_draft, .ref ht_text, .int t_many, .int t_letters, .int t_length, .int t_where, .int t_tree, .ref ht_todo, .ref ht_with, .ref ht_holes, .int t_top, .int t_hole, .int t_at, .int t_made, .ref ht_variable, .ref ht_stack, .ref ht_signs, .ref ht_output, .ref ht_blocks, .int q2.2.2.1, .int t_signsHigh, .int q2.2.2.2.1, .int q2.2.2.2.2, .int t_value])), (ht_op, .inl (cI, 30, .inl t_op)), (ht_to, .inl (cI, 31, .inl t_to)), (ht_variable, .inl (cI, 6, .inl q2.1)), (ht_stack, .inl (cI, 64, .inl t_stack)), (ht_output, .inl (cI, 20, .inl q2.2.1))]) hS => ?_)
    refine lv_iconst (v := (0 : Int32)) hx hb d_M_run_18 (by decide) ?_
    refine lv_istore_n (lv' := [(3, .int (0 : Int32)), (0, .ref ht), (1, .int a1), (2, .int a2)]) hx hb d_M_run_19 rfl hl (by decide) rfl (fun ls hl => ?_)
    exact LP_20 500 _ _ _ _ _ _ _ _ h _ _ _ hP hD hS (lv_sub hl [1, 3, 0] rfl)
  · have h := g_t ec h
    refine lv_iconst (v := (-1 : Int32)) hx hb d_M_run_11 (by decide) ?_
    cases h
    exact gr_i hx hb hr hlocks hK hP hD hS d_M_run_12
def K_M_work (l : Launch) (D : va_G) (cI cC : ClassId) : Prop :=
  ∀ (ht ht_op ht_to ht_newOp ht_newTo ht_draft ht_text ht_todo ht_with ht_holes ht_variable ht_stack ht_signs ht_output ht_blocks : Nat) (t_many : Int32) (t_letters : Int32) (t_length : Int32) (t_where : Int32) (t_tree : Int32) (t_top : Int32) (t_hole : Int32) (t_at : Int32) (t_made : Int32) (t_high : Int32) (t_signsHigh : Int32) (t_printed : Int32) (t_done : Int32) (t_value : Int32) (t_text : Nat → Int32) (t_variable : Nat → Int32) (t_stack : Nat → Int32) (t_signs : Nat → Int32) (a1 : Int32) (q : Int32 × (Nat → Int32) × (Nat → Int32) × Int32 × Int32 × Int32), g_M_work t_text t_variable t_stack t_signs t_high t_signsHigh t_value a1 = some q → ∀ (sz : Nat), Met l y_M_work w_M_work ({ frames := 2, cells := 0, slots := 0, locals := 42 }) (va_Pc [.ref ht, .int a1] (gB D (gT cI cC) [(ht, .inr (6, [.ref ht_op, .ref ht_to, .ref ht_newOp, .ref ht_newTo, .ref ht_draft, .ref ht_text, .int t_many, .int t_letters, .int t_length, .int t_where, .int t_tree, .ref ht_todo, .ref ht_with, .ref ht_holes, .int t_top, .int t_hole, .int t_at, .int t_made, .ref ht_variable, .ref ht_stack, .ref ht_signs, .ref ht_output, .ref ht_blocks, .int t_high, .int t_signsHigh, .int t_printed, .int t_done, .int t_value])), (ht_text, .inl (cI, 600, .inl t_text)), (ht_variable, .inl (cI, 6, .inl t_variable)), (ht_stack, .inl (cI, 64, .inl t_stack)), (ht_signs, .inl (cI, 64, .inl t_signs))] sz)) (gQi D (gT cI cC) q.1 [(ht, .inr (6, [.ref ht_op, .ref ht_to, .ref ht_newOp, .ref ht_newTo, .ref ht_draft, .ref ht_text, .int t_many, .int t_letters, .int t_length, .int t_where, .int t_tree, .ref ht_todo, .ref ht_with, .ref ht_holes, .int t_top, .int t_hole, .int t_at, .int t_made, .ref ht_variable, .ref ht_stack, .ref ht_signs, .ref ht_output, .ref ht_blocks, .int q.2.2.2.1, .int q.2.2.2.2.1, .int t_printed, .int t_done, .int q.2.2.2.2.2])), (ht_text, .inl (cI, 600, .inl t_text)), (ht_variable, .inl (cI, 6, .inl t_variable)), (ht_stack, .inl (cI, 64, .inl q.2.1)), (ht_signs, .inl (cI, 64, .inl q.2.2.1))] (va_A [(ht, .inr (6, [.ref ht_op, .ref ht_to, .ref ht_newOp, .ref ht_newTo, .ref ht_draft, .ref ht_text, .int t_many, .int t_letters, .int t_length, .int t_where, .int t_tree, .ref ht_todo, .ref ht_with, .ref ht_holes, .int t_top, .int t_hole, .int t_at, .int t_made, .ref ht_variable, .ref ht_stack, .ref ht_signs, .ref ht_output, .ref ht_blocks, .int t_high, .int t_signsHigh, .int t_printed, .int t_done, .int t_value])), (ht_text, .inl (cI, 600, .inl t_text)), (ht_variable, .inl (cI, 6, .inl t_variable)), (ht_stack, .inl (cI, 64, .inl t_stack)), (ht_signs, .inl (cI, 64, .inl t_signs))] sz)) 0 0 (va_A [(ht, .inr (6, [.ref ht_op, .ref ht_to, .ref ht_newOp, .ref ht_newTo, .ref ht_draft, .ref ht_text, .int t_many, .int t_letters, .int t_length, .int t_where, .int t_tree, .ref ht_todo, .ref ht_with, .ref ht_holes, .int t_top, .int t_hole, .int t_at, .int t_made, .ref ht_variable, .ref ht_stack, .ref ht_signs, .ref ht_output, .ref ht_blocks, .int t_high, .int t_signsHigh, .int t_printed, .int t_done, .int t_value])), (ht_text, .inl (cI, 600, .inl t_text)), (ht_variable, .inl (cI, 6, .inl t_variable)), (ht_stack, .inl (cI, 64, .inl t_stack)), (ht_signs, .inl (cI, 64, .inl t_signs))] sz)
set_option maxHeartbeats 4000000 in
set_option maxRecDepth 100000 in
theorem c_M_work (l : Launch) (D : va_G) (cI cC : ClassId) : K_M_work l D cI cC := by
  intro ht ht_op ht_to ht_newOp ht_newTo ht_draft ht_text ht_todo ht_with ht_holes ht_variable ht_stack ht_signs ht_output ht_blocks t_many t_letters t_length t_where t_tree t_top t_hole t_at t_made t_high t_signsHigh t_printed t_done t_value t_text t_variable t_stack t_signs a1 q h sz
  refine Met.ofW (cc := k_M_work) (maxL := 7) (ret := (some .int)) (by decide) rfl ?_
  intro p e s m args below meth c s₁ B hml hv
  obtain ⟨rfl, hsz, hP, hK, hD0⟩ := hv
  have hx := B.exec
  have hb := B.bytes
  have hr := B.returns
  have hts : ∀ w ∈ lw_t, w.before ([.ref ht, .int a1] : List Value).toArray s = true := fun w h => atoms_spec (ws := w_M_work) B.pre w (List.mem_cons_of_mem _ h)
  have hown : s.vm.findClass R_M = some m.cls := findClass_of_methodNamed B.named
  have hlocks := B.notSynchronized
  subst hsz
  have hD := hD0.self (sz := s.heap.size)
  generalize hAe : va_A [(ht, .inr (6, [.ref ht_op, .ref ht_to, .ref ht_newOp, .ref ht_newTo, .ref ht_draft, .ref ht_text, .int t_many, .int t_letters, .int t_length, .int t_where, .int t_tree, .ref ht_todo, .ref ht_with, .ref ht_holes, .int t_top, .int t_hole, .int t_at, .int t_made, .ref ht_variable, .ref ht_stack, .ref ht_signs, .ref ht_output, .ref ht_blocks, .int t_high, .int t_signsHigh, .int t_printed, .int t_done, .int t_value])), (ht_text, .inl (cI, 600, .inl t_text)), (ht_variable, .inl (cI, 6, .inl t_variable)), (ht_stack, .inl (cI, 64, .inl t_stack)), (ht_signs, .inl (cI, 64, .inl t_signs))] s.heap.size = A at hD ⊢
  have hA : ∀ q : Nat, s.heap.size ≤ q → A q := fun q h => by rw [← hAe]; exact Or.inr h
  have hS : va_S A s.heap s.heap [] := va_S.rf
  have f_157 := hts _ mt_3_171
  have f_182 := hts _ mt_3_172
  have f_185 := hts _ mt_3_175
  have f_25 := hts _ mt_3_153
  have f_41 := hts _ mt_3_166
  have f_44 := hts _ mt_3_167
  have f_47 := hts _ mt_3_168
  have LP_14 : ∀ nn_14 : Nat, ∀ (t_stack : Nat → Int32) (t_signs : Nat → Int32) (t_high : Int32) (t_signsHigh : Int32) (t_value : Int32) (v2 : Int32) (v3 : Int32), b_M_work_14 t_text t_variable nn_14 t_stack t_signs t_high t_signsHigh t_value v2 v3 = some q → gJ p l e (headSpec w_M_work ({ frames := 2, cells := 0, slots := 0, locals := 42 })).room s m ([.ref ht, .int a1] : List Value).toArray below meth c D A 7 (MQ below (gQi D (gT cI cC) q.1 [(ht, .inr (6, [.ref ht_op, .ref ht_to, .ref ht_newOp, .ref ht_newTo, .ref ht_draft, .ref ht_text, .int t_many, .int t_letters, .int t_length, .int t_where, .int t_tree, .ref ht_todo, .ref ht_with, .ref ht_holes, .int t_top, .int t_hole, .int t_at, .int t_made, .ref ht_variable, .ref ht_stack, .ref ht_signs, .ref ht_output, .ref ht_blocks, .int q.2.2.2.1, .int q.2.2.2.2.1, .int t_printed, .int t_done, .int q.2.2.2.2.2])), (ht_text, .inl (cI, 600, .inl t_text)), (ht_variable, .inl (cI, 6, .inl t_variable)), (ht_stack, .inl (cI, 64, .inl q.2.1)), (ht_signs, .inl (cI, 64, .inl q.2.2.1))] A) ([.ref ht, .int a1] : List Value).toArray s 0 0 A) 14 [(ht, .inr (6, [.ref ht_op, .ref ht_to, .ref ht_newOp, .ref ht_newTo, .ref ht_draft, .ref ht_text, .int t_many, .int t_letters, .int t_length, .int t_where, .int t_tree, .ref ht_todo, .ref ht_with, .ref ht_holes, .int t_top, .int t_hole, .int t_at, .int t_made, .ref ht_variable, .ref ht_stack, .ref ht_signs, .ref ht_output, .ref ht_blocks, .int t_high, .int t_signsHigh, .int t_printed, .int t_done, .int t_value])), (ht_text, .inl (cI, 600, .inl t_text)), (ht_variable, .inl (cI, 6, .inl t_variable)), (ht_stack, .inl (cI, 64, .inl t_stack)), (ht_signs, .inl (cI, 64, .inl t_signs))] [(0, .ref ht), (2, .int v2), (3, .int v3)] [] := by
    intro nn_14
    induction nn_14 with
    | zero => intro t_stack t_signs t_high t_signsHigh t_value v2 v3 h; exact g_no h
    | succ nn_14 ih_14 =>
      intro t_stack t_signs t_high t_signsHigh t_value v2 v3 h H locs ls hP hD hS hl
      rw [b_M_work_14] at h
      have J_304 : ∀ (t_stack : Nat → Int32) (t_signs : Nat → Int32) (t_high : Int32) (t_signsHigh : Int32) (t_value : Int32) (v2 : Int32) (v5 : Int32), b_M_work_304 t_text t_variable (b_M_work_14 t_text t_variable nn_14) t_stack t_signs t_high t_signsHigh t_value v2 v5 = some q → gJ p l e (headSpec w_M_work ({ frames := 2, cells := 0, slots := 0, locals := 42 })).room s m ([.ref ht, .int a1] : List Value).toArray below meth c D A 7 (MQ below (gQi D (gT cI cC) q.1 [(ht, .inr (6, [.ref ht_op, .ref ht_to, .ref ht_newOp, .ref ht_newTo, .ref ht_draft, .ref ht_text, .int t_many, .int t_letters, .int t_length, .int t_where, .int t_tree, .ref ht_todo, .ref ht_with, .ref ht_holes, .int t_top, .int t_hole, .int t_at, .int t_made, .ref ht_variable, .ref ht_stack, .ref ht_signs, .ref ht_output, .ref ht_blocks, .int q.2.2.2.1, .int q.2.2.2.2.1, .int t_printed, .int t_done, .int q.2.2.2.2.2])), (ht_text, .inl (cI, 600, .inl t_text)), (ht_variable, .inl (cI, 6, .inl t_variable)), (ht_stack, .inl (cI, 64, .inl q.2.1)), (ht_signs, .inl (cI, 64, .inl q.2.2.1))] A) ([.ref ht, .int a1] : List Value).toArray s 0 0 A) 304 [(ht, .inr (6, [.ref ht_op, .ref ht_to, .ref ht_newOp, .ref ht_newTo, .ref ht_draft, .ref ht_text, .int t_many, .int t_letters, .int t_length, .int t_where, .int t_tree, .ref ht_todo, .ref ht_with, .ref ht_holes, .int t_top, .int t_hole, .int t_at, .int t_made, .ref ht_variable, .ref ht_stack, .ref ht_signs, .ref ht_output, .ref ht_blocks, .int t_high, .int t_signsHigh, .int t_printed, .int t_done, .int t_value])), (ht_text, .inl (cI, 600, .inl t_text)), (ht_variable, .inl (cI, 6, .inl t_variable)), (ht_stack, .inl (cI, 64, .inl t_stack)), (ht_signs, .inl (cI, 64, .inl t_signs))] [(0, .ref ht), (2, .int v2), (5, .int v5)] [] := by
        intro t_stack t_signs t_high t_signsHigh t_value v2 v5 h H locs ls hP hD hS hl
        unfold b_M_work_304 at h
        refine lv_iload hx hb d_M_work_304 (lv_at hl 2 rfl) ?_
        refine lv_if_eq (tgt := 320) hx hb d_M_work_306 (by decide) (fun ec => ?_) (fun ec => ?_)
        · have h := g_t ec h
          refine lv_iconst (v := (0 : Int32)) hx hb d_M_work_320 (by decide) ?_
          refine lv_istore_n (lv' := [(3, .int (0 : Int32)), (0, .ref ht), (2, .int v2), (5, .int v5)]) hx hb d_M_work_321 rfl hl (by decide) rfl (fun ls hl => ?_)
          refine lv_goto (tgt := 14) hx hb d_M_work_322 (by decide) ?_
          exact ih_14 _ _ _ _ _ _ _ h _ _ _ hP hD hS (lv_sub hl [1, 2, 0] rfl)
        · have h := g_f ec h
          refine lv_aload_n hx hb d_M_work_309 rfl (lv_at hl 0 rfl) ?_
          refine va_get (D := D) (ci := 6) (v := .int t_signsHigh) (C := R_M) (T := F_M) (N := 28) hx hb hts u_M hown hK hP 0 rfl rfl 24 (by decide) f_182 (fun _ h9 => h9) rfl d_M_work_310 ?_
          refine lv_if_ne (tgt := 320) hx hb d_M_work_313 (by decide) (fun ec => ?_) (fun ec => ?_)
          · have h := g_f ec h
            refine lv_iconst (v := (0 : Int32)) hx hb d_M_work_320 (by decide) ?_
            refine lv_istore_n (lv' := [(3, .int (0 : Int32)), (0, .ref ht), (2, .int v2), (5, .int v5)]) hx hb d_M_work_321 rfl hl (by decide) rfl (fun ls hl => ?_)
            refine lv_goto (tgt := 14) hx hb d_M_work_322 (by decide) ?_
            exact ih_14 _ _ _ _ _ _ _ h _ _ _ hP hD hS (lv_sub hl [1, 2, 0] rfl)
          · have h := g_t ec h
            refine lv_iconst (v := (1 : Int32)) hx hb d_M_work_316 (by decide) ?_
            refine lv_goto (tgt := 321) hx hb d_M_work_317 (by decide) ?_
            refine lv_istore_n (lv' := [(3, .int (1 : Int32)), (0, .ref ht), (2, .int v2), (5, .int v5)]) hx hb d_M_work_321 rfl hl (by decide) rfl (fun ls hl => ?_)
            refine lv_goto (tgt := 14) hx hb d_M_work_322 (by decide) ?_
            exact ih_14 _ _ _ _ _ _ _ h _ _ _ hP hD hS (lv_sub hl [1, 2, 0] rfl)
      have LP_233 : ∀ nn_233 : Nat, ∀ (t_stack : Nat → Int32) (t_signs : Nat → Int32) (t_high : Int32) (t_signsHigh : Int32) (t_value : Int32) (v2 : Int32) (v5 : Int32), b_M_work_233 t_text t_variable (b_M_work_14 t_text t_variable nn_14) nn_233 t_stack t_signs t_high t_signsHigh t_value v2 v5 = some q → gJ p l e (headSpec w_M_work ({ frames := 2, cells := 0, slots := 0, locals := 42 })).room s m ([.ref ht, .int a1] : List Value).toArray below meth c D A 7 (MQ below (gQi D (gT cI cC) q.1 [(ht, .inr (6, [.ref ht_op, .ref ht_to, .ref ht_newOp, .ref ht_newTo, .ref ht_draft, .ref ht_text, .int t_many, .int t_letters, .int t_length, .int t_where, .int t_tree, .ref ht_todo, .ref ht_with, .ref ht_holes, .int t_top, .int t_hole, .int t_at, .int t_made, .ref ht_variable, .ref ht_stack, .ref ht_signs, .ref ht_output, .ref ht_blocks, .int q.2.2.2.1, .int q.2.2.2.2.1, .int t_printed, .int t_done, .int q.2.2.2.2.2])), (ht_text, .inl (cI, 600, .inl t_text)), (ht_variable, .inl (cI, 6, .inl t_variable)), (ht_stack, .inl (cI, 64, .inl q.2.1)), (ht_signs, .inl (cI, 64, .inl q.2.2.1))] A) ([.ref ht, .int a1] : List Value).toArray s 0 0 A) 233 [(ht, .inr (6, [.ref ht_op, .ref ht_to, .ref ht_newOp, .ref ht_newTo, .ref ht_draft, .ref ht_text, .int t_many, .int t_letters, .int t_length, .int t_where, .int t_tree, .ref ht_todo, .ref ht_with, .ref ht_holes, .int t_top, .int t_hole, .int t_at, .int t_made, .ref ht_variable, .ref ht_stack, .ref ht_signs, .ref ht_output, .ref ht_blocks, .int t_high, .int t_signsHigh, .int t_printed, .int t_done, .int t_value])), (ht_text, .inl (cI, 600, .inl t_text)), (ht_variable, .inl (cI, 6, .inl t_variable)), (ht_stack, .inl (cI, 64, .inl t_stack)), (ht_signs, .inl (cI, 64, .inl t_signs))] [(0, .ref ht), (2, .int v2), (5, .int v5)] [] := by
        intro nn_233
        induction nn_233 with
        | zero => intro t_stack t_signs t_high t_signsHigh t_value v2 v5 h; exact g_no h
        | succ nn_233 ih_233 =>
          intro t_stack t_signs t_high t_signsHigh t_value v2 v5 h H locs ls hP hD hS hl
          rw [b_M_work_233] at h
          refine lv_iload hx hb d_M_work_233 (lv_at hl 2 rfl) ?_
          refine lv_if_eq (tgt := 304) hx hb d_M_work_235 (by decide) (fun ec => ?_) (fun ec => ?_)
          · have h := g_t ec h
            exact J_304 _ _ _ _ _ _ _ h _ _ _ hP hD hS (lv_sub hl [0, 1, 2] rfl)
          · have h := g_f ec h
            refine lv_aload_n hx hb d_M_work_238 rfl (lv_at hl 0 rfl) ?_
            refine va_get (D := D) (ci := 6) (v := .int t_signsHigh) (C := R_M) (T := F_M) (N := 28) hx hb hts u_M hown hK hP 0 rfl rfl 24 (by decide) f_182 (fun _ h9 => h9) rfl d_M_work_239 ?_
            refine lv_if_le (tgt := 304) hx hb d_M_work_242 (by decide) (fun ec => ?_) (fun ec => ?_)
            · have h := g_t ec h
              exact J_304 _ _ _ _ _ _ _ h _ _ _ hP hD hS (lv_sub hl [0, 1, 2] rfl)
            · have h := g_f ec h
              refine lv_aload_n hx hb d_M_work_245 rfl (lv_at hl 0 rfl) ?_
              refine va_get (D := D) (ci := 6) (v := .ref ht_signs) (C := R_M) (T := F_M) (N := 28) hx hb hts u_M hown hK hP 0 rfl rfl 20 (by decide) f_47 (fun _ h9 => h9) rfl d_M_work_246 ?_
              refine lv_aload_n hx hb d_M_work_249 rfl (lv_at hl 0 rfl) ?_
              refine va_get (D := D) (ci := 6) (v := .int t_signsHigh) (C := R_M) (T := F_M) (N := 28) hx hb hts u_M hown hK hP 0 rfl rfl 24 (by decide) f_182 (fun _ h9 => h9) rfl d_M_work_250 ?_
              refine lv_iconst (v := (1 : Int32)) hx hb d_M_work_253 (by decide) ?_
              refine lv_isub hx hb d_M_work_254 ?_
              obtain ⟨hi, h⟩ := g_ck h
              refine va_iald hx hb hK hP 4 0 rfl rfl hi d_M_work_255 ?_
              refine lv_bipush (v := (33 : Int32)) hx hb d_M_work_256 (by decide) ?_
              refine lv_icmp_ne (tgt := 304) hx hb d_M_work_258 (by decide) (fun ec => ?_) (fun ec => ?_)
              · have h := g_f ec h
                exact J_304 _ _ _ _ _ _ _ h _ _ _ hP hD hS (lv_sub hl [0, 1, 2] rfl)
              · have h := g_t ec h
                refine lv_aload_n hx hb d_M_work_261 rfl (lv_at hl 0 rfl) ?_
                refine lv_dup hx hb d_M_work_262 rfl ?_
                refine va_get (D := D) (ci := 6) (v := .int t_signsHigh) (C := R_M) (T := F_M) (N := 28) hx hb hts u_M hown hK hP 0 rfl rfl 24 (by decide) f_182 (fun _ h9 => h9) rfl d_M_work_263 ?_
                refine lv_iconst (v := (1 : Int32)) hx hb d_M_work_266 (by decide) ?_
                refine lv_isub hx hb d_M_work_267 ?_
                refine va_put (D := D) (ci := 6) (v := .int (t_signsHigh - (1 : Int32))) (ty := .int) (C := R_M) (T := F_M) (N := 28) hx hb hts u_M t_M t_M_ok n_M hown hK hP hD hS 0 rfl rfl 24 (by decide) f_182 (fun _ h9 => h9) rfl (by decide +kernel) rfl rfl (Nat.le_of_ble_eq_true rfl) d_M_work_268 (fun H locs (hP : va_P D vwCl [(ht, .inr (6, [.ref ht_op, .ref ht_to, .ref ht_newOp, .ref ht_newTo, .ref ht_draft, .ref ht_text, .int t_many, .int t_letters, .int t_length, .int t_where, .int t_tree, .ref ht_todo, .ref ht_with, .ref ht_holes, .int t_top, .int t_hole, .int t_at, .int t_made, .ref ht_variable, .ref ht_stack, .ref ht_signs, .ref ht_output, .ref ht_blocks, .int t_high, .int (t_signsHigh - (1 : Int32)), .int t_printed, .int t_done, .int t_value])), (ht_text, .inl (cI, 600, .inl t_text)), (ht_variable, .inl (cI, 6, .inl t_variable)), (ht_stack, .inl (cI, 64, .inl t_stack)), (ht_signs, .inl (cI, 64, .inl t_signs))] H) (hD : va_D A [(ht, .inr (6, [.ref ht_op, .ref ht_to, .ref ht_newOp, .ref ht_newTo, .ref ht_draft, .ref ht_text, .int t_many, .int t_letters, .int t_length, .int t_where, .int t_tree, .ref ht_todo, .ref ht_with, .ref ht_holes, .int t_top, .int t_hole, .int t_at, .int t_made, .ref ht_variable, .ref ht_stack, .ref ht_signs, .ref ht_output, .ref ht_blocks, .int t_high, .int (t_signsHigh - (1 : Int32)), .int t_printed, .int t_done, .int t_value])), (ht_text, .inl (cI, 600, .inl t_text)), (ht_variable, .inl (cI, 6, .inl t_variable)), (ht_stack, .inl (cI, 64, .inl t_stack)), (ht_signs, .inl (cI, 64, .inl t_signs))]) hS => ?_)
                refine lv_aload_n hx hb d_M_work_271 rfl (lv_at hl 0 rfl) ?_
                refine va_get (D := D) (ci := 6) (v := .ref ht_stack) (C := R_M) (T := F_M) (N := 28) hx hb hts u_M hown hK hP 0 rfl rfl 19 (by decide) f_44 (fun _ h9 => h9) rfl d_M_work_272 ?_
                refine lv_aload_n hx hb d_M_work_275 rfl (lv_at hl 0 rfl) ?_
                refine va_get (D := D) (ci := 6) (v := .int t_high) (C := R_M) (T := F_M) (N := 28) hx hb hts u_M hown hK hP 0 rfl rfl 23 (by decide) f_157 (fun _ h9 => h9) rfl d_M_work_276 ?_
                refine lv_iconst (v := (1 : Int32)) hx hb d_M_work_279 (by decide) ?_
                refine lv_isub hx hb d_M_work_280 ?_
                refine lv_aload_n hx hb d_M_work_281 rfl (lv_at hl 0 rfl) ?_
                refine va_get (D := D) (ci := 6) (v := .ref ht_stack) (C := R_M) (T := F_M) (N := 28) hx hb hts u_M hown hK hP 0 rfl rfl 19 (by decide) f_44 (fun _ h9 => h9) rfl d_M_work_282 ?_
                refine lv_aload_n hx hb d_M_work_285 rfl (lv_at hl 0 rfl) ?_
                refine va_get (D := D) (ci := 6) (v := .int t_high) (C := R_M) (T := F_M) (N := 28) hx hb hts u_M hown hK hP 0 rfl rfl 23 (by decide) f_157 (fun _ h9 => h9) rfl d_M_work_286 ?_
                refine lv_iconst (v := (1 : Int32)) hx hb d_M_work_289 (by decide) ?_
                refine lv_isub hx hb d_M_work_290 ?_
                obtain ⟨hi, h⟩ := g_ck h
                refine va_iald hx hb hK hP 3 0 rfl rfl hi d_M_work_291 ?_
                refine lv_if_ne (tgt := 299) hx hb d_M_work_292 (by decide) (fun ec => ?_) (fun ec => ?_)
                · have h := g_f ec h
                  refine lv_iconst (v := (0 : Int32)) hx hb d_M_work_299 (by decide) ?_
                  obtain ⟨hi, h⟩ := g_ck h
                  refine va_iast hx hb hK hP hD hS 3 0 rfl rfl hi d_M_work_300 (fun H locs (hP : va_P D vwCl [(ht, .inr (6, [.ref ht_op, .ref ht_to, .ref ht_newOp, .ref ht_newTo, .ref ht_draft, .ref ht_text, .int t_many, .int t_letters, .int t_length, .int t_where, .int t_tree, .ref ht_todo, .ref ht_with, .ref ht_holes, .int t_top, .int t_hole, .int t_at, .int t_made, .ref ht_variable, .ref ht_stack, .ref ht_signs, .ref ht_output, .ref ht_blocks, .int t_high, .int (t_signsHigh - (1 : Int32)), .int t_printed, .int t_done, .int t_value])), (ht_text, .inl (cI, 600, .inl t_text)), (ht_variable, .inl (cI, 6, .inl t_variable)), (ht_stack, .inl (cI, 64, .inl (upd t_stack (t_high - (1 : Int32)).toNatClampNeg (0 : Int32)))), (ht_signs, .inl (cI, 64, .inl t_signs))] H) (hD : va_D A [(ht, .inr (6, [.ref ht_op, .ref ht_to, .ref ht_newOp, .ref ht_newTo, .ref ht_draft, .ref ht_text, .int t_many, .int t_letters, .int t_length, .int t_where, .int t_tree, .ref ht_todo, .ref ht_with, .ref ht_holes, .int t_top, .int t_hole, .int t_at, .int t_made, .ref ht_variable, .ref ht_stack, .ref ht_signs, .ref ht_output, .ref ht_blocks, .int t_high, .int (t_signsHigh - (1 : Int32)), .int t_printed, .int t_done, .int t_value])), (ht_text, .inl (cI, 600, .inl t_text)), (ht_variable, .inl (cI, 6, .inl t_variable)), (ht_stack, .inl (cI, 64, .inl (upd t_stack (t_high - (1 : Int32)).toNatClampNeg (0 : Int32)))), (ht_signs, .inl (cI, 64, .inl t_signs))]) hS => ?_)
                  refine lv_goto (tgt := 233) hx hb d_M_work_301 (by decide) ?_
                  exact ih_233 _ _ _ _ _ _ _ h _ _ _ hP hD hS (lv_sub hl [0, 1, 2] rfl)
                · have h := g_t ec h
                  refine lv_iconst (v := (1 : Int32)) hx hb d_M_work_295 (by decide) ?_
                  refine lv_goto (tgt := 300) hx hb d_M_work_296 (by decide) ?_
                  obtain ⟨hi, h⟩ := g_ck h
                  refine va_iast hx hb hK hP hD hS 3 0 rfl rfl hi d_M_work_300 (fun H locs (hP : va_P D vwCl [(ht, .inr (6, [.ref ht_op, .ref ht_to, .ref ht_newOp, .ref ht_newTo, .ref ht_draft, .ref ht_text, .int t_many, .int t_letters, .int t_length, .int t_where, .int t_tree, .ref ht_todo, .ref ht_with, .ref ht_holes, .int t_top, .int t_hole, .int t_at, .int t_made, .ref ht_variable, .ref ht_stack, .ref ht_signs, .ref ht_output, .ref ht_blocks, .int t_high, .int (t_signsHigh - (1 : Int32)), .int t_printed, .int t_done, .int t_value])), (ht_text, .inl (cI, 600, .inl t_text)), (ht_variable, .inl (cI, 6, .inl t_variable)), (ht_stack, .inl (cI, 64, .inl (upd t_stack (t_high - (1 : Int32)).toNatClampNeg (1 : Int32)))), (ht_signs, .inl (cI, 64, .inl t_signs))] H) (hD : va_D A [(ht, .inr (6, [.ref ht_op, .ref ht_to, .ref ht_newOp, .ref ht_newTo, .ref ht_draft, .ref ht_text, .int t_many, .int t_letters, .int t_length, .int t_where, .int t_tree, .ref ht_todo, .ref ht_with, .ref ht_holes, .int t_top, .int t_hole, .int t_at, .int t_made, .ref ht_variable, .ref ht_stack, .ref ht_signs, .ref ht_output, .ref ht_blocks, .int t_high, .int (t_signsHigh - (1 : Int32)), .int t_printed, .int t_done, .int t_value])), (ht_text, .inl (cI, 600, .inl t_text)), (ht_variable, .inl (cI, 6, .inl t_variable)), (ht_stack, .inl (cI, 64, .inl (upd t_stack (t_high - (1 : Int32)).toNatClampNeg (1 : Int32)))), (ht_signs, .inl (cI, 64, .inl t_signs))]) hS => ?_)
                  refine lv_goto (tgt := 233) hx hb d_M_work_301 (by decide) ?_
                  exact ih_233 _ _ _ _ _ _ _ h _ _ _ hP hD hS (lv_sub hl [0, 1, 2] rfl)
      refine lv_iload_n hx hb d_M_work_14 rfl (lv_at hl 2 rfl) ?_
      refine lv_if_ne (tgt := 325) hx hb d_M_work_15 (by decide) (fun ec => ?_) (fun ec => ?_)
      · have h := g_f ec h
        refine lv_aload_n hx hb d_M_work_325 rfl (lv_at hl 0 rfl) ?_
        refine lv_aload_n hx hb d_M_work_326 rfl (lv_at hl 0 rfl) ?_
        refine va_get (D := D) (ci := 6) (v := .ref ht_stack) (C := R_M) (T := F_M) (N := 28) hx hb hts u_M hown hK hP 0 rfl rfl 19 (by decide) f_44 (fun _ h9 => h9) rfl d_M_work_327 ?_
        refine lv_iconst (v := (0 : Int32)) hx hb d_M_work_330 (by decide) ?_
        obtain ⟨hi, h⟩ := g_ck h
        refine va_iald hx hb hK hP 3 0 rfl rfl hi d_M_work_331 ?_
        refine va_put (D := D) (ci := 6) (v := .int (t_stack (0 : Int32).toNatClampNeg)) (ty := .int) (C := R_M) (T := F_M) (N := 28) hx hb hts u_M t_M t_M_ok n_M hown hK hP hD hS 0 rfl rfl 27 (by decide) f_185 (fun _ h9 => h9) rfl (by decide +kernel) rfl rfl (Nat.le_of_ble_eq_true rfl) d_M_work_332 (fun H locs (hP : va_P D vwCl [(ht, .inr (6, [.ref ht_op, .ref ht_to, .ref ht_newOp, .ref ht_newTo, .ref ht_draft, .ref ht_text, .int t_many, .int t_letters, .int t_length, .int t_where, .int t_tree, .ref ht_todo, .ref ht_with, .ref ht_holes, .int t_top, .int t_hole, .int t_at, .int t_made, .ref ht_variable, .ref ht_stack, .ref ht_signs, .ref ht_output, .ref ht_blocks, .int t_high, .int t_signsHigh, .int t_printed, .int t_done, .int (t_stack (0 : Int32).toNatClampNeg)])), (ht_text, .inl (cI, 600, .inl t_text)), (ht_variable, .inl (cI, 6, .inl t_variable)), (ht_stack, .inl (cI, 64, .inl t_stack)), (ht_signs, .inl (cI, 64, .inl t_signs))] H) (hD : va_D A [(ht, .inr (6, [.ref ht_op, .ref ht_to, .ref ht_newOp, .ref ht_newTo, .ref ht_draft, .ref ht_text, .int t_many, .int t_letters, .int t_length, .int t_where, .int t_tree, .ref ht_todo, .ref ht_with, .ref ht_holes, .int t_top, .int t_hole, .int t_at, .int t_made, .ref ht_variable, .ref ht_stack, .ref ht_signs, .ref ht_output, .ref ht_blocks, .int t_high, .int t_signsHigh, .int t_printed, .int t_done, .int (t_stack (0 : Int32).toNatClampNeg)])), (ht_text, .inl (cI, 600, .inl t_text)), (ht_variable, .inl (cI, 6, .inl t_variable)), (ht_stack, .inl (cI, 64, .inl t_stack)), (ht_signs, .inl (cI, 64, .inl t_signs))]) hS => ?_)
        refine lv_iload_n hx hb d_M_work_335 rfl (lv_at hl 1 rfl) ?_
        cases h
        exact gr_i hx hb hr hlocks hK hP hD hS d_M_work_336
      · have h := g_t ec h
        refine lv_aload_n hx hb d_M_work_18 rfl (lv_at hl 0 rfl) ?_
        refine va_get (D := D) (ci := 6) (v := .ref ht_text) (C := R_M) (T := F_M) (N := 28) hx hb hts u_M hown hK hP 0 rfl rfl 5 (by decide) f_25 (fun _ h9 => h9) rfl d_M_work_19 ?_
        refine lv_iload_n hx hb d_M_work_22 rfl (lv_at hl 1 rfl) ?_
        obtain ⟨hi, h⟩ := g_ck h
        refine va_iald hx hb hK hP 1 0 rfl rfl hi d_M_work_23 ?_
        refine lv_istore (lv' := [(4, .int (t_text v2.toNatClampNeg)), (0, .ref ht), (2, .int v2), (3, .int v3)]) hx hb d_M_work_24 hl (by decide) rfl (fun ls hl => ?_)
        refine lv_iinc (v := v2 + (1 : Int32)) (lv' := [(2, .int (v2 + (1 : Int32))), (4, .int (t_text v2.toNatClampNeg)), (0, .ref ht), (3, .int v3)]) hx hb d_M_work_26 hl (k := 2) rfl rfl (by decide) rfl (fun ls hl => ?_)
        refine lv_iconst (v := (1 : Int32)) hx hb d_M_work_29 (by decide) ?_
        refine lv_istore (lv' := [(5, .int (1 : Int32)), (2, .int (v2 + (1 : Int32))), (4, .int (t_text v2.toNatClampNeg)), (0, .ref ht), (3, .int v3)]) hx hb d_M_work_30 hl (by decide) rfl (fun ls hl => ?_)
        refine lv_iload hx hb d_M_work_32 (lv_at hl 2 rfl) ?_
        obtain ⟨q1, hc, h⟩ := g_bd h
        refine gk_i (va_runS (As := [.int (t_text v2.toNatClampNeg)]) (rest := []) ⟨hx, hb, hml, hown, hts⟩ (c_M_isDigit l D cI cC (t_text v2.toNatClampNeg) q1 hc _) (va_cwS 1 hts (gG_S mt_4_98 mt_4_99 mt_1_7 mt_4_100) rfl rfl rfl (by decide +kernel) ⟨Nat.le_of_ble_eq_true rfl, Nat.le_of_ble_eq_true rfl⟩) (gpS hK hP hD [] rfl (by decide)) rfl rfl hl.1 rfl (lv_room (Nat.le_of_ble_eq_true rfl)) d_M_work_34 ⟨Nat.zero_le _, Nat.zero_le _⟩) hK hP hD hS hA [] rfl (by decide) rfl rfl (fun H locs (hP : va_P D vwCl [(ht, .inr (6, [.ref ht_op, .ref ht_to, .ref ht_newOp, .ref ht_newTo, .ref ht_draft, .ref ht_text, .int t_many, .int t_letters, .int t_length, .int t_where, .int t_tree, .ref ht_todo, .ref ht_with, .ref ht_holes, .int t_top, .int t_hole, .int t_at, .int t_made, .ref ht_variable, .ref ht_stack, .ref ht_signs, .ref ht_output, .ref ht_blocks, .int t_high, .int t_signsHigh, .int t_printed, .int t_done, .int t_value])), (ht_text, .inl (cI, 600, .inl t_text)), (ht_variable, .inl (cI, 6, .inl t_variable)), (ht_stack, .inl (cI, 64, .inl t_stack)), (ht_signs, .inl (cI, 64, .inl t_signs))] H) (hD : va_D A [(ht, .inr (6, [.ref ht_op, .ref ht_to, .ref ht_newOp, .ref ht_newTo, .ref ht_draft, .ref ht_text, .int t_many, .int t_letters, .int t_length, .int t_where, .int t_tree, .ref ht_todo, .ref ht_with, .ref ht_holes, .int t_top, .int t_hole, .int t_at, .int t_made, .ref ht_variable, .ref ht_stack, .ref ht_signs, .ref ht_output, .ref ht_blocks, .int t_high, .int t_signsHigh, .int t_printed, .int t_done, .int t_value])), (ht_text, .inl (cI, 600, .inl t_text)), (ht_variable, .inl (cI, 6, .inl t_variable)), (ht_stack, .inl (cI, 64, .inl t_stack)), (ht_signs, .inl (cI, 64, .inl t_signs))]) hS => ?_)
        refine lv_if_eq (tgt := 100) hx hb d_M_work_37 (by decide) (fun ec => ?_) (fun ec => ?_)
        · have h := g_t ec h
          refine lv_iload hx hb d_M_work_100 (lv_at hl 2 rfl) ?_
          obtain ⟨q2, hc, h⟩ := g_bd h
          refine gk_i (va_runS (As := [.int (t_text v2.toNatClampNeg)]) (rest := []) ⟨hx, hb, hml, hown, hts⟩ (c_M_isLetter l D cI cC (t_text v2.toNatClampNeg) q2 hc _) (va_cwS 1 hts (gG_S mt_4_91 mt_4_92 mt_1_7 mt_4_93) rfl rfl rfl (by decide +kernel) ⟨Nat.le_of_ble_eq_true rfl, Nat.le_of_ble_eq_true rfl⟩) (gpS hK hP hD [] rfl (by decide)) rfl rfl hl.1 rfl (lv_room (Nat.le_of_ble_eq_true rfl)) d_M_work_102 ⟨Nat.zero_le _, Nat.zero_le _⟩) hK hP hD hS hA [] rfl (by decide) rfl rfl (fun H locs (hP : va_P D vwCl [(ht, .inr (6, [.ref ht_op, .ref ht_to, .ref ht_newOp, .ref ht_newTo, .ref ht_draft, .ref ht_text, .int t_many, .int t_letters, .int t_length, .int t_where, .int t_tree, .ref ht_todo, .ref ht_with, .ref ht_holes, .int t_top, .int t_hole, .int t_at, .int t_made, .ref ht_variable, .ref ht_stack, .ref ht_signs, .ref ht_output, .ref ht_blocks, .int t_high, .int t_signsHigh, .int t_printed, .int t_done, .int t_value])), (ht_text, .inl (cI, 600, .inl t_text)), (ht_variable, .inl (cI, 6, .inl t_variable)), (ht_stack, .inl (cI, 64, .inl t_stack)), (ht_signs, .inl (cI, 64, .inl t_signs))] H) (hD : va_D A [(ht, .inr (6, [.ref ht_op, .ref ht_to, .ref ht_newOp, .ref ht_newTo, .ref ht_draft, .ref ht_text, .int t_many, .int t_letters, .int t_length, .int t_where, .int t_tree, .ref ht_todo, .ref ht_with, .ref ht_holes, .int t_top, .int t_hole, .int t_at, .int t_made, .ref ht_variable, .ref ht_stack, .ref ht_signs, .ref ht_output, .ref ht_blocks, .int t_high, .int t_signsHigh, .int t_printed, .int t_done, .int t_value])), (ht_text, .inl (cI, 600, .inl t_text)), (ht_variable, .inl (cI, 6, .inl t_variable)), (ht_stack, .inl (cI, 64, .inl t_stack)), (ht_signs, .inl (cI, 64, .inl t_signs))]) hS => ?_)
          refine lv_if_eq (tgt := 137) hx hb d_M_work_105 (by decide) (fun ec => ?_) (fun ec => ?_)
          · have h := g_t ec h
            refine lv_iload hx hb d_M_work_137 (lv_at hl 2 rfl) ?_
            refine lv_bipush (v := (41 : Int32)) hx hb d_M_work_139 (by decide) ?_
            refine lv_icmp_ne (tgt := 212) hx hb d_M_work_141 (by decide) (fun ec => ?_) (fun ec => ?_)
            · have h := g_f ec h
              refine lv_aload_n hx hb d_M_work_212 rfl (lv_at hl 3 rfl) ?_
              refine va_get (D := D) (ci := 6) (v := .ref ht_signs) (C := R_M) (T := F_M) (N := 28) hx hb hts u_M hown hK hP 0 rfl rfl 20 (by decide) f_47 (fun _ h9 => h9) rfl d_M_work_213 ?_
              refine lv_aload_n hx hb d_M_work_216 rfl (lv_at hl 3 rfl) ?_
              refine lv_dup hx hb d_M_work_217 rfl ?_
              refine va_get (D := D) (ci := 6) (v := .int t_signsHigh) (C := R_M) (T := F_M) (N := 28) hx hb hts u_M hown hK hP 0 rfl rfl 24 (by decide) f_182 (fun _ h9 => h9) rfl d_M_work_218 ?_
              refine lv_dup_x1 hx hb d_M_work_221 rfl rfl ?_
              refine lv_iconst (v := (1 : Int32)) hx hb d_M_work_222 (by decide) ?_
              refine lv_iadd hx hb d_M_work_223 ?_
              refine va_put (D := D) (ci := 6) (v := .int (t_signsHigh + (1 : Int32))) (ty := .int) (C := R_M) (T := F_M) (N := 28) hx hb hts u_M t_M t_M_ok n_M hown hK hP hD hS 0 rfl rfl 24 (by decide) f_182 (fun _ h9 => h9) rfl (by decide +kernel) rfl rfl (Nat.le_of_ble_eq_true rfl) d_M_work_224 (fun H locs (hP : va_P D vwCl [(ht, .inr (6, [.ref ht_op, .ref ht_to, .ref ht_newOp, .ref ht_newTo, .ref ht_draft, .ref ht_text, .int t_many, .int t_letters, .int t_length, .int t_where, .int t_tree, .ref ht_todo, .ref ht_with, .ref ht_holes, .int t_top, .int t_hole, .int t_at, .int t_made, .ref ht_variable, .ref ht_stack, .ref ht_signs, .ref ht_output, .ref ht_blocks, .int t_high, .int (t_signsHigh + (1 : Int32)), .int t_printed, .int t_done, .int t_value])), (ht_text, .inl (cI, 600, .inl t_text)), (ht_variable, .inl (cI, 6, .inl t_variable)), (ht_stack, .inl (cI, 64, .inl t_stack)), (ht_signs, .inl (cI, 64, .inl t_signs))] H) (hD : va_D A [(ht, .inr (6, [.ref ht_op, .ref ht_to, .ref ht_newOp, .ref ht_newTo, .ref ht_draft, .ref ht_text, .int t_many, .int t_letters, .int t_length, .int t_where, .int t_tree, .ref ht_todo, .ref ht_with, .ref ht_holes, .int t_top, .int t_hole, .int t_at, .int t_made, .ref ht_variable, .ref ht_stack, .ref ht_signs, .ref ht_output, .ref ht_blocks, .int t_high, .int (t_signsHigh + (1 : Int32)), .int t_printed, .int t_done, .int t_value])), (ht_text, .inl (cI, 600, .inl t_text)), (ht_variable, .inl (cI, 6, .inl t_variable)), (ht_stack, .inl (cI, 64, .inl t_stack)), (ht_signs, .inl (cI, 64, .inl t_signs))]) hS => ?_)
              refine lv_iload hx hb d_M_work_227 (lv_at hl 2 rfl) ?_
              obtain ⟨hi, h⟩ := g_ck h
              refine va_iast hx hb hK hP hD hS 4 0 rfl rfl hi d_M_work_229 (fun H locs (hP : va_P D vwCl [(ht, .inr (6, [.ref ht_op, .ref ht_to, .ref ht_newOp, .ref ht_newTo, .ref ht_draft, .ref ht_text, .int t_many, .int t_letters, .int t_length, .int t_where, .int t_tree, .ref ht_todo, .ref ht_with, .ref ht_holes, .int t_top, .int t_hole, .int t_at, .int t_made, .ref ht_variable, .ref ht_stack, .ref ht_signs, .ref ht_output, .ref ht_blocks, .int t_high, .int (t_signsHigh + (1 : Int32)), .int t_printed, .int t_done, .int t_value])), (ht_text, .inl (cI, 600, .inl t_text)), (ht_variable, .inl (cI, 6, .inl t_variable)), (ht_stack, .inl (cI, 64, .inl t_stack)), (ht_signs, .inl (cI, 64, .inl (upd t_signs t_signsHigh.toNatClampNeg (t_text v2.toNatClampNeg))))] H) (hD : va_D A [(ht, .inr (6, [.ref ht_op, .ref ht_to, .ref ht_newOp, .ref ht_newTo, .ref ht_draft, .ref ht_text, .int t_many, .int t_letters, .int t_length, .int t_where, .int t_tree, .ref ht_todo, .ref ht_with, .ref ht_holes, .int t_top, .int t_hole, .int t_at, .int t_made, .ref ht_variable, .ref ht_stack, .ref ht_signs, .ref ht_output, .ref ht_blocks, .int t_high, .int (t_signsHigh + (1 : Int32)), .int t_printed, .int t_done, .int t_value])), (ht_text, .inl (cI, 600, .inl t_text)), (ht_variable, .inl (cI, 6, .inl t_variable)), (ht_stack, .inl (cI, 64, .inl t_stack)), (ht_signs, .inl (cI, 64, .inl (upd t_signs t_signsHigh.toNatClampNeg (t_text v2.toNatClampNeg))))]) hS => ?_)
              refine lv_iconst (v := (0 : Int32)) hx hb d_M_work_230 (by decide) ?_
              refine lv_istore (lv' := [(5, .int (0 : Int32)), (2, .int (v2 + (1 : Int32))), (4, .int (t_text v2.toNatClampNeg)), (0, .ref ht), (3, .int v3)]) hx hb d_M_work_231 hl (by decide) rfl (fun ls hl => ?_)
              exact LP_233 500 _ _ _ _ _ _ _ h _ _ _ hP hD hS (lv_sub hl [3, 1, 0] rfl)
            · have h := g_t ec h
              refine lv_aload_n hx hb d_M_work_144 rfl (lv_at hl 3 rfl) ?_
              refine lv_dup hx hb d_M_work_145 rfl ?_
              refine va_get (D := D) (ci := 6) (v := .int t_high) (C := R_M) (T := F_M) (N := 28) hx hb hts u_M hown hK hP 0 rfl rfl 23 (by decide) f_157 (fun _ h9 => h9) rfl d_M_work_146 ?_
              refine lv_iconst (v := (1 : Int32)) hx hb d_M_work_149 (by decide) ?_
              refine lv_isub hx hb d_M_work_150 ?_
              refine va_put (D := D) (ci := 6) (v := .int (t_high - (1 : Int32))) (ty := .int) (C := R_M) (T := F_M) (N := 28) hx hb hts u_M t_M t_M_ok n_M hown hK hP hD hS 0 rfl rfl 23 (by decide) f_157 (fun _ h9 => h9) rfl (by decide +kernel) rfl rfl (Nat.le_of_ble_eq_true rfl) d_M_work_151 (fun H locs (hP : va_P D vwCl [(ht, .inr (6, [.ref ht_op, .ref ht_to, .ref ht_newOp, .ref ht_newTo, .ref ht_draft, .ref ht_text, .int t_many, .int t_letters, .int t_length, .int t_where, .int t_tree, .ref ht_todo, .ref ht_with, .ref ht_holes, .int t_top, .int t_hole, .int t_at, .int t_made, .ref ht_variable, .ref ht_stack, .ref ht_signs, .ref ht_output, .ref ht_blocks, .int (t_high - (1 : Int32)), .int t_signsHigh, .int t_printed, .int t_done, .int t_value])), (ht_text, .inl (cI, 600, .inl t_text)), (ht_variable, .inl (cI, 6, .inl t_variable)), (ht_stack, .inl (cI, 64, .inl t_stack)), (ht_signs, .inl (cI, 64, .inl t_signs))] H) (hD : va_D A [(ht, .inr (6, [.ref ht_op, .ref ht_to, .ref ht_newOp, .ref ht_newTo, .ref ht_draft, .ref ht_text, .int t_many, .int t_letters, .int t_length, .int t_where, .int t_tree, .ref ht_todo, .ref ht_with, .ref ht_holes, .int t_top, .int t_hole, .int t_at, .int t_made, .ref ht_variable, .ref ht_stack, .ref ht_signs, .ref ht_output, .ref ht_blocks, .int (t_high - (1 : Int32)), .int t_signsHigh, .int t_printed, .int t_done, .int t_value])), (ht_text, .inl (cI, 600, .inl t_text)), (ht_variable, .inl (cI, 6, .inl t_variable)), (ht_stack, .inl (cI, 64, .inl t_stack)), (ht_signs, .inl (cI, 64, .inl t_signs))]) hS => ?_)
              refine lv_aload_n hx hb d_M_work_154 rfl (lv_at hl 3 rfl) ?_
              refine va_get (D := D) (ci := 6) (v := .ref ht_stack) (C := R_M) (T := F_M) (N := 28) hx hb hts u_M hown hK hP 0 rfl rfl 19 (by decide) f_44 (fun _ h9 => h9) rfl d_M_work_155 ?_
              refine lv_aload_n hx hb d_M_work_158 rfl (lv_at hl 3 rfl) ?_
              refine va_get (D := D) (ci := 6) (v := .int (t_high - (1 : Int32))) (C := R_M) (T := F_M) (N := 28) hx hb hts u_M hown hK hP 0 rfl rfl 23 (by decide) f_157 (fun _ h9 => h9) rfl d_M_work_159 ?_
              refine lv_iconst (v := (1 : Int32)) hx hb d_M_work_162 (by decide) ?_
              refine lv_isub hx hb d_M_work_163 ?_
              refine lv_aload_n hx hb d_M_work_164 rfl (lv_at hl 3 rfl) ?_
              refine va_get (D := D) (ci := 6) (v := .ref ht_signs) (C := R_M) (T := F_M) (N := 28) hx hb hts u_M hown hK hP 0 rfl rfl 20 (by decide) f_47 (fun _ h9 => h9) rfl d_M_work_165 ?_
              refine lv_aload_n hx hb d_M_work_168 rfl (lv_at hl 3 rfl) ?_
              refine va_get (D := D) (ci := 6) (v := .int t_signsHigh) (C := R_M) (T := F_M) (N := 28) hx hb hts u_M hown hK hP 0 rfl rfl 24 (by decide) f_182 (fun _ h9 => h9) rfl d_M_work_169 ?_
              refine lv_iconst (v := (1 : Int32)) hx hb d_M_work_172 (by decide) ?_
              refine lv_isub hx hb d_M_work_173 ?_
              obtain ⟨hi, h⟩ := g_ck h
              refine va_iald hx hb hK hP 4 0 rfl rfl hi d_M_work_174 ?_
              refine lv_aload_n hx hb d_M_work_175 rfl (lv_at hl 3 rfl) ?_
              refine va_get (D := D) (ci := 6) (v := .ref ht_stack) (C := R_M) (T := F_M) (N := 28) hx hb hts u_M hown hK hP 0 rfl rfl 19 (by decide) f_44 (fun _ h9 => h9) rfl d_M_work_176 ?_
              refine lv_aload_n hx hb d_M_work_179 rfl (lv_at hl 3 rfl) ?_
              refine va_get (D := D) (ci := 6) (v := .int (t_high - (1 : Int32))) (C := R_M) (T := F_M) (N := 28) hx hb hts u_M hown hK hP 0 rfl rfl 23 (by decide) f_157 (fun _ h9 => h9) rfl d_M_work_180 ?_
              refine lv_iconst (v := (1 : Int32)) hx hb d_M_work_183 (by decide) ?_
              refine lv_isub hx hb d_M_work_184 ?_
              obtain ⟨hi, h⟩ := g_ck h
              refine va_iald hx hb hK hP 3 0 rfl rfl hi d_M_work_185 ?_
              refine lv_aload_n hx hb d_M_work_186 rfl (lv_at hl 3 rfl) ?_
              refine va_get (D := D) (ci := 6) (v := .ref ht_stack) (C := R_M) (T := F_M) (N := 28) hx hb hts u_M hown hK hP 0 rfl rfl 19 (by decide) f_44 (fun _ h9 => h9) rfl d_M_work_187 ?_
              refine lv_aload_n hx hb d_M_work_190 rfl (lv_at hl 3 rfl) ?_
              refine va_get (D := D) (ci := 6) (v := .int (t_high - (1 : Int32))) (C := R_M) (T := F_M) (N := 28) hx hb hts u_M hown hK hP 0 rfl rfl 23 (by decide) f_157 (fun _ h9 => h9) rfl d_M_work_191 ?_
              obtain ⟨hi, h⟩ := g_ck h
              refine va_iald hx hb hK hP 3 0 rfl rfl hi d_M_work_194 ?_
              obtain ⟨q3, hc, h⟩ := g_bd h
              refine gk_i (va_runS (As := [.int (t_signs (t_signsHigh - (1 : Int32)).toNatClampNeg), .int (t_stack ((t_high - (1 : Int32)) - (1 : Int32)).toNatClampNeg), .int (t_stack (t_high - (1 : Int32)).toNatClampNeg)]) (rest := [.int ((t_high - (1 : Int32)) - (1 : Int32)), .ref ht_stack]) ⟨hx, hb, hml, hown, hts⟩ (c_M_both l D cI cC (t_signs (t_signsHigh - (1 : Int32)).toNatClampNeg) (t_stack ((t_high - (1 : Int32)) - (1 : Int32)).toNatClampNeg) (t_stack (t_high - (1 : Int32)).toNatClampNeg) q3 hc _) (va_cwS 3 hts (gG_S mt_4_137 mt_4_138 mt_1_7 mt_4_139) rfl rfl rfl (by decide +kernel) ⟨Nat.le_of_ble_eq_true rfl, Nat.le_of_ble_eq_true rfl⟩) (gpS hK hP hD [] rfl (by decide)) rfl rfl hl.1 rfl (lv_room (Nat.le_of_ble_eq_true rfl)) d_M_work_195 ⟨Nat.zero_le _, Nat.zero_le _⟩) hK hP hD hS hA [] rfl (by decide) rfl rfl (fun H locs (hP : va_P D vwCl [(ht, .inr (6, [.ref ht_op, .ref ht_to, .ref ht_newOp, .ref ht_newTo, .ref ht_draft, .ref ht_text, .int t_many, .int t_letters, .int t_length, .int t_where, .int t_tree, .ref ht_todo, .ref ht_with, .ref ht_holes, .int t_top, .int t_hole, .int t_at, .int t_made, .ref ht_variable, .ref ht_stack, .ref ht_signs, .ref ht_output, .ref ht_blocks, .int (t_high - (1 : Int32)), .int t_signsHigh, .int t_printed, .int t_done, .int t_value])), (ht_text, .inl (cI, 600, .inl t_text)), (ht_variable, .inl (cI, 6, .inl t_variable)), (ht_stack, .inl (cI, 64, .inl t_stack)), (ht_signs, .inl (cI, 64, .inl t_signs))] H) (hD : va_D A [(ht, .inr (6, [.ref ht_op, .ref ht_to, .ref ht_newOp, .ref ht_newTo, .ref ht_draft, .ref ht_text, .int t_many, .int t_letters, .int t_length, .int t_where, .int t_tree, .ref ht_todo, .ref ht_with, .ref ht_holes, .int t_top, .int t_hole, .int t_at, .int t_made, .ref ht_variable, .ref ht_stack, .ref ht_signs, .ref ht_output, .ref ht_blocks, .int (t_high - (1 : Int32)), .int t_signsHigh, .int t_printed, .int t_done, .int t_value])), (ht_text, .inl (cI, 600, .inl t_text)), (ht_variable, .inl (cI, 6, .inl t_variable)), (ht_stack, .inl (cI, 64, .inl t_stack)), (ht_signs, .inl (cI, 64, .inl t_signs))]) hS => ?_)
              obtain ⟨hi, h⟩ := g_ck h
              refine va_iast hx hb hK hP hD hS 3 0 rfl rfl hi d_M_work_198 (fun H locs (hP : va_P D vwCl [(ht, .inr (6, [.ref ht_op, .ref ht_to, .ref ht_newOp, .ref ht_newTo, .ref ht_draft, .ref ht_text, .int t_many, .int t_letters, .int t_length, .int t_where, .int t_tree, .ref ht_todo, .ref ht_with, .ref ht_holes, .int t_top, .int t_hole, .int t_at, .int t_made, .ref ht_variable, .ref ht_stack, .ref ht_signs, .ref ht_output, .ref ht_blocks, .int (t_high - (1 : Int32)), .int t_signsHigh, .int t_printed, .int t_done, .int t_value])), (ht_text, .inl (cI, 600, .inl t_text)), (ht_variable, .inl (cI, 6, .inl t_variable)), (ht_stack, .inl (cI, 64, .inl (upd t_stack ((t_high - (1 : Int32)) - (1 : Int32)).toNatClampNeg q3))), (ht_signs, .inl (cI, 64, .inl t_signs))] H) (hD : va_D A [(ht, .inr (6, [.ref ht_op, .ref ht_to, .ref ht_newOp, .ref ht_newTo, .ref ht_draft, .ref ht_text, .int t_many, .int t_letters, .int t_length, .int t_where, .int t_tree, .ref ht_todo, .ref ht_with, .ref ht_holes, .int t_top, .int t_hole, .int t_at, .int t_made, .ref ht_variable, .ref ht_stack, .ref ht_signs, .ref ht_output, .ref ht_blocks, .int (t_high - (1 : Int32)), .int t_signsHigh, .int t_printed, .int t_done, .int t_value])), (ht_text, .inl (cI, 600, .inl t_text)), (ht_variable, .inl (cI, 6, .inl t_variable)), (ht_stack, .inl (cI, 64, .inl (upd t_stack ((t_high - (1 : Int32)) - (1 : Int32)).toNatClampNeg q3))), (ht_signs, .inl (cI, 64, .inl t_signs))]) hS => ?_)
              refine lv_aload_n hx hb d_M_work_199 rfl (lv_at hl 3 rfl) ?_
              refine lv_dup hx hb d_M_work_200 rfl ?_
              refine va_get (D := D) (ci := 6) (v := .int t_signsHigh) (C := R_M) (T := F_M) (N := 28) hx hb hts u_M hown hK hP 0 rfl rfl 24 (by decide) f_182 (fun _ h9 => h9) rfl d_M_work_201 ?_
              refine lv_iconst (v := (2 : Int32)) hx hb d_M_work_204 (by decide) ?_
              refine lv_isub hx hb d_M_work_205 ?_
              refine va_put (D := D) (ci := 6) (v := .int (t_signsHigh - (2 : Int32))) (ty := .int) (C := R_M) (T := F_M) (N := 28) hx hb hts u_M t_M t_M_ok n_M hown hK hP hD hS 0 rfl rfl 24 (by decide) f_182 (fun _ h9 => h9) rfl (by decide +kernel) rfl rfl (Nat.le_of_ble_eq_true rfl) d_M_work_206 (fun H locs (hP : va_P D vwCl [(ht, .inr (6, [.ref ht_op, .ref ht_to, .ref ht_newOp, .ref ht_newTo, .ref ht_draft, .ref ht_text, .int t_many, .int t_letters, .int t_length, .int t_where, .int t_tree, .ref ht_todo, .ref ht_with, .ref ht_holes, .int t_top, .int t_hole, .int t_at, .int t_made, .ref ht_variable, .ref ht_stack, .ref ht_signs, .ref ht_output, .ref ht_blocks, .int (t_high - (1 : Int32)), .int (t_signsHigh - (2 : Int32)), .int t_printed, .int t_done, .int t_value])), (ht_text, .inl (cI, 600, .inl t_text)), (ht_variable, .inl (cI, 6, .inl t_variable)), (ht_stack, .inl (cI, 64, .inl (upd t_stack ((t_high - (1 : Int32)) - (1 : Int32)).toNatClampNeg q3))), (ht_signs, .inl (cI, 64, .inl t_signs))] H) (hD : va_D A [(ht, .inr (6, [.ref ht_op, .ref ht_to, .ref ht_newOp, .ref ht_newTo, .ref ht_draft, .ref ht_text, .int t_many, .int t_letters, .int t_length, .int t_where, .int t_tree, .ref ht_todo, .ref ht_with, .ref ht_holes, .int t_top, .int t_hole, .int t_at, .int t_made, .ref ht_variable, .ref ht_stack, .ref ht_signs, .ref ht_output, .ref ht_blocks, .int (t_high - (1 : Int32)), .int (t_signsHigh - (2 : Int32)), .int t_printed, .int t_done, .int t_value])), (ht_text, .inl (cI, 600, .inl t_text)), (ht_variable, .inl (cI, 6, .inl t_variable)), (ht_stack, .inl (cI, 64, .inl (upd t_stack ((t_high - (1 : Int32)) - (1 : Int32)).toNatClampNeg q3))), (ht_signs, .inl (cI, 64, .inl t_signs))]) hS => ?_)
              refine lv_goto (tgt := 233) hx hb d_M_work_209 (by decide) ?_
              exact LP_233 500 _ _ _ _ _ _ _ h _ _ _ hP hD hS (lv_sub hl [3, 1, 0] rfl)
          · have h := g_f ec h
            refine lv_aload_n hx hb d_M_work_108 rfl (lv_at hl 3 rfl) ?_
            refine va_get (D := D) (ci := 6) (v := .ref ht_stack) (C := R_M) (T := F_M) (N := 28) hx hb hts u_M hown hK hP 0 rfl rfl 19 (by decide) f_44 (fun _ h9 => h9) rfl d_M_work_109 ?_
            refine lv_aload_n hx hb d_M_work_112 rfl (lv_at hl 3 rfl) ?_
            refine lv_dup hx hb d_M_work_113 rfl ?_
            refine va_get (D := D) (ci := 6) (v := .int t_high) (C := R_M) (T := F_M) (N := 28) hx hb hts u_M hown hK hP 0 rfl rfl 23 (by decide) f_157 (fun _ h9 => h9) rfl d_M_work_114 ?_
            refine lv_dup_x1 hx hb d_M_work_117 rfl rfl ?_
            refine lv_iconst (v := (1 : Int32)) hx hb d_M_work_118 (by decide) ?_
            refine lv_iadd hx hb d_M_work_119 ?_
            refine va_put (D := D) (ci := 6) (v := .int (t_high + (1 : Int32))) (ty := .int) (C := R_M) (T := F_M) (N := 28) hx hb hts u_M t_M t_M_ok n_M hown hK hP hD hS 0 rfl rfl 23 (by decide) f_157 (fun _ h9 => h9) rfl (by decide +kernel) rfl rfl (Nat.le_of_ble_eq_true rfl) d_M_work_120 (fun H locs (hP : va_P D vwCl [(ht, .inr (6, [.ref ht_op, .ref ht_to, .ref ht_newOp, .ref ht_newTo, .ref ht_draft, .ref ht_text, .int t_many, .int t_letters, .int t_length, .int t_where, .int t_tree, .ref ht_todo, .ref ht_with, .ref ht_holes, .int t_top, .int t_hole, .int t_at, .int t_made, .ref ht_variable, .ref ht_stack, .ref ht_signs, .ref ht_output, .ref ht_blocks, .int (t_high + (1 : Int32)), .int t_signsHigh, .int t_printed, .int t_done, .int t_value])), (ht_text, .inl (cI, 600, .inl t_text)), (ht_variable, .inl (cI, 6, .inl t_variable)), (ht_stack, .inl (cI, 64, .inl t_stack)), (ht_signs, .inl (cI, 64, .inl t_signs))] H) (hD : va_D A [(ht, .inr (6, [.ref ht_op, .ref ht_to, .ref ht_newOp, .ref ht_newTo, .ref ht_draft, .ref ht_text, .int t_many, .int t_letters, .int t_length, .int t_where, .int t_tree, .ref ht_todo, .ref ht_with, .ref ht_holes, .int t_top, .int t_hole, .int t_at, .int t_made, .ref ht_variable, .ref ht_stack, .ref ht_signs, .ref ht_output, .ref ht_blocks, .int (t_high + (1 : Int32)), .int t_signsHigh, .int t_printed, .int t_done, .int t_value])), (ht_text, .inl (cI, 600, .inl t_text)), (ht_variable, .inl (cI, 6, .inl t_variable)), (ht_stack, .inl (cI, 64, .inl t_stack)), (ht_signs, .inl (cI, 64, .inl t_signs))]) hS => ?_)
            refine lv_aload_n hx hb d_M_work_123 rfl (lv_at hl 3 rfl) ?_
            refine va_get (D := D) (ci := 6) (v := .ref ht_variable) (C := R_M) (T := F_M) (N := 28) hx hb hts u_M hown hK hP 0 rfl rfl 18 (by decide) f_41 (fun _ h9 => h9) rfl d_M_work_124 ?_
            refine lv_iload hx hb d_M_work_127 (lv_at hl 2 rfl) ?_
            refine lv_bipush (v := (97 : Int32)) hx hb d_M_work_129 (by decide) ?_
            refine lv_isub hx hb d_M_work_131 ?_
            obtain ⟨hi, h⟩ := g_ck h
            refine va_iald hx hb hK hP 2 0 rfl rfl hi d_M_work_132 ?_
            obtain ⟨hi, h⟩ := g_ck h
            refine va_iast hx hb hK hP hD hS 3 0 rfl rfl hi d_M_work_133 (fun H locs (hP : va_P D vwCl [(ht, .inr (6, [.ref ht_op, .ref ht_to, .ref ht_newOp, .ref ht_newTo, .ref ht_draft, .ref ht_text, .int t_many, .int t_letters, .int t_length, .int t_where, .int t_tree, .ref ht_todo, .ref ht_with, .ref ht_holes, .int t_top, .int t_hole, .int t_at, .int t_made, .ref ht_variable, .ref ht_stack, .ref ht_signs, .ref ht_output, .ref ht_blocks, .int (t_high + (1 : Int32)), .int t_signsHigh, .int t_printed, .int t_done, .int t_value])), (ht_text, .inl (cI, 600, .inl t_text)), (ht_variable, .inl (cI, 6, .inl t_variable)), (ht_stack, .inl (cI, 64, .inl (upd t_stack t_high.toNatClampNeg (t_variable ((t_text v2.toNatClampNeg) - (97 : Int32)).toNatClampNeg)))), (ht_signs, .inl (cI, 64, .inl t_signs))] H) (hD : va_D A [(ht, .inr (6, [.ref ht_op, .ref ht_to, .ref ht_newOp, .ref ht_newTo, .ref ht_draft, .ref ht_text, .int t_many, .int t_letters, .int t_length, .int t_where, .int t_tree, .ref ht_todo, .ref ht_with, .ref ht_holes, .int t_top, .int t_hole, .int t_at, .int t_made, .ref ht_variable, .ref ht_stack, .ref ht_signs, .ref ht_output, .ref ht_blocks, .int (t_high + (1 : Int32)), .int t_signsHigh, .int t_printed, .int t_done, .int t_value])), (ht_text, .inl (cI, 600, .inl t_text)), (ht_variable, .inl (cI, 6, .inl t_variable)), (ht_stack, .inl (cI, 64, .inl (upd t_stack t_high.toNatClampNeg (t_variable ((t_text v2.toNatClampNeg) - (97 : Int32)).toNatClampNeg)))), (ht_signs, .inl (cI, 64, .inl t_signs))]) hS => ?_)
            refine lv_goto (tgt := 233) hx hb d_M_work_134 (by decide) ?_
            exact LP_233 500 _ _ _ _ _ _ _ h _ _ _ hP hD hS (lv_sub hl [3, 1, 0] rfl)
        · have h := g_f ec h
          refine lv_iload hx hb d_M_work_40 (lv_at hl 2 rfl) ?_
          refine lv_bipush (v := (48 : Int32)) hx hb d_M_work_42 (by decide) ?_
          refine lv_isub hx hb d_M_work_44 ?_
          refine lv_istore (lv' := [(6, .int ((t_text v2.toNatClampNeg) - (48 : Int32))), (5, .int (1 : Int32)), (2, .int (v2 + (1 : Int32))), (4, .int (t_text v2.toNatClampNeg)), (0, .ref ht), (3, .int v3)]) hx hb d_M_work_45 hl (by decide) rfl (fun ls hl => ?_)
          refine lv_aload_n hx hb d_M_work_47 rfl (lv_at hl 4 rfl) ?_
          refine va_get (D := D) (ci := 6) (v := .ref ht_text) (C := R_M) (T := F_M) (N := 28) hx hb hts u_M hown hK hP 0 rfl rfl 5 (by decide) f_25 (fun _ h9 => h9) rfl d_M_work_48 ?_
          refine lv_iload_n hx hb d_M_work_51 rfl (lv_at hl 2 rfl) ?_
          obtain ⟨hi, h⟩ := g_ck h
          refine va_iald hx hb hK hP 1 0 rfl rfl hi d_M_work_52 ?_
          obtain ⟨q4, hc, h⟩ := g_bd h
          refine gk_i (va_runS (As := [.int (t_text (v2 + (1 : Int32)).toNatClampNeg)]) (rest := []) ⟨hx, hb, hml, hown, hts⟩ (c_M_isDigit l D cI cC (t_text (v2 + (1 : Int32)).toNatClampNeg) q4 hc _) (va_cwS 1 hts (gG_S mt_4_98 mt_4_99 mt_1_7 mt_4_100) rfl rfl rfl (by decide +kernel) ⟨Nat.le_of_ble_eq_true rfl, Nat.le_of_ble_eq_true rfl⟩) (gpS hK hP hD [] rfl (by decide)) rfl rfl hl.1 rfl (lv_room (Nat.le_of_ble_eq_true rfl)) d_M_work_53 ⟨Nat.zero_le _, Nat.zero_le _⟩) hK hP hD hS hA [] rfl (by decide) rfl rfl (fun H locs (hP : va_P D vwCl [(ht, .inr (6, [.ref ht_op, .ref ht_to, .ref ht_newOp, .ref ht_newTo, .ref ht_draft, .ref ht_text, .int t_many, .int t_letters, .int t_length, .int t_where, .int t_tree, .ref ht_todo, .ref ht_with, .ref ht_holes, .int t_top, .int t_hole, .int t_at, .int t_made, .ref ht_variable, .ref ht_stack, .ref ht_signs, .ref ht_output, .ref ht_blocks, .int t_high, .int t_signsHigh, .int t_printed, .int t_done, .int t_value])), (ht_text, .inl (cI, 600, .inl t_text)), (ht_variable, .inl (cI, 6, .inl t_variable)), (ht_stack, .inl (cI, 64, .inl t_stack)), (ht_signs, .inl (cI, 64, .inl t_signs))] H) (hD : va_D A [(ht, .inr (6, [.ref ht_op, .ref ht_to, .ref ht_newOp, .ref ht_newTo, .ref ht_draft, .ref ht_text, .int t_many, .int t_letters, .int t_length, .int t_where, .int t_tree, .ref ht_todo, .ref ht_with, .ref ht_holes, .int t_top, .int t_hole, .int t_at, .int t_made, .ref ht_variable, .ref ht_stack, .ref ht_signs, .ref ht_output, .ref ht_blocks, .int t_high, .int t_signsHigh, .int t_printed, .int t_done, .int t_value])), (ht_text, .inl (cI, 600, .inl t_text)), (ht_variable, .inl (cI, 6, .inl t_variable)), (ht_stack, .inl (cI, 64, .inl t_stack)), (ht_signs, .inl (cI, 64, .inl t_signs))]) hS => ?_)
          refine lv_if_eq (tgt := 79) hx hb d_M_work_56 (by decide) (fun ec => ?_) (fun ec => ?_)
          · have h := g_t ec h
            refine lv_aload_n hx hb d_M_work_79 rfl (lv_at hl 4 rfl) ?_
            refine va_get (D := D) (ci := 6) (v := .ref ht_stack) (C := R_M) (T := F_M) (N := 28) hx hb hts u_M hown hK hP 0 rfl rfl 19 (by decide) f_44 (fun _ h9 => h9) rfl d_M_work_80 ?_
            refine lv_aload_n hx hb d_M_work_83 rfl (lv_at hl 4 rfl) ?_
            refine lv_dup hx hb d_M_work_84 rfl ?_
            refine va_get (D := D) (ci := 6) (v := .int t_high) (C := R_M) (T := F_M) (N := 28) hx hb hts u_M hown hK hP 0 rfl rfl 23 (by decide) f_157 (fun _ h9 => h9) rfl d_M_work_85 ?_
            refine lv_dup_x1 hx hb d_M_work_88 rfl rfl ?_
            refine lv_iconst (v := (1 : Int32)) hx hb d_M_work_89 (by decide) ?_
            refine lv_iadd hx hb d_M_work_90 ?_
            refine va_put (D := D) (ci := 6) (v := .int (t_high + (1 : Int32))) (ty := .int) (C := R_M) (T := F_M) (N := 28) hx hb hts u_M t_M t_M_ok n_M hown hK hP hD hS 0 rfl rfl 23 (by decide) f_157 (fun _ h9 => h9) rfl (by decide +kernel) rfl rfl (Nat.le_of_ble_eq_true rfl) d_M_work_91 (fun H locs (hP : va_P D vwCl [(ht, .inr (6, [.ref ht_op, .ref ht_to, .ref ht_newOp, .ref ht_newTo, .ref ht_draft, .ref ht_text, .int t_many, .int t_letters, .int t_length, .int t_where, .int t_tree, .ref ht_todo, .ref ht_with, .ref ht_holes, .int t_top, .int t_hole, .int t_at, .int t_made, .ref ht_variable, .ref ht_stack, .ref ht_signs, .ref ht_output, .ref ht_blocks, .int (t_high + (1 : Int32)), .int t_signsHigh, .int t_printed, .int t_done, .int t_value])), (ht_text, .inl (cI, 600, .inl t_text)), (ht_variable, .inl (cI, 6, .inl t_variable)), (ht_stack, .inl (cI, 64, .inl t_stack)), (ht_signs, .inl (cI, 64, .inl t_signs))] H) (hD : va_D A [(ht, .inr (6, [.ref ht_op, .ref ht_to, .ref ht_newOp, .ref ht_newTo, .ref ht_draft, .ref ht_text, .int t_many, .int t_letters, .int t_length, .int t_where, .int t_tree, .ref ht_todo, .ref ht_with, .ref ht_holes, .int t_top, .int t_hole, .int t_at, .int t_made, .ref ht_variable, .ref ht_stack, .ref ht_signs, .ref ht_output, .ref ht_blocks, .int (t_high + (1 : Int32)), .int t_signsHigh, .int t_printed, .int t_done, .int t_value])), (ht_text, .inl (cI, 600, .inl t_text)), (ht_variable, .inl (cI, 6, .inl t_variable)), (ht_stack, .inl (cI, 64, .inl t_stack)), (ht_signs, .inl (cI, 64, .inl t_signs))]) hS => ?_)
            refine lv_iload hx hb d_M_work_94 (lv_at hl 0 rfl) ?_
            obtain ⟨hi, h⟩ := g_ck h
            refine va_iast hx hb hK hP hD hS 3 0 rfl rfl hi d_M_work_96 (fun H locs (hP : va_P D vwCl [(ht, .inr (6, [.ref ht_op, .ref ht_to, .ref ht_newOp, .ref ht_newTo, .ref ht_draft, .ref ht_text, .int t_many, .int t_letters, .int t_length, .int t_where, .int t_tree, .ref ht_todo, .ref ht_with, .ref ht_holes, .int t_top, .int t_hole, .int t_at, .int t_made, .ref ht_variable, .ref ht_stack, .ref ht_signs, .ref ht_output, .ref ht_blocks, .int (t_high + (1 : Int32)), .int t_signsHigh, .int t_printed, .int t_done, .int t_value])), (ht_text, .inl (cI, 600, .inl t_text)), (ht_variable, .inl (cI, 6, .inl t_variable)), (ht_stack, .inl (cI, 64, .inl (upd t_stack t_high.toNatClampNeg ((t_text v2.toNatClampNeg) - (48 : Int32))))), (ht_signs, .inl (cI, 64, .inl t_signs))] H) (hD : va_D A [(ht, .inr (6, [.ref ht_op, .ref ht_to, .ref ht_newOp, .ref ht_newTo, .ref ht_draft, .ref ht_text, .int t_many, .int t_letters, .int t_length, .int t_where, .int t_tree, .ref ht_todo, .ref ht_with, .ref ht_holes, .int t_top, .int t_hole, .int t_at, .int t_made, .ref ht_variable, .ref ht_stack, .ref ht_signs, .ref ht_output, .ref ht_blocks, .int (t_high + (1 : Int32)), .int t_signsHigh, .int t_printed, .int t_done, .int t_value])), (ht_text, .inl (cI, 600, .inl t_text)), (ht_variable, .inl (cI, 6, .inl t_variable)), (ht_stack, .inl (cI, 64, .inl (upd t_stack t_high.toNatClampNeg ((t_text v2.toNatClampNeg) - (48 : Int32))))), (ht_signs, .inl (cI, 64, .inl t_signs))]) hS => ?_)
            refine lv_goto (tgt := 233) hx hb d_M_work_97 (by decide) ?_
            exact LP_233 500 _ _ _ _ _ _ _ h _ _ _ hP hD hS (lv_sub hl [4, 2, 1] rfl)
          · have h := g_f ec h
            refine lv_bipush (v := (10 : Int32)) hx hb d_M_work_59 (by decide) ?_
            refine lv_iload hx hb d_M_work_61 (lv_at hl 0 rfl) ?_
            refine lv_imul hx hb d_M_work_63 ?_
            refine lv_aload_n hx hb d_M_work_64 rfl (lv_at hl 4 rfl) ?_
            refine va_get (D := D) (ci := 6) (v := .ref ht_text) (C := R_M) (T := F_M) (N := 28) hx hb hts u_M hown hK hP 0 rfl rfl 5 (by decide) f_25 (fun _ h9 => h9) rfl d_M_work_65 ?_
            refine lv_iload_n hx hb d_M_work_68 rfl (lv_at hl 2 rfl) ?_
            obtain ⟨hi, h⟩ := g_ck h
            refine va_iald hx hb hK hP 1 0 rfl rfl hi d_M_work_69 ?_
            refine lv_iadd hx hb d_M_work_70 ?_
            refine lv_bipush (v := (48 : Int32)) hx hb d_M_work_71 (by decide) ?_
            refine lv_isub hx hb d_M_work_73 ?_
            refine lv_istore (lv' := [(6, .int ((((10 : Int32) * ((t_text v2.toNatClampNeg) - (48 : Int32))) + (t_text (v2 + (1 : Int32)).toNatClampNeg)) - (48 : Int32))), (5, .int (1 : Int32)), (2, .int (v2 + (1 : Int32))), (4, .int (t_text v2.toNatClampNeg)), (0, .ref ht), (3, .int v3)]) hx hb d_M_work_74 hl (by decide) rfl (fun ls hl => ?_)
            refine lv_iinc (v := (v2 + (1 : Int32)) + (1 : Int32)) (lv' := [(2, .int ((v2 + (1 : Int32)) + (1 : Int32))), (6, .int ((((10 : Int32) * ((t_text v2.toNatClampNeg) - (48 : Int32))) + (t_text (v2 + (1 : Int32)).toNatClampNeg)) - (48 : Int32))), (5, .int (1 : Int32)), (4, .int (t_text v2.toNatClampNeg)), (0, .ref ht), (3, .int v3)]) hx hb d_M_work_76 hl (k := 2) rfl rfl (by decide) rfl (fun ls hl => ?_)
            refine lv_aload_n hx hb d_M_work_79 rfl (lv_at hl 4 rfl) ?_
            refine va_get (D := D) (ci := 6) (v := .ref ht_stack) (C := R_M) (T := F_M) (N := 28) hx hb hts u_M hown hK hP 0 rfl rfl 19 (by decide) f_44 (fun _ h9 => h9) rfl d_M_work_80 ?_
            refine lv_aload_n hx hb d_M_work_83 rfl (lv_at hl 4 rfl) ?_
            refine lv_dup hx hb d_M_work_84 rfl ?_
            refine va_get (D := D) (ci := 6) (v := .int t_high) (C := R_M) (T := F_M) (N := 28) hx hb hts u_M hown hK hP 0 rfl rfl 23 (by decide) f_157 (fun _ h9 => h9) rfl d_M_work_85 ?_
            refine lv_dup_x1 hx hb d_M_work_88 rfl rfl ?_
            refine lv_iconst (v := (1 : Int32)) hx hb d_M_work_89 (by decide) ?_
            refine lv_iadd hx hb d_M_work_90 ?_
            refine va_put (D := D) (ci := 6) (v := .int (t_high + (1 : Int32))) (ty := .int) (C := R_M) (T := F_M) (N := 28) hx hb hts u_M t_M t_M_ok n_M hown hK hP hD hS 0 rfl rfl 23 (by decide) f_157 (fun _ h9 => h9) rfl (by decide +kernel) rfl rfl (Nat.le_of_ble_eq_true rfl) d_M_work_91 (fun H locs (hP : va_P D vwCl [(ht, .inr (6, [.ref ht_op, .ref ht_to, .ref ht_newOp, .ref ht_newTo, .ref ht_draft, .ref ht_text, .int t_many, .int t_letters, .int t_length, .int t_where, .int t_tree, .ref ht_todo, .ref ht_with, .ref ht_holes, .int t_top, .int t_hole, .int t_at, .int t_made, .ref ht_variable, .ref ht_stack, .ref ht_signs, .ref ht_output, .ref ht_blocks, .int (t_high + (1 : Int32)), .int t_signsHigh, .int t_printed, .int t_done, .int t_value])), (ht_text, .inl (cI, 600, .inl t_text)), (ht_variable, .inl (cI, 6, .inl t_variable)), (ht_stack, .inl (cI, 64, .inl t_stack)), (ht_signs, .inl (cI, 64, .inl t_signs))] H) (hD : va_D A [(ht, .inr (6, [.ref ht_op, .ref ht_to, .ref ht_newOp, .ref ht_newTo, .ref ht_draft, .ref ht_text, .int t_many, .int t_letters, .int t_length, .int t_where, .int t_tree, .ref ht_todo, .ref ht_with, .ref ht_holes, .int t_top, .int t_hole, .int t_at, .int t_made, .ref ht_variable, .ref ht_stack, .ref ht_signs, .ref ht_output, .ref ht_blocks, .int (t_high + (1 : Int32)), .int t_signsHigh, .int t_printed, .int t_done, .int t_value])), (ht_text, .inl (cI, 600, .inl t_text)), (ht_variable, .inl (cI, 6, .inl t_variable)), (ht_stack, .inl (cI, 64, .inl t_stack)), (ht_signs, .inl (cI, 64, .inl t_signs))]) hS => ?_)
            refine lv_iload hx hb d_M_work_94 (lv_at hl 1 rfl) ?_
            obtain ⟨hi, h⟩ := g_ck h
            refine va_iast hx hb hK hP hD hS 3 0 rfl rfl hi d_M_work_96 (fun H locs (hP : va_P D vwCl [(ht, .inr (6, [.ref ht_op, .ref ht_to, .ref ht_newOp, .ref ht_newTo, .ref ht_draft, .ref ht_text, .int t_many, .int t_letters, .int t_length, .int t_where, .int t_tree, .ref ht_todo, .ref ht_with, .ref ht_holes, .int t_top, .int t_hole, .int t_at, .int t_made, .ref ht_variable, .ref ht_stack, .ref ht_signs, .ref ht_output, .ref ht_blocks, .int (t_high + (1 : Int32)), .int t_signsHigh, .int t_printed, .int t_done, .int t_value])), (ht_text, .inl (cI, 600, .inl t_text)), (ht_variable, .inl (cI, 6, .inl t_variable)), (ht_stack, .inl (cI, 64, .inl (upd t_stack t_high.toNatClampNeg ((((10 : Int32) * ((t_text v2.toNatClampNeg) - (48 : Int32))) + (t_text (v2 + (1 : Int32)).toNatClampNeg)) - (48 : Int32))))), (ht_signs, .inl (cI, 64, .inl t_signs))] H) (hD : va_D A [(ht, .inr (6, [.ref ht_op, .ref ht_to, .ref ht_newOp, .ref ht_newTo, .ref ht_draft, .ref ht_text, .int t_many, .int t_letters, .int t_length, .int t_where, .int t_tree, .ref ht_todo, .ref ht_with, .ref ht_holes, .int t_top, .int t_hole, .int t_at, .int t_made, .ref ht_variable, .ref ht_stack, .ref ht_signs, .ref ht_output, .ref ht_blocks, .int (t_high + (1 : Int32)), .int t_signsHigh, .int t_printed, .int t_done, .int t_value])), (ht_text, .inl (cI, 600, .inl t_text)), (ht_variable, .inl (cI, 6, .inl t_variable)), (ht_stack, .inl (cI, 64, .inl (upd t_stack t_high.toNatClampNeg ((((10 : Int32) * ((t_text v2.toNatClampNeg) - (48 : Int32))) + (t_text (v2 + (1 : Int32)).toNatClampNeg)) - (48 : Int32))))), (ht_signs, .inl (cI, 64, .inl t_signs))]) hS => ?_)
            refine lv_goto (tgt := 233) hx hb d_M_work_97 (by decide) ?_
            exact LP_233 500 _ _ _ _ _ _ _ h _ _ _ hP hD hS (lv_sub hl [4, 0, 2] rfl)
  have hP : va_P D vwCl [(ht, .inr (6, [.ref ht_op, .ref ht_to, .ref ht_newOp, .ref ht_newTo, .ref ht_draft, .ref ht_text, .int t_many, .int t_letters, .int t_length, .int t_where, .int t_tree, .ref ht_todo, .ref ht_with, .ref ht_holes, .int t_top, .int t_hole, .int t_at, .int t_made, .ref ht_variable, .ref ht_stack, .ref ht_signs, .ref ht_output, .ref ht_blocks, .int t_high, .int t_signsHigh, .int t_printed, .int t_done, .int t_value])), (ht_text, .inl (cI, 600, .inl t_text)), (ht_variable, .inl (cI, 6, .inl t_variable)), (ht_stack, .inl (cI, 64, .inl t_stack)), (ht_signs, .inl (cI, 64, .inl t_signs))] s.heap := hP
  have hl := lv_entry ([.ref ht, .int a1]) (n := 7) (Nat.le_of_ble_eq_true rfl)
  rw [lg_entry_eq]
  generalize (lg_sl ([.ref ht, .int a1]) ++ List.replicate (7 - (lg_sl ([.ref ht, .int a1])).length) Slot.unset).toArray = ls at hl ⊢
  have hl : lv_has ls 7 [(0, .ref ht), (1, .int a1)] := hl
  unfold g_M_work at h
  refine lv_iload_n hx hb d_M_work_0 rfl (lv_at hl 1 rfl) ?_
  refine lv_istore_n (lv' := [(2, .int a1), (0, .ref ht), (1, .int a1)]) hx hb d_M_work_1 rfl hl (by decide) rfl (fun ls hl => ?_)
  refine lv_aload_n hx hb d_M_work_2 rfl (lv_at hl 1 rfl) ?_
  refine lv_iconst (v := (0 : Int32)) hx hb d_M_work_3 (by decide) ?_
  refine va_put (D := D) (ci := 6) (v := .int (0 : Int32)) (ty := .int) (C := R_M) (T := F_M) (N := 28) hx hb hts u_M t_M t_M_ok n_M hown hK hP hD hS 0 rfl rfl 23 (by decide) f_157 (fun _ h9 => h9) rfl (by decide +kernel) rfl rfl (Nat.le_of_ble_eq_true rfl) d_M_work_4 (fun H locs (hP : va_P D vwCl [(ht, .inr (6, [.ref ht_op, .ref ht_to, .ref ht_newOp, .ref ht_newTo, .ref ht_draft, .ref ht_text, .int t_many, .int t_letters, .int t_length, .int t_where, .int t_tree, .ref ht_todo, .ref ht_with, .ref ht_holes, .int t_top, .int t_hole, .int t_at, .int t_made, .ref ht_variable, .ref ht_stack, .ref ht_signs, .ref ht_output, .ref ht_blocks, .int (0 : Int32), .int t_signsHigh, .int t_printed, .int t_done, .int t_value])), (ht_text, .inl (cI, 600, .inl t_text)), (ht_variable, .inl (cI, 6, .inl t_variable)), (ht_stack, .inl (cI, 64, .inl t_stack)), (ht_signs, .inl (cI, 64, .inl t_signs))] H) (hD : va_D A [(ht, .inr (6, [.ref ht_op, .ref ht_to, .ref ht_newOp, .ref ht_newTo, .ref ht_draft, .ref ht_text, .int t_many, .int t_letters, .int t_length, .int t_where, .int t_tree, .ref ht_todo, .ref ht_with, .ref ht_holes, .int t_top, .int t_hole, .int t_at, .int t_made, .ref ht_variable, .ref ht_stack, .ref ht_signs, .ref ht_output, .ref ht_blocks, .int (0 : Int32), .int t_signsHigh, .int t_printed, .int t_done, .int t_value])), (ht_text, .inl (cI, 600, .inl t_text)), (ht_variable, .inl (cI, 6, .inl t_variable)), (ht_stack, .inl (cI, 64, .inl t_stack)), (ht_signs, .inl (cI, 64, .inl t_signs))]) hS => ?_)
  refine lv_aload_n hx hb d_M_work_7 rfl (lv_at hl 1 rfl) ?_
  refine lv_iconst (v := (0 : Int32)) hx hb d_M_work_8 (by decide) ?_
  refine va_put (D := D) (ci := 6) (v := .int (0 : Int32)) (ty := .int) (C := R_M) (T := F_M) (N := 28) hx hb hts u_M t_M t_M_ok n_M hown hK hP hD hS 0 rfl rfl 24 (by decide) f_182 (fun _ h9 => h9) rfl (by decide +kernel) rfl rfl (Nat.le_of_ble_eq_true rfl) d_M_work_9 (fun H locs (hP : va_P D vwCl [(ht, .inr (6, [.ref ht_op, .ref ht_to, .ref ht_newOp, .ref ht_newTo, .ref ht_draft, .ref ht_text, .int t_many, .int t_letters, .int t_length, .int t_where, .int t_tree, .ref ht_todo, .ref ht_with, .ref ht_holes, .int t_top, .int t_hole, .int t_at, .int t_made, .ref ht_variable, .ref ht_stack, .ref ht_signs, .ref ht_output, .ref ht_blocks, .int (0 : Int32), .int (0 : Int32), .int t_printed, .int t_done, .int t_value])), (ht_text, .inl (cI, 600, .inl t_text)), (ht_variable, .inl (cI, 6, .inl t_variable)), (ht_stack, .inl (cI, 64, .inl t_stack)), (ht_signs, .inl (cI, 64, .inl t_signs))] H) (hD : va_D A [(ht, .inr (6, [.ref ht_op, .ref ht_to, .ref ht_newOp, .ref ht_newTo, .ref ht_draft, .ref ht_text, .int t_many, .int t_letters, .int t_length, .int t_where, .int t_tree, .ref ht_todo, .ref ht_with, .ref ht_holes, .int t_top, .int t_hole, .int t_at, .int t_made, .ref ht_variable, .ref ht_stack, .ref ht_signs, .ref ht_output, .ref ht_blocks, .int (0 : Int32), .int (0 : Int32), .int t_printed, .int t_done, .int t_value])), (ht_text, .inl (cI, 600, .inl t_text)), (ht_variable, .inl (cI, 6, .inl t_variable)), (ht_stack, .inl (cI, 64, .inl t_stack)), (ht_signs, .inl (cI, 64, .inl t_signs))]) hS => ?_)
  refine lv_iconst (v := (0 : Int32)) hx hb d_M_work_12 (by decide) ?_
  refine lv_istore_n (lv' := [(3, .int (0 : Int32)), (2, .int a1), (0, .ref ht), (1, .int a1)]) hx hb d_M_work_13 rfl hl (by decide) rfl (fun ls hl => ?_)
  exact LP_14 500 _ _ _ _ _ _ _ h _ _ _ hP hD hS (lv_sub hl [2, 1, 0] rfl)
