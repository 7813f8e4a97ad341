def K_M_behind (l : Launch) (D : va_G) (cI cC : ClassId) : Prop :=
  ∀ (ht ht_op ht_to ht_newOp ht_newTo ht_draft ht_text ht_todo ht_with ht_holes ht_variable ht_stack ht_signs ht_output ht_blocks : Nat) (t_many : Int32) (t_letters : Int32) (t_length : Int32) (t_where : Int32) (t_tree : Int32) (t_top : Int32) (t_hole : Int32) (t_at : Int32) (t_made : Int32) (t_high : Int32) (t_signsHigh : Int32) (t_printed : Int32) (t_done : Int32) (t_value : Int32) (t_text : Nat → Int32) (a1 : Int32) (q : Int32), g_M_behind t_text a1 = some q → ∀ (sz : Nat), Met l y_M_behind w_M_behind ({ frames := 0, cells := 0, slots := 0, locals := 0 }) (va_Pc [.ref ht, .int a1] (gB D (gT cI cC) [(ht, .inr (6, [.ref ht_op, .ref ht_to, .ref ht_newOp, .ref ht_newTo, .ref ht_draft, .ref ht_text, .int t_many, .int t_letters, .int t_length, .int t_where, .int t_tree, .ref ht_todo, .ref ht_with, .ref ht_holes, .int t_top, .int t_hole, .int t_at, .int t_made, .ref ht_variable, .ref ht_stack, .ref ht_signs, .ref ht_output, .ref ht_blocks, .int t_high, .int t_signsHigh, .int t_printed, .int t_done, .int t_value])), (ht_text, .inl (cI, 600, .inl t_text))] sz)) (gQi D (gT cI cC) q [(ht, .inr (6, [.ref ht_op, .ref ht_to, .ref ht_newOp, .ref ht_newTo, .ref ht_draft, .ref ht_text, .int t_many, .int t_letters, .int t_length, .int t_where, .int t_tree, .ref ht_todo, .ref ht_with, .ref ht_holes, .int t_top, .int t_hole, .int t_at, .int t_made, .ref ht_variable, .ref ht_stack, .ref ht_signs, .ref ht_output, .ref ht_blocks, .int t_high, .int t_signsHigh, .int t_printed, .int t_done, .int t_value])), (ht_text, .inl (cI, 600, .inl t_text))] (va_A [(ht, .inr (6, [.ref ht_op, .ref ht_to, .ref ht_newOp, .ref ht_newTo, .ref ht_draft, .ref ht_text, .int t_many, .int t_letters, .int t_length, .int t_where, .int t_tree, .ref ht_todo, .ref ht_with, .ref ht_holes, .int t_top, .int t_hole, .int t_at, .int t_made, .ref ht_variable, .ref ht_stack, .ref ht_signs, .ref ht_output, .ref ht_blocks, .int t_high, .int t_signsHigh, .int t_printed, .int t_done, .int t_value])), (ht_text, .inl (cI, 600, .inl t_text))] sz)) 0 0 (va_A [(ht, .inr (6, [.ref ht_op, .ref ht_to, .ref ht_newOp, .ref ht_newTo, .ref ht_draft, .ref ht_text, .int t_many, .int t_letters, .int t_length, .int t_where, .int t_tree, .ref ht_todo, .ref ht_with, .ref ht_holes, .int t_top, .int t_hole, .int t_at, .int t_made, .ref ht_variable, .ref ht_stack, .ref ht_signs, .ref ht_output, .ref ht_blocks, .int t_high, .int t_signsHigh, .int t_printed, .int t_done, .int t_value])), (ht_text, .inl (cI, 600, .inl t_text))] sz)
set_option maxHeartbeats 4000000 in
set_option maxRecDepth 100000 in
theorem c_M_behind (l : Launch) (D : va_G) (cI cC : ClassId) : K_M_behind l D cI cC := by
  intro ht ht_op ht_to ht_newOp ht_newTo ht_draft ht_text ht_todo ht_with ht_holes ht_variable ht_stack ht_signs ht_output ht_blocks t_many t_letters t_length t_where t_tree t_top t_hole t_at t_made t_high t_signsHigh t_printed t_done t_value t_text a1 q h sz
  refine Met.ofW (cc := k_M_behind) (maxL := 4) (ret := (some .int)) (by decide) rfl ?_
  intro p e s m args below meth c s₁ B hml hv
  obtain ⟨rfl, hsz, hP, hK, hD0⟩ := hv
  have hx := B.exec
  have hb := B.bytes
  have hr := B.returns
  have hts : ∀ w ∈ lw_t, w.before ([.ref ht, .int a1] : List Value).toArray s = true := fun w h => atoms_spec (ws := w_M_behind) B.pre w (List.mem_cons_of_mem _ h)
  have hown : s.vm.findClass R_M = some m.cls := findClass_of_methodNamed B.named
  have hlocks := B.notSynchronized
  subst hsz
  have hD := hD0.self (sz := s.heap.size)
  generalize hAe : va_A [(ht, .inr (6, [.ref ht_op, .ref ht_to, .ref ht_newOp, .ref ht_newTo, .ref ht_draft, .ref ht_text, .int t_many, .int t_letters, .int t_length, .int t_where, .int t_tree, .ref ht_todo, .ref ht_with, .ref ht_holes, .int t_top, .int t_hole, .int t_at, .int t_made, .ref ht_variable, .ref ht_stack, .ref ht_signs, .ref ht_output, .ref ht_blocks, .int t_high, .int t_signsHigh, .int t_printed, .int t_done, .int t_value])), (ht_text, .inl (cI, 600, .inl t_text))] s.heap.size = A at hD ⊢
  have hA : ∀ q : Nat, s.heap.size ≤ q → A q := fun q h => by rw [← hAe]; exact Or.inr h
  have hS : va_S A s.heap s.heap [] := va_S.rf
  have f_25 := hts _ mt_3_153
  have LP_4 : ∀ nn_4 : Nat, ∀ (v2 : Int32) (v3 : Int32), b_M_behind_4 t_text nn_4 v2 v3 = some q → gJ p l e (headSpec w_M_behind ({ frames := 0, cells := 0, slots := 0, locals := 0 })).room s m ([.ref ht, .int a1] : List Value).toArray below meth c D A 4 (MQ below (gQi D (gT cI cC) q [(ht, .inr (6, [.ref ht_op, .ref ht_to, .ref ht_newOp, .ref ht_newTo, .ref ht_draft, .ref ht_text, .int t_many, .int t_letters, .int t_length, .int t_where, .int t_tree, .ref ht_todo, .ref ht_with, .ref ht_holes, .int t_top, .int t_hole, .int t_at, .int t_made, .ref ht_variable, .ref ht_stack, .ref ht_signs, .ref ht_output, .ref ht_blocks, .int t_high, .int t_signsHigh, .int t_printed, .int t_done, .int t_value])), (ht_text, .inl (cI, 600, .inl t_text))] A) ([.ref ht, .int a1] : List Value).toArray s 0 0 A) 4 [(ht, .inr (6, [.ref ht_op, .ref ht_to, .ref ht_newOp, .ref ht_newTo, .ref ht_draft, .ref ht_text, .int t_many, .int t_letters, .int t_length, .int t_where, .int t_tree, .ref ht_todo, .ref ht_with, .ref ht_holes, .int t_top, .int t_hole, .int t_at, .int t_made, .ref ht_variable, .ref ht_stack, .ref ht_signs, .ref ht_output, .ref ht_blocks, .int t_high, .int t_signsHigh, .int t_printed, .int t_done, .int t_value])), (ht_text, .inl (cI, 600, .inl t_text))] [(0, .ref ht), (2, .int v2), (3, .int v3)] [] := by
    intro nn_4
    induction nn_4 with
    | zero => intro v2 v3 h; exact g_no h
    | succ nn_4 ih_4 =>
      intro v2 v3 h H locs ls hP hD hS hl
      rw [b_M_behind_4] at h
      have J_18 : ∀ (v2 : Int32) (v3 : Int32), b_M_behind_18 t_text (b_M_behind_4 t_text nn_4) v2 v3 = some q → gJ p l e (headSpec w_M_behind ({ frames := 0, cells := 0, slots := 0, locals := 0 })).room s m ([.ref ht, .int a1] : List Value).toArray below meth c D A 4 (MQ below (gQi D (gT cI cC) q [(ht, .inr (6, [.ref ht_op, .ref ht_to, .ref ht_newOp, .ref ht_newTo, .ref ht_draft, .ref ht_text, .int t_many, .int t_letters, .int t_length, .int t_where, .int t_tree, .ref ht_todo, .ref ht_with, .ref ht_holes, .int t_top, .int t_hole, .int t_at, .int t_made, .ref ht_variable, .ref ht_stack, .ref ht_signs, .ref ht_output, .ref ht_blocks, .int t_high, .int t_signsHigh, .int t_printed, .int t_done, .int t_value])), (ht_text, .inl (cI, 600, .inl t_text))] A) ([.ref ht, .int a1] : List Value).toArray s 0 0 A) 18 [(ht, .inr (6, [.ref ht_op, .ref ht_to, .ref ht_newOp, .ref ht_newTo, .ref ht_draft, .ref ht_text, .int t_many, .int t_letters, .int t_length, .int t_where, .int t_tree, .ref ht_todo, .ref ht_with, .ref ht_holes, .int t_top, .int t_hole, .int t_at, .int t_made, .ref ht_variable, .ref ht_stack, .ref ht_signs, .ref ht_output, .ref ht_blocks, .int t_high, .int t_signsHigh, .int t_printed, .int t_done, .int t_value])), (ht_text, .inl (cI, 600, .inl t_text))] [(0, .ref ht), (2, .int v2), (3, .int v3)] [] := by
        intro v2 v3 h H locs ls hP hD hS hl
        unfold b_M_behind_18 at h
        refine lv_aload_n hx hb d_M_behind_18 rfl (lv_at hl 0 rfl) ?_
        refine va_get (D := D) (ci := 6) (v := .ref ht_text) (C := R_M) (T := F_M) (N := 28) hx hb hts u_M hown hK hP 0 rfl rfl 5 (by decide) f_25 (fun _ h9 => h9) rfl d_M_behind_19 ?_
        refine lv_iload_n hx hb d_M_behind_22 rfl (lv_at hl 2 rfl) ?_
        obtain ⟨hi, h⟩ := g_ck h
        refine va_iald hx hb hK hP 1 0 rfl rfl hi d_M_behind_23 ?_
        refine lv_bipush (v := (125 : Int32)) hx hb d_M_behind_24 (by decide) ?_
        refine lv_icmp_ne (tgt := 32) hx hb d_M_behind_26 (by decide) (fun ec => ?_) (fun ec => ?_)
        · have h := g_f ec h
          refine lv_iinc (v := v3 + (1 : Int32)) (lv' := [(3, .int (v3 + (1 : Int32))), (0, .ref ht), (2, .int v2)]) hx hb d_M_behind_32 hl (k := 2) rfl rfl (by decide) rfl (fun ls hl => ?_)
          refine lv_iload_n hx hb d_M_behind_35 rfl (lv_at hl 2 rfl) ?_
          refine lv_if_gt (tgt := 4) hx hb d_M_behind_36 (by decide) (fun ec => ?_) (fun ec => ?_)
          · have h := g_t ec h
            exact ih_4 _ _ h _ _ _ hP hD hS (lv_sub hl [1, 2, 0] rfl)
          · have h := g_f ec h
            refine lv_iload_n hx hb d_M_behind_39 rfl (lv_at hl 0 rfl) ?_
            cases h
            exact gr_i hx hb hr hlocks hK hP hD hS d_M_behind_40
        · have h := g_t ec h
          refine lv_iinc (v := v2 + (-1 : Int32)) (lv' := [(2, .int (v2 + (-1 : Int32))), (0, .ref ht), (3, .int v3)]) hx hb d_M_behind_29 hl (k := 1) rfl rfl (by decide) rfl (fun ls hl => ?_)
          refine lv_iinc (v := v3 + (1 : Int32)) (lv' := [(3, .int (v3 + (1 : Int32))), (2, .int (v2 + (-1 : Int32))), (0, .ref ht)]) hx hb d_M_behind_32 hl (k := 2) rfl rfl (by decide) rfl (fun ls hl => ?_)
          refine lv_iload_n hx hb d_M_behind_35 rfl (lv_at hl 1 rfl) ?_
          refine lv_if_gt (tgt := 4) hx hb d_M_behind_36 (by decide) (fun ec => ?_) (fun ec => ?_)
          · have h := g_t ec h
            exact ih_4 _ _ h _ _ _ hP hD hS (lv_sub hl [2, 1, 0] rfl)
          · have h := g_f ec h
            refine lv_iload_n hx hb d_M_behind_39 rfl (lv_at hl 0 rfl) ?_
            cases h
            exact gr_i hx hb hr hlocks hK hP hD hS d_M_behind_40
      refine lv_aload_n hx hb d_M_behind_4 rfl (lv_at hl 0 rfl) ?_
      refine va_get (D := D) (ci := 6) (v := .ref ht_text) (C := R_M) (T := F_M) (N := 28) hx hb hts u_M hown hK hP 0 rfl rfl 5 (by decide) f_25 (fun _ h9 => h9) rfl d_M_behind_5 ?_
      refine lv_iload_n hx hb d_M_behind_8 rfl (lv_at hl 2 rfl) ?_
      obtain ⟨hi, h⟩ := g_ck h
      refine va_iald hx hb hK hP 1 0 rfl rfl hi d_M_behind_9 ?_
      refine lv_bipush (v := (123 : Int32)) hx hb d_M_behind_10 (by decide) ?_
      refine lv_icmp_ne (tgt := 18) hx hb d_M_behind_12 (by decide) (fun ec => ?_) (fun ec => ?_)
      · have h := g_f ec h
        exact J_18 _ _ h _ _ _ hP hD hS (lv_sub hl [0, 1, 2] rfl)
      · have h := g_t ec h
        refine lv_iinc (v := v2 + (1 : Int32)) (lv' := [(2, .int (v2 + (1 : Int32))), (0, .ref ht), (3, .int v3)]) hx hb d_M_behind_15 hl (k := 1) rfl rfl (by decide) rfl (fun ls hl => ?_)
        exact J_18 _ _ h _ _ _ hP hD hS (lv_sub hl [1, 0, 2] rfl)
  have hP : va_P D vwCl [(ht, .inr (6, [.ref ht_op, .ref ht_to, .ref ht_newOp, .ref ht_newTo, .ref ht_draft, .ref ht_text, .int t_many, .int t_letters, .int t_length, .int t_where, .int t_tree, .ref ht_todo, .ref ht_with, .ref ht_holes, .int t_top, .int t_hole, .int t_at, .int t_made, .ref ht_variable, .ref ht_stack, .ref ht_signs, .ref ht_output, .ref ht_blocks, .int t_high, .int t_signsHigh, .int t_printed, .int t_done, .int t_value])), (ht_text, .inl (cI, 600, .inl t_text))] s.heap := hP
  have hl := lv_entry ([.ref ht, .int a1]) (n := 4) (Nat.le_of_ble_eq_true rfl)
  rw [lg_entry_eq]
  generalize (lg_sl ([.ref ht, .int a1]) ++ List.replicate (4 - (lg_sl ([.ref ht, .int a1])).length) Slot.unset).toArray = ls at hl ⊢
  have hl : lv_has ls 4 [(0, .ref ht), (1, .int a1)] := hl
  unfold g_M_behind at h
  refine lv_iconst (v := (0 : Int32)) hx hb d_M_behind_0 (by decide) ?_
  refine lv_istore_n (lv' := [(2, .int (0 : Int32)), (0, .ref ht), (1, .int a1)]) hx hb d_M_behind_1 rfl hl (by decide) rfl (fun ls hl => ?_)
  refine lv_iload_n hx hb d_M_behind_2 rfl (lv_at hl 2 rfl) ?_
  refine lv_istore_n (lv' := [(3, .int a1), (2, .int (0 : Int32)), (0, .ref ht), (1, .int a1)]) hx hb d_M_behind_3 rfl hl (by decide) rfl (fun ls hl => ?_)
  exact LP_4 500 _ _ h _ _ _ hP hD hS (lv_sub hl [2, 1, 0] rfl)
def K_M_walk (l : Launch) (D : va_G) (cI cC : ClassId) : Prop :=
  ∀ (ht ht_op ht_to ht_newOp ht_newTo ht_draft ht_text ht_todo ht_with ht_holes ht_variable ht_stack ht_signs ht_output ht_blocks : Nat) (t_many : Int32) (t_letters : Int32) (t_length : Int32) (t_where : Int32) (t_tree : Int32) (t_top : Int32) (t_hole : Int32) (t_at : Int32) (t_made : Int32) (t_high : Int32) (t_signsHigh : Int32) (t_printed : Int32) (t_done : Int32) (t_value : Int32) (t_text : Nat → Int32) (t_variable : Nat → Int32) (t_stack : Nat → Int32) (t_signs : Nat → Int32) (t_output : Nat → Int32) (t_blocks : Nat → Int32) (a1 a2 : Int32) (q : Int32 × (Nat → Int32) × (Nat → Int32) × (Nat → Int32) × (Nat → Int32) × (Nat → Int32) × Int32 × Int32 × Int32 × Int32 × Int32), g_M_walk t_text t_length t_tree t_variable t_stack t_signs t_output t_blocks t_high t_signsHigh t_printed t_done t_value a1 a2 = some q → ∀ (sz : Nat), Met l y_M_walk w_M_walk ({ frames := 3, cells := 0, slots := 0, locals := 68 }) (va_Pc [.ref ht, .int a1, .int a2] (gB D (gT cI cC) [(ht, .inr (6, [.ref ht_op, .ref ht_to, .ref ht_newOp, .ref ht_newTo, .ref ht_draft, .ref ht_text, .int t_many, .int t_letters, .int t_length, .int t_where, .int t_tree, .ref ht_todo, .ref ht_with, .ref ht_holes, .int t_top, .int t_hole, .int t_at, .int t_made, .ref ht_variable, .ref ht_stack, .ref ht_signs, .ref ht_output, .ref ht_blocks, .int t_high, .int t_signsHigh, .int t_printed, .int t_done, .int t_value])), (ht_text, .inl (cI, 600, .inl t_text)), (ht_variable, .inl (cI, 6, .inl t_variable)), (ht_stack, .inl (cI, 64, .inl t_stack)), (ht_signs, .inl (cI, 64, .inl t_signs)), (ht_output, .inl (cI, 20, .inl t_output)), (ht_blocks, .inl (cI, 40, .inl t_blocks))] sz)) (gQi D (gT cI cC) q.1 [(ht, .inr (6, [.ref ht_op, .ref ht_to, .ref ht_newOp, .ref ht_newTo, .ref ht_draft, .ref ht_text, .int t_many, .int t_letters, .int t_length, .int t_where, .int t_tree, .ref ht_todo, .ref ht_with, .ref ht_holes, .int t_top, .int t_hole, .int t_at, .int t_made, .ref ht_variable, .ref ht_stack, .ref ht_signs, .ref ht_output, .ref ht_blocks, .int q.2.2.2.2.2.2.1, .int q.2.2.2.2.2.2.2.1, .int q.2.2.2.2.2.2.2.2.1, .int q.2.2.2.2.2.2.2.2.2.1, .int q.2.2.2.2.2.2.2.2.2.2])), (ht_text, .inl (cI, 600, .inl t_text)), (ht_variable, .inl (cI, 6, .inl q.2.1)), (ht_stack, .inl (cI, 64, .inl q.2.2.1)), (ht_signs, .inl (cI, 64, .inl q.2.2.2.1)), (ht_output, .inl (cI, 20, .inl q.2.2.2.2.1)), (ht_blocks, .inl (cI, 40, .inl q.2.2.2.2.2.1))] (va_A [(ht, .inr (6, [.ref ht_op, .ref ht_to, .ref ht_newOp, .ref ht_newTo, .ref ht_draft, .ref ht_text, .int t_many, .int t_letters, .int t_length, .int t_where, .int t_tree, .ref ht_todo, .ref ht_with, .ref ht_holes, .int t_top, .int t_hole, .int t_at, .int t_made, .ref ht_variable, .ref ht_stack, .ref ht_signs, .ref ht_output, .ref ht_blocks, .int t_high, .int t_signsHigh, .int t_printed, .int t_done, .int t_value])), (ht_text, .inl (cI, 600, .inl t_text)), (ht_variable, .inl (cI, 6, .inl t_variable)), (ht_stack, .inl (cI, 64, .inl t_stack)), (ht_signs, .inl (cI, 64, .inl t_signs)), (ht_output, .inl (cI, 20, .inl t_output)), (ht_blocks, .inl (cI, 40, .inl t_blocks))] sz)) 0 0 (va_A [(ht, .inr (6, [.ref ht_op, .ref ht_to, .ref ht_newOp, .ref ht_newTo, .ref ht_draft, .ref ht_text, .int t_many, .int t_letters, .int t_length, .int t_where, .int t_tree, .ref ht_todo, .ref ht_with, .ref ht_holes, .int t_top, .int t_hole, .int t_at, .int t_made, .ref ht_variable, .ref ht_stack, .ref ht_signs, .ref ht_output, .ref ht_blocks, .int t_high, .int t_signsHigh, .int t_printed, .int t_done, .int t_value])), (ht_text, .inl (cI, 600, .inl t_text)), (ht_variable, .inl (cI, 6, .inl t_variable)), (ht_stack, .inl (cI, 64, .inl t_stack)), (ht_signs, .inl (cI, 64, .inl t_signs)), (ht_output, .inl (cI, 20, .inl t_output)), (ht_blocks, .inl (cI, 40, .inl t_blocks))] sz)
set_option maxHeartbeats 4000000 in
set_option maxRecDepth 100000 in
theorem c_M_walk (l : Launch) (D : va_G) (cI cC : ClassId) : K_M_walk l D cI cC := by
  intro ht ht_op ht_to ht_newOp ht_newTo ht_draft ht_text ht_todo ht_with ht_holes ht_variable ht_stack ht_signs ht_output ht_blocks t_many t_letters t_length t_where t_tree t_top t_hole t_at t_made t_high t_signsHigh t_printed t_done t_value t_text t_variable t_stack t_signs t_output t_blocks a1 a2 q h sz
  refine Met.ofW (cc := k_M_walk) (maxL := 7) (ret := (some .int)) (by decide) rfl ?_
  intro p e s m args below meth c s₁ B hml hv
  obtain ⟨rfl, hsz, hP, hK, hD0⟩ := hv
  have hx := B.exec
  have hb := B.bytes
  have hr := B.returns
  have hts : ∀ w ∈ lw_t, w.before ([.ref ht, .int a1, .int a2] : List Value).toArray s = true := fun w h => atoms_spec (ws := w_M_walk) B.pre w (List.mem_cons_of_mem _ h)
  have hown : s.vm.findClass R_M = some m.cls := findClass_of_methodNamed B.named
  have hlocks := B.notSynchronized
  subst hsz
  have hD := hD0.self (sz := s.heap.size)
  generalize hAe : va_A [(ht, .inr (6, [.ref ht_op, .ref ht_to, .ref ht_newOp, .ref ht_newTo, .ref ht_draft, .ref ht_text, .int t_many, .int t_letters, .int t_length, .int t_where, .int t_tree, .ref ht_todo, .ref ht_with, .ref ht_holes, .int t_top, .int t_hole, .int t_at, .int t_made, .ref ht_variable, .ref ht_stack, .ref ht_signs, .ref ht_output, .ref ht_blocks, .int t_high, .int t_signsHigh, .int t_printed, .int t_done, .int t_value])), (ht_text, .inl (cI, 600, .inl t_text)), (ht_variable, .inl (cI, 6, .inl t_variable)), (ht_stack, .inl (cI, 64, .inl t_stack)), (ht_signs, .inl (cI, 64, .inl t_signs)), (ht_output, .inl (cI, 20, .inl t_output)), (ht_blocks, .inl (cI, 40, .inl t_blocks))] s.heap.size = A at hD ⊢
  have hA : ∀ q : Nat, s.heap.size ≤ q → A q := fun q h => by rw [← hAe]; exact Or.inr h
  have hS : va_S A s.heap s.heap [] := va_S.rf
  have f_107 := hts _ mt_3_158
  have f_160 := hts _ mt_3_173
  have f_163 := hts _ mt_3_174
  have f_185 := hts _ mt_3_175
  have f_25 := hts _ mt_3_153
  have f_41 := hts _ mt_3_166
  have f_53 := hts _ mt_3_170
  have f_87 := hts _ mt_3_156
  have LP_33 : ∀ nn_33 : Nat, ∀ (t_variable : Nat → Int32) (t_stack : Nat → Int32) (t_signs : Nat → Int32) (t_output : Nat → Int32) (t_blocks : Nat → Int32) (t_high : Int32) (t_signsHigh : Int32) (t_printed : Int32) (t_done : Int32) (t_value : Int32) (v2 : Int32) (v3 : Int32) (v4 : Int32), b_M_walk_33 t_text t_length t_tree nn_33 t_variable t_stack t_signs t_output t_blocks t_high t_signsHigh t_printed t_done t_value v2 v3 v4 = some q → gJ p l e (headSpec w_M_walk ({ frames := 3, cells := 0, slots := 0, locals := 68 })).room s m ([.ref ht, .int a1, .int a2] : List Value).toArray below meth c D A 7 (MQ below (gQi D (gT cI cC) q.1 [(ht, .inr (6, [.ref ht_op, .ref ht_to, .ref ht_newOp, .ref ht_newTo, .ref ht_draft, .ref ht_text, .int t_many, .int t_letters, .int t_length, .int t_where, .int t_tree, .ref ht_todo, .ref ht_with, .ref ht_holes, .int t_top, .int t_hole, .int t_at, .int t_made, .ref ht_variable, .ref ht_stack, .ref ht_signs, .ref ht_output, .ref ht_blocks, .int q.2.2.2.2.2.2.1, .int q.2.2.2.2.2.2.2.1, .int q.2.2.2.2.2.2.2.2.1, .int q.2.2.2.2.2.2.2.2.2.1, .int q.2.2.2.2.2.2.2.2.2.2])), (ht_text, .inl (cI, 600, .inl t_text)), (ht_variable, .inl (cI, 6, .inl q.2.1)), (ht_stack, .inl (cI, 64, .inl q.2.2.1)), (ht_signs, .inl (cI, 64, .inl q.2.2.2.1)), (ht_output, .inl (cI, 20, .inl q.2.2.2.2.1)), (ht_blocks, .inl (cI, 40, .inl q.2.2.2.2.2.1))] A) ([.ref ht, .int a1, .int a2] : List Value).toArray s 0 0 A) 33 [(ht, .inr (6, [.ref ht_op, .ref ht_to, .ref ht_newOp, .ref ht_newTo, .ref ht_draft, .ref ht_text, .int t_many, .int t_letters, .int t_length, .int t_where, .int t_tree, .ref ht_todo, .ref ht_with, .ref ht_holes, .int t_top, .int t_hole, .int t_at, .int t_made, .ref ht_variable, .ref ht_stack, .ref ht_signs, .ref ht_output, .ref ht_blocks, .int t_high, .int t_signsHigh, .int t_printed, .int t_done, .int t_value])), (ht_text, .inl (cI, 600, .inl t_text)), (ht_variable, .inl (cI, 6, .inl t_variable)), (ht_stack, .inl (cI, 64, .inl t_stack)), (ht_signs, .inl (cI, 64, .inl t_signs)), (ht_output, .inl (cI, 20, .inl t_output)), (ht_blocks, .inl (cI, 40, .inl t_blocks))] [(0, .ref ht), (2, .int v2), (3, .int v3), (4, .int v4)] [] := by
    intro nn_33
    induction nn_33 with
    | zero => intro t_variable t_stack t_signs t_output t_blocks t_high t_signsHigh t_printed t_done t_value v2 v3 v4 h; exact g_no h
    | succ nn_33 ih_33 =>
      intro t_variable t_stack t_signs t_output t_blocks t_high t_signsHigh t_printed t_done t_value v2 v3 v4 h H locs ls hP hD hS hl
      rw [b_M_walk_33] at h
      have J_82 : ∀ (t_variable : Nat → Int32) (t_stack : Nat → Int32) (t_signs : Nat → Int32) (t_output : Nat → Int32) (t_blocks : Nat → Int32) (t_high : Int32) (t_signsHigh : Int32) (t_printed : Int32) (t_done : Int32) (t_value : Int32) (v2 : Int32) (v4 : Int32) (k0 : Int32), b_M_walk_82 t_text t_length t_tree (b_M_walk_33 t_text t_length t_tree nn_33) t_variable t_stack t_signs t_output t_blocks t_high t_signsHigh t_printed t_done t_value v2 v4 k0 = some q → gJ p l e (headSpec w_M_walk ({ frames := 3, cells := 0, slots := 0, locals := 68 })).room s m ([.ref ht, .int a1, .int a2] : List Value).toArray below meth c D A 7 (MQ below (gQi D (gT cI cC) q.1 [(ht, .inr (6, [.ref ht_op, .ref ht_to, .ref ht_newOp, .ref ht_newTo, .ref ht_draft, .ref ht_text, .int t_many, .int t_letters, .int t_length, .int t_where, .int t_tree, .ref ht_todo, .ref ht_with, .ref ht_holes, .int t_top, .int t_hole, .int t_at, .int t_made, .ref ht_variable, .ref ht_stack, .ref ht_signs, .ref ht_output, .ref ht_blocks, .int q.2.2.2.2.2.2.1, .int q.2.2.2.2.2.2.2.1, .int q.2.2.2.2.2.2.2.2.1, .int q.2.2.2.2.2.2.2.2.2.1, .int q.2.2.2.2.2.2.2.2.2.2])), (ht_text, .inl (cI, 600, .inl t_text)), (ht_variable, .inl (cI, 6, .inl q.2.1)), (ht_stack, .inl (cI, 64, .inl q.2.2.1)), (ht_signs, .inl (cI, 64, .inl q.2.2.2.1)), (ht_output, .inl (cI, 20, .inl q.2.2.2.2.1)), (ht_blocks, .inl (cI, 40, .inl q.2.2.2.2.2.1))] A) ([.ref ht, .int a1, .int a2] : List Value).toArray s 0 0 A) 82 [(ht, .inr (6, [.ref ht_op, .ref ht_to, .ref ht_newOp, .ref ht_newTo, .ref ht_draft, .ref ht_text, .int t_many, .int t_letters, .int t_length, .int t_where, .int t_tree, .ref ht_todo, .ref ht_with, .ref ht_holes, .int t_top, .int t_hole, .int t_at, .int t_made, .ref ht_variable, .ref ht_stack, .ref ht_signs, .ref ht_output, .ref ht_blocks, .int t_high, .int t_signsHigh, .int t_printed, .int t_done, .int t_value])), (ht_text, .inl (cI, 600, .inl t_text)), (ht_variable, .inl (cI, 6, .inl t_variable)), (ht_stack, .inl (cI, 64, .inl t_stack)), (ht_signs, .inl (cI, 64, .inl t_signs)), (ht_output, .inl (cI, 20, .inl t_output)), (ht_blocks, .inl (cI, 40, .inl t_blocks))] [(0, .ref ht), (2, .int v2), (4, .int v4)] [.int k0] := by
        intro t_variable t_stack t_signs t_output t_blocks t_high t_signsHigh t_printed t_done t_value v2 v4 k0 h H locs ls hP hD hS hl
        unfold b_M_walk_82 at h
        refine lv_istore_n (lv' := [(3, .int k0), (0, .ref ht), (2, .int v2), (4, .int v4)]) hx hb d_M_walk_82 rfl hl (by decide) rfl (fun ls hl => ?_)
        refine lv_aload_n hx hb d_M_walk_83 rfl (lv_at hl 1 rfl) ?_
        refine va_get (D := D) (ci := 6) (v := .ref ht_blocks) (C := R_M) (T := F_M) (N := 28) hx hb hts u_M hown hK hP 0 rfl rfl 22 (by decide) f_53 (fun _ h9 => h9) rfl d_M_walk_84 ?_
        refine lv_iload hx hb d_M_walk_87 (lv_at hl 3 rfl) ?_
        obtain ⟨hi, h⟩ := g_ck h
        refine va_iald hx hb hK hP 6 0 rfl rfl hi d_M_walk_89 ?_
        refine lv_iconst (v := (-1 : Int32)) hx hb d_M_walk_90 (by decide) ?_
        refine lv_icmp_ne (tgt := 33) hx hb d_M_walk_91 (by decide) (fun ec => ?_) (fun ec => ?_)
        · have h := g_f ec h
          exact ih_33 _ _ _ _ _ _ _ _ _ _ _ _ _ h _ _ _ hP hD hS (lv_sub hl [1, 2, 0, 3] rfl)
        · have h := g_t ec h
          refine lv_iload_n hx hb d_M_walk_94 rfl (lv_at hl 0 rfl) ?_
          refine lv_aload_n hx hb d_M_walk_95 rfl (lv_at hl 1 rfl) ?_
          refine va_get (D := D) (ci := 6) (v := .int t_length) (C := R_M) (T := F_M) (N := 28) hx hb hts u_M hown hK hP 0 rfl rfl 8 (by decide) f_87 (fun _ h9 => h9) rfl d_M_walk_96 ?_
          refine lv_icmp_ge (tgt := 33) hx hb d_M_walk_99 (by decide) (fun ec => ?_) (fun ec => ?_)
          · have h := g_t ec h
            exact ih_33 _ _ _ _ _ _ _ _ _ _ _ _ _ h _ _ _ hP hD hS (lv_sub hl [1, 2, 0, 3] rfl)
          · have h := g_f ec h
            refine lv_aload_n hx hb d_M_walk_102 rfl (lv_at hl 1 rfl) ?_
            refine va_get (D := D) (ci := 6) (v := .ref ht_text) (C := R_M) (T := F_M) (N := 28) hx hb hts u_M hown hK hP 0 rfl rfl 5 (by decide) f_25 (fun _ h9 => h9) rfl d_M_walk_103 ?_
            refine lv_iload_n hx hb d_M_walk_106 rfl (lv_at hl 0 rfl) ?_
            obtain ⟨hi, h⟩ := g_ck h
            refine va_iald hx hb hK hP 1 0 rfl rfl hi d_M_walk_107 ?_
            refine lv_bipush (v := (58 : Int32)) hx hb d_M_walk_108 (by decide) ?_
            refine lv_icmp_ne (tgt := 33) hx hb d_M_walk_110 (by decide) (fun ec => ?_) (fun ec => ?_)
            · have h := g_f ec h
              exact ih_33 _ _ _ _ _ _ _ _ _ _ _ _ _ h _ _ _ hP hD hS (lv_sub hl [1, 2, 0, 3] rfl)
            · have h := g_t ec h
              refine lv_aload_n hx hb d_M_walk_113 rfl (lv_at hl 1 rfl) ?_
              refine lv_iload_n hx hb d_M_walk_114 rfl (lv_at hl 0 rfl) ?_
              refine lv_iconst (v := (1 : Int32)) hx hb d_M_walk_115 (by decide) ?_
              refine lv_iadd hx hb d_M_walk_116 ?_
              obtain ⟨q1, hc, h⟩ := g_bd h
              refine gk_i (va_runV (As := [.int (k0 + (1 : Int32))]) (rest := []) ⟨hx, hb, hml, hown, hts⟩ (c_M_behind l D cI cC ht ht_op ht_to ht_newOp ht_newTo ht_draft ht_text ht_todo ht_with ht_holes ht_variable ht_stack ht_signs ht_output ht_blocks t_many t_letters t_length t_where t_tree t_top t_hole t_at t_made t_high t_signsHigh t_printed t_done t_value t_text (k0 + (1 : Int32)) q1 hc _) (cwV 1 hts (gG_V mt_4_144 mt_4_146 mp_45 mt_1_7 mt_4_147) rfl rfl rfl (by decide +kernel) ⟨Nat.le_of_ble_eq_true rfl, Nat.le_of_ble_eq_true rfl⟩) (gpV hK hP hD [0, 1] rfl (by decide) (ci := 6) 0 rfl rfl) rfl rfl hl.1 rfl (lv_room (Nat.le_of_ble_eq_true rfl)) d_M_walk_117 ⟨Nat.zero_le _, Nat.zero_le _⟩) hK hP hD hS hA [0, 1] rfl (by decide) rfl rfl (fun H locs (hP : va_P D vwCl [(ht, .inr (6, [.ref ht_op, .ref ht_to, .ref ht_newOp, .ref ht_newTo, .ref ht_draft, .ref ht_text, .int t_many, .int t_letters, .int t_length, .int t_where, .int t_tree, .ref ht_todo, .ref ht_with, .ref ht_holes, .int t_top, .int t_hole, .int t_at, .int t_made, .ref ht_variable, .ref ht_stack, .ref ht_signs, .ref ht_output, .ref ht_blocks, .int t_high, .int t_signsHigh, .int t_printed, .int t_done, .int t_value])), (ht_text, .inl (cI, 600, .inl t_text)), (ht_variable, .inl (cI, 6, .inl t_variable)), (ht_stack, .inl (cI, 64, .inl t_stack)), (ht_signs, .inl (cI, 64, .inl t_signs)), (ht_output, .inl (cI, 20, .inl t_output)), (ht_blocks, .inl (cI, 40, .inl t_blocks))] H) (hD : va_D A [(ht, .inr (6, [.ref ht_op, .ref ht_to, .ref ht_newOp, .ref ht_newTo, .ref ht_draft, .ref ht_text, .int t_many, .int t_letters, .int t_length, .int t_where, .int t_tree, .ref ht_todo, .ref ht_with, .ref ht_holes, .int t_top, .int t_hole, .int t_at, .int t_made, .ref ht_variable, .ref ht_stack, .ref ht_signs, .ref ht_output, .ref ht_blocks, .int t_high, .int t_signsHigh, .int t_printed, .int t_done, .int t_value])), (ht_text, .inl (cI, 600, .inl t_text)), (ht_variable, .inl (cI, 6, .inl t_variable)), (ht_stack, .inl (cI, 64, .inl t_stack)), (ht_signs, .inl (cI, 64, .inl t_signs)), (ht_output, .inl (cI, 20, .inl t_output)), (ht_blocks, .inl (cI, 40, .inl t_blocks))]) hS => ?_)
              refine lv_istore_n (lv' := [(3, .int q1), (0, .ref ht), (2, .int v2), (4, .int v4)]) hx hb d_M_walk_120 rfl hl (by decide) rfl (fun ls hl => ?_)
              refine lv_goto (tgt := 33) hx hb d_M_walk_121 (by decide) ?_
              exact ih_33 _ _ _ _ _ _ _ _ _ _ _ _ _ h _ _ _ hP hD hS (lv_sub hl [1, 2, 0, 3] rfl)
      have J_205 : ∀ (t_variable : Nat → Int32) (t_stack : Nat → Int32) (t_signs : Nat → Int32) (t_output : Nat → Int32) (t_blocks : Nat → Int32) (t_high : Int32) (t_signsHigh : Int32) (t_printed : Int32) (t_done : Int32) (t_value : Int32) (v2 : Int32) (v3 : Int32) (v4 : Int32) (v5 : Int32) (v6 : Int32), b_M_walk_205 t_text t_length t_tree (b_M_walk_33 t_text t_length t_tree nn_33) t_variable t_stack t_signs t_output t_blocks t_high t_signsHigh t_printed t_done t_value v2 v3 v4 v5 v6 = some q → gJ p l e (headSpec w_M_walk ({ frames := 3, cells := 0, slots := 0, locals := 68 })).room s m ([.ref ht, .int a1, .int a2] : List Value).toArray below meth c D A 7 (MQ below (gQi D (gT cI cC) q.1 [(ht, .inr (6, [.ref ht_op, .ref ht_to, .ref ht_newOp, .ref ht_newTo, .ref ht_draft, .ref ht_text, .int t_many, .int t_letters, .int t_length, .int t_where, .int t_tree, .ref ht_todo, .ref ht_with, .ref ht_holes, .int t_top, .int t_hole, .int t_at, .int t_made, .ref ht_variable, .ref ht_stack, .ref ht_signs, .ref ht_output, .ref ht_blocks, .int q.2.2.2.2.2.2.1, .int q.2.2.2.2.2.2.2.1, .int q.2.2.2.2.2.2.2.2.1, .int q.2.2.2.2.2.2.2.2.2.1, .int q.2.2.2.2.2.2.2.2.2.2])), (ht_text, .inl (cI, 600, .inl t_text)), (ht_variable, .inl (cI, 6, .inl q.2.1)), (ht_stack, .inl (cI, 64, .inl q.2.2.1)), (ht_signs, .inl (cI, 64, .inl q.2.2.2.1)), (ht_output, .inl (cI, 20, .inl q.2.2.2.2.1)), (ht_blocks, .inl (cI, 40, .inl q.2.2.2.2.2.1))] A) ([.ref ht, .int a1, .int a2] : List Value).toArray s 0 0 A) 205 [(ht, .inr (6, [.ref ht_op, .ref ht_to, .ref ht_newOp, .ref ht_newTo, .ref ht_draft, .ref ht_text, .int t_many, .int t_letters, .int t_length, .int t_where, .int t_tree, .ref ht_todo, .ref ht_with, .ref ht_holes, .int t_top, .int t_hole, .int t_at, .int t_made, .ref ht_variable, .ref ht_stack, .ref ht_signs, .ref ht_output, .ref ht_blocks, .int t_high, .int t_signsHigh, .int t_printed, .int t_done, .int t_value])), (ht_text, .inl (cI, 600, .inl t_text)), (ht_variable, .inl (cI, 6, .inl t_variable)), (ht_stack, .inl (cI, 64, .inl t_stack)), (ht_signs, .inl (cI, 64, .inl t_signs)), (ht_output, .inl (cI, 20, .inl t_output)), (ht_blocks, .inl (cI, 40, .inl t_blocks))] [(0, .ref ht), (2, .int v2), (3, .int v3), (4, .int v4), (5, .int v5), (6, .int v6)] [] := by
        intro t_variable t_stack t_signs t_output t_blocks t_high t_signsHigh t_printed t_done t_value v2 v3 v4 v5 v6 h H locs ls hP hD hS hl
        unfold b_M_walk_205 at h
        refine lv_iload hx hb d_M_walk_205 (lv_at hl 4 rfl) ?_
        obtain ⟨q1, hc, h⟩ := g_bd h
        refine gk_i (va_runS (As := [.int v5]) (rest := []) ⟨hx, hb, hml, hown, hts⟩ (c_M_isLetter l D cI cC v5 q1 hc _) (va_cwS 1 hts (gG_S mt_4_91 mt_4_92 mt_1_7 mt_4_93) rfl rfl rfl (by decide +kernel) ⟨Nat.le_of_ble_eq_true rfl, Nat.le_of_ble_eq_true rfl⟩) (gpS hK hP hD [] rfl (by decide)) rfl rfl hl.1 rfl (lv_room (Nat.le_of_ble_eq_true rfl)) d_M_walk_207 ⟨Nat.zero_le _, Nat.zero_le _⟩) hK hP hD hS hA [] rfl (by decide) rfl rfl (fun H locs (hP : va_P D vwCl [(ht, .inr (6, [.ref ht_op, .ref ht_to, .ref ht_newOp, .ref ht_newTo, .ref ht_draft, .ref ht_text, .int t_many, .int t_letters, .int t_length, .int t_where, .int t_tree, .ref ht_todo, .ref ht_with, .ref ht_holes, .int t_top, .int t_hole, .int t_at, .int t_made, .ref ht_variable, .ref ht_stack, .ref ht_signs, .ref ht_output, .ref ht_blocks, .int t_high, .int t_signsHigh, .int t_printed, .int t_done, .int t_value])), (ht_text, .inl (cI, 600, .inl t_text)), (ht_variable, .inl (cI, 6, .inl t_variable)), (ht_stack, .inl (cI, 64, .inl t_stack)), (ht_signs, .inl (cI, 64, .inl t_signs)), (ht_output, .inl (cI, 20, .inl t_output)), (ht_blocks, .inl (cI, 40, .inl t_blocks))] H) (hD : va_D A [(ht, .inr (6, [.ref ht_op, .ref ht_to, .ref ht_newOp, .ref ht_newTo, .ref ht_draft, .ref ht_text, .int t_many, .int t_letters, .int t_length, .int t_where, .int t_tree, .ref ht_todo, .ref ht_with, .ref ht_holes, .int t_top, .int t_hole, .int t_at, .int t_made, .ref ht_variable, .ref ht_stack, .ref ht_signs, .ref ht_output, .ref ht_blocks, .int t_high, .int t_signsHigh, .int t_printed, .int t_done, .int t_value])), (ht_text, .inl (cI, 600, .inl t_text)), (ht_variable, .inl (cI, 6, .inl t_variable)), (ht_stack, .inl (cI, 64, .inl t_stack)), (ht_signs, .inl (cI, 64, .inl t_signs)), (ht_output, .inl (cI, 20, .inl t_output)), (ht_blocks, .inl (cI, 40, .inl t_blocks))]) hS => ?_)
        refine lv_if_ne (tgt := 220) hx hb d_M_walk_210 (by decide) (fun ec => ?_) (fun ec => ?_)
        · have h := g_f ec h
          refine lv_iload hx hb d_M_walk_220 (lv_at hl 5 rfl) ?_
          refine lv_iconst (v := (1 : Int32)) hx hb d_M_walk_222 (by decide) ?_
          refine lv_iadd hx hb d_M_walk_223 ?_
          refine lv_istore_n (lv' := [(3, .int (v6 + (1 : Int32))), (0, .ref ht), (2, .int v2), (4, .int v4), (5, .int v5), (6, .int v6)]) hx hb d_M_walk_224 rfl hl (by decide) rfl (fun ls hl => ?_)
          refine lv_goto (tgt := 33) hx hb d_M_walk_225 (by decide) ?_
          exact ih_33 _ _ _ _ _ _ _ _ _ _ _ _ _ h _ _ _ hP hD hS (lv_sub hl [1, 2, 0, 3] rfl)
        · have h := g_t ec h
          refine lv_iload hx hb d_M_walk_213 (lv_at hl 4 rfl) ?_
          refine lv_bipush (v := (35 : Int32)) hx hb d_M_walk_215 (by decide) ?_
          refine lv_icmp_ne (tgt := 228) hx hb d_M_walk_217 (by decide) (fun ec => ?_) (fun ec => ?_)
          · have h := g_f ec h
            refine lv_aload_n hx hb d_M_walk_228 rfl (lv_at hl 0 rfl) ?_
            refine va_get (D := D) (ci := 6) (v := .int t_value) (C := R_M) (T := F_M) (N := 28) hx hb hts u_M hown hK hP 0 rfl rfl 27 (by decide) f_185 (fun _ h9 => h9) rfl d_M_walk_229 ?_
            refine lv_if_eq (tgt := 265) hx hb d_M_walk_232 (by decide) (fun ec => ?_) (fun ec => ?_)
            · have h := g_t ec h
              refine lv_aload_n hx hb d_M_walk_265 rfl (lv_at hl 0 rfl) ?_
              refine lv_iload hx hb d_M_walk_266 (lv_at hl 5 rfl) ?_
              obtain ⟨q2, hc, h⟩ := g_bd h
              refine gk_i (va_runV (As := [.int v6]) (rest := []) ⟨hx, hb, hml, hown, hts⟩ (c_M_behind l D cI cC ht ht_op ht_to ht_newOp ht_newTo ht_draft ht_text ht_todo ht_with ht_holes ht_variable ht_stack ht_signs ht_output ht_blocks t_many t_letters t_length t_where t_tree t_top t_hole t_at t_made t_high t_signsHigh t_printed t_done t_value t_text v6 q2 hc _) (cwV 1 hts (gG_V mt_4_144 mt_4_146 mp_45 mt_1_7 mt_4_147) rfl rfl rfl (by decide +kernel) ⟨Nat.le_of_ble_eq_true rfl, Nat.le_of_ble_eq_true rfl⟩) (gpV hK hP hD [0, 1] rfl (by decide) (ci := 6) 0 rfl rfl) rfl rfl hl.1 rfl (lv_room (Nat.le_of_ble_eq_true rfl)) d_M_walk_268 ⟨Nat.zero_le _, Nat.zero_le _⟩) hK hP hD hS hA [0, 1] rfl (by decide) rfl rfl (fun H locs (hP : va_P D vwCl [(ht, .inr (6, [.ref ht_op, .ref ht_to, .ref ht_newOp, .ref ht_newTo, .ref ht_draft, .ref ht_text, .int t_many, .int t_letters, .int t_length, .int t_where, .int t_tree, .ref ht_todo, .ref ht_with, .ref ht_holes, .int t_top, .int t_hole, .int t_at, .int t_made, .ref ht_variable, .ref ht_stack, .ref ht_signs, .ref ht_output, .ref ht_blocks, .int t_high, .int t_signsHigh, .int t_printed, .int t_done, .int t_value])), (ht_text, .inl (cI, 600, .inl t_text)), (ht_variable, .inl (cI, 6, .inl t_variable)), (ht_stack, .inl (cI, 64, .inl t_stack)), (ht_signs, .inl (cI, 64, .inl t_signs)), (ht_output, .inl (cI, 20, .inl t_output)), (ht_blocks, .inl (cI, 40, .inl t_blocks))] H) (hD : va_D A [(ht, .inr (6, [.ref ht_op, .ref ht_to, .ref ht_newOp, .ref ht_newTo, .ref ht_draft, .ref ht_text, .int t_many, .int t_letters, .int t_length, .int t_where, .int t_tree, .ref ht_todo, .ref ht_with, .ref ht_holes, .int t_top, .int t_hole, .int t_at, .int t_made, .ref ht_variable, .ref ht_stack, .ref ht_signs, .ref ht_output, .ref ht_blocks, .int t_high, .int t_signsHigh, .int t_printed, .int t_done, .int t_value])), (ht_text, .inl (cI, 600, .inl t_text)), (ht_variable, .inl (cI, 6, .inl t_variable)), (ht_stack, .inl (cI, 64, .inl t_stack)), (ht_signs, .inl (cI, 64, .inl t_signs)), (ht_output, .inl (cI, 20, .inl t_output)), (ht_blocks, .inl (cI, 40, .inl t_blocks))]) hS => ?_)
              refine lv_istore_n (lv' := [(3, .int q2), (0, .ref ht), (2, .int v2), (4, .int v4), (5, .int v5), (6, .int v6)]) hx hb d_M_walk_271 rfl hl (by decide) rfl (fun ls hl => ?_)
              refine lv_iload hx hb d_M_walk_272 (lv_at hl 4 rfl) ?_
              refine lv_bipush (v := (63 : Int32)) hx hb d_M_walk_274 (by decide) ?_
              refine lv_icmp_ne (tgt := 313) hx hb d_M_walk_276 (by decide) (fun ec => ?_) (fun ec => ?_)
              · have h := g_f ec h
                refine lv_goto (tgt := 33) hx hb d_M_walk_313 (by decide) ?_
                exact ih_33 _ _ _ _ _ _ _ _ _ _ _ _ _ h _ _ _ hP hD hS (lv_sub hl [1, 2, 0, 3] rfl)
              · have h := g_t ec h
                refine lv_iload_n hx hb d_M_walk_279 rfl (lv_at hl 0 rfl) ?_
                refine lv_aload_n hx hb d_M_walk_280 rfl (lv_at hl 1 rfl) ?_
                refine va_get (D := D) (ci := 6) (v := .int t_length) (C := R_M) (T := F_M) (N := 28) hx hb hts u_M hown hK hP 0 rfl rfl 8 (by decide) f_87 (fun _ h9 => h9) rfl d_M_walk_281 ?_
                refine lv_icmp_ge (tgt := 313) hx hb d_M_walk_284 (by decide) (fun ec => ?_) (fun ec => ?_)
                · have h := g_t ec h
                  refine lv_goto (tgt := 33) hx hb d_M_walk_313 (by decide) ?_
                  exact ih_33 _ _ _ _ _ _ _ _ _ _ _ _ _ h _ _ _ hP hD hS (lv_sub hl [1, 2, 0, 3] rfl)
                · have h := g_f ec h
                  refine lv_aload_n hx hb d_M_walk_287 rfl (lv_at hl 1 rfl) ?_
                  refine va_get (D := D) (ci := 6) (v := .ref ht_text) (C := R_M) (T := F_M) (N := 28) hx hb hts u_M hown hK hP 0 rfl rfl 5 (by decide) f_25 (fun _ h9 => h9) rfl d_M_walk_288 ?_
                  refine lv_iload_n hx hb d_M_walk_291 rfl (lv_at hl 0 rfl) ?_
                  obtain ⟨hi, h⟩ := g_ck h
                  refine va_iald hx hb hK hP 1 0 rfl rfl hi d_M_walk_292 ?_
                  refine lv_bipush (v := (58 : Int32)) hx hb d_M_walk_293 (by decide) ?_
                  refine lv_icmp_ne (tgt := 313) hx hb d_M_walk_295 (by decide) (fun ec => ?_) (fun ec => ?_)
                  · have h := g_f ec h
                    refine lv_goto (tgt := 33) hx hb d_M_walk_313 (by decide) ?_
                    exact ih_33 _ _ _ _ _ _ _ _ _ _ _ _ _ h _ _ _ hP hD hS (lv_sub hl [1, 2, 0, 3] rfl)
                  · have h := g_t ec h
                    refine lv_aload_n hx hb d_M_walk_298 rfl (lv_at hl 1 rfl) ?_
                    refine va_get (D := D) (ci := 6) (v := .ref ht_blocks) (C := R_M) (T := F_M) (N := 28) hx hb hts u_M hown hK hP 0 rfl rfl 22 (by decide) f_53 (fun _ h9 => h9) rfl d_M_walk_299 ?_
                    refine lv_iload hx hb d_M_walk_302 (lv_at hl 3 rfl) ?_
                    refine lv_bipush (v := (-2 : Int32)) hx hb d_M_walk_304 (by decide) ?_
                    obtain ⟨hi, h⟩ := g_ck h
                    refine va_iast hx hb hK hP hD hS 6 0 rfl rfl hi d_M_walk_306 (fun H locs (hP : va_P D vwCl [(ht, .inr (6, [.ref ht_op, .ref ht_to, .ref ht_newOp, .ref ht_newTo, .ref ht_draft, .ref ht_text, .int t_many, .int t_letters, .int t_length, .int t_where, .int t_tree, .ref ht_todo, .ref ht_with, .ref ht_holes, .int t_top, .int t_hole, .int t_at, .int t_made, .ref ht_variable, .ref ht_stack, .ref ht_signs, .ref ht_output, .ref ht_blocks, .int t_high, .int t_signsHigh, .int t_printed, .int t_done, .int t_value])), (ht_text, .inl (cI, 600, .inl t_text)), (ht_variable, .inl (cI, 6, .inl t_variable)), (ht_stack, .inl (cI, 64, .inl t_stack)), (ht_signs, .inl (cI, 64, .inl t_signs)), (ht_output, .inl (cI, 20, .inl t_output)), (ht_blocks, .inl (cI, 40, .inl (upd t_blocks v4.toNatClampNeg (-2 : Int32))))] H) (hD : va_D A [(ht, .inr (6, [.ref ht_op, .ref ht_to, .ref ht_newOp, .ref ht_newTo, .ref ht_draft, .ref ht_text, .int t_many, .int t_letters, .int t_length, .int t_where, .int t_tree, .ref ht_todo, .ref ht_with, .ref ht_holes, .int t_top, .int t_hole, .int t_at, .int t_made, .ref ht_variable, .ref ht_stack, .ref ht_signs, .ref ht_output, .ref ht_blocks, .int t_high, .int t_signsHigh, .int t_printed, .int t_done, .int t_value])), (ht_text, .inl (cI, 600, .inl t_text)), (ht_variable, .inl (cI, 6, .inl t_variable)), (ht_stack, .inl (cI, 64, .inl t_stack)), (ht_signs, .inl (cI, 64, .inl t_signs)), (ht_output, .inl (cI, 20, .inl t_output)), (ht_blocks, .inl (cI, 40, .inl (upd t_blocks v4.toNatClampNeg (-2 : Int32))))]) hS => ?_)
                    refine lv_iinc (v := v4 + (1 : Int32)) (lv' := [(4, .int (v4 + (1 : Int32))), (3, .int q2), (0, .ref ht), (2, .int v2), (5, .int v5), (6, .int v6)]) hx hb d_M_walk_307 hl (k := 3) rfl rfl (by decide) rfl (fun ls hl => ?_)
                    refine lv_iinc (v := q2 + (2 : Int32)) (lv' := [(3, .int (q2 + (2 : Int32))), (4, .int (v4 + (1 : Int32))), (0, .ref ht), (2, .int v2), (5, .int v5), (6, .int v6)]) hx hb d_M_walk_310 hl (k := 1) rfl rfl (by decide) rfl (fun ls hl => ?_)
                    refine lv_goto (tgt := 33) hx hb d_M_walk_313 (by decide) ?_
                    exact ih_33 _ _ _ _ _ _ _ _ _ _ _ _ _ h _ _ _ hP hD hS (lv_sub hl [2, 3, 0, 1] rfl)
            · have h := g_f ec h
              refine lv_aload_n hx hb d_M_walk_235 rfl (lv_at hl 0 rfl) ?_
              refine va_get (D := D) (ci := 6) (v := .ref ht_blocks) (C := R_M) (T := F_M) (N := 28) hx hb hts u_M hown hK hP 0 rfl rfl 22 (by decide) f_53 (fun _ h9 => h9) rfl d_M_walk_236 ?_
              refine lv_iload hx hb d_M_walk_239 (lv_at hl 3 rfl) ?_
              refine lv_iload hx hb d_M_walk_241 (lv_at hl 4 rfl) ?_
              refine lv_bipush (v := (64 : Int32)) hx hb d_M_walk_243 (by decide) ?_
              refine lv_icmp_ne (tgt := 252) hx hb d_M_walk_245 (by decide) (fun ec => ?_) (fun ec => ?_)
              · have h := g_f ec h
                refine lv_iconst (v := (-1 : Int32)) hx hb d_M_walk_252 (by decide) ?_
                obtain ⟨hi, h⟩ := g_ck h
                refine va_iast hx hb hK hP hD hS 6 0 rfl rfl hi d_M_walk_253 (fun H locs (hP : va_P D vwCl [(ht, .inr (6, [.ref ht_op, .ref ht_to, .ref ht_newOp, .ref ht_newTo, .ref ht_draft, .ref ht_text, .int t_many, .int t_letters, .int t_length, .int t_where, .int t_tree, .ref ht_todo, .ref ht_with, .ref ht_holes, .int t_top, .int t_hole, .int t_at, .int t_made, .ref ht_variable, .ref ht_stack, .ref ht_signs, .ref ht_output, .ref ht_blocks, .int t_high, .int t_signsHigh, .int t_printed, .int t_done, .int t_value])), (ht_text, .inl (cI, 600, .inl t_text)), (ht_variable, .inl (cI, 6, .inl t_variable)), (ht_stack, .inl (cI, 64, .inl t_stack)), (ht_signs, .inl (cI, 64, .inl t_signs)), (ht_output, .inl (cI, 20, .inl t_output)), (ht_blocks, .inl (cI, 40, .inl (upd t_blocks v4.toNatClampNeg (-1 : Int32))))] H) (hD : va_D A [(ht, .inr (6, [.ref ht_op, .ref ht_to, .ref ht_newOp, .ref ht_newTo, .ref ht_draft, .ref ht_text, .int t_many, .int t_letters, .int t_length, .int t_where, .int t_tree, .ref ht_todo, .ref ht_with, .ref ht_holes, .int t_top, .int t_hole, .int t_at, .int t_made, .ref ht_variable, .ref ht_stack, .ref ht_signs, .ref ht_output, .ref ht_blocks, .int t_high, .int t_signsHigh, .int t_printed, .int t_done, .int t_value])), (ht_text, .inl (cI, 600, .inl t_text)), (ht_variable, .inl (cI, 6, .inl t_variable)), (ht_stack, .inl (cI, 64, .inl t_stack)), (ht_signs, .inl (cI, 64, .inl t_signs)), (ht_output, .inl (cI, 20, .inl t_output)), (ht_blocks, .inl (cI, 40, .inl (upd t_blocks v4.toNatClampNeg (-1 : Int32))))]) hS => ?_)
                refine lv_iinc (v := v4 + (1 : Int32)) (lv' := [(4, .int (v4 + (1 : Int32))), (0, .ref ht), (2, .int v2), (3, .int v3), (5, .int v5), (6, .int v6)]) hx hb d_M_walk_254 hl (k := 3) rfl rfl (by decide) rfl (fun ls hl => ?_)
                refine lv_iload hx hb d_M_walk_257 (lv_at hl 5 rfl) ?_
                refine lv_iconst (v := (1 : Int32)) hx hb d_M_walk_259 (by decide) ?_
                refine lv_iadd hx hb d_M_walk_260 ?_
                refine lv_istore_n (lv' := [(3, .int (v6 + (1 : Int32))), (4, .int (v4 + (1 : Int32))), (0, .ref ht), (2, .int v2), (5, .int v5), (6, .int v6)]) hx hb d_M_walk_261 rfl hl (by decide) rfl (fun ls hl => ?_)
                refine lv_goto (tgt := 33) hx hb d_M_walk_262 (by decide) ?_
                exact ih_33 _ _ _ _ _ _ _ _ _ _ _ _ _ h _ _ _ hP hD hS (lv_sub hl [2, 3, 0, 1] rfl)
              · have h := g_t ec h
                refine lv_iload_n hx hb d_M_walk_248 rfl (lv_at hl 2 rfl) ?_
                refine lv_goto (tgt := 253) hx hb d_M_walk_249 (by decide) ?_
                obtain ⟨hi, h⟩ := g_ck h
                refine va_iast hx hb hK hP hD hS 6 0 rfl rfl hi d_M_walk_253 (fun H locs (hP : va_P D vwCl [(ht, .inr (6, [.ref ht_op, .ref ht_to, .ref ht_newOp, .ref ht_newTo, .ref ht_draft, .ref ht_text, .int t_many, .int t_letters, .int t_length, .int t_where, .int t_tree, .ref ht_todo, .ref ht_with, .ref ht_holes, .int t_top, .int t_hole, .int t_at, .int t_made, .ref ht_variable, .ref ht_stack, .ref ht_signs, .ref ht_output, .ref ht_blocks, .int t_high, .int t_signsHigh, .int t_printed, .int t_done, .int t_value])), (ht_text, .inl (cI, 600, .inl t_text)), (ht_variable, .inl (cI, 6, .inl t_variable)), (ht_stack, .inl (cI, 64, .inl t_stack)), (ht_signs, .inl (cI, 64, .inl t_signs)), (ht_output, .inl (cI, 20, .inl t_output)), (ht_blocks, .inl (cI, 40, .inl (upd t_blocks v4.toNatClampNeg v3)))] H) (hD : va_D A [(ht, .inr (6, [.ref ht_op, .ref ht_to, .ref ht_newOp, .ref ht_newTo, .ref ht_draft, .ref ht_text, .int t_many, .int t_letters, .int t_length, .int t_where, .int t_tree, .ref ht_todo, .ref ht_with, .ref ht_holes, .int t_top, .int t_hole, .int t_at, .int t_made, .ref ht_variable, .ref ht_stack, .ref ht_signs, .ref ht_output, .ref ht_blocks, .int t_high, .int t_signsHigh, .int t_printed, .int t_done, .int t_value])), (ht_text, .inl (cI, 600, .inl t_text)), (ht_variable, .inl (cI, 6, .inl t_variable)), (ht_stack, .inl (cI, 64, .inl t_stack)), (ht_signs, .inl (cI, 64, .inl t_signs)), (ht_output, .inl (cI, 20, .inl t_output)), (ht_blocks, .inl (cI, 40, .inl (upd t_blocks v4.toNatClampNeg v3)))]) hS => ?_)
                refine lv_iinc (v := v4 + (1 : Int32)) (lv' := [(4, .int (v4 + (1 : Int32))), (0, .ref ht), (2, .int v2), (3, .int v3), (5, .int v5), (6, .int v6)]) hx hb d_M_walk_254 hl (k := 3) rfl rfl (by decide) rfl (fun ls hl => ?_)
                refine lv_iload hx hb d_M_walk_257 (lv_at hl 5 rfl) ?_
                refine lv_iconst (v := (1 : Int32)) hx hb d_M_walk_259 (by decide) ?_
                refine lv_iadd hx hb d_M_walk_260 ?_
                refine lv_istore_n (lv' := [(3, .int (v6 + (1 : Int32))), (4, .int (v4 + (1 : Int32))), (0, .ref ht), (2, .int v2), (5, .int v5), (6, .int v6)]) hx hb d_M_walk_261 rfl hl (by decide) rfl (fun ls hl => ?_)
                refine lv_goto (tgt := 33) hx hb d_M_walk_262 (by decide) ?_
                exact ih_33 _ _ _ _ _ _ _ _ _ _ _ _ _ h _ _ _ hP hD hS (lv_sub hl [2, 3, 0, 1] rfl)
          · have h := g_t ec h
            refine lv_iload hx hb d_M_walk_220 (lv_at hl 5 rfl) ?_
            refine lv_iconst (v := (1 : Int32)) hx hb d_M_walk_222 (by decide) ?_
            refine lv_iadd hx hb d_M_walk_223 ?_
            refine lv_istore_n (lv' := [(3, .int (v6 + (1 : Int32))), (0, .ref ht), (2, .int v2), (4, .int v4), (5, .int v5), (6, .int v6)]) hx hb d_M_walk_224 rfl hl (by decide) rfl (fun ls hl => ?_)
            refine lv_goto (tgt := 33) hx hb d_M_walk_225 (by decide) ?_
            exact ih_33 _ _ _ _ _ _ _ _ _ _ _ _ _ h _ _ _ hP hD hS (lv_sub hl [1, 2, 0, 3] rfl)
      have J_163 : ∀ (t_variable : Nat → Int32) (t_stack : Nat → Int32) (t_signs : Nat → Int32) (t_output : Nat → Int32) (t_blocks : Nat → Int32) (t_high : Int32) (t_signsHigh : Int32) (t_printed : Int32) (t_done : Int32) (t_value : Int32) (v2 : Int32) (v3 : Int32) (v4 : Int32) (v5 : Int32) (k1 : Int32), b_M_walk_163 t_text t_length t_tree (b_M_walk_33 t_text t_length t_tree nn_33) t_variable t_stack t_signs t_output t_blocks t_high t_signsHigh t_printed t_done t_value v2 v3 v4 v5 k1 = some q → gJ p l e (headSpec w_M_walk ({ frames := 3, cells := 0, slots := 0, locals := 68 })).room s m ([.ref ht, .int a1, .int a2] : List Value).toArray below meth c D A 7 (MQ below (gQi D (gT cI cC) q.1 [(ht, .inr (6, [.ref ht_op, .ref ht_to, .ref ht_newOp, .ref ht_newTo, .ref ht_draft, .ref ht_text, .int t_many, .int t_letters, .int t_length, .int t_where, .int t_tree, .ref ht_todo, .ref ht_with, .ref ht_holes, .int t_top, .int t_hole, .int t_at, .int t_made, .ref ht_variable, .ref ht_stack, .ref ht_signs, .ref ht_output, .ref ht_blocks, .int q.2.2.2.2.2.2.1, .int q.2.2.2.2.2.2.2.1, .int q.2.2.2.2.2.2.2.2.1, .int q.2.2.2.2.2.2.2.2.2.1, .int q.2.2.2.2.2.2.2.2.2.2])), (ht_text, .inl (cI, 600, .inl t_text)), (ht_variable, .inl (cI, 6, .inl q.2.1)), (ht_stack, .inl (cI, 64, .inl q.2.2.1)), (ht_signs, .inl (cI, 64, .inl q.2.2.2.1)), (ht_output, .inl (cI, 20, .inl q.2.2.2.2.1)), (ht_blocks, .inl (cI, 40, .inl q.2.2.2.2.2.1))] A) ([.ref ht, .int a1, .int a2] : List Value).toArray s 0 0 A) 163 [(ht, .inr (6, [.ref ht_op, .ref ht_to, .ref ht_newOp, .ref ht_newTo, .ref ht_draft, .ref ht_text, .int t_many, .int t_letters, .int t_length, .int t_where, .int t_tree, .ref ht_todo, .ref ht_with, .ref ht_holes, .int t_top, .int t_hole, .int t_at, .int t_made, .ref ht_variable, .ref ht_stack, .ref ht_signs, .ref ht_output, .ref ht_blocks, .int t_high, .int t_signsHigh, .int t_printed, .int t_done, .int t_value])), (ht_text, .inl (cI, 600, .inl t_text)), (ht_variable, .inl (cI, 6, .inl t_variable)), (ht_stack, .inl (cI, 64, .inl t_stack)), (ht_signs, .inl (cI, 64, .inl t_signs)), (ht_output, .inl (cI, 20, .inl t_output)), (ht_blocks, .inl (cI, 40, .inl t_blocks))] [(0, .ref ht), (2, .int v2), (3, .int v3), (4, .int v4), (5, .int v5)] [.int k1, .ref ht] := by
        intro t_variable t_stack t_signs t_output t_blocks t_high t_signsHigh t_printed t_done t_value v2 v3 v4 v5 k1 h H locs ls hP hD hS hl
        unfold b_M_walk_163 at h
        obtain ⟨q1, hc, h⟩ := g_bd h
        refine gk_i (va_runV (As := [.int k1]) (rest := []) ⟨hx, hb, hml, hown, hts⟩ (c_M_work l D cI cC ht ht_op ht_to ht_newOp ht_newTo ht_draft ht_text ht_todo ht_with ht_holes ht_variable ht_stack ht_signs ht_output ht_blocks t_many t_letters t_length t_where t_tree t_top t_hole t_at t_made t_high t_signsHigh t_printed t_done t_value t_text t_variable t_stack t_signs k1 q1 hc _) (cwV 1 hts (gG_V mt_4_148 mt_4_150 mp_46 mt_1_7 mt_4_151) rfl rfl rfl (by decide +kernel) ⟨Nat.le_of_ble_eq_true rfl, Nat.le_of_ble_eq_true rfl⟩) (gpV hK hP hD [0, 1, 2, 3, 4] rfl (by decide) (ci := 6) 0 rfl rfl) rfl rfl hl.1 rfl (lv_room (Nat.le_of_ble_eq_true rfl)) d_M_walk_163 ⟨Nat.zero_le _, Nat.zero_le _⟩) hK hP hD hS hA [0, 1, 2, 3, 4] rfl (by decide) rfl rfl (fun H locs (hP : va_P D vwCl [(ht, .inr (6, [.ref ht_op, .ref ht_to, .ref ht_newOp, .ref ht_newTo, .ref ht_draft, .ref ht_text, .int t_many, .int t_letters, .int t_length, .int t_where, .int t_tree, .ref ht_todo, .ref ht_with, .ref ht_holes, .int t_top, .int t_hole, .int t_at, .int t_made, .ref ht_variable, .ref ht_stack, .ref ht_signs, .ref ht_output, .ref ht_blocks, .int q1.2.2.2.1, .int q1.2.2.2.2.1, .int t_printed, .int t_done, .int q1.2.2.2.2.2])), (ht_text, .inl (cI, 600, .inl t_text)), (ht_variable, .inl (cI, 6, .inl t_variable)), (ht_stack, .inl (cI, 64, .inl q1.2.1)), (ht_signs, .inl (cI, 64, .inl q1.2.2.1)), (ht_output, .inl (cI, 20, .inl t_output)), (ht_blocks, .inl (cI, 40, .inl t_blocks))] H) (hD : va_D A [(ht, .inr (6, [.ref ht_op, .ref ht_to, .ref ht_newOp, .ref ht_newTo, .ref ht_draft, .ref ht_text, .int t_many, .int t_letters, .int t_length, .int t_where, .int t_tree, .ref ht_todo, .ref ht_with, .ref ht_holes, .int t_top, .int t_hole, .int t_at, .int t_made, .ref ht_variable, .ref ht_stack, .ref ht_signs, .ref ht_output, .ref ht_blocks, .int q1.2.2.2.1, .int q1.2.2.2.2.1, .int t_printed, .int t_done, .int q1.2.2.2.2.2])), (ht_text, .inl (cI, 600, .inl t_text)), (ht_variable, .inl (cI, 6, .inl t_variable)), (ht_stack, .inl (cI, 64, .inl q1.2.1)), (ht_signs, .inl (cI, 64, .inl q1.2.2.1)), (ht_output, .inl (cI, 20, .inl t_output)), (ht_blocks, .inl (cI, 40, .inl t_blocks))]) hS => ?_)
        refine lv_istore (lv' := [(6, .int q1.1), (0, .ref ht), (2, .int v2), (3, .int v3), (4, .int v4), (5, .int v5)]) hx hb d_M_walk_166 hl (by decide) rfl (fun ls hl => ?_)
        refine lv_iload hx hb d_M_walk_168 (lv_at hl 5 rfl) ?_
        obtain ⟨q2, hc, h⟩ := g_bd h
        refine gk_i (va_runS (As := [.int v5]) (rest := []) ⟨hx, hb, hml, hown, hts⟩ (c_M_isLetter l D cI cC v5 q2 hc _) (va_cwS 1 hts (gG_S mt_4_91 mt_4_92 mt_1_7 mt_4_93) rfl rfl rfl (by decide +kernel) ⟨Nat.le_of_ble_eq_true rfl, Nat.le_of_ble_eq_true rfl⟩) (gpS hK hP hD [] rfl (by decide)) rfl rfl hl.1 rfl (lv_room (Nat.le_of_ble_eq_true rfl)) d_M_walk_170 ⟨Nat.zero_le _, Nat.zero_le _⟩) hK hP hD hS hA [] rfl (by decide) rfl rfl (fun H locs (hP : va_P D vwCl [(ht, .inr (6, [.ref ht_op, .ref ht_to, .ref ht_newOp, .ref ht_newTo, .ref ht_draft, .ref ht_text, .int t_many, .int t_letters, .int t_length, .int t_where, .int t_tree, .ref ht_todo, .ref ht_with, .ref ht_holes, .int t_top, .int t_hole, .int t_at, .int t_made, .ref ht_variable, .ref ht_stack, .ref ht_signs, .ref ht_output, .ref ht_blocks, .int q1.2.2.2.1, .int q1.2.2.2.2.1, .int t_printed, .int t_done, .int q1.2.2.2.2.2])), (ht_text, .inl (cI, 600, .inl t_text)), (ht_variable, .inl (cI, 6, .inl t_variable)), (ht_stack, .inl (cI, 64, .inl q1.2.1)), (ht_signs, .inl (cI, 64, .inl q1.2.2.1)), (ht_output, .inl (cI, 20, .inl t_output)), (ht_blocks, .inl (cI, 40, .inl t_blocks))] H) (hD : va_D A [(ht, .inr (6, [.ref ht_op, .ref ht_to, .ref ht_newOp, .ref ht_newTo, .ref ht_draft, .ref ht_text, .int t_many, .int t_letters, .int t_length, .int t_where, .int t_tree, .ref ht_todo, .ref ht_with, .ref ht_holes, .int t_top, .int t_hole, .int t_at, .int t_made, .ref ht_variable, .ref ht_stack, .ref ht_signs, .ref ht_output, .ref ht_blocks, .int q1.2.2.2.1, .int q1.2.2.2.2.1, .int t_printed, .int t_done, .int q1.2.2.2.2.2])), (ht_text, .inl (cI, 600, .inl t_text)), (ht_variable, .inl (cI, 6, .inl t_variable)), (ht_stack, .inl (cI, 64, .inl q1.2.1)), (ht_signs, .inl (cI, 64, .inl q1.2.2.1)), (ht_output, .inl (cI, 20, .inl t_output)), (ht_blocks, .inl (cI, 40, .inl t_blocks))]) hS => ?_)
        refine lv_if_eq (tgt := 190) hx hb d_M_walk_173 (by decide) (fun ec => ?_) (fun ec => ?_)
        · have h := g_t ec h
          refine lv_iload hx hb d_M_walk_190 (lv_at hl 5 rfl) ?_
          refine lv_bipush (v := (35 : Int32)) hx hb d_M_walk_192 (by decide) ?_
          refine lv_icmp_ne (tgt := 205) hx hb d_M_walk_194 (by decide) (fun ec => ?_) (fun ec => ?_)
          · have h := g_f ec h
            exact J_205 _ _ _ _ _ _ _ _ _ _ _ _ _ _ _ h _ _ _ hP hD hS (lv_sub hl [1, 2, 3, 4, 5, 0] rfl)
          · have h := g_t ec h
            refine lv_aload_n hx hb d_M_walk_197 rfl (lv_at hl 1 rfl) ?_
            refine lv_aload_n hx hb d_M_walk_198 rfl (lv_at hl 1 rfl) ?_
            refine va_get (D := D) (ci := 6) (v := .int q1.2.2.2.2.2) (C := R_M) (T := F_M) (N := 28) hx hb hts u_M hown hK hP 0 rfl rfl 27 (by decide) f_185 (fun _ h9 => h9) rfl d_M_walk_199 ?_
            obtain ⟨q3, hc, h⟩ := g_bd h
            refine gk_v (va_runV (As := [.int q1.2.2.2.2.2]) (rest := []) ⟨hx, hb, hml, hown, hts⟩ (c_M_print l D cI cC ht ht_op ht_to ht_newOp ht_newTo ht_draft ht_text ht_todo ht_with ht_holes ht_variable ht_stack ht_signs ht_output ht_blocks t_many t_letters t_length t_where t_tree t_top t_hole t_at t_made q1.2.2.2.1 q1.2.2.2.2.1 t_printed t_done q1.2.2.2.2.2 t_output q1.2.2.2.2.2 q3 hc _) (cwV 1 hts (gG_V mt_4_133 mt_4_135 mp_44 mt_1_7 mt_4_136) rfl rfl rfl (by decide +kernel) ⟨Nat.le_of_ble_eq_true rfl, Nat.le_of_ble_eq_true rfl⟩) (gpV hK hP hD [0, 5] rfl (by decide) (ci := 6) 0 rfl rfl) rfl rfl hl.1 rfl (lv_room (Nat.le_of_ble_eq_true rfl)) d_M_walk_202 ⟨Nat.zero_le _, Nat.zero_le _⟩) hK hP hD hS hA [0, 5] rfl (by decide) rfl rfl (fun H locs (hP : va_P D vwCl [(ht, .inr (6, [.ref ht_op, .ref ht_to, .ref ht_newOp, .ref ht_newTo, .ref ht_draft, .ref ht_text, .int t_many, .int t_letters, .int t_length, .int t_where, .int t_tree, .ref ht_todo, .ref ht_with, .ref ht_holes, .int t_top, .int t_hole, .int t_at, .int t_made, .ref ht_variable, .ref ht_stack, .ref ht_signs, .ref ht_output, .ref ht_blocks, .int q1.2.2.2.1, .int q1.2.2.2.2.1, .int q3.2, .int t_done, .int q1.2.2.2.2.2])), (ht_text, .inl (cI, 600, .inl t_text)), (ht_variable, .inl (cI, 6, .inl t_variable)), (ht_stack, .inl (cI, 64, .inl q1.2.1)), (ht_signs, .inl (cI, 64, .inl q1.2.2.1)), (ht_output, .inl (cI, 20, .inl q3.1)), (ht_blocks, .inl (cI, 40, .inl t_blocks))] H) (hD : va_D A [(ht, .inr (6, [.ref ht_op, .ref ht_to, .ref ht_newOp, .ref ht_newTo, .ref ht_draft, .ref ht_text, .int t_many, .int t_letters, .int t_length, .int t_where, .int t_tree, .ref ht_todo, .ref ht_with, .ref ht_holes, .int t_top, .int t_hole, .int t_at, .int t_made, .ref ht_variable, .ref ht_stack, .ref ht_signs, .ref ht_output, .ref ht_blocks, .int q1.2.2.2.1, .int q1.2.2.2.2.1, .int q3.2, .int t_done, .int q1.2.2.2.2.2])), (ht_text, .inl (cI, 600, .inl t_text)), (ht_variable, .inl (cI, 6, .inl t_variable)), (ht_stack, .inl (cI, 64, .inl q1.2.1)), (ht_signs, .inl (cI, 64, .inl q1.2.2.1)), (ht_output, .inl (cI, 20, .inl q3.1)), (ht_blocks, .inl (cI, 40, .inl t_blocks))]) hS => ?_)
            exact J_205 _ _ _ _ _ _ _ _ _ _ _ _ _ _ _ h _ _ _ hP hD hS (lv_sub hl [1, 2, 3, 4, 5, 0] rfl)
        · have h := g_f ec h
          refine lv_aload_n hx hb d_M_walk_176 rfl (lv_at hl 1 rfl) ?_
          refine va_get (D := D) (ci := 6) (v := .ref ht_variable) (C := R_M) (T := F_M) (N := 28) hx hb hts u_M hown hK hP 0 rfl rfl 18 (by decide) f_41 (fun _ h9 => h9) rfl d_M_walk_177 ?_
          refine lv_iload hx hb d_M_walk_180 (lv_at hl 5 rfl) ?_
          refine lv_bipush (v := (97 : Int32)) hx hb d_M_walk_182 (by decide) ?_
          refine lv_isub hx hb d_M_walk_184 ?_
          refine lv_aload_n hx hb d_M_walk_185 rfl (lv_at hl 1 rfl) ?_
          refine va_get (D := D) (ci := 6) (v := .int q1.2.2.2.2.2) (C := R_M) (T := F_M) (N := 28) hx hb hts u_M hown hK hP 0 rfl rfl 27 (by decide) f_185 (fun _ h9 => h9) rfl d_M_walk_186 ?_
          obtain ⟨hi, h⟩ := g_ck h
          refine va_iast hx hb hK hP hD hS 2 0 rfl rfl hi d_M_walk_189 (fun H locs (hP : va_P D vwCl [(ht, .inr (6, [.ref ht_op, .ref ht_to, .ref ht_newOp, .ref ht_newTo, .ref ht_draft, .ref ht_text, .int t_many, .int t_letters, .int t_length, .int t_where, .int t_tree, .ref ht_todo, .ref ht_with, .ref ht_holes, .int t_top, .int t_hole, .int t_at, .int t_made, .ref ht_variable, .ref ht_stack, .ref ht_signs, .ref ht_output, .ref ht_blocks, .int q1.2.2.2.1, .int q1.2.2.2.2.1, .int t_printed, .int t_done, .int q1.2.2.2.2.2])), (ht_text, .inl (cI, 600, .inl t_text)), (ht_variable, .inl (cI, 6, .inl (upd t_variable (v5 - (97 : Int32)).toNatClampNeg q1.2.2.2.2.2))), (ht_stack, .inl (cI, 64, .inl q1.2.1)), (ht_signs, .inl (cI, 64, .inl q1.2.2.1)), (ht_output, .inl (cI, 20, .inl t_output)), (ht_blocks, .inl (cI, 40, .inl t_blocks))] H) (hD : va_D A [(ht, .inr (6, [.ref ht_op, .ref ht_to, .ref ht_newOp, .ref ht_newTo, .ref ht_draft, .ref ht_text, .int t_many, .int t_letters, .int t_length, .int t_where, .int t_tree, .ref ht_todo, .ref ht_with, .ref ht_holes, .int t_top, .int t_hole, .int t_at, .int t_made, .ref ht_variable, .ref ht_stack, .ref ht_signs, .ref ht_output, .ref ht_blocks, .int q1.2.2.2.1, .int q1.2.2.2.2.1, .int t_printed, .int t_done, .int q1.2.2.2.2.2])), (ht_text, .inl (cI, 600, .inl t_text)), (ht_variable, .inl (cI, 6, .inl (upd t_variable (v5 - (97 : Int32)).toNatClampNeg q1.2.2.2.2.2))), (ht_stack, .inl (cI, 64, .inl q1.2.1)), (ht_signs, .inl (cI, 64, .inl q1.2.2.1)), (ht_output, .inl (cI, 20, .inl t_output)), (ht_blocks, .inl (cI, 40, .inl t_blocks))]) hS => ?_)
          refine lv_iload hx hb d_M_walk_190 (lv_at hl 5 rfl) ?_
          refine lv_bipush (v := (35 : Int32)) hx hb d_M_walk_192 (by decide) ?_
          refine lv_icmp_ne (tgt := 205) hx hb d_M_walk_194 (by decide) (fun ec => ?_) (fun ec => ?_)
          · have h := g_f ec h
            exact J_205 _ _ _ _ _ _ _ _ _ _ _ _ _ _ _ h _ _ _ hP hD hS (lv_sub hl [1, 2, 3, 4, 5, 0] rfl)
          · have h := g_t ec h
            refine lv_aload_n hx hb d_M_walk_197 rfl (lv_at hl 1 rfl) ?_
            refine lv_aload_n hx hb d_M_walk_198 rfl (lv_at hl 1 rfl) ?_
            refine va_get (D := D) (ci := 6) (v := .int q1.2.2.2.2.2) (C := R_M) (T := F_M) (N := 28) hx hb hts u_M hown hK hP 0 rfl rfl 27 (by decide) f_185 (fun _ h9 => h9) rfl d_M_walk_199 ?_
            obtain ⟨q4, hc, h⟩ := g_bd h
            refine gk_v (va_runV (As := [.int q1.2.2.2.2.2]) (rest := []) ⟨hx, hb, hml, hown, hts⟩ (c_M_print l D cI cC ht ht_op ht_to ht_newOp ht_newTo ht_draft ht_text ht_todo ht_with ht_holes ht_variable ht_stack ht_signs ht_output ht_blocks t_many t_letters t_length t_where t_tree t_top t_hole t_at t_made q1.2.2.2.1 q1.2.2.2.2.1 t_printed t_done q1.2.2.2.2.2 t_output q1.2.2.2.2.2 q4 hc _) (cwV 1 hts (gG_V mt_4_133 mt_4_135 mp_44 mt_1_7 mt_4_136) rfl rfl rfl (by decide +kernel) ⟨Nat.le_of_ble_eq_true rfl, Nat.le_of_ble_eq_true rfl⟩) (gpV hK hP hD [0, 5] rfl (by decide) (ci := 6) 0 rfl rfl) rfl rfl hl.1 rfl (lv_room (Nat.le_of_ble_eq_true rfl)) d_M_walk_202 ⟨Nat.zero_le _, Nat.zero_le _⟩) hK hP hD hS hA [0, 5] rfl (by decide) rfl rfl (fun H locs (hP : va_P D vwCl [(ht, .inr (6, [.ref ht_op, .ref ht_to, .ref ht_newOp, .ref ht_newTo, .ref ht_draft, .ref ht_text, .int t_many, .int t_letters, .int t_length, .int t_where, .int t_tree, .ref ht_todo, .ref ht_with, .ref ht_holes, .int t_top, .int t_hole, .int t_at, .int t_made, .ref ht_variable, .ref ht_stack, .ref ht_signs, .ref ht_output, .ref ht_blocks, .int q1.2.2.2.1, .int q1.2.2.2.2.1, .int q4.2, .int t_done, .int q1.2.2.2.2.2])), (ht_text, .inl (cI, 600, .inl t_text)), (ht_variable, .inl (cI, 6, .inl (upd t_variable (v5 - (97 : Int32)).toNatClampNeg q1.2.2.2.2.2))), (ht_stack, .inl (cI, 64, .inl q1.2.1)), (ht_signs, .inl (cI, 64, .inl q1.2.2.1)), (ht_output, .inl (cI, 20, .inl q4.1)), (ht_blocks, .inl (cI, 40, .inl t_blocks))] H) (hD : va_D A [(ht, .inr (6, [.ref ht_op, .ref ht_to, .ref ht_newOp, .ref ht_newTo, .ref ht_draft, .ref ht_text, .int t_many, .int t_letters, .int t_length, .int t_where, .int t_tree, .ref ht_todo, .ref ht_with, .ref ht_holes, .int t_top, .int t_hole, .int t_at, .int t_made, .ref ht_variable, .ref ht_stack, .ref ht_signs, .ref ht_output, .ref ht_blocks, .int q1.2.2.2.1, .int q1.2.2.2.2.1, .int q4.2, .int t_done, .int q1.2.2.2.2.2])), (ht_text, .inl (cI, 600, .inl t_text)), (ht_variable, .inl (cI, 6, .inl (upd t_variable (v5 - (97 : Int32)).toNatClampNeg q1.2.2.2.2.2))), (ht_stack, .inl (cI, 64, .inl q1.2.1)), (ht_signs, .inl (cI, 64, .inl q1.2.2.1)), (ht_output, .inl (cI, 20, .inl q4.1)), (ht_blocks, .inl (cI, 40, .inl t_blocks))]) hS => ?_)
            exact J_205 _ _ _ _ _ _ _ _ _ _ _ _ _ _ _ h _ _ _ hP hD hS (lv_sub hl [1, 2, 3, 4, 5, 0] rfl)
      refine lv_iload_n hx hb d_M_walk_33 rfl (lv_at hl 2 rfl) ?_
      refine lv_aload_n hx hb d_M_walk_34 rfl (lv_at hl 0 rfl) ?_
      refine va_get (D := D) (ci := 6) (v := .int t_length) (C := R_M) (T := F_M) (N := 28) hx hb hts u_M hown hK hP 0 rfl rfl 8 (by decide) f_87 (fun _ h9 => h9) rfl d_M_walk_35 ?_
      refine lv_icmp_ge (tgt := 316) hx hb d_M_walk_38 (by decide) (fun ec => ?_) (fun ec => ?_)
      · have h := g_t ec h
        refine lv_aload_n hx hb d_M_walk_316 rfl (lv_at hl 0 rfl) ?_
        refine va_get (D := D) (ci := 6) (v := .int t_printed) (C := R_M) (T := F_M) (N := 28) hx hb hts u_M hown hK hP 0 rfl rfl 25 (by decide) f_160 (fun _ h9 => h9) rfl d_M_walk_317 ?_
        cases h
        exact gr_i hx hb hr hlocks hK hP hD hS d_M_walk_320
      · have h := g_f ec h
        refine lv_aload_n hx hb d_M_walk_41 rfl (lv_at hl 0 rfl) ?_
        refine va_get (D := D) (ci := 6) (v := .ref ht_text) (C := R_M) (T := F_M) (N := 28) hx hb hts u_M hown hK hP 0 rfl rfl 5 (by decide) f_25 (fun _ h9 => h9) rfl d_M_walk_42 ?_
        refine lv_iload_n hx hb d_M_walk_45 rfl (lv_at hl 2 rfl) ?_
        obtain ⟨hi, h⟩ := g_ck h
        refine va_iald hx hb hK hP 1 0 rfl rfl hi d_M_walk_46 ?_
        refine lv_istore (lv' := [(5, .int (t_text v3.toNatClampNeg)), (0, .ref ht), (2, .int v2), (3, .int v3), (4, .int v4)]) hx hb d_M_walk_47 hl (by decide) rfl (fun ls hl => ?_)
        refine lv_iload hx hb d_M_walk_49 (lv_at hl 0 rfl) ?_
        refine lv_bipush (v := (125 : Int32)) hx hb d_M_walk_51 (by decide) ?_
        refine lv_icmp_ne (tgt := 124) hx hb d_M_walk_53 (by decide) (fun ec => ?_) (fun ec => ?_)
        · have h := g_f ec h
          refine lv_aload_n hx hb d_M_walk_124 rfl (lv_at hl 1 rfl) ?_
          refine va_get (D := D) (ci := 6) (v := .int t_done) (C := R_M) (T := F_M) (N := 28) hx hb hts u_M hown hK hP 0 rfl rfl 26 (by decide) f_163 (fun _ h9 => h9) rfl d_M_walk_125 ?_
          refine lv_iload_n hx hb d_M_walk_128 rfl (lv_at hl 2 rfl) ?_
          refine lv_icmp_ne (tgt := 135) hx hb d_M_walk_129 (by decide) (fun ec => ?_) (fun ec => ?_)
          · have h := g_f ec h
            refine lv_aload_n hx hb d_M_walk_135 rfl (lv_at hl 1 rfl) ?_
            refine lv_dup hx hb d_M_walk_136 rfl ?_
            refine va_get (D := D) (ci := 6) (v := .int t_done) (C := R_M) (T := F_M) (N := 28) hx hb hts u_M hown hK hP 0 rfl rfl 26 (by decide) f_163 (fun _ h9 => h9) rfl d_M_walk_137 ?_
            refine lv_iconst (v := (1 : Int32)) hx hb d_M_walk_140 (by decide) ?_
            refine lv_iadd hx hb d_M_walk_141 ?_
            refine va_put (D := D) (ci := 6) (v := .int (t_done + (1 : Int32))) (ty := .int) (C := R_M) (T := F_M) (N := 28) hx hb hts u_M t_M t_M_ok n_M hown hK hP hD hS 0 rfl rfl 26 (by decide) f_163 (fun _ h9 => h9) rfl (by decide +kernel) rfl rfl (Nat.le_of_ble_eq_true rfl) d_M_walk_142 (fun H locs (hP : va_P D vwCl [(ht, .inr (6, [.ref ht_op, .ref ht_to, .ref ht_newOp, .ref ht_newTo, .ref ht_draft, .ref ht_text, .int t_many, .int t_letters, .int t_length, .int t_where, .int t_tree, .ref ht_todo, .ref ht_with, .ref ht_holes, .int t_top, .int t_hole, .int t_at, .int t_made, .ref ht_variable, .ref ht_stack, .ref ht_signs, .ref ht_output, .ref ht_blocks, .int t_high, .int t_signsHigh, .int t_printed, .int (t_done + (1 : Int32)), .int t_value])), (ht_text, .inl (cI, 600, .inl t_text)), (ht_variable, .inl (cI, 6, .inl t_variable)), (ht_stack, .inl (cI, 64, .inl t_stack)), (ht_signs, .inl (cI, 64, .inl t_signs)), (ht_output, .inl (cI, 20, .inl t_output)), (ht_blocks, .inl (cI, 40, .inl t_blocks))] H) (hD : va_D A [(ht, .inr (6, [.ref ht_op, .ref ht_to, .ref ht_newOp, .ref ht_newTo, .ref ht_draft, .ref ht_text, .int t_many, .int t_letters, .int t_length, .int t_where, .int t_tree, .ref ht_todo, .ref ht_with, .ref ht_holes, .int t_top, .int t_hole, .int t_at, .int t_made, .ref ht_variable, .ref ht_stack, .ref ht_signs, .ref ht_output, .ref ht_blocks, .int t_high, .int t_signsHigh, .int t_printed, .int (t_done + (1 : Int32)), .int t_value])), (ht_text, .inl (cI, 600, .inl t_text)), (ht_variable, .inl (cI, 6, .inl t_variable)), (ht_stack, .inl (cI, 64, .inl t_stack)), (ht_signs, .inl (cI, 64, .inl t_signs)), (ht_output, .inl (cI, 20, .inl t_output)), (ht_blocks, .inl (cI, 40, .inl t_blocks))]) hS => ?_)
            refine lv_aload_n hx hb d_M_walk_145 rfl (lv_at hl 1 rfl) ?_
            refine lv_iload hx hb d_M_walk_146 (lv_at hl 0 rfl) ?_
            obtain ⟨q1, hc, h⟩ := g_bd h
            refine gk_i (va_runS (As := [.int (t_text v3.toNatClampNeg)]) (rest := [.ref ht]) ⟨hx, hb, hml, hown, hts⟩ (c_M_isLetter l D cI cC (t_text v3.toNatClampNeg) q1 hc _) (va_cwS 1 hts (gG_S mt_4_91 mt_4_92 mt_1_7 mt_4_93) rfl rfl rfl (by decide +kernel) ⟨Nat.le_of_ble_eq_true rfl, Nat.le_of_ble_eq_true rfl⟩) (gpS hK hP hD [] rfl (by decide)) rfl rfl hl.1 rfl (lv_room (Nat.le_of_ble_eq_true rfl)) d_M_walk_148 ⟨Nat.zero_le _, Nat.zero_le _⟩) hK hP hD hS hA [] rfl (by decide) rfl rfl (fun H locs (hP : va_P D vwCl [(ht, .inr (6, [.ref ht_op, .ref ht_to, .ref ht_newOp, .ref ht_newTo, .ref ht_draft, .ref ht_text, .int t_many, .int t_letters, .int t_length, .int t_where, .int t_tree, .ref ht_todo, .ref ht_with, .ref ht_holes, .int t_top, .int t_hole, .int t_at, .int t_made, .ref ht_variable, .ref ht_stack, .ref ht_signs, .ref ht_output, .ref ht_blocks, .int t_high, .int t_signsHigh, .int t_printed, .int (t_done + (1 : Int32)), .int t_value])), (ht_text, .inl (cI, 600, .inl t_text)), (ht_variable, .inl (cI, 6, .inl t_variable)), (ht_stack, .inl (cI, 64, .inl t_stack)), (ht_signs, .inl (cI, 64, .inl t_signs)), (ht_output, .inl (cI, 20, .inl t_output)), (ht_blocks, .inl (cI, 40, .inl t_blocks))] H) (hD : va_D A [(ht, .inr (6, [.ref ht_op, .ref ht_to, .ref ht_newOp, .ref ht_newTo, .ref ht_draft, .ref ht_text, .int t_many, .int t_letters, .int t_length, .int t_where, .int t_tree, .ref ht_todo, .ref ht_with, .ref ht_holes, .int t_top, .int t_hole, .int t_at, .int t_made, .ref ht_variable, .ref ht_stack, .ref ht_signs, .ref ht_output, .ref ht_blocks, .int t_high, .int t_signsHigh, .int t_printed, .int (t_done + (1 : Int32)), .int t_value])), (ht_text, .inl (cI, 600, .inl t_text)), (ht_variable, .inl (cI, 6, .inl t_variable)), (ht_stack, .inl (cI, 64, .inl t_stack)), (ht_signs, .inl (cI, 64, .inl t_signs)), (ht_output, .inl (cI, 20, .inl t_output)), (ht_blocks, .inl (cI, 40, .inl t_blocks))]) hS => ?_)
            refine lv_if_eq (tgt := 160) hx hb d_M_walk_151 (by decide) (fun ec => ?_) (fun ec => ?_)
            · have h := g_t ec h
              refine lv_iload_n hx hb d_M_walk_160 rfl (lv_at hl 3 rfl) ?_
              refine lv_iconst (v := (1 : Int32)) hx hb d_M_walk_161 (by decide) ?_
              refine lv_iadd hx hb d_M_walk_162 ?_
              exact J_163 _ _ _ _ _ _ _ _ _ _ _ _ _ _ _ h _ _ _ hP hD hS (lv_sub hl [1, 2, 3, 4, 0] rfl)
            · have h := g_f ec h
              refine lv_iload_n hx hb d_M_walk_154 rfl (lv_at hl 3 rfl) ?_
              refine lv_iconst (v := (2 : Int32)) hx hb d_M_walk_155 (by decide) ?_
              refine lv_iadd hx hb d_M_walk_156 ?_
              refine lv_goto (tgt := 163) hx hb d_M_walk_157 (by decide) ?_
              exact J_163 _ _ _ _ _ _ _ _ _ _ _ _ _ _ _ h _ _ _ hP hD hS (lv_sub hl [1, 2, 3, 4, 0] rfl)
          · have h := g_t ec h
            refine lv_bipush (v := (-7 : Int32)) hx hb d_M_walk_132 (by decide) ?_
            cases h
            exact gr_i hx hb hr hlocks hK hP hD hS d_M_walk_134
        · have h := g_t ec h
          refine lv_iinc (v := v4 + (-1 : Int32)) (lv' := [(4, .int (v4 + (-1 : Int32))), (5, .int (t_text v3.toNatClampNeg)), (0, .ref ht), (2, .int v2), (3, .int v3)]) hx hb d_M_walk_56 hl (k := 4) rfl rfl (by decide) rfl (fun ls hl => ?_)
          refine lv_aload_n hx hb d_M_walk_59 rfl (lv_at hl 2 rfl) ?_
          refine va_get (D := D) (ci := 6) (v := .ref ht_blocks) (C := R_M) (T := F_M) (N := 28) hx hb hts u_M hown hK hP 0 rfl rfl 22 (by decide) f_53 (fun _ h9 => h9) rfl d_M_walk_60 ?_
          refine lv_iload hx hb d_M_walk_63 (lv_at hl 0 rfl) ?_
          obtain ⟨hi, h⟩ := g_ck h
          refine va_iald hx hb hK hP 6 0 rfl rfl hi d_M_walk_65 ?_
          refine lv_if_lt (tgt := 79) hx hb d_M_walk_66 (by decide) (fun ec => ?_) (fun ec => ?_)
          · have h := g_t ec h
            refine lv_iload_n hx hb d_M_walk_79 rfl (lv_at hl 4 rfl) ?_
            refine lv_iconst (v := (1 : Int32)) hx hb d_M_walk_80 (by decide) ?_
            refine lv_iadd hx hb d_M_walk_81 ?_
            exact J_82 _ _ _ _ _ _ _ _ _ _ _ _ _ h _ _ _ hP hD hS (lv_sub hl [2, 3, 0] rfl)
          · have h := g_f ec h
            refine lv_aload_n hx hb d_M_walk_69 rfl (lv_at hl 2 rfl) ?_
            refine va_get (D := D) (ci := 6) (v := .ref ht_blocks) (C := R_M) (T := F_M) (N := 28) hx hb hts u_M hown hK hP 0 rfl rfl 22 (by decide) f_53 (fun _ h9 => h9) rfl d_M_walk_70 ?_
            refine lv_iload hx hb d_M_walk_73 (lv_at hl 0 rfl) ?_
            obtain ⟨hi, h⟩ := g_ck h
            refine va_iald hx hb hK hP 6 0 rfl rfl hi d_M_walk_75 ?_
            refine lv_goto (tgt := 82) hx hb d_M_walk_76 (by decide) ?_
            exact J_82 _ _ _ _ _ _ _ _ _ _ _ _ _ h _ _ _ hP hD hS (lv_sub hl [2, 3, 0] rfl)
  have hP : va_P D vwCl [(ht, .inr (6, [.ref ht_op, .ref ht_to, .ref ht_newOp, .ref ht_newTo, .ref ht_draft, .ref ht_text, .int t_many, .int t_letters, .int t_length, .int t_where, .int t_tree, .ref ht_todo, .ref ht_with, .ref ht_holes, .int t_top, .int t_hole, .int t_at, .int t_made, .ref ht_variable, .ref ht_stack, .ref ht_signs, .ref ht_output, .ref ht_blocks, .int t_high, .int t_signsHigh, .int t_printed, .int t_done, .int t_value])), (ht_text, .inl (cI, 600, .inl t_text)), (ht_variable, .inl (cI, 6, .inl t_variable)), (ht_stack, .inl (cI, 64, .inl t_stack)), (ht_signs, .inl (cI, 64, .inl t_signs)), (ht_output, .inl (cI, 20, .inl t_output)), (ht_blocks, .inl (cI, 40, .inl t_blocks))] s.heap := hP
  have hl := lv_entry ([.ref ht, .int a1, .int a2]) (n := 7) (Nat.le_of_ble_eq_true rfl)
  rw [lg_entry_eq]
  generalize (lg_sl ([.ref ht, .int a1, .int a2]) ++ List.replicate (7 - (lg_sl ([.ref ht, .int a1, .int a2])).length) Slot.unset).toArray = ls at hl ⊢
  have hl : lv_has ls 7 [(0, .ref ht), (1, .int a1), (2, .int a2)] := hl
  unfold g_M_walk at h
  refine lv_iload_n hx hb d_M_walk_0 rfl (lv_at hl 2 rfl) ?_
  refine lv_iconst (v := (0 : Int32)) hx hb d_M_walk_1 (by decide) ?_
  refine lv_sipush (v := (400 : Int32)) hx hb d_M_walk_2 (by decide) ?_
  obtain ⟨q1, hc, h⟩ := g_bd h
  refine gk_i (va_runS (As := [.int a2, .int (0 : Int32), .int (400 : Int32)]) (rest := []) ⟨hx, hb, hml, hown, hts⟩ (c_M_in l D cI cC a2 (0 : Int32) (400 : Int32) q1 hc _) (va_cwS 3 hts (gG_S mt_4_0 mt_4_1 mt_1_7 mt_4_2) rfl rfl rfl (by decide +kernel) ⟨Nat.le_of_ble_eq_true rfl, Nat.le_of_ble_eq_true rfl⟩) (gpS hK hP hD [] rfl (by decide)) rfl rfl hl.1 rfl (lv_room (Nat.le_of_ble_eq_true rfl)) d_M_walk_5 ⟨Nat.zero_le _, Nat.zero_le _⟩) hK hP hD hS hA [] rfl (by decide) rfl rfl (fun H locs (hP : va_P D vwCl [(ht, .inr (6, [.ref ht_op, .ref ht_to, .ref ht_newOp, .ref ht_newTo, .ref ht_draft, .ref ht_text, .int t_many, .int t_letters, .int t_length, .int t_where, .int t_tree, .ref ht_todo, .ref ht_with, .ref ht_holes, .int t_top, .int t_hole, .int t_at, .int t_made, .ref ht_variable, .ref ht_stack, .ref ht_signs, .ref ht_output, .ref ht_blocks, .int t_high, .int t_signsHigh, .int t_printed, .int t_done, .int t_value])), (ht_text, .inl (cI, 600, .inl t_text)), (ht_variable, .inl (cI, 6, .inl t_variable)), (ht_stack, .inl (cI, 64, .inl t_stack)), (ht_signs, .inl (cI, 64, .inl t_signs)), (ht_output, .inl (cI, 20, .inl t_output)), (ht_blocks, .inl (cI, 40, .inl t_blocks))] H) (hD : va_D A [(ht, .inr (6, [.ref ht_op, .ref ht_to, .ref ht_newOp, .ref ht_newTo, .ref ht_draft, .ref ht_text, .int t_many, .int t_letters, .int t_length, .int t_where, .int t_tree, .ref ht_todo, .ref ht_with, .ref ht_holes, .int t_top, .int t_hole, .int t_at, .int t_made, .ref ht_variable, .ref ht_stack, .ref ht_signs, .ref ht_output, .ref ht_blocks, .int t_high, .int t_signsHigh, .int t_printed, .int t_done, .int t_value])), (ht_text, .inl (cI, 600, .inl t_text)), (ht_variable, .inl (cI, 6, .inl t_variable)), (ht_stack, .inl (cI, 64, .inl t_stack)), (ht_signs, .inl (cI, 64, .inl t_signs)), (ht_output, .inl (cI, 20, .inl t_output)), (ht_blocks, .inl (cI, 40, .inl t_blocks))]) hS => ?_)
  refine lv_if_ne (tgt := 13) hx hb d_M_walk_8 (by decide) (fun ec => ?_) (fun ec => ?_)
  · have h := g_f ec h
    refine lv_aload_n hx hb d_M_walk_13 rfl (lv_at hl 0 rfl) ?_
    refine va_get (D := D) (ci := 6) (v := .int t_tree) (C := R_M) (T := F_M) (N := 28) hx hb hts u_M hown hK hP 0 rfl rfl 10 (by decide) f_107 (fun _ h9 => h9) rfl d_M_walk_14 ?_
    refine lv_if_ne (tgt := 23) hx hb d_M_walk_17 (by decide) (fun ec => ?_) (fun ec => ?_)
    · have h := g_f ec h
      refine lv_aload_n hx hb d_M_walk_23 rfl (lv_at hl 0 rfl) ?_
      refine lv_iload_n hx hb d_M_walk_24 rfl (lv_at hl 1 rfl) ?_
      obtain ⟨q2, hc, h⟩ := g_bd h
      refine gk_v (va_runV (As := [.int a1]) (rest := []) ⟨hx, hb, hml, hown, hts⟩ (c_M_start l D cI cC ht ht_op ht_to ht_newOp ht_newTo ht_draft ht_text ht_todo ht_with ht_holes ht_variable ht_stack ht_signs ht_output ht_blocks t_many t_letters t_length t_where t_tree t_top t_hole t_at t_made t_high t_signsHigh t_printed t_done t_value t_variable t_output a1 q2 hc _) (cwV 1 hts (gG_V mt_4_121 mt_4_123 mp_41 mt_1_7 mt_4_124) rfl rfl rfl (by decide +kernel) ⟨Nat.le_of_ble_eq_true rfl, Nat.le_of_ble_eq_true rfl⟩) (gpV hK hP hD [0, 2, 5] rfl (by decide) (ci := 6) 0 rfl rfl) rfl rfl hl.1 rfl (lv_room (Nat.le_of_ble_eq_true rfl)) d_M_walk_25 ⟨Nat.zero_le _, Nat.zero_le _⟩) hK hP hD hS hA [0, 2, 5] rfl (by decide) rfl rfl (fun H locs (hP : va_P D vwCl [(ht, .inr (6, [.ref ht_op, .ref ht_to, .ref ht_newOp, .ref ht_newTo, .ref ht_draft, .ref ht_text, .int t_many, .int t_letters, .int t_length, .int t_where, .int t_tree, .ref ht_todo, .ref ht_with, .ref ht_holes, .int t_top, .int t_hole, .int t_at, .int t_made, .ref ht_variable, .ref ht_stack, .ref ht_signs, .ref ht_output, .ref ht_blocks, .int q2.2.2.1, .int t_signsHigh, .int q2.2.2.2.1, .int q2.2.2.2.2, .int t_value])), (ht_text, .inl (cI, 600, .inl t_text)), (ht_variable, .inl (cI, 6, .inl q2.1)), (ht_stack, .inl (cI, 64, .inl t_stack)), (ht_signs, .inl (cI, 64, .inl t_signs)), (ht_output, .inl (cI, 20, .inl q2.2.1)), (ht_blocks, .inl (cI, 40, .inl t_blocks))] H) (hD : va_D A [(ht, .inr (6, [.ref ht_op, .ref ht_to, .ref ht_newOp, .ref ht_newTo, .ref ht_draft, .ref ht_text, .int t_many, .int t_letters, .int t_length, .int t_where, .int t_tree, .ref ht_todo, .ref ht_with, .ref ht_holes, .int t_top, .int t_hole, .int t_at, .int t_made, .ref ht_variable, .ref ht_stack, .ref ht_signs, .ref ht_output, .ref ht_blocks, .int q2.2.2.1, .int t_signsHigh, .int q2.2.2.2.1, .int q2.2.2.2.2, .int t_value])), (ht_text, .inl (cI, 600, .inl t_text)), (ht_variable, .inl (cI, 6, .inl q2.1)), (ht_stack, .inl (cI, 64, .inl t_stack)), (ht_signs, .inl (cI, 64, .inl t_signs)), (ht_output, .inl (cI, 20, .inl q2.2.1)), (ht_blocks, .inl (cI, 40, .inl t_blocks))]) hS => ?_)
      refine lv_iconst (v := (0 : Int32)) hx hb d_M_walk_28 (by decide) ?_
      refine lv_istore_n (lv' := [(3, .int (0 : Int32)), (0, .ref ht), (1, .int a1), (2, .int a2)]) hx hb d_M_walk_29 rfl hl (by decide) rfl (fun ls hl => ?_)
      refine lv_iconst (v := (0 : Int32)) hx hb d_M_walk_30 (by decide) ?_
      refine lv_istore (lv' := [(4, .int (0 : Int32)), (3, .int (0 : Int32)), (0, .ref ht), (1, .int a1), (2, .int a2)]) hx hb d_M_walk_31 hl (by decide) rfl (fun ls hl => ?_)
      exact LP_33 5000 _ _ _ _ _ _ _ _ _ _ _ _ _ h _ _ _ hP hD hS (lv_sub hl [2, 4, 1, 0] rfl)
    · have h := g_t ec h
      refine lv_bipush (v := (-2 : Int32)) hx hb d_M_walk_20 (by decide) ?_
      cases h
      exact gr_i hx hb hr hlocks hK hP hD hS d_M_walk_22
  · have h := g_t ec h
    refine lv_iconst (v := (-1 : Int32)) hx hb d_M_walk_11 (by decide) ?_
    cases h
    exact gr_i hx hb hr hlocks hK hP hD hS d_M_walk_12
def K_M_output (l : Launch) (D : va_G) (cI cC : ClassId) : Prop :=
  ∀ (ht ht_op ht_to ht_newOp ht_newTo ht_draft ht_text ht_todo ht_with ht_holes ht_variable ht_stack ht_signs ht_output ht_blocks : Nat) (t_many : Int32) (t_letters : Int32) (t_length : Int32) (t_where : Int32) (t_tree : Int32) (t_top : Int32) (t_hole : Int32) (t_at : Int32) (t_made : Int32) (t_high : Int32) (t_signsHigh : Int32) (t_printed : Int32) (t_done : Int32) (t_value : Int32) (t_output : Nat → Int32) (a1 : Int32) (q : Int32), g_M_output t_output a1 = some q → ∀ (sz : Nat), Met l y_M_output w_M_output ({ frames := 1, cells := 0, slots := 0, locals := 22 }) (va_Pc [.ref ht, .int a1] (gB D (gT cI cC) [(ht, .inr (6, [.ref ht_op, .ref ht_to, .ref ht_newOp, .ref ht_newTo, .ref ht_draft, .ref ht_text, .int t_many, .int t_letters, .int t_length, .int t_where, .int t_tree, .ref ht_todo, .ref ht_with, .ref ht_holes, .int t_top, .int t_hole, .int t_at, .int t_made, .ref ht_variable, .ref ht_stack, .ref ht_signs, .ref ht_output, .ref ht_blocks, .int t_high, .int t_signsHigh, .int t_printed, .int t_done, .int t_value])), (ht_output, .inl (cI, 20, .inl t_output))] sz)) (gQi D (gT cI cC) q [(ht, .inr (6, [.ref ht_op, .ref ht_to, .ref ht_newOp, .ref ht_newTo, .ref ht_draft, .ref ht_text, .int t_many, .int t_letters, .int t_length, .int t_where, .int t_tree, .ref ht_todo, .ref ht_with, .ref ht_holes, .int t_top, .int t_hole, .int t_at, .int t_made, .ref ht_variable, .ref ht_stack, .ref ht_signs, .ref ht_output, .ref ht_blocks, .int t_high, .int t_signsHigh, .int t_printed, .int t_done, .int t_value])), (ht_output, .inl (cI, 20, .inl t_output))] (va_A [(ht, .inr (6, [.ref ht_op, .ref ht_to, .ref ht_newOp, .ref ht_newTo, .ref ht_draft, .ref ht_text, .int t_many, .int t_letters, .int t_length, .int t_where, .int t_tree, .ref ht_todo, .ref ht_with, .ref ht_holes, .int t_top, .int t_hole, .int t_at, .int t_made, .ref ht_variable, .ref ht_stack, .ref ht_signs, .ref ht_output, .ref ht_blocks, .int t_high, .int t_signsHigh, .int t_printed, .int t_done, .int t_value])), (ht_output, .inl (cI, 20, .inl t_output))] sz)) 0 0 (va_A [(ht, .inr (6, [.ref ht_op, .ref ht_to, .ref ht_newOp, .ref ht_newTo, .ref ht_draft, .ref ht_text, .int t_many, .int t_letters, .int t_length, .int t_where, .int t_tree, .ref ht_todo, .ref ht_with, .ref ht_holes, .int t_top, .int t_hole, .int t_at, .int t_made, .ref ht_variable, .ref ht_stack, .ref ht_signs, .ref ht_output, .ref ht_blocks, .int t_high, .int t_signsHigh, .int t_printed, .int t_done, .int t_value])), (ht_output, .inl (cI, 20, .inl t_output))] sz)
set_option maxHeartbeats 4000000 in
set_option maxRecDepth 100000 in
theorem c_M_output (l : Launch) (D : va_G) (cI cC : ClassId) : K_M_output l D cI cC := by
  intro ht ht_op ht_to ht_newOp ht_newTo ht_draft ht_text ht_todo ht_with ht_holes ht_variable ht_stack ht_signs ht_output ht_blocks t_many t_letters t_length t_where t_tree t_top t_hole t_at t_made t_high t_signsHigh t_printed t_done t_value t_output a1 q h sz
  refine Met.ofW (cc := k_M_output) (maxL := 2) (ret := (some .int)) (by decide) rfl ?_
  intro p e s m args below meth c s₁ B hml hv
  obtain ⟨rfl, hsz, hP, hK, hD0⟩ := hv
  have hx := B.exec
  have hb := B.bytes
  have hr := B.returns
  have hts : ∀ w ∈ lw_t, w.before ([.ref ht, .int a1] : List Value).toArray s = true := fun w h => atoms_spec (ws := w_M_output) B.pre w (List.mem_cons_of_mem _ h)
  have hown : s.vm.findClass R_M = some m.cls := findClass_of_methodNamed B.named
  have hlocks := B.notSynchronized
  subst hsz
  have hD := hD0.self (sz := s.heap.size)
  generalize hAe : va_A [(ht, .inr (6, [.ref ht_op, .ref ht_to, .ref ht_newOp, .ref ht_newTo, .ref ht_draft, .ref ht_text, .int t_many, .int t_letters, .int t_length, .int t_where, .int t_tree, .ref ht_todo, .ref ht_with, .ref ht_holes, .int t_top, .int t_hole, .int t_at, .int t_made, .ref ht_variable, .ref ht_stack, .ref ht_signs, .ref ht_output, .ref ht_blocks, .int t_high, .int t_signsHigh, .int t_printed, .int t_done, .int t_value])), (ht_output, .inl (cI, 20, .inl t_output))] s.heap.size = A at hD ⊢
  have hA : ∀ q : Nat, s.heap.size ≤ q → A q := fun q h => by rw [← hAe]; exact Or.inr h
  have hS : va_S A s.heap s.heap [] := va_S.rf
  have f_50 := hts _ mt_3_169
  have hP : va_P D vwCl [(ht, .inr (6, [.ref ht_op, .ref ht_to, .ref ht_newOp, .ref ht_newTo, .ref ht_draft, .ref ht_text, .int t_many, .int t_letters, .int t_length, .int t_where, .int t_tree, .ref ht_todo, .ref ht_with, .ref ht_holes, .int t_top, .int t_hole, .int t_at, .int t_made, .ref ht_variable, .ref ht_stack, .ref ht_signs, .ref ht_output, .ref ht_blocks, .int t_high, .int t_signsHigh, .int t_printed, .int t_done, .int t_value])), (ht_output, .inl (cI, 20, .inl t_output))] s.heap := hP
  have hl := lv_entry ([.ref ht, .int a1]) (n := 2) (Nat.le_of_ble_eq_true rfl)
  rw [lg_entry_eq]
  generalize (lg_sl ([.ref ht, .int a1]) ++ List.replicate (2 - (lg_sl ([.ref ht, .int a1])).length) Slot.unset).toArray = ls at hl ⊢
  have hl : lv_has ls 2 [(0, .ref ht), (1, .int a1)] := hl
  unfold g_M_output at h
  refine lv_iload_n hx hb d_M_output_0 rfl (lv_at hl 1 rfl) ?_
  refine lv_iconst (v := (0 : Int32)) hx hb d_M_output_1 (by decide) ?_
  refine lv_bipush (v := (19 : Int32)) hx hb d_M_output_2 (by decide) ?_
  obtain ⟨q1, hc, h⟩ := g_bd h
  refine gk_i (va_runS (As := [.int a1, .int (0 : Int32), .int (19 : Int32)]) (rest := []) ⟨hx, hb, hml, hown, hts⟩ (c_M_in l D cI cC a1 (0 : Int32) (19 : Int32) q1 hc _) (va_cwS 3 hts (gG_S mt_4_0 mt_4_1 mt_1_7 mt_4_2) rfl rfl rfl (by decide +kernel) ⟨Nat.le_of_ble_eq_true rfl, Nat.le_of_ble_eq_true rfl⟩) (gpS hK hP hD [] rfl (by decide)) rfl rfl hl.1 rfl (lv_room (Nat.le_of_ble_eq_true rfl)) d_M_output_4 ⟨Nat.zero_le _, Nat.zero_le _⟩) hK hP hD hS hA [] rfl (by decide) rfl rfl (fun H locs (hP : va_P D vwCl [(ht, .inr (6, [.ref ht_op, .ref ht_to, .ref ht_newOp, .ref ht_newTo, .ref ht_draft, .ref ht_text, .int t_many, .int t_letters, .int t_length, .int t_where, .int t_tree, .ref ht_todo, .ref ht_with, .ref ht_holes, .int t_top, .int t_hole, .int t_at, .int t_made, .ref ht_variable, .ref ht_stack, .ref ht_signs, .ref ht_output, .ref ht_blocks, .int t_high, .int t_signsHigh, .int t_printed, .int t_done, .int t_value])), (ht_output, .inl (cI, 20, .inl t_output))] H) (hD : va_D A [(ht, .inr (6, [.ref ht_op, .ref ht_to, .ref ht_newOp, .ref ht_newTo, .ref ht_draft, .ref ht_text, .int t_many, .int t_letters, .int t_length, .int t_where, .int t_tree, .ref ht_todo, .ref ht_with, .ref ht_holes, .int t_top, .int t_hole, .int t_at, .int t_made, .ref ht_variable, .ref ht_stack, .ref ht_signs, .ref ht_output, .ref ht_blocks, .int t_high, .int t_signsHigh, .int t_printed, .int t_done, .int t_value])), (ht_output, .inl (cI, 20, .inl t_output))]) hS => ?_)
  refine lv_if_eq (tgt := 19) hx hb d_M_output_7 (by decide) (fun ec => ?_) (fun ec => ?_)
  · have h := g_t ec h
    refine lv_iconst (v := (0 : Int32)) hx hb d_M_output_19 (by decide) ?_
    cases h
    exact gr_i hx hb hr hlocks hK hP hD hS d_M_output_20
  · have h := g_f ec h
    refine lv_aload_n hx hb d_M_output_10 rfl (lv_at hl 0 rfl) ?_
    refine va_get (D := D) (ci := 6) (v := .ref ht_output) (C := R_M) (T := F_M) (N := 28) hx hb hts u_M hown hK hP 0 rfl rfl 21 (by decide) f_50 (fun _ h9 => h9) rfl d_M_output_11 ?_
    refine lv_iload_n hx hb d_M_output_14 rfl (lv_at hl 1 rfl) ?_
    obtain ⟨hi, h⟩ := g_ck h
    refine va_iald hx hb hK hP 1 0 rfl rfl hi d_M_output_15 ?_
    refine lv_goto (tgt := 20) hx hb d_M_output_16 (by decide) ?_
    cases h
    exact gr_i hx hb hr hlocks hK hP hD hS d_M_output_20
def K_M_tally (l : Launch) (D : va_G) (cI cC : ClassId) : Prop :=
  ∀ (ht ht_op ht_to ht_newOp ht_newTo ht_draft ht_text ht_todo ht_with ht_holes ht_variable ht_stack ht_signs ht_output ht_blocks : Nat) (t_many : Int32) (t_letters : Int32) (t_length : Int32) (t_where : Int32) (t_tree : Int32) (t_top : Int32) (t_hole : Int32) (t_at : Int32) (t_made : Int32) (t_high : Int32) (t_signsHigh : Int32) (t_printed : Int32) (t_done : Int32) (t_value : Int32) (t_text : Nat → Int32) (a1 : Int32) (q : Int32), g_M_tally t_text t_length t_tree a1 = some q → ∀ (sz : Nat), Met l y_M_tally w_M_tally ({ frames := 0, cells := 0, slots := 0, locals := 0 }) (va_Pc [.ref ht, .int a1] (gB D (gT cI cC) [(ht, .inr (6, [.ref ht_op, .ref ht_to, .ref ht_newOp, .ref ht_newTo, .ref ht_draft, .ref ht_text, .int t_many, .int t_letters, .int t_length, .int t_where, .int t_tree, .ref ht_todo, .ref ht_with, .ref ht_holes, .int t_top, .int t_hole, .int t_at, .int t_made, .ref ht_variable, .ref ht_stack, .ref ht_signs, .ref ht_output, .ref ht_blocks, .int t_high, .int t_signsHigh, .int t_printed, .int t_done, .int t_value])), (ht_text, .inl (cI, 600, .inl t_text))] sz)) (gQi D (gT cI cC) q [(ht, .inr (6, [.ref ht_op, .ref ht_to, .ref ht_newOp, .ref ht_newTo, .ref ht_draft, .ref ht_text, .int t_many, .int t_letters, .int t_length, .int t_where, .int t_tree, .ref ht_todo, .ref ht_with, .ref ht_holes, .int t_top, .int t_hole, .int t_at, .int t_made, .ref ht_variable, .ref ht_stack, .ref ht_signs, .ref ht_output, .ref ht_blocks, .int t_high, .int t_signsHigh, .int t_printed, .int t_done, .int t_value])), (ht_text, .inl (cI, 600, .inl t_text))] (va_A [(ht, .inr (6, [.ref ht_op, .ref ht_to, .ref ht_newOp, .ref ht_newTo, .ref ht_draft, .ref ht_text, .int t_many, .int t_letters, .int t_length, .int t_where, .int t_tree, .ref ht_todo, .ref ht_with, .ref ht_holes, .int t_top, .int t_hole, .int t_at, .int t_made, .ref ht_variable, .ref ht_stack, .ref ht_signs, .ref ht_output, .ref ht_blocks, .int t_high, .int t_signsHigh, .int t_printed, .int t_done, .int t_value])), (ht_text, .inl (cI, 600, .inl t_text))] sz)) 0 0 (va_A [(ht, .inr (6, [.ref ht_op, .ref ht_to, .ref ht_newOp, .ref ht_newTo, .ref ht_draft, .ref ht_text, .int t_many, .int t_letters, .int t_length, .int t_where, .int t_tree, .ref ht_todo, .ref ht_with, .ref ht_holes, .int t_top, .int t_hole, .int t_at, .int t_made, .ref ht_variable, .ref ht_stack, .ref ht_signs, .ref ht_output, .ref ht_blocks, .int t_high, .int t_signsHigh, .int t_printed, .int t_done, .int t_value])), (ht_text, .inl (cI, 600, .inl t_text))] sz)
set_option maxHeartbeats 4000000 in
set_option maxRecDepth 100000 in
theorem c_M_tally (l : Launch) (D : va_G) (cI cC : ClassId) : K_M_tally l D cI cC := by
  intro ht ht_op ht_to ht_newOp ht_newTo ht_draft ht_text ht_todo ht_with ht_holes ht_variable ht_stack ht_signs ht_output ht_blocks t_many t_letters t_length t_where t_tree t_top t_hole t_at t_made t_high t_signsHigh t_printed t_done t_value t_text a1 q h sz
  refine Met.ofW (cc := k_M_tally) (maxL := 11) (ret := (some .int)) (by decide) rfl ?_
  intro p e s m args below meth c s₁ B hml hv
  obtain ⟨rfl, hsz, hP, hK, hD0⟩ := hv
  have hx := B.exec
  have hb := B.bytes
  have hr := B.returns
  have hts : ∀ w ∈ lw_t, w.before ([.ref ht, .int a1] : List Value).toArray s = true := fun w h => atoms_spec (ws := w_M_tally) B.pre w (List.mem_cons_of_mem _ h)
  have hown : s.vm.findClass R_M = some m.cls := findClass_of_methodNamed B.named
  have hlocks := B.notSynchronized
  subst hsz
  have hD := hD0.self (sz := s.heap.size)
  generalize hAe : va_A [(ht, .inr (6, [.ref ht_op, .ref ht_to, .ref ht_newOp, .ref ht_newTo, .ref ht_draft, .ref ht_text, .int t_many, .int t_letters, .int t_length, .int t_where, .int t_tree, .ref ht_todo, .ref ht_with, .ref ht_holes, .int t_top, .int t_hole, .int t_at, .int t_made, .ref ht_variable, .ref ht_stack, .ref ht_signs, .ref ht_output, .ref ht_blocks, .int t_high, .int t_signsHigh, .int t_printed, .int t_done, .int t_value])), (ht_text, .inl (cI, 600, .inl t_text))] s.heap.size = A at hD ⊢
  have hA : ∀ q : Nat, s.heap.size ≤ q → A q := fun q h => by rw [← hAe]; exact Or.inr h
  have hS : va_S A s.heap s.heap [] := va_S.rf
  have f_107 := hts _ mt_3_158
  have f_25 := hts _ mt_3_153
  have f_87 := hts _ mt_3_156
  have J_156 : ∀ (v1 : Int32) (v2 : Int32) (v3 : Int32) (v4 : Int32) (v5 : Int32) (v7 : Int32), b_M_tally_156 t_text t_length t_tree v1 v2 v3 v4 v5 v7 = some q → gJ p l e (headSpec w_M_tally ({ frames := 0, cells := 0, slots := 0, locals := 0 })).room s m ([.ref ht, .int a1] : List Value).toArray below meth c D A 11 (MQ below (gQi D (gT cI cC) q [(ht, .inr (6, [.ref ht_op, .ref ht_to, .ref ht_newOp, .ref ht_newTo, .ref ht_draft, .ref ht_text, .int t_many, .int t_letters, .int t_length, .int t_where, .int t_tree, .ref ht_todo, .ref ht_with, .ref ht_holes, .int t_top, .int t_hole, .int t_at, .int t_made, .ref ht_variable, .ref ht_stack, .ref ht_signs, .ref ht_output, .ref ht_blocks, .int t_high, .int t_signsHigh, .int t_printed, .int t_done, .int t_value])), (ht_text, .inl (cI, 600, .inl t_text))] A) ([.ref ht, .int a1] : List Value).toArray s 0 0 A) 156 [(ht, .inr (6, [.ref ht_op, .ref ht_to, .ref ht_newOp, .ref ht_newTo, .ref ht_draft, .ref ht_text, .int t_many, .int t_letters, .int t_length, .int t_where, .int t_tree, .ref ht_todo, .ref ht_with, .ref ht_holes, .int t_top, .int t_hole, .int t_at, .int t_made, .ref ht_variable, .ref ht_stack, .ref ht_signs, .ref ht_output, .ref ht_blocks, .int t_high, .int t_signsHigh, .int t_printed, .int t_done, .int t_value])), (ht_text, .inl (cI, 600, .inl t_text))] [(1, .int v1), (2, .int v2), (3, .int v3), (4, .int v4), (5, .int v5), (7, .int v7)] [] := by
    intro v1 v2 v3 v4 v5 v7 h H locs ls hP hD hS hl
    unfold b_M_tally_156 at h
    refine lv_iload_n hx hb d_M_tally_156 rfl (lv_at hl 0 rfl) ?_
    refine lv_iconst (v := (5 : Int32)) hx hb d_M_tally_157 (by decide) ?_
    refine lv_icmp_ne (tgt := 165) hx hb d_M_tally_158 (by decide) (fun ec => ?_) (fun ec => ?_)
    · have h := g_f ec h
      refine lv_iload_n hx hb d_M_tally_165 rfl (lv_at hl 0 rfl) ?_
      refine lv_bipush (v := (6 : Int32)) hx hb d_M_tally_166 (by decide) ?_
      refine lv_icmp_ne (tgt := 175) hx hb d_M_tally_168 (by decide) (fun ec => ?_) (fun ec => ?_)
      · have h := g_f ec h
        refine lv_iload_n hx hb d_M_tally_175 rfl (lv_at hl 0 rfl) ?_
        refine lv_bipush (v := (7 : Int32)) hx hb d_M_tally_176 (by decide) ?_
        refine lv_icmp_ne (tgt := 189) hx hb d_M_tally_178 (by decide) (fun ec => ?_) (fun ec => ?_)
        · have h := g_f ec h
          refine lv_iload_n hx hb d_M_tally_189 rfl (lv_at hl 0 rfl) ?_
          refine lv_bipush (v := (8 : Int32)) hx hb d_M_tally_190 (by decide) ?_
          refine lv_icmp_ne (tgt := 200) hx hb d_M_tally_192 (by decide) (fun ec => ?_) (fun ec => ?_)
          · have h := g_f ec h
            refine lv_iload hx hb d_M_tally_200 (lv_at hl 5 rfl) ?_
            cases h
            exact gr_i hx hb hr hlocks hK hP hD hS d_M_tally_202
          · have h := g_t ec h
            refine lv_iload hx hb d_M_tally_195 (lv_at hl 4 rfl) ?_
            refine lv_goto (tgt := 202) hx hb d_M_tally_197 (by decide) ?_
            cases h
            exact gr_i hx hb hr hlocks hK hP hD hS d_M_tally_202
        · have h := g_t ec h
          refine lv_iload hx hb d_M_tally_181 (lv_at hl 3 rfl) ?_
          refine lv_iload hx hb d_M_tally_183 (lv_at hl 4 rfl) ?_
          refine lv_isub hx hb d_M_tally_185 ?_
          refine lv_goto (tgt := 202) hx hb d_M_tally_186 (by decide) ?_
          cases h
          exact gr_i hx hb hr hlocks hK hP hD hS d_M_tally_202
      · have h := g_t ec h
        refine lv_iload_n hx hb d_M_tally_171 rfl (lv_at hl 2 rfl) ?_
        refine lv_goto (tgt := 202) hx hb d_M_tally_172 (by decide) ?_
        cases h
        exact gr_i hx hb hr hlocks hK hP hD hS d_M_tally_202
    · have h := g_t ec h
      refine lv_iload_n hx hb d_M_tally_161 rfl (lv_at hl 1 rfl) ?_
      refine lv_goto (tgt := 202) hx hb d_M_tally_162 (by decide) ?_
      cases h
      exact gr_i hx hb hr hlocks hK hP hD hS d_M_tally_202
  have LP_19 : ∀ nn_19 : Nat, ∀ (v1 : Int32) (v2 : Int32) (v3 : Int32) (v4 : Int32) (v5 : Int32) (v6 : Int32) (v7 : Int32) (v8 : Int32), b_M_tally_19 t_text t_length t_tree nn_19 v1 v2 v3 v4 v5 v6 v7 v8 = some q → gJ p l e (headSpec w_M_tally ({ frames := 0, cells := 0, slots := 0, locals := 0 })).room s m ([.ref ht, .int a1] : List Value).toArray below meth c D A 11 (MQ below (gQi D (gT cI cC) q [(ht, .inr (6, [.ref ht_op, .ref ht_to, .ref ht_newOp, .ref ht_newTo, .ref ht_draft, .ref ht_text, .int t_many, .int t_letters, .int t_length, .int t_where, .int t_tree, .ref ht_todo, .ref ht_with, .ref ht_holes, .int t_top, .int t_hole, .int t_at, .int t_made, .ref ht_variable, .ref ht_stack, .ref ht_signs, .ref ht_output, .ref ht_blocks, .int t_high, .int t_signsHigh, .int t_printed, .int t_done, .int t_value])), (ht_text, .inl (cI, 600, .inl t_text))] A) ([.ref ht, .int a1] : List Value).toArray s 0 0 A) 19 [(ht, .inr (6, [.ref ht_op, .ref ht_to, .ref ht_newOp, .ref ht_newTo, .ref ht_draft, .ref ht_text, .int t_many, .int t_letters, .int t_length, .int t_where, .int t_tree, .ref ht_todo, .ref ht_with, .ref ht_holes, .int t_top, .int t_hole, .int t_at, .int t_made, .ref ht_variable, .ref ht_stack, .ref ht_signs, .ref ht_output, .ref ht_blocks, .int t_high, .int t_signsHigh, .int t_printed, .int t_done, .int t_value])), (ht_text, .inl (cI, 600, .inl t_text))] [(0, .ref ht), (1, .int v1), (2, .int v2), (3, .int v3), (4, .int v4), (5, .int v5), (6, .int v6), (7, .int v7), (8, .int v8)] [] := by
    intro nn_19
    induction nn_19 with
    | zero => intro v1 v2 v3 v4 v5 v6 v7 v8 h; exact g_no h
    | succ nn_19 ih_19 =>
      intro v1 v2 v3 v4 v5 v6 v7 v8 h H locs ls hP hD hS hl
      rw [b_M_tally_19] at h
      have J_130 : ∀ (v1 : Int32) (v2 : Int32) (v3 : Int32) (v4 : Int32) (v5 : Int32) (v6 : Int32) (v7 : Int32) (v8 : Int32) (v9 : Int32), b_M_tally_130 t_text t_length t_tree (b_M_tally_19 t_text t_length t_tree nn_19) v1 v2 v3 v4 v5 v6 v7 v8 v9 = some q → gJ p l e (headSpec w_M_tally ({ frames := 0, cells := 0, slots := 0, locals := 0 })).room s m ([.ref ht, .int a1] : List Value).toArray below meth c D A 11 (MQ below (gQi D (gT cI cC) q [(ht, .inr (6, [.ref ht_op, .ref ht_to, .ref ht_newOp, .ref ht_newTo, .ref ht_draft, .ref ht_text, .int t_many, .int t_letters, .int t_length, .int t_where, .int t_tree, .ref ht_todo, .ref ht_with, .ref ht_holes, .int t_top, .int t_hole, .int t_at, .int t_made, .ref ht_variable, .ref ht_stack, .ref ht_signs, .ref ht_output, .ref ht_blocks, .int t_high, .int t_signsHigh, .int t_printed, .int t_done, .int t_value])), (ht_text, .inl (cI, 600, .inl t_text))] A) ([.ref ht, .int a1] : List Value).toArray s 0 0 A) 130 [(ht, .inr (6, [.ref ht_op, .ref ht_to, .ref ht_newOp, .ref ht_newTo, .ref ht_draft, .ref ht_text, .int t_many, .int t_letters, .int t_length, .int t_where, .int t_tree, .ref ht_todo, .ref ht_with, .ref ht_holes, .int t_top, .int t_hole, .int t_at, .int t_made, .ref ht_variable, .ref ht_stack, .ref ht_signs, .ref ht_output, .ref ht_blocks, .int t_high, .int t_signsHigh, .int t_printed, .int t_done, .int t_value])), (ht_text, .inl (cI, 600, .inl t_text))] [(0, .ref ht), (1, .int v1), (2, .int v2), (3, .int v3), (4, .int v4), (5, .int v5), (6, .int v6), (7, .int v7), (8, .int v8), (9, .int v9)] [] := by
        intro v1 v2 v3 v4 v5 v6 v7 v8 v9 h H locs ls hP hD hS hl
        unfold b_M_tally_130 at h
        refine lv_iload hx hb d_M_tally_130 (lv_at hl 9 rfl) ?_
        refine lv_bipush (v := (123 : Int32)) hx hb d_M_tally_132 (by decide) ?_
        refine lv_icmp_ne (tgt := 140) hx hb d_M_tally_134 (by decide) (fun ec => ?_) (fun ec => ?_)
        · have h := g_f ec h
          refine lv_iload hx hb d_M_tally_140 (lv_at hl 9 rfl) ?_
          refine lv_bipush (v := (125 : Int32)) hx hb d_M_tally_142 (by decide) ?_
          refine lv_icmp_ne (tgt := 150) hx hb d_M_tally_144 (by decide) (fun ec => ?_) (fun ec => ?_)
          · have h := g_f ec h
            refine lv_iinc (v := v8 + (1 : Int32)) (lv' := [(8, .int (v8 + (1 : Int32))), (0, .ref ht), (1, .int v1), (2, .int v2), (3, .int v3), (4, .int v4), (5, .int v5), (6, .int v6), (7, .int v7), (9, .int v9)]) hx hb d_M_tally_150 hl (k := 8) rfl rfl (by decide) rfl (fun ls hl => ?_)
            refine lv_goto (tgt := 19) hx hb d_M_tally_153 (by decide) ?_
            exact ih_19 _ _ _ _ _ _ _ _ h _ _ _ hP hD hS (lv_sub hl [1, 2, 3, 4, 5, 6, 7, 8, 0] rfl)
          · have h := g_t ec h
            refine lv_iinc (v := v6 + (-1 : Int32)) (lv' := [(6, .int (v6 + (-1 : Int32))), (0, .ref ht), (1, .int v1), (2, .int v2), (3, .int v3), (4, .int v4), (5, .int v5), (7, .int v7), (8, .int v8), (9, .int v9)]) hx hb d_M_tally_147 hl (k := 6) rfl rfl (by decide) rfl (fun ls hl => ?_)
            refine lv_iinc (v := v8 + (1 : Int32)) (lv' := [(8, .int (v8 + (1 : Int32))), (6, .int (v6 + (-1 : Int32))), (0, .ref ht), (1, .int v1), (2, .int v2), (3, .int v3), (4, .int v4), (5, .int v5), (7, .int v7), (9, .int v9)]) hx hb d_M_tally_150 hl (k := 8) rfl rfl (by decide) rfl (fun ls hl => ?_)
            refine lv_goto (tgt := 19) hx hb d_M_tally_153 (by decide) ?_
            exact ih_19 _ _ _ _ _ _ _ _ h _ _ _ hP hD hS (lv_sub hl [2, 3, 4, 5, 6, 7, 1, 8, 0] rfl)
        · have h := g_t ec h
          refine lv_iinc (v := v6 + (1 : Int32)) (lv' := [(6, .int (v6 + (1 : Int32))), (0, .ref ht), (1, .int v1), (2, .int v2), (3, .int v3), (4, .int v4), (5, .int v5), (7, .int v7), (8, .int v8), (9, .int v9)]) hx hb d_M_tally_137 hl (k := 6) rfl rfl (by decide) rfl (fun ls hl => ?_)
          refine lv_iload hx hb d_M_tally_140 (lv_at hl 9 rfl) ?_
          refine lv_bipush (v := (125 : Int32)) hx hb d_M_tally_142 (by decide) ?_
          refine lv_icmp_ne (tgt := 150) hx hb d_M_tally_144 (by decide) (fun ec => ?_) (fun ec => ?_)
          · have h := g_f ec h
            refine lv_iinc (v := v8 + (1 : Int32)) (lv' := [(8, .int (v8 + (1 : Int32))), (6, .int (v6 + (1 : Int32))), (0, .ref ht), (1, .int v1), (2, .int v2), (3, .int v3), (4, .int v4), (5, .int v5), (7, .int v7), (9, .int v9)]) hx hb d_M_tally_150 hl (k := 8) rfl rfl (by decide) rfl (fun ls hl => ?_)
            refine lv_goto (tgt := 19) hx hb d_M_tally_153 (by decide) ?_
            exact ih_19 _ _ _ _ _ _ _ _ h _ _ _ hP hD hS (lv_sub hl [2, 3, 4, 5, 6, 7, 1, 8, 0] rfl)
          · have h := g_t ec h
            refine lv_iinc (v := (v6 + (1 : Int32)) + (-1 : Int32)) (lv' := [(6, .int ((v6 + (1 : Int32)) + (-1 : Int32))), (0, .ref ht), (1, .int v1), (2, .int v2), (3, .int v3), (4, .int v4), (5, .int v5), (7, .int v7), (8, .int v8), (9, .int v9)]) hx hb d_M_tally_147 hl (k := 0) rfl rfl (by decide) rfl (fun ls hl => ?_)
            refine lv_iinc (v := v8 + (1 : Int32)) (lv' := [(8, .int (v8 + (1 : Int32))), (6, .int ((v6 + (1 : Int32)) + (-1 : Int32))), (0, .ref ht), (1, .int v1), (2, .int v2), (3, .int v3), (4, .int v4), (5, .int v5), (7, .int v7), (9, .int v9)]) hx hb d_M_tally_150 hl (k := 8) rfl rfl (by decide) rfl (fun ls hl => ?_)
            refine lv_goto (tgt := 19) hx hb d_M_tally_153 (by decide) ?_
            exact ih_19 _ _ _ _ _ _ _ _ h _ _ _ hP hD hS (lv_sub hl [2, 3, 4, 5, 6, 7, 1, 8, 0] rfl)
      have J_100 : ∀ (v1 : Int32) (v2 : Int32) (v3 : Int32) (v4 : Int32) (v5 : Int32) (v6 : Int32) (v7 : Int32) (v8 : Int32) (v9 : Int32), b_M_tally_100 t_text t_length t_tree (b_M_tally_19 t_text t_length t_tree nn_19) v1 v2 v3 v4 v5 v6 v7 v8 v9 = some q → gJ p l e (headSpec w_M_tally ({ frames := 0, cells := 0, slots := 0, locals := 0 })).room s m ([.ref ht, .int a1] : List Value).toArray below meth c D A 11 (MQ below (gQi D (gT cI cC) q [(ht, .inr (6, [.ref ht_op, .ref ht_to, .ref ht_newOp, .ref ht_newTo, .ref ht_draft, .ref ht_text, .int t_many, .int t_letters, .int t_length, .int t_where, .int t_tree, .ref ht_todo, .ref ht_with, .ref ht_holes, .int t_top, .int t_hole, .int t_at, .int t_made, .ref ht_variable, .ref ht_stack, .ref ht_signs, .ref ht_output, .ref ht_blocks, .int t_high, .int t_signsHigh, .int t_printed, .int t_done, .int t_value])), (ht_text, .inl (cI, 600, .inl t_text))] A) ([.ref ht, .int a1] : List Value).toArray s 0 0 A) 100 [(ht, .inr (6, [.ref ht_op, .ref ht_to, .ref ht_newOp, .ref ht_newTo, .ref ht_draft, .ref ht_text, .int t_many, .int t_letters, .int t_length, .int t_where, .int t_tree, .ref ht_todo, .ref ht_with, .ref ht_holes, .int t_top, .int t_hole, .int t_at, .int t_made, .ref ht_variable, .ref ht_stack, .ref ht_signs, .ref ht_output, .ref ht_blocks, .int t_high, .int t_signsHigh, .int t_printed, .int t_done, .int t_value])), (ht_text, .inl (cI, 600, .inl t_text))] [(0, .ref ht), (1, .int v1), (2, .int v2), (3, .int v3), (4, .int v4), (5, .int v5), (6, .int v6), (7, .int v7), (8, .int v8), (9, .int v9)] [] := by
        intro v1 v2 v3 v4 v5 v6 v7 v8 v9 h H locs ls hP hD hS hl
        unfold b_M_tally_100 at h
        refine lv_iload hx hb d_M_tally_100 (lv_at hl 9 rfl) ?_
        refine lv_bipush (v := (64 : Int32)) hx hb d_M_tally_102 (by decide) ?_
        refine lv_icmp_ne (tgt := 110) hx hb d_M_tally_104 (by decide) (fun ec => ?_) (fun ec => ?_)
        · have h := g_f ec h
          refine lv_iload hx hb d_M_tally_110 (lv_at hl 9 rfl) ?_
          refine lv_bipush (v := (63 : Int32)) hx hb d_M_tally_112 (by decide) ?_
          refine lv_icmp_ne (tgt := 120) hx hb d_M_tally_114 (by decide) (fun ec => ?_) (fun ec => ?_)
          · have h := g_f ec h
            refine lv_iload hx hb d_M_tally_120 (lv_at hl 9 rfl) ?_
            refine lv_bipush (v := (58 : Int32)) hx hb d_M_tally_122 (by decide) ?_
            refine lv_icmp_ne (tgt := 130) hx hb d_M_tally_124 (by decide) (fun ec => ?_) (fun ec => ?_)
            · have h := g_f ec h
              exact J_130 _ _ _ _ _ _ _ _ _ h _ _ _ hP hD hS (lv_sub hl [0, 1, 2, 3, 4, 5, 6, 7, 8, 9] rfl)
            · have h := g_t ec h
              refine lv_iinc (v := v5 + (1 : Int32)) (lv' := [(5, .int (v5 + (1 : Int32))), (0, .ref ht), (1, .int v1), (2, .int v2), (3, .int v3), (4, .int v4), (6, .int v6), (7, .int v7), (8, .int v8), (9, .int v9)]) hx hb d_M_tally_127 hl (k := 5) rfl rfl (by decide) rfl (fun ls hl => ?_)
              exact J_130 _ _ _ _ _ _ _ _ _ h _ _ _ hP hD hS (lv_sub hl [1, 2, 3, 4, 5, 0, 6, 7, 8, 9] rfl)
          · have h := g_t ec h
            refine lv_iinc (v := v4 + (1 : Int32)) (lv' := [(4, .int (v4 + (1 : Int32))), (0, .ref ht), (1, .int v1), (2, .int v2), (3, .int v3), (5, .int v5), (6, .int v6), (7, .int v7), (8, .int v8), (9, .int v9)]) hx hb d_M_tally_117 hl (k := 4) rfl rfl (by decide) rfl (fun ls hl => ?_)
            refine lv_iload hx hb d_M_tally_120 (lv_at hl 9 rfl) ?_
            refine lv_bipush (v := (58 : Int32)) hx hb d_M_tally_122 (by decide) ?_
            refine lv_icmp_ne (tgt := 130) hx hb d_M_tally_124 (by decide) (fun ec => ?_) (fun ec => ?_)
            · have h := g_f ec h
              exact J_130 _ _ _ _ _ _ _ _ _ h _ _ _ hP hD hS (lv_sub hl [1, 2, 3, 4, 0, 5, 6, 7, 8, 9] rfl)
            · have h := g_t ec h
              refine lv_iinc (v := v5 + (1 : Int32)) (lv' := [(5, .int (v5 + (1 : Int32))), (4, .int (v4 + (1 : Int32))), (0, .ref ht), (1, .int v1), (2, .int v2), (3, .int v3), (6, .int v6), (7, .int v7), (8, .int v8), (9, .int v9)]) hx hb d_M_tally_127 hl (k := 5) rfl rfl (by decide) rfl (fun ls hl => ?_)
              exact J_130 _ _ _ _ _ _ _ _ _ h _ _ _ hP hD hS (lv_sub hl [2, 3, 4, 5, 1, 0, 6, 7, 8, 9] rfl)
        · have h := g_t ec h
          refine lv_iinc (v := v3 + (1 : Int32)) (lv' := [(3, .int (v3 + (1 : Int32))), (0, .ref ht), (1, .int v1), (2, .int v2), (4, .int v4), (5, .int v5), (6, .int v6), (7, .int v7), (8, .int v8), (9, .int v9)]) hx hb d_M_tally_107 hl (k := 3) rfl rfl (by decide) rfl (fun ls hl => ?_)
          refine lv_iload hx hb d_M_tally_110 (lv_at hl 9 rfl) ?_
          refine lv_bipush (v := (63 : Int32)) hx hb d_M_tally_112 (by decide) ?_
          refine lv_icmp_ne (tgt := 120) hx hb d_M_tally_114 (by decide) (fun ec => ?_) (fun ec => ?_)
          · have h := g_f ec h
            refine lv_iload hx hb d_M_tally_120 (lv_at hl 9 rfl) ?_
            refine lv_bipush (v := (58 : Int32)) hx hb d_M_tally_122 (by decide) ?_
            refine lv_icmp_ne (tgt := 130) hx hb d_M_tally_124 (by decide) (fun ec => ?_) (fun ec => ?_)
            · have h := g_f ec h
              exact J_130 _ _ _ _ _ _ _ _ _ h _ _ _ hP hD hS (lv_sub hl [1, 2, 3, 0, 4, 5, 6, 7, 8, 9] rfl)
            · have h := g_t ec h
              refine lv_iinc (v := v5 + (1 : Int32)) (lv' := [(5, .int (v5 + (1 : Int32))), (3, .int (v3 + (1 : Int32))), (0, .ref ht), (1, .int v1), (2, .int v2), (4, .int v4), (6, .int v6), (7, .int v7), (8, .int v8), (9, .int v9)]) hx hb d_M_tally_127 hl (k := 5) rfl rfl (by decide) rfl (fun ls hl => ?_)
              exact J_130 _ _ _ _ _ _ _ _ _ h _ _ _ hP hD hS (lv_sub hl [2, 3, 4, 1, 5, 0, 6, 7, 8, 9] rfl)
          · have h := g_t ec h
            refine lv_iinc (v := v4 + (1 : Int32)) (lv' := [(4, .int (v4 + (1 : Int32))), (3, .int (v3 + (1 : Int32))), (0, .ref ht), (1, .int v1), (2, .int v2), (5, .int v5), (6, .int v6), (7, .int v7), (8, .int v8), (9, .int v9)]) hx hb d_M_tally_117 hl (k := 4) rfl rfl (by decide) rfl (fun ls hl => ?_)
            refine lv_iload hx hb d_M_tally_120 (lv_at hl 9 rfl) ?_
            refine lv_bipush (v := (58 : Int32)) hx hb d_M_tally_122 (by decide) ?_
            refine lv_icmp_ne (tgt := 130) hx hb d_M_tally_124 (by decide) (fun ec => ?_) (fun ec => ?_)
            · have h := g_f ec h
              exact J_130 _ _ _ _ _ _ _ _ _ h _ _ _ hP hD hS (lv_sub hl [2, 3, 4, 1, 0, 5, 6, 7, 8, 9] rfl)
            · have h := g_t ec h
              refine lv_iinc (v := v5 + (1 : Int32)) (lv' := [(5, .int (v5 + (1 : Int32))), (4, .int (v4 + (1 : Int32))), (3, .int (v3 + (1 : Int32))), (0, .ref ht), (1, .int v1), (2, .int v2), (6, .int v6), (7, .int v7), (8, .int v8), (9, .int v9)]) hx hb d_M_tally_127 hl (k := 5) rfl rfl (by decide) rfl (fun ls hl => ?_)
              exact J_130 _ _ _ _ _ _ _ _ _ h _ _ _ hP hD hS (lv_sub hl [3, 4, 5, 2, 1, 0, 6, 7, 8, 9] rfl)
      have J_70 : ∀ (v1 : Int32) (v2 : Int32) (v3 : Int32) (v4 : Int32) (v5 : Int32) (v6 : Int32) (v7 : Int32) (v8 : Int32) (v9 : Int32) (k0 : Int32), b_M_tally_70 t_text t_length t_tree (b_M_tally_19 t_text t_length t_tree nn_19) v1 v2 v3 v4 v5 v6 v7 v8 v9 k0 = some q → gJ p l e (headSpec w_M_tally ({ frames := 0, cells := 0, slots := 0, locals := 0 })).room s m ([.ref ht, .int a1] : List Value).toArray below meth c D A 11 (MQ below (gQi D (gT cI cC) q [(ht, .inr (6, [.ref ht_op, .ref ht_to, .ref ht_newOp, .ref ht_newTo, .ref ht_draft, .ref ht_text, .int t_many, .int t_letters, .int t_length, .int t_where, .int t_tree, .ref ht_todo, .ref ht_with, .ref ht_holes, .int t_top, .int t_hole, .int t_at, .int t_made, .ref ht_variable, .ref ht_stack, .ref ht_signs, .ref ht_output, .ref ht_blocks, .int t_high, .int t_signsHigh, .int t_printed, .int t_done, .int t_value])), (ht_text, .inl (cI, 600, .inl t_text))] A) ([.ref ht, .int a1] : List Value).toArray s 0 0 A) 70 [(ht, .inr (6, [.ref ht_op, .ref ht_to, .ref ht_newOp, .ref ht_newTo, .ref ht_draft, .ref ht_text, .int t_many, .int t_letters, .int t_length, .int t_where, .int t_tree, .ref ht_todo, .ref ht_with, .ref ht_holes, .int t_top, .int t_hole, .int t_at, .int t_made, .ref ht_variable, .ref ht_stack, .ref ht_signs, .ref ht_output, .ref ht_blocks, .int t_high, .int t_signsHigh, .int t_printed, .int t_done, .int t_value])), (ht_text, .inl (cI, 600, .inl t_text))] [(0, .ref ht), (1, .int v1), (2, .int v2), (3, .int v3), (4, .int v4), (5, .int v5), (6, .int v6), (7, .int v7), (8, .int v8), (9, .int v9)] [.int k0] := by
        intro v1 v2 v3 v4 v5 v6 v7 v8 v9 k0 h H locs ls hP hD hS hl
        unfold b_M_tally_70 at h
        refine lv_istore (lv' := [(10, .int k0), (0, .ref ht), (1, .int v1), (2, .int v2), (3, .int v3), (4, .int v4), (5, .int v5), (6, .int v6), (7, .int v7), (8, .int v8), (9, .int v9)]) hx hb d_M_tally_70 hl (by decide) rfl (fun ls hl => ?_)
        refine lv_iload hx hb d_M_tally_72 (lv_at hl 0 rfl) ?_
        refine lv_if_eq (tgt := 80) hx hb d_M_tally_74 (by decide) (fun ec => ?_) (fun ec => ?_)
        · have h := g_t ec h
          refine lv_iload hx hb d_M_tally_80 (lv_at hl 0 rfl) ?_
          refine lv_if_eq (tgt := 100) hx hb d_M_tally_82 (by decide) (fun ec => ?_) (fun ec => ?_)
          · have h := g_t ec h
            exact J_100 _ _ _ _ _ _ _ _ _ h _ _ _ hP hD hS (lv_sub hl [1, 2, 3, 4, 5, 6, 7, 8, 9, 10] rfl)
          · have h := g_f ec h
            refine lv_iload hx hb d_M_tally_85 (lv_at hl 7 rfl) ?_
            refine lv_iconst (v := (1 : Int32)) hx hb d_M_tally_87 (by decide) ?_
            refine lv_iadd hx hb d_M_tally_88 ?_
            refine lv_iload hx hb d_M_tally_89 (lv_at hl 8 rfl) ?_
            refine lv_icmp_le (tgt := 100) hx hb d_M_tally_91 (by decide) (fun ec => ?_) (fun ec => ?_)
            · have h := g_t ec h
              exact J_100 _ _ _ _ _ _ _ _ _ h _ _ _ hP hD hS (lv_sub hl [1, 2, 3, 4, 5, 6, 7, 8, 9, 10] rfl)
            · have h := g_f ec h
              refine lv_iload hx hb d_M_tally_94 (lv_at hl 7 rfl) ?_
              refine lv_iconst (v := (1 : Int32)) hx hb d_M_tally_96 (by decide) ?_
              refine lv_iadd hx hb d_M_tally_97 ?_
              refine lv_istore (lv' := [(7, .int (v6 + (1 : Int32))), (10, .int k0), (0, .ref ht), (1, .int v1), (2, .int v2), (3, .int v3), (4, .int v4), (5, .int v5), (6, .int v6), (8, .int v8), (9, .int v9)]) hx hb d_M_tally_98 hl (by decide) rfl (fun ls hl => ?_)
              exact J_100 _ _ _ _ _ _ _ _ _ h _ _ _ hP hD hS (lv_sub hl [2, 3, 4, 5, 6, 7, 8, 0, 9, 10] rfl)
        · have h := g_f ec h
          refine lv_iinc (v := v2 + (1 : Int32)) (lv' := [(2, .int (v2 + (1 : Int32))), (10, .int k0), (0, .ref ht), (1, .int v1), (3, .int v3), (4, .int v4), (5, .int v5), (6, .int v6), (7, .int v7), (8, .int v8), (9, .int v9)]) hx hb d_M_tally_77 hl (k := 3) rfl rfl (by decide) rfl (fun ls hl => ?_)
          refine lv_iload hx hb d_M_tally_80 (lv_at hl 1 rfl) ?_
          refine lv_if_eq (tgt := 100) hx hb d_M_tally_82 (by decide) (fun ec => ?_) (fun ec => ?_)
          · have h := g_t ec h
            exact J_100 _ _ _ _ _ _ _ _ _ h _ _ _ hP hD hS (lv_sub hl [2, 3, 0, 4, 5, 6, 7, 8, 9, 10] rfl)
          · have h := g_f ec h
            refine lv_iload hx hb d_M_tally_85 (lv_at hl 7 rfl) ?_
            refine lv_iconst (v := (1 : Int32)) hx hb d_M_tally_87 (by decide) ?_
            refine lv_iadd hx hb d_M_tally_88 ?_
            refine lv_iload hx hb d_M_tally_89 (lv_at hl 8 rfl) ?_
            refine lv_icmp_le (tgt := 100) hx hb d_M_tally_91 (by decide) (fun ec => ?_) (fun ec => ?_)
            · have h := g_t ec h
              exact J_100 _ _ _ _ _ _ _ _ _ h _ _ _ hP hD hS (lv_sub hl [2, 3, 0, 4, 5, 6, 7, 8, 9, 10] rfl)
            · have h := g_f ec h
              refine lv_iload hx hb d_M_tally_94 (lv_at hl 7 rfl) ?_
              refine lv_iconst (v := (1 : Int32)) hx hb d_M_tally_96 (by decide) ?_
              refine lv_iadd hx hb d_M_tally_97 ?_
              refine lv_istore (lv' := [(7, .int (v6 + (1 : Int32))), (2, .int (v2 + (1 : Int32))), (10, .int k0), (0, .ref ht), (1, .int v1), (3, .int v3), (4, .int v4), (5, .int v5), (6, .int v6), (8, .int v8), (9, .int v9)]) hx hb d_M_tally_98 hl (by decide) rfl (fun ls hl => ?_)
              exact J_100 _ _ _ _ _ _ _ _ _ h _ _ _ hP hD hS (lv_sub hl [3, 4, 1, 5, 6, 7, 8, 0, 9, 10] rfl)
      refine lv_iload hx hb d_M_tally_19 (lv_at hl 8 rfl) ?_
      refine lv_aload_n hx hb d_M_tally_21 rfl (lv_at hl 0 rfl) ?_
      refine va_get (D := D) (ci := 6) (v := .int t_length) (C := R_M) (T := F_M) (N := 28) hx hb hts u_M hown hK hP 0 rfl rfl 8 (by decide) f_87 (fun _ h9 => h9) rfl d_M_tally_22 ?_
      refine lv_icmp_ge (tgt := 156) hx hb d_M_tally_25 (by decide) (fun ec => ?_) (fun ec => ?_)
      · have h := g_t ec h
        exact J_156 _ _ _ _ _ _ h _ _ _ hP hD hS (lv_sub hl [1, 2, 3, 4, 5, 7] rfl)
      · have h := g_f ec h
        refine lv_aload_n hx hb d_M_tally_28 rfl (lv_at hl 0 rfl) ?_
        refine va_get (D := D) (ci := 6) (v := .int t_tree) (C := R_M) (T := F_M) (N := 28) hx hb hts u_M hown hK hP 0 rfl rfl 10 (by decide) f_107 (fun _ h9 => h9) rfl d_M_tally_29 ?_
        refine lv_if_eq (tgt := 156) hx hb d_M_tally_32 (by decide) (fun ec => ?_) (fun ec => ?_)
        · have h := g_t ec h
          exact J_156 _ _ _ _ _ _ h _ _ _ hP hD hS (lv_sub hl [1, 2, 3, 4, 5, 7] rfl)
        · have h := g_f ec h
          refine lv_aload_n hx hb d_M_tally_35 rfl (lv_at hl 0 rfl) ?_
          refine va_get (D := D) (ci := 6) (v := .ref ht_text) (C := R_M) (T := F_M) (N := 28) hx hb hts u_M hown hK hP 0 rfl rfl 5 (by decide) f_25 (fun _ h9 => h9) rfl d_M_tally_36 ?_
          refine lv_iload hx hb d_M_tally_39 (lv_at hl 8 rfl) ?_
          obtain ⟨hi, h⟩ := g_ck h
          refine va_iald hx hb hK hP 1 0 rfl rfl hi d_M_tally_41 ?_
          refine lv_istore (lv' := [(9, .int (t_text v8.toNatClampNeg)), (0, .ref ht), (1, .int v1), (2, .int v2), (3, .int v3), (4, .int v4), (5, .int v5), (6, .int v6), (7, .int v7), (8, .int v8)]) hx hb d_M_tally_42 hl (by decide) rfl (fun ls hl => ?_)
          refine lv_iload hx hb d_M_tally_44 (lv_at hl 0 rfl) ?_
          refine lv_bipush (v := (64 : Int32)) hx hb d_M_tally_46 (by decide) ?_
          refine lv_icmp_eq (tgt := 65) hx hb d_M_tally_48 (by decide) (fun ec => ?_) (fun ec => ?_)
          · have h := g_t ec h
            refine lv_iconst (v := (1 : Int32)) hx hb d_M_tally_65 (by decide) ?_
            refine lv_goto (tgt := 70) hx hb d_M_tally_66 (by decide) ?_
            exact J_70 _ _ _ _ _ _ _ _ _ _ h _ _ _ hP hD hS (lv_sub hl [1, 2, 3, 4, 5, 6, 7, 8, 9, 0] rfl)
          · have h := g_f ec h
            refine lv_iload hx hb d_M_tally_51 (lv_at hl 0 rfl) ?_
            refine lv_bipush (v := (63 : Int32)) hx hb d_M_tally_53 (by decide) ?_
            refine lv_icmp_eq (tgt := 65) hx hb d_M_tally_55 (by decide) (fun ec => ?_) (fun ec => ?_)
            · have h := g_t ec h
              refine lv_iconst (v := (1 : Int32)) hx hb d_M_tally_65 (by decide) ?_
              refine lv_goto (tgt := 70) hx hb d_M_tally_66 (by decide) ?_
              exact J_70 _ _ _ _ _ _ _ _ _ _ h _ _ _ hP hD hS (lv_sub hl [1, 2, 3, 4, 5, 6, 7, 8, 9, 0] rfl)
            · have h := g_f ec h
              refine lv_iload hx hb d_M_tally_58 (lv_at hl 0 rfl) ?_
              refine lv_bipush (v := (59 : Int32)) hx hb d_M_tally_60 (by decide) ?_
              refine lv_icmp_ne (tgt := 69) hx hb d_M_tally_62 (by decide) (fun ec => ?_) (fun ec => ?_)
              · have h := g_f ec h
                refine lv_iconst (v := (0 : Int32)) hx hb d_M_tally_69 (by decide) ?_
                exact J_70 _ _ _ _ _ _ _ _ _ _ h _ _ _ hP hD hS (lv_sub hl [1, 2, 3, 4, 5, 6, 7, 8, 9, 0] rfl)
              · have h := g_t ec h
                refine lv_iconst (v := (1 : Int32)) hx hb d_M_tally_65 (by decide) ?_
                refine lv_goto (tgt := 70) hx hb d_M_tally_66 (by decide) ?_
                exact J_70 _ _ _ _ _ _ _ _ _ _ h _ _ _ hP hD hS (lv_sub hl [1, 2, 3, 4, 5, 6, 7, 8, 9, 0] rfl)
  have hP : va_P D vwCl [(ht, .inr (6, [.ref ht_op, .ref ht_to, .ref ht_newOp, .ref ht_newTo, .ref ht_draft, .ref ht_text, .int t_many, .int t_letters, .int t_length, .int t_where, .int t_tree, .ref ht_todo, .ref ht_with, .ref ht_holes, .int t_top, .int t_hole, .int t_at, .int t_made, .ref ht_variable, .ref ht_stack, .ref ht_signs, .ref ht_output, .ref ht_blocks, .int t_high, .int t_signsHigh, .int t_printed, .int t_done, .int t_value])), (ht_text, .inl (cI, 600, .inl t_text))] s.heap := hP
  have hl := lv_entry ([.ref ht, .int a1]) (n := 11) (Nat.le_of_ble_eq_true rfl)
  rw [lg_entry_eq]
  generalize (lg_sl ([.ref ht, .int a1]) ++ List.replicate (11 - (lg_sl ([.ref ht, .int a1])).length) Slot.unset).toArray = ls at hl ⊢
  have hl : lv_has ls 11 [(0, .ref ht), (1, .int a1)] := hl
  unfold g_M_tally at h
  refine lv_iconst (v := (0 : Int32)) hx hb d_M_tally_0 (by decide) ?_
  refine lv_istore_n (lv' := [(2, .int (0 : Int32)), (0, .ref ht), (1, .int a1)]) hx hb d_M_tally_1 rfl hl (by decide) rfl (fun ls hl => ?_)
  refine lv_iconst (v := (0 : Int32)) hx hb d_M_tally_2 (by decide) ?_
  refine lv_istore_n (lv' := [(3, .int (0 : Int32)), (2, .int (0 : Int32)), (0, .ref ht), (1, .int a1)]) hx hb d_M_tally_3 rfl hl (by decide) rfl (fun ls hl => ?_)
  refine lv_iconst (v := (0 : Int32)) hx hb d_M_tally_4 (by decide) ?_
  refine lv_istore (lv' := [(4, .int (0 : Int32)), (3, .int (0 : Int32)), (2, .int (0 : Int32)), (0, .ref ht), (1, .int a1)]) hx hb d_M_tally_5 hl (by decide) rfl (fun ls hl => ?_)
  refine lv_iconst (v := (0 : Int32)) hx hb d_M_tally_7 (by decide) ?_
  refine lv_istore (lv' := [(5, .int (0 : Int32)), (4, .int (0 : Int32)), (3, .int (0 : Int32)), (2, .int (0 : Int32)), (0, .ref ht), (1, .int a1)]) hx hb d_M_tally_8 hl (by decide) rfl (fun ls hl => ?_)
  refine lv_iconst (v := (0 : Int32)) hx hb d_M_tally_10 (by decide) ?_
  refine lv_istore (lv' := [(6, .int (0 : Int32)), (5, .int (0 : Int32)), (4, .int (0 : Int32)), (3, .int (0 : Int32)), (2, .int (0 : Int32)), (0, .ref ht), (1, .int a1)]) hx hb d_M_tally_11 hl (by decide) rfl (fun ls hl => ?_)
  refine lv_iconst (v := (0 : Int32)) hx hb d_M_tally_13 (by decide) ?_
  refine lv_istore (lv' := [(7, .int (0 : Int32)), (6, .int (0 : Int32)), (5, .int (0 : Int32)), (4, .int (0 : Int32)), (3, .int (0 : Int32)), (2, .int (0 : Int32)), (0, .ref ht), (1, .int a1)]) hx hb d_M_tally_14 hl (by decide) rfl (fun ls hl => ?_)
  refine lv_iconst (v := (0 : Int32)) hx hb d_M_tally_16 (by decide) ?_
  refine lv_istore (lv' := [(8, .int (0 : Int32)), (7, .int (0 : Int32)), (6, .int (0 : Int32)), (5, .int (0 : Int32)), (4, .int (0 : Int32)), (3, .int (0 : Int32)), (2, .int (0 : Int32)), (0, .ref ht), (1, .int a1)]) hx hb d_M_tally_17 hl (by decide) rfl (fun ls hl => ?_)
  exact LP_19 500 _ _ _ _ _ _ _ _ h _ _ _ hP hD hS (lv_sub hl [7, 8, 6, 5, 4, 3, 2, 1, 0] rfl)
def K_M_count (l : Launch) (D : va_G) (cI cC : ClassId) : Prop :=
  ∀ (ht ht_op ht_to ht_newOp ht_newTo ht_draft ht_text ht_todo ht_with ht_holes ht_variable ht_stack ht_signs ht_output ht_blocks : Nat) (t_many : Int32) (t_letters : Int32) (t_length : Int32) (t_where : Int32) (t_tree : Int32) (t_top : Int32) (t_hole : Int32) (t_at : Int32) (t_made : Int32) (t_high : Int32) (t_signsHigh : Int32) (t_printed : Int32) (t_done : Int32) (t_value : Int32) (t_text : Nat → Int32) (t_variable : Nat → Int32) (a1 : Int32) (q : Int32), g_M_count t_text t_many t_letters t_length t_tree t_variable t_printed t_done a1 = some q → ∀ (sz : Nat), Met l y_M_count w_M_count ({ frames := 1, cells := 0, slots := 0, locals := 30 }) (va_Pc [.ref ht, .int a1] (gB D (gT cI cC) [(ht, .inr (6, [.ref ht_op, .ref ht_to, .ref ht_newOp, .ref ht_newTo, .ref ht_draft, .ref ht_text, .int t_many, .int t_letters, .int t_length, .int t_where, .int t_tree, .ref ht_todo, .ref ht_with, .ref ht_holes, .int t_top, .int t_hole, .int t_at, .int t_made, .ref ht_variable, .ref ht_stack, .ref ht_signs, .ref ht_output, .ref ht_blocks, .int t_high, .int t_signsHigh, .int t_printed, .int t_done, .int t_value])), (ht_text, .inl (cI, 600, .inl t_text)), (ht_variable, .inl (cI, 6, .inl t_variable))] sz)) (gQi D (gT cI cC) q [(ht, .inr (6, [.ref ht_op, .ref ht_to, .ref ht_newOp, .ref ht_newTo, .ref ht_draft, .ref ht_text, .int t_many, .int t_letters, .int t_length, .int t_where, .int t_tree, .ref ht_todo, .ref ht_with, .ref ht_holes, .int t_top, .int t_hole, .int t_at, .int t_made, .ref ht_variable, .ref ht_stack, .ref ht_signs, .ref ht_output, .ref ht_blocks, .int t_high, .int t_signsHigh, .int t_printed, .int t_done, .int t_value])), (ht_text, .inl (cI, 600, .inl t_text)), (ht_variable, .inl (cI, 6, .inl t_variable))] (va_A [(ht, .inr (6, [.ref ht_op, .ref ht_to, .ref ht_newOp, .ref ht_newTo, .ref ht_draft, .ref ht_text, .int t_many, .int t_letters, .int t_length, .int t_where, .int t_tree, .ref ht_todo, .ref ht_with, .ref ht_holes, .int t_top, .int t_hole, .int t_at, .int t_made, .ref ht_variable, .ref ht_stack, .ref ht_signs, .ref ht_output, .ref ht_blocks, .int t_high, .int t_signsHigh, .int t_printed, .int t_done, .int t_value])), (ht_text, .inl (cI, 600, .inl t_text)), (ht_variable, .inl (cI, 6, .inl t_variable))] sz)) 0 0 (va_A [(ht, .inr (6, [.ref ht_op, .ref ht_to, .ref ht_newOp, .ref ht_newTo, .ref ht_draft, .ref ht_text, .int t_many, .int t_letters, .int t_length, .int t_where, .int t_tree, .ref ht_todo, .ref ht_with, .ref ht_holes, .int t_top, .int t_hole, .int t_at, .int t_made, .ref ht_variable, .ref ht_stack, .ref ht_signs, .ref ht_output, .ref ht_blocks, .int t_high, .int t_signsHigh, .int t_printed, .int t_done, .int t_value])), (ht_text, .inl (cI, 600, .inl t_text)), (ht_variable, .inl (cI, 6, .inl t_variable))] sz)
set_option maxHeartbeats 4000000 in
set_option maxRecDepth 100000 in
theorem c_M_count (l : Launch) (D : va_G) (cI cC : ClassId) : K_M_count l D cI cC := by
  intro ht ht_op ht_to ht_newOp ht_newTo ht_draft ht_text ht_todo ht_with ht_holes ht_variable ht_stack ht_signs ht_output ht_blocks t_many t_letters t_length t_where t_tree t_top t_hole t_at t_made t_high t_signsHigh t_printed t_done t_value t_text t_variable a1 q h sz
  refine Met.ofW (cc := k_M_count) (maxL := 2) (ret := (some .int)) (by decide) rfl ?_
  intro p e s m args below meth c s₁ B hml hv
  obtain ⟨rfl, hsz, hP, hK, hD0⟩ := hv
  have hx := B.exec
  have hb := B.bytes
  have hr := B.returns
  have hts : ∀ w ∈ lw_t, w.before ([.ref ht, .int a1] : List Value).toArray s = true := fun w h => atoms_spec (ws := w_M_count) B.pre w (List.mem_cons_of_mem _ h)
  have hown : s.vm.findClass R_M = some m.cls := findClass_of_methodNamed B.named
  have hlocks := B.notSynchronized
  subst hsz
  have hD := hD0.self (sz := s.heap.size)
  generalize hAe : va_A [(ht, .inr (6, [.ref ht_op, .ref ht_to, .ref ht_newOp, .ref ht_newTo, .ref ht_draft, .ref ht_text, .int t_many, .int t_letters, .int t_length, .int t_where, .int t_tree, .ref ht_todo, .ref ht_with, .ref ht_holes, .int t_top, .int t_hole, .int t_at, .int t_made, .ref ht_variable, .ref ht_stack, .ref ht_signs, .ref ht_output, .ref ht_blocks, .int t_high, .int t_signsHigh, .int t_printed, .int t_done, .int t_value])), (ht_text, .inl (cI, 600, .inl t_text)), (ht_variable, .inl (cI, 6, .inl t_variable))] s.heap.size = A at hD ⊢
  have hA : ∀ q : Nat, s.heap.size ≤ q → A q := fun q h => by rw [← hAe]; exact Or.inr h
  have hS : va_S A s.heap s.heap [] := va_S.rf
  have f_160 := hts _ mt_3_173
  have f_163 := hts _ mt_3_174
  have f_41 := hts _ mt_3_166
  have f_64 := hts _ mt_3_154
  have f_74 := hts _ mt_3_155
  have f_87 := hts _ mt_3_156
  have hP : va_P D vwCl [(ht, .inr (6, [.ref ht_op, .ref ht_to, .ref ht_newOp, .ref ht_newTo, .ref ht_draft, .ref ht_text, .int t_many, .int t_letters, .int t_length, .int t_where, .int t_tree, .ref ht_todo, .ref ht_with, .ref ht_holes, .int t_top, .int t_hole, .int t_at, .int t_made, .ref ht_variable, .ref ht_stack, .ref ht_signs, .ref ht_output, .ref ht_blocks, .int t_high, .int t_signsHigh, .int t_printed, .int t_done, .int t_value])), (ht_text, .inl (cI, 600, .inl t_text)), (ht_variable, .inl (cI, 6, .inl t_variable))] s.heap := hP
  have hl := lv_entry ([.ref ht, .int a1]) (n := 2) (Nat.le_of_ble_eq_true rfl)
  rw [lg_entry_eq]
  generalize (lg_sl ([.ref ht, .int a1]) ++ List.replicate (2 - (lg_sl ([.ref ht, .int a1])).length) Slot.unset).toArray = ls at hl ⊢
  have hl : lv_has ls 2 [(0, .ref ht), (1, .int a1)] := hl
  unfold g_M_count at h
  refine lv_iload_n hx hb d_M_count_0 rfl (lv_at hl 1 rfl) ?_
  refine lv_iconst (v := (5 : Int32)) hx hb d_M_count_1 (by decide) ?_
  refine lv_bipush (v := (9 : Int32)) hx hb d_M_count_2 (by decide) ?_
  obtain ⟨q1, hc, h⟩ := g_bd h
  refine gk_i (va_runS (As := [.int a1, .int (5 : Int32), .int (9 : Int32)]) (rest := []) ⟨hx, hb, hml, hown, hts⟩ (c_M_in l D cI cC a1 (5 : Int32) (9 : Int32) q1 hc _) (va_cwS 3 hts (gG_S mt_4_0 mt_4_1 mt_1_7 mt_4_2) rfl rfl rfl (by decide +kernel) ⟨Nat.le_of_ble_eq_true rfl, Nat.le_of_ble_eq_true rfl⟩) (gpS hK hP hD [] rfl (by decide)) rfl rfl hl.1 rfl (lv_room (Nat.le_of_ble_eq_true rfl)) d_M_count_4 ⟨Nat.zero_le _, Nat.zero_le _⟩) hK hP hD hS hA [] rfl (by decide) rfl rfl (fun H locs (hP : va_P D vwCl [(ht, .inr (6, [.ref ht_op, .ref ht_to, .ref ht_newOp, .ref ht_newTo, .ref ht_draft, .ref ht_text, .int t_many, .int t_letters, .int t_length, .int t_where, .int t_tree, .ref ht_todo, .ref ht_with, .ref ht_holes, .int t_top, .int t_hole, .int t_at, .int t_made, .ref ht_variable, .ref ht_stack, .ref ht_signs, .ref ht_output, .ref ht_blocks, .int t_high, .int t_signsHigh, .int t_printed, .int t_done, .int t_value])), (ht_text, .inl (cI, 600, .inl t_text)), (ht_variable, .inl (cI, 6, .inl t_variable))] H) (hD : va_D A [(ht, .inr (6, [.ref ht_op, .ref ht_to, .ref ht_newOp, .ref ht_newTo, .ref ht_draft, .ref ht_text, .int t_many, .int t_letters, .int t_length, .int t_where, .int t_tree, .ref ht_todo, .ref ht_with, .ref ht_holes, .int t_top, .int t_hole, .int t_at, .int t_made, .ref ht_variable, .ref ht_stack, .ref ht_signs, .ref ht_output, .ref ht_blocks, .int t_high, .int t_signsHigh, .int t_printed, .int t_done, .int t_value])), (ht_text, .inl (cI, 600, .inl t_text)), (ht_variable, .inl (cI, 6, .inl t_variable))]) hS => ?_)
  refine lv_if_eq (tgt := 16) hx hb d_M_count_7 (by decide) (fun ec => ?_) (fun ec => ?_)
  · have h := g_t ec h
    refine lv_iload_n hx hb d_M_count_16 rfl (lv_at hl 1 rfl) ?_
    refine lv_bipush (v := (10 : Int32)) hx hb d_M_count_17 (by decide) ?_
    refine lv_bipush (v := (15 : Int32)) hx hb d_M_count_19 (by decide) ?_
    obtain ⟨q2, hc, h⟩ := g_bd h
    refine gk_i (va_runS (As := [.int a1, .int (10 : Int32), .int (15 : Int32)]) (rest := []) ⟨hx, hb, hml, hown, hts⟩ (c_M_in l D cI cC a1 (10 : Int32) (15 : Int32) q2 hc _) (va_cwS 3 hts (gG_S mt_4_0 mt_4_1 mt_1_7 mt_4_2) rfl rfl rfl (by decide +kernel) ⟨Nat.le_of_ble_eq_true rfl, Nat.le_of_ble_eq_true rfl⟩) (gpS hK hP hD [] rfl (by decide)) rfl rfl hl.1 rfl (lv_room (Nat.le_of_ble_eq_true rfl)) d_M_count_21 ⟨Nat.zero_le _, Nat.zero_le _⟩) hK hP hD hS hA [] rfl (by decide) rfl rfl (fun H locs (hP : va_P D vwCl [(ht, .inr (6, [.ref ht_op, .ref ht_to, .ref ht_newOp, .ref ht_newTo, .ref ht_draft, .ref ht_text, .int t_many, .int t_letters, .int t_length, .int t_where, .int t_tree, .ref ht_todo, .ref ht_with, .ref ht_holes, .int t_top, .int t_hole, .int t_at, .int t_made, .ref ht_variable, .ref ht_stack, .ref ht_signs, .ref ht_output, .ref ht_blocks, .int t_high, .int t_signsHigh, .int t_printed, .int t_done, .int t_value])), (ht_text, .inl (cI, 600, .inl t_text)), (ht_variable, .inl (cI, 6, .inl t_variable))] H) (hD : va_D A [(ht, .inr (6, [.ref ht_op, .ref ht_to, .ref ht_newOp, .ref ht_newTo, .ref ht_draft, .ref ht_text, .int t_many, .int t_letters, .int t_length, .int t_where, .int t_tree, .ref ht_todo, .ref ht_with, .ref ht_holes, .int t_top, .int t_hole, .int t_at, .int t_made, .ref ht_variable, .ref ht_stack, .ref ht_signs, .ref ht_output, .ref ht_blocks, .int t_high, .int t_signsHigh, .int t_printed, .int t_done, .int t_value])), (ht_text, .inl (cI, 600, .inl t_text)), (ht_variable, .inl (cI, 6, .inl t_variable))]) hS => ?_)
    refine lv_if_eq (tgt := 37) hx hb d_M_count_24 (by decide) (fun ec => ?_) (fun ec => ?_)
    · have h := g_t ec h
      refine lv_iload_n hx hb d_M_count_37 rfl (lv_at hl 1 rfl) ?_
      by_cases e_0 : a1 = (0 : Int32)
      · have h := g_t e_0 h
        have ei : (a1).toInt = 0 := by rw [e_0]; decide
        refine lv_tableIn (tgt := 72) (off := 34) hx hb d_M_count_38 (by rw [ei]; decide) (by rw [ei]; decide) (by rw [ei]; rfl) (by decide) ?_
        refine lv_iload_n hx hb d_M_count_72 rfl (lv_at hl 1 rfl) ?_
        refine lv_if_ne (tgt := 83) hx hb d_M_count_73 (by decide) (fun ec => ?_) (fun ec => ?_)
        · have h := g_f ec h
          refine lv_iload_n hx hb d_M_count_83 rfl (lv_at hl 1 rfl) ?_
          refine lv_iconst (v := (1 : Int32)) hx hb d_M_count_84 (by decide) ?_
          refine lv_icmp_ne (tgt := 95) hx hb d_M_count_85 (by decide) (fun ec => ?_) (fun ec => ?_)
          · have h := g_f ec h
            refine lv_aload_n hx hb d_M_count_95 rfl (lv_at hl 0 rfl) ?_
            refine va_get (D := D) (ci := 6) (v := .int t_length) (C := R_M) (T := F_M) (N := 28) hx hb hts u_M hown hK hP 0 rfl rfl 8 (by decide) f_87 (fun _ h9 => h9) rfl d_M_count_96 ?_
            cases h
            exact gr_i hx hb hr hlocks hK hP hD hS d_M_count_99
          · have h := g_t ec h
            refine lv_aload_n hx hb d_M_count_88 rfl (lv_at hl 0 rfl) ?_
            refine va_get (D := D) (ci := 6) (v := .int t_letters) (C := R_M) (T := F_M) (N := 28) hx hb hts u_M hown hK hP 0 rfl rfl 7 (by decide) f_74 (fun _ h9 => h9) rfl d_M_count_89 ?_
            refine lv_goto (tgt := 99) hx hb d_M_count_92 (by decide) ?_
            cases h
            exact gr_i hx hb hr hlocks hK hP hD hS d_M_count_99
        · have h := g_t ec h
          refine lv_aload_n hx hb d_M_count_76 rfl (lv_at hl 0 rfl) ?_
          refine va_get (D := D) (ci := 6) (v := .int t_many) (C := R_M) (T := F_M) (N := 28) hx hb hts u_M hown hK hP 0 rfl rfl 6 (by decide) f_64 (fun _ h9 => h9) rfl d_M_count_77 ?_
          refine lv_goto (tgt := 99) hx hb d_M_count_80 (by decide) ?_
          cases h
          exact gr_i hx hb hr hlocks hK hP hD hS d_M_count_99
      · have h := g_f e_0 h
        have n_0 := lv_neT (a := 0) e_0 (by decide)
        by_cases e_1 : a1 = (1 : Int32)
        · have h := g_t e_1 h
          have ei : (a1).toInt = 1 := by rw [e_1]; decide
          refine lv_tableIn (tgt := 72) (off := 34) hx hb d_M_count_38 (by rw [ei]; decide) (by rw [ei]; decide) (by rw [ei]; rfl) (by decide) ?_
          refine lv_iload_n hx hb d_M_count_72 rfl (lv_at hl 1 rfl) ?_
          refine lv_if_ne (tgt := 83) hx hb d_M_count_73 (by decide) (fun ec => ?_) (fun ec => ?_)
          · have h := g_f ec h
            refine lv_iload_n hx hb d_M_count_83 rfl (lv_at hl 1 rfl) ?_
            refine lv_iconst (v := (1 : Int32)) hx hb d_M_count_84 (by decide) ?_
            refine lv_icmp_ne (tgt := 95) hx hb d_M_count_85 (by decide) (fun ec => ?_) (fun ec => ?_)
            · have h := g_f ec h
              refine lv_aload_n hx hb d_M_count_95 rfl (lv_at hl 0 rfl) ?_
              refine va_get (D := D) (ci := 6) (v := .int t_length) (C := R_M) (T := F_M) (N := 28) hx hb hts u_M hown hK hP 0 rfl rfl 8 (by decide) f_87 (fun _ h9 => h9) rfl d_M_count_96 ?_
              cases h
              exact gr_i hx hb hr hlocks hK hP hD hS d_M_count_99
            · have h := g_t ec h
              refine lv_aload_n hx hb d_M_count_88 rfl (lv_at hl 0 rfl) ?_
              refine va_get (D := D) (ci := 6) (v := .int t_letters) (C := R_M) (T := F_M) (N := 28) hx hb hts u_M hown hK hP 0 rfl rfl 7 (by decide) f_74 (fun _ h9 => h9) rfl d_M_count_89 ?_
              refine lv_goto (tgt := 99) hx hb d_M_count_92 (by decide) ?_
              cases h
              exact gr_i hx hb hr hlocks hK hP hD hS d_M_count_99
          · have h := g_t ec h
            refine lv_aload_n hx hb d_M_count_76 rfl (lv_at hl 0 rfl) ?_
            refine va_get (D := D) (ci := 6) (v := .int t_many) (C := R_M) (T := F_M) (N := 28) hx hb hts u_M hown hK hP 0 rfl rfl 6 (by decide) f_64 (fun _ h9 => h9) rfl d_M_count_77 ?_
            refine lv_goto (tgt := 99) hx hb d_M_count_80 (by decide) ?_
            cases h
            exact gr_i hx hb hr hlocks hK hP hD hS d_M_count_99
        · have h := g_f e_1 h
          have n_1 := lv_neT (a := 1) e_1 (by decide)
          by_cases e_2 : a1 = (2 : Int32)
          · have h := g_t e_2 h
            have ei : (a1).toInt = 2 := by rw [e_2]; decide
            refine lv_tableIn (tgt := 72) (off := 34) hx hb d_M_count_38 (by rw [ei]; decide) (by rw [ei]; decide) (by rw [ei]; rfl) (by decide) ?_
            refine lv_iload_n hx hb d_M_count_72 rfl (lv_at hl 1 rfl) ?_
            refine lv_if_ne (tgt := 83) hx hb d_M_count_73 (by decide) (fun ec => ?_) (fun ec => ?_)
            · have h := g_f ec h
              refine lv_iload_n hx hb d_M_count_83 rfl (lv_at hl 1 rfl) ?_
              refine lv_iconst (v := (1 : Int32)) hx hb d_M_count_84 (by decide) ?_
              refine lv_icmp_ne (tgt := 95) hx hb d_M_count_85 (by decide) (fun ec => ?_) (fun ec => ?_)
              · have h := g_f ec h
                refine lv_aload_n hx hb d_M_count_95 rfl (lv_at hl 0 rfl) ?_
                refine va_get (D := D) (ci := 6) (v := .int t_length) (C := R_M) (T := F_M) (N := 28) hx hb hts u_M hown hK hP 0 rfl rfl 8 (by decide) f_87 (fun _ h9 => h9) rfl d_M_count_96 ?_
                cases h
                exact gr_i hx hb hr hlocks hK hP hD hS d_M_count_99
              · have h := g_t ec h
                refine lv_aload_n hx hb d_M_count_88 rfl (lv_at hl 0 rfl) ?_
                refine va_get (D := D) (ci := 6) (v := .int t_letters) (C := R_M) (T := F_M) (N := 28) hx hb hts u_M hown hK hP 0 rfl rfl 7 (by decide) f_74 (fun _ h9 => h9) rfl d_M_count_89 ?_
                refine lv_goto (tgt := 99) hx hb d_M_count_92 (by decide) ?_
                cases h
                exact gr_i hx hb hr hlocks hK hP hD hS d_M_count_99
            · have h := g_t ec h
              refine lv_aload_n hx hb d_M_count_76 rfl (lv_at hl 0 rfl) ?_
              refine va_get (D := D) (ci := 6) (v := .int t_many) (C := R_M) (T := F_M) (N := 28) hx hb hts u_M hown hK hP 0 rfl rfl 6 (by decide) f_64 (fun _ h9 => h9) rfl d_M_count_77 ?_
              refine lv_goto (tgt := 99) hx hb d_M_count_80 (by decide) ?_
              cases h
              exact gr_i hx hb hr hlocks hK hP hD hS d_M_count_99
          · have h := g_f e_2 h
            have n_2 := lv_neT (a := 2) e_2 (by decide)
            by_cases e_3 : a1 = (3 : Int32)
            · have h := g_t e_3 h
              have ei : (a1).toInt = 3 := by rw [e_3]; decide
              refine lv_tableIn (tgt := 100) (off := 62) hx hb d_M_count_38 (by rw [ei]; decide) (by rw [ei]; decide) (by rw [ei]; rfl) (by decide) ?_
              refine lv_iload_n hx hb d_M_count_100 rfl (lv_at hl 1 rfl) ?_
              refine lv_iconst (v := (3 : Int32)) hx hb d_M_count_101 (by decide) ?_
              refine lv_icmp_ne (tgt := 112) hx hb d_M_count_102 (by decide) (fun ec => ?_) (fun ec => ?_)
              · have h := g_f ec h
                refine lv_aload_n hx hb d_M_count_112 rfl (lv_at hl 0 rfl) ?_
                refine va_get (D := D) (ci := 6) (v := .int t_done) (C := R_M) (T := F_M) (N := 28) hx hb hts u_M hown hK hP 0 rfl rfl 26 (by decide) f_163 (fun _ h9 => h9) rfl d_M_count_113 ?_
                cases h
                exact gr_i hx hb hr hlocks hK hP hD hS d_M_count_116
              · have h := g_t ec h
                refine lv_aload_n hx hb d_M_count_105 rfl (lv_at hl 0 rfl) ?_
                refine va_get (D := D) (ci := 6) (v := .int t_printed) (C := R_M) (T := F_M) (N := 28) hx hb hts u_M hown hK hP 0 rfl rfl 25 (by decide) f_160 (fun _ h9 => h9) rfl d_M_count_106 ?_
                refine lv_goto (tgt := 116) hx hb d_M_count_109 (by decide) ?_
                cases h
                exact gr_i hx hb hr hlocks hK hP hD hS d_M_count_116
            · have h := g_f e_3 h
              have n_3 := lv_neT (a := 3) e_3 (by decide)
              by_cases e_4 : a1 = (4 : Int32)
              · have h := g_t e_4 h
                have ei : (a1).toInt = 4 := by rw [e_4]; decide
                refine lv_tableIn (tgt := 100) (off := 62) hx hb d_M_count_38 (by rw [ei]; decide) (by rw [ei]; decide) (by rw [ei]; rfl) (by decide) ?_
                refine lv_iload_n hx hb d_M_count_100 rfl (lv_at hl 1 rfl) ?_
                refine lv_iconst (v := (3 : Int32)) hx hb d_M_count_101 (by decide) ?_
                refine lv_icmp_ne (tgt := 112) hx hb d_M_count_102 (by decide) (fun ec => ?_) (fun ec => ?_)
                · have h := g_f ec h
                  refine lv_aload_n hx hb d_M_count_112 rfl (lv_at hl 0 rfl) ?_
                  refine va_get (D := D) (ci := 6) (v := .int t_done) (C := R_M) (T := F_M) (N := 28) hx hb hts u_M hown hK hP 0 rfl rfl 26 (by decide) f_163 (fun _ h9 => h9) rfl d_M_count_113 ?_
                  cases h
                  exact gr_i hx hb hr hlocks hK hP hD hS d_M_count_116
                · have h := g_t ec h
                  refine lv_aload_n hx hb d_M_count_105 rfl (lv_at hl 0 rfl) ?_
                  refine va_get (D := D) (ci := 6) (v := .int t_printed) (C := R_M) (T := F_M) (N := 28) hx hb hts u_M hown hK hP 0 rfl rfl 25 (by decide) f_160 (fun _ h9 => h9) rfl d_M_count_106 ?_
                  refine lv_goto (tgt := 116) hx hb d_M_count_109 (by decide) ?_
                  cases h
                  exact gr_i hx hb hr hlocks hK hP hD hS d_M_count_116
              · have h := g_f e_4 h
                have n_4 := lv_neT (a := 4) e_4 (by decide)
                refine lv_tableOut (tgt := 117) hx hb d_M_count_38 (by omega) (by decide) ?_
                refine lv_iconst (v := (-1 : Int32)) hx hb d_M_count_117 (by decide) ?_
                cases h
                exact gr_i hx hb hr hlocks hK hP hD hS d_M_count_118
    · have h := g_f ec h
      refine lv_aload_n hx hb d_M_count_27 rfl (lv_at hl 0 rfl) ?_
      refine va_get (D := D) (ci := 6) (v := .ref ht_variable) (C := R_M) (T := F_M) (N := 28) hx hb hts u_M hown hK hP 0 rfl rfl 18 (by decide) f_41 (fun _ h9 => h9) rfl d_M_count_28 ?_
      refine lv_iload_n hx hb d_M_count_31 rfl (lv_at hl 1 rfl) ?_
      refine lv_bipush (v := (10 : Int32)) hx hb d_M_count_32 (by decide) ?_
      refine lv_isub hx hb d_M_count_34 ?_
      obtain ⟨hi, h⟩ := g_ck h
      refine va_iald hx hb hK hP 2 0 rfl rfl hi d_M_count_35 ?_
      cases h
      exact gr_i hx hb hr hlocks hK hP hD hS d_M_count_36
  · have h := g_f ec h
    refine lv_aload_n hx hb d_M_count_10 rfl (lv_at hl 0 rfl) ?_
    refine lv_iload_n hx hb d_M_count_11 rfl (lv_at hl 1 rfl) ?_
    obtain ⟨q3, hc, h⟩ := g_bd h
    refine gk_i (va_runV (As := [.int a1]) (rest := []) ⟨hx, hb, hml, hown, hts⟩ (c_M_tally l D cI cC ht ht_op ht_to ht_newOp ht_newTo ht_draft ht_text ht_todo ht_with ht_holes ht_variable ht_stack ht_signs ht_output ht_blocks t_many t_letters t_length t_where t_tree t_top t_hole t_at t_made t_high t_signsHigh t_printed t_done t_value t_text a1 q3 hc _) (cwV 1 hts (gG_V mt_4_160 mt_4_162 mp_47 mt_1_7 mt_4_163) rfl rfl rfl (by decide +kernel) ⟨Nat.le_of_ble_eq_true rfl, Nat.le_of_ble_eq_true rfl⟩) (gpV hK hP hD [0, 1] rfl (by decide) (ci := 6) 0 rfl rfl) rfl rfl hl.1 rfl (lv_room (Nat.le_of_ble_eq_true rfl)) d_M_count_12 ⟨Nat.zero_le _, Nat.zero_le _⟩) hK hP hD hS hA [0, 1] rfl (by decide) rfl rfl (fun H locs (hP : va_P D vwCl [(ht, .inr (6, [.ref ht_op, .ref ht_to, .ref ht_newOp, .ref ht_newTo, .ref ht_draft, .ref ht_text, .int t_many, .int t_letters, .int t_length, .int t_where, .int t_tree, .ref ht_todo, .ref ht_with, .ref ht_holes, .int t_top, .int t_hole, .int t_at, .int t_made, .ref ht_variable, .ref ht_stack, .ref ht_signs, .ref ht_output, .ref ht_blocks, .int t_high, .int t_signsHigh, .int t_printed, .int t_done, .int t_value])), (ht_text, .inl (cI, 600, .inl t_text)), (ht_variable, .inl (cI, 6, .inl t_variable))] H) (hD : va_D A [(ht, .inr (6, [.ref ht_op, .ref ht_to, .ref ht_newOp, .ref ht_newTo, .ref ht_draft, .ref ht_text, .int t_many, .int t_letters, .int t_length, .int t_where, .int t_tree, .ref ht_todo, .ref ht_with, .ref ht_holes, .int t_top, .int t_hole, .int t_at, .int t_made, .ref ht_variable, .ref ht_stack, .ref ht_signs, .ref ht_output, .ref ht_blocks, .int t_high, .int t_signsHigh, .int t_printed, .int t_done, .int t_value])), (ht_text, .inl (cI, 600, .inl t_text)), (ht_variable, .inl (cI, 6, .inl t_variable))]) hS => ?_)
    cases h
    exact gr_i hx hb hr hlocks hK hP hD hS d_M_count_15
