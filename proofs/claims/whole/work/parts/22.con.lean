def K_Listing_greatestNumber (l : Launch) (D : va_G) (cI cC : ClassId) : Prop :=
  ∀ (a0 : Int32) (q : Int32), g_Listing_greatestNumber a0 = some q → ∀ (sz : Nat), Met l y_Listing_greatestNumber w_Listing_greatestNumber ({ frames := 0, cells := 0, slots := 0, locals := 0 }) (va_Pc [.int a0] (gB D (gT cI cC) [] sz)) (gQi D (gT cI cC) q [] (va_A [] sz)) 0 0 (va_A [] sz)
set_option maxHeartbeats 4000000 in
set_option maxRecDepth 100000 in
theorem c_Listing_greatestNumber (l : Launch) (D : va_G) (cI cC : ClassId) : K_Listing_greatestNumber l D cI cC := by
  intro a0 q h sz
  refine Met.ofW (cc := k_Listing_greatestNumber) (maxL := 1) (ret := (some .int)) (by decide) rfl ?_
  intro p e s m args below meth c s₁ B hml hv
  obtain ⟨rfl, hsz, hP, hK, hD0⟩ := hv
  have hx := B.exec
  have hb := B.bytes
  have hr := B.returns
  have hts : ∀ w ∈ lw_t, w.before ([.int a0] : List Value).toArray s = true := fun w h => atoms_spec (ws := w_Listing_greatestNumber) B.pre w (List.mem_cons_of_mem _ h)
  have hown : s.vm.findClass R_Listing = some m.cls := findClass_of_methodNamed B.named
  have hlocks := B.notSynchronized
  subst hsz
  have hD := hD0.self (sz := s.heap.size)
  generalize hAe : va_A [] s.heap.size = A at hD ⊢
  have hA : ∀ q : Nat, s.heap.size ≤ q → A q := fun q h => by rw [← hAe]; exact Or.inr h
  have hS : va_S A s.heap s.heap [] := va_S.rf
  have hP : va_P D vwCl [] s.heap := hP
  have hl := lv_entry ([.int a0]) (n := 1) (Nat.le_of_ble_eq_true rfl)
  rw [lg_entry_eq]
  generalize (lg_sl ([.int a0]) ++ List.replicate (1 - (lg_sl ([.int a0])).length) Slot.unset).toArray = ls at hl ⊢
  have hl : lv_has ls 1 [(0, .int a0)] := hl
  unfold g_Listing_greatestNumber at h
  refine lv_iload_n hx hb d_Listing_greatestNumber_0 rfl (lv_at hl 0 rfl) ?_
  by_cases e_0 : a0 = (0 : Int32)
  · have h := g_t e_0 h
    have ei : (a0).toInt = 0 := by rw [e_0]; decide
    refine lv_tableIn (tgt := 56) (off := 55) hx hb d_Listing_greatestNumber_1 (by rw [ei]; decide) (by rw [ei]; decide) (by rw [ei]; rfl) (by decide) ?_
    refine lv_bipush (v := (99 : Int32)) hx hb d_Listing_greatestNumber_56 (by decide) ?_
    cases h
    exact gr_i hx hb hr hlocks hK hP hD hS d_Listing_greatestNumber_58
  · have h := g_f e_0 h
    have n_0 := lv_neT (a := 0) e_0 (by decide)
    by_cases e_1 : a0 = (1 : Int32)
    · have h := g_t e_1 h
      have ei : (a0).toInt = 1 := by rw [e_1]; decide
      refine lv_tableIn (tgt := 59) (off := 58) hx hb d_Listing_greatestNumber_1 (by rw [ei]; decide) (by rw [ei]; decide) (by rw [ei]; rfl) (by decide) ?_
      refine lv_iconst (v := (5 : Int32)) hx hb d_Listing_greatestNumber_59 (by decide) ?_
      cases h
      exact gr_i hx hb hr hlocks hK hP hD hS d_Listing_greatestNumber_60
    · have h := g_f e_1 h
      have n_1 := lv_neT (a := 1) e_1 (by decide)
      by_cases e_2 : a0 = (2 : Int32)
      · have h := g_t e_2 h
        have ei : (a0).toInt = 2 := by rw [e_2]; decide
        refine lv_tableIn (tgt := 59) (off := 58) hx hb d_Listing_greatestNumber_1 (by rw [ei]; decide) (by rw [ei]; decide) (by rw [ei]; rfl) (by decide) ?_
        refine lv_iconst (v := (5 : Int32)) hx hb d_Listing_greatestNumber_59 (by decide) ?_
        cases h
        exact gr_i hx hb hr hlocks hK hP hD hS d_Listing_greatestNumber_60
      · have h := g_f e_2 h
        have n_2 := lv_neT (a := 2) e_2 (by decide)
        by_cases e_8 : a0 = (8 : Int32)
        · have h := g_t e_8 h
          have ei : (a0).toInt = 8 := by rw [e_8]; decide
          refine lv_tableIn (tgt := 61) (off := 60) hx hb d_Listing_greatestNumber_1 (by rw [ei]; decide) (by rw [ei]; decide) (by rw [ei]; rfl) (by decide) ?_
          refine lv_bipush (v := (30 : Int32)) hx hb d_Listing_greatestNumber_61 (by decide) ?_
          cases h
          exact gr_i hx hb hr hlocks hK hP hD hS d_Listing_greatestNumber_63
        · have h := g_f e_8 h
          have n_8 := lv_neT (a := 8) e_8 (by decide)
          by_cases e_9 : a0 = (9 : Int32)
          · have h := g_t e_9 h
            have ei : (a0).toInt = 9 := by rw [e_9]; decide
            refine lv_tableIn (tgt := 61) (off := 60) hx hb d_Listing_greatestNumber_1 (by rw [ei]; decide) (by rw [ei]; decide) (by rw [ei]; rfl) (by decide) ?_
            refine lv_bipush (v := (30 : Int32)) hx hb d_Listing_greatestNumber_61 (by decide) ?_
            cases h
            exact gr_i hx hb hr hlocks hK hP hD hS d_Listing_greatestNumber_63
          · have h := g_f e_9 h
            have n_9 := lv_neT (a := 9) e_9 (by decide)
            by_cases e_3 : a0 = (3 : Int32)
            · have ei : (a0).toInt = 3 := by rw [e_3]; decide
              refine lv_tableIn (tgt := 64) (off := 63) hx hb d_Listing_greatestNumber_1 (by rw [ei]; decide) (by rw [ei]; decide) (by rw [ei]; rfl) (by decide) ?_
              refine lv_iconst (v := (-1 : Int32)) hx hb d_Listing_greatestNumber_64 (by decide) ?_
              cases h
              exact gr_i hx hb hr hlocks hK hP hD hS d_Listing_greatestNumber_65
            · have n_3 := lv_neT (a := 3) e_3 (by decide)
              by_cases e_4 : a0 = (4 : Int32)
              · have ei : (a0).toInt = 4 := by rw [e_4]; decide
                refine lv_tableIn (tgt := 64) (off := 63) hx hb d_Listing_greatestNumber_1 (by rw [ei]; decide) (by rw [ei]; decide) (by rw [ei]; rfl) (by decide) ?_
                refine lv_iconst (v := (-1 : Int32)) hx hb d_Listing_greatestNumber_64 (by decide) ?_
                cases h
                exact gr_i hx hb hr hlocks hK hP hD hS d_Listing_greatestNumber_65
              · have n_4 := lv_neT (a := 4) e_4 (by decide)
                by_cases e_5 : a0 = (5 : Int32)
                · have ei : (a0).toInt = 5 := by rw [e_5]; decide
                  refine lv_tableIn (tgt := 64) (off := 63) hx hb d_Listing_greatestNumber_1 (by rw [ei]; decide) (by rw [ei]; decide) (by rw [ei]; rfl) (by decide) ?_
                  refine lv_iconst (v := (-1 : Int32)) hx hb d_Listing_greatestNumber_64 (by decide) ?_
                  cases h
                  exact gr_i hx hb hr hlocks hK hP hD hS d_Listing_greatestNumber_65
                · have n_5 := lv_neT (a := 5) e_5 (by decide)
                  by_cases e_6 : a0 = (6 : Int32)
                  · have ei : (a0).toInt = 6 := by rw [e_6]; decide
                    refine lv_tableIn (tgt := 64) (off := 63) hx hb d_Listing_greatestNumber_1 (by rw [ei]; decide) (by rw [ei]; decide) (by rw [ei]; rfl) (by decide) ?_
                    refine lv_iconst (v := (-1 : Int32)) hx hb d_Listing_greatestNumber_64 (by decide) ?_
                    cases h
                    exact gr_i hx hb hr hlocks hK hP hD hS d_Listing_greatestNumber_65
                  · have n_6 := lv_neT (a := 6) e_6 (by decide)
                    by_cases e_7 : a0 = (7 : Int32)
                    · have ei : (a0).toInt = 7 := by rw [e_7]; decide
                      refine lv_tableIn (tgt := 64) (off := 63) hx hb d_Listing_greatestNumber_1 (by rw [ei]; decide) (by rw [ei]; decide) (by rw [ei]; rfl) (by decide) ?_
                      refine lv_iconst (v := (-1 : Int32)) hx hb d_Listing_greatestNumber_64 (by decide) ?_
                      cases h
                      exact gr_i hx hb hr hlocks hK hP hD hS d_Listing_greatestNumber_65
                    · have n_7 := lv_neT (a := 7) e_7 (by decide)
                      refine lv_tableOut (tgt := 64) hx hb d_Listing_greatestNumber_1 (by omega) (by decide) ?_
                      refine lv_iconst (v := (-1 : Int32)) hx hb d_Listing_greatestNumber_64 (by decide) ?_
                      cases h
                      exact gr_i hx hb hr hlocks hK hP hD hS d_Listing_greatestNumber_65
def K_Listing_holds (l : Launch) (D : va_G) (cI cC : ClassId) : Prop :=
  ∀ (ht ht_ops ht_numbers ht_heights : Nat) (t_size : Int32) (a1 : Int32) (q : Int32), g_Listing_holds t_size a1 = some q → ∀ (sz : Nat), Met l y_Listing_holds w_Listing_holds ({ frames := 0, cells := 0, slots := 0, locals := 0 }) (va_Pc [.ref ht, .int a1] (gB D (gT cI cC) [(ht, .inr (2, [.ref ht_ops, .ref ht_numbers, .ref ht_heights, .int t_size]))] sz)) (gQi D (gT cI cC) q [(ht, .inr (2, [.ref ht_ops, .ref ht_numbers, .ref ht_heights, .int t_size]))] (va_A [(ht, .inr (2, [.ref ht_ops, .ref ht_numbers, .ref ht_heights, .int t_size]))] sz)) 0 0 (va_A [(ht, .inr (2, [.ref ht_ops, .ref ht_numbers, .ref ht_heights, .int t_size]))] sz)
set_option maxHeartbeats 4000000 in
set_option maxRecDepth 100000 in
theorem c_Listing_holds (l : Launch) (D : va_G) (cI cC : ClassId) : K_Listing_holds l D cI cC := by
  intro ht ht_ops ht_numbers ht_heights t_size a1 q h sz
  refine Met.ofW (cc := k_Listing_holds) (maxL := 2) (ret := (some .boolean)) (by decide) rfl ?_
  intro p e s m args below meth c s₁ B hml hv
  obtain ⟨rfl, hsz, hP, hK, hD0⟩ := hv
  have hx := B.exec
  have hb := B.bytes
  have hr := B.returns
  have hts : ∀ w ∈ lw_t, w.before ([.ref ht, .int a1] : List Value).toArray s = true := fun w h => atoms_spec (ws := w_Listing_holds) B.pre w (List.mem_cons_of_mem _ h)
  have hown : s.vm.findClass R_Listing = some m.cls := findClass_of_methodNamed B.named
  have hlocks := B.notSynchronized
  subst hsz
  have hD := hD0.self (sz := s.heap.size)
  generalize hAe : va_A [(ht, .inr (2, [.ref ht_ops, .ref ht_numbers, .ref ht_heights, .int t_size]))] s.heap.size = A at hD ⊢
  have hA : ∀ q : Nat, s.heap.size ≤ q → A q := fun q h => by rw [← hAe]; exact Or.inr h
  have hS : va_S A s.heap s.heap [] := va_S.rf
  have f_21 := hts _ mt_1_29
  have hP : va_P D vwCl [(ht, .inr (2, [.ref ht_ops, .ref ht_numbers, .ref ht_heights, .int t_size]))] s.heap := hP
  have hl := lv_entry ([.ref ht, .int a1]) (n := 2) (Nat.le_of_ble_eq_true rfl)
  rw [lg_entry_eq]
  generalize (lg_sl ([.ref ht, .int a1]) ++ List.replicate (2 - (lg_sl ([.ref ht, .int a1])).length) Slot.unset).toArray = ls at hl ⊢
  have hl : lv_has ls 2 [(0, .ref ht), (1, .int a1)] := hl
  unfold g_Listing_holds at h
  refine lv_iload_n hx hb d_Listing_holds_0 rfl (lv_at hl 1 rfl) ?_
  refine lv_if_lt (tgt := 16) hx hb d_Listing_holds_1 (by decide) (fun ec => ?_) (fun ec => ?_)
  · have h := g_t ec h
    refine lv_iconst (v := (0 : Int32)) hx hb d_Listing_holds_16 (by decide) ?_
    cases h
    exact gr_z (v := (0 : Int32)) (by decide) hx hb hr hlocks hK hP hD hS d_Listing_holds_17
  · have h := g_f ec h
    refine lv_iload_n hx hb d_Listing_holds_4 rfl (lv_at hl 1 rfl) ?_
    refine lv_aload_n hx hb d_Listing_holds_5 rfl (lv_at hl 0 rfl) ?_
    refine va_get (D := D) (ci := 2) (v := .int t_size) (C := R_Listing) (T := F_Listing) (N := 4) hx hb hts u_Listing hown hK hP 0 rfl rfl 3 (by decide) f_21 (fun _ h9 => h9) rfl d_Listing_holds_6 ?_
    refine lv_icmp_ge (tgt := 16) hx hb d_Listing_holds_9 (by decide) (fun ec => ?_) (fun ec => ?_)
    · have h := g_t ec h
      refine lv_iconst (v := (0 : Int32)) hx hb d_Listing_holds_16 (by decide) ?_
      cases h
      exact gr_z (v := (0 : Int32)) (by decide) hx hb hr hlocks hK hP hD hS d_Listing_holds_17
    · have h := g_f ec h
      refine lv_iconst (v := (1 : Int32)) hx hb d_Listing_holds_12 (by decide) ?_
      refine lv_goto (tgt := 17) hx hb d_Listing_holds_13 (by decide) ?_
      cases h
      exact gr_z (v := (1 : Int32)) (by decide) hx hb hr hlocks hK hP hD hS d_Listing_holds_17
def K_Listing_rise (l : Launch) (D : va_G) (cI cC : ClassId) : Prop :=
  ∀ (a0 : Int32) (q : Int32), g_Listing_rise a0 = some q → ∀ (sz : Nat), Met l y_Listing_rise w_Listing_rise ({ frames := 0, cells := 0, slots := 0, locals := 0 }) (va_Pc [.int a0] (gB D (gT cI cC) [] sz)) (gQi D (gT cI cC) q [] (va_A [] sz)) 0 0 (va_A [] sz)
set_option maxHeartbeats 4000000 in
set_option maxRecDepth 100000 in
theorem c_Listing_rise (l : Launch) (D : va_G) (cI cC : ClassId) : K_Listing_rise l D cI cC := by
  intro a0 q h sz
  refine Met.ofW (cc := k_Listing_rise) (maxL := 1) (ret := (some .int)) (by decide) rfl ?_
  intro p e s m args below meth c s₁ B hml hv
  obtain ⟨rfl, hsz, hP, hK, hD0⟩ := hv
  have hx := B.exec
  have hb := B.bytes
  have hr := B.returns
  have hts : ∀ w ∈ lw_t, w.before ([.int a0] : List Value).toArray s = true := fun w h => atoms_spec (ws := w_Listing_rise) B.pre w (List.mem_cons_of_mem _ h)
  have hown : s.vm.findClass R_Listing = some m.cls := findClass_of_methodNamed B.named
  have hlocks := B.notSynchronized
  subst hsz
  have hD := hD0.self (sz := s.heap.size)
  generalize hAe : va_A [] s.heap.size = A at hD ⊢
  have hA : ∀ q : Nat, s.heap.size ≤ q → A q := fun q h => by rw [← hAe]; exact Or.inr h
  have hS : va_S A s.heap s.heap [] := va_S.rf
  have hP : va_P D vwCl [] s.heap := hP
  have hl := lv_entry ([.int a0]) (n := 1) (Nat.le_of_ble_eq_true rfl)
  rw [lg_entry_eq]
  generalize (lg_sl ([.int a0]) ++ List.replicate (1 - (lg_sl ([.int a0])).length) Slot.unset).toArray = ls at hl ⊢
  have hl : lv_has ls 1 [(0, .int a0)] := hl
  unfold g_Listing_rise at h
  refine lv_iload_n hx hb d_Listing_rise_0 rfl (lv_at hl 0 rfl) ?_
  by_cases e_0 : a0 = (0 : Int32)
  · have h := g_t e_0 h
    have ei : (a0).toInt = 0 := by rw [e_0]; decide
    refine lv_tableIn (tgt := 52) (off := 51) hx hb d_Listing_rise_1 (by rw [ei]; decide) (by rw [ei]; decide) (by rw [ei]; rfl) (by decide) ?_
    refine lv_iconst (v := (1 : Int32)) hx hb d_Listing_rise_52 (by decide) ?_
    cases h
    exact gr_i hx hb hr hlocks hK hP hD hS d_Listing_rise_53
  · have h := g_f e_0 h
    have n_0 := lv_neT (a := 0) e_0 (by decide)
    by_cases e_1 : a0 = (1 : Int32)
    · have h := g_t e_1 h
      have ei : (a0).toInt = 1 := by rw [e_1]; decide
      refine lv_tableIn (tgt := 52) (off := 51) hx hb d_Listing_rise_1 (by rw [ei]; decide) (by rw [ei]; decide) (by rw [ei]; rfl) (by decide) ?_
      refine lv_iconst (v := (1 : Int32)) hx hb d_Listing_rise_52 (by decide) ?_
      cases h
      exact gr_i hx hb hr hlocks hK hP hD hS d_Listing_rise_53
    · have h := g_f e_1 h
      have n_1 := lv_neT (a := 1) e_1 (by decide)
      by_cases e_7 : a0 = (7 : Int32)
      · have h := g_t e_7 h
        have ei : (a0).toInt = 7 := by rw [e_7]; decide
        refine lv_tableIn (tgt := 54) (off := 53) hx hb d_Listing_rise_1 (by rw [ei]; decide) (by rw [ei]; decide) (by rw [ei]; rfl) (by decide) ?_
        refine lv_iconst (v := (0 : Int32)) hx hb d_Listing_rise_54 (by decide) ?_
        cases h
        exact gr_i hx hb hr hlocks hK hP hD hS d_Listing_rise_55
      · have h := g_f e_7 h
        have n_7 := lv_neT (a := 7) e_7 (by decide)
        by_cases e_8 : a0 = (8 : Int32)
        · have h := g_t e_8 h
          have ei : (a0).toInt = 8 := by rw [e_8]; decide
          refine lv_tableIn (tgt := 54) (off := 53) hx hb d_Listing_rise_1 (by rw [ei]; decide) (by rw [ei]; decide) (by rw [ei]; rfl) (by decide) ?_
          refine lv_iconst (v := (0 : Int32)) hx hb d_Listing_rise_54 (by decide) ?_
          cases h
          exact gr_i hx hb hr hlocks hK hP hD hS d_Listing_rise_55
        · have h := g_f e_8 h
          have n_8 := lv_neT (a := 8) e_8 (by decide)
          by_cases e_2 : a0 = (2 : Int32)
          · have ei : (a0).toInt = 2 := by rw [e_2]; decide
            refine lv_tableIn (tgt := 56) (off := 55) hx hb d_Listing_rise_1 (by rw [ei]; decide) (by rw [ei]; decide) (by rw [ei]; rfl) (by decide) ?_
            refine lv_iconst (v := (-1 : Int32)) hx hb d_Listing_rise_56 (by decide) ?_
            cases h
            exact gr_i hx hb hr hlocks hK hP hD hS d_Listing_rise_57
          · have n_2 := lv_neT (a := 2) e_2 (by decide)
            by_cases e_3 : a0 = (3 : Int32)
            · have ei : (a0).toInt = 3 := by rw [e_3]; decide
              refine lv_tableIn (tgt := 56) (off := 55) hx hb d_Listing_rise_1 (by rw [ei]; decide) (by rw [ei]; decide) (by rw [ei]; rfl) (by decide) ?_
              refine lv_iconst (v := (-1 : Int32)) hx hb d_Listing_rise_56 (by decide) ?_
              cases h
              exact gr_i hx hb hr hlocks hK hP hD hS d_Listing_rise_57
            · have n_3 := lv_neT (a := 3) e_3 (by decide)
              by_cases e_4 : a0 = (4 : Int32)
              · have ei : (a0).toInt = 4 := by rw [e_4]; decide
                refine lv_tableIn (tgt := 56) (off := 55) hx hb d_Listing_rise_1 (by rw [ei]; decide) (by rw [ei]; decide) (by rw [ei]; rfl) (by decide) ?_
                refine lv_iconst (v := (-1 : Int32)) hx hb d_Listing_rise_56 (by decide) ?_
                cases h
                exact gr_i hx hb hr hlocks hK hP hD hS d_Listing_rise_57
              · have n_4 := lv_neT (a := 4) e_4 (by decide)
                by_cases e_5 : a0 = (5 : Int32)
                · have ei : (a0).toInt = 5 := by rw [e_5]; decide
                  refine lv_tableIn (tgt := 56) (off := 55) hx hb d_Listing_rise_1 (by rw [ei]; decide) (by rw [ei]; decide) (by rw [ei]; rfl) (by decide) ?_
                  refine lv_iconst (v := (-1 : Int32)) hx hb d_Listing_rise_56 (by decide) ?_
                  cases h
                  exact gr_i hx hb hr hlocks hK hP hD hS d_Listing_rise_57
                · have n_5 := lv_neT (a := 5) e_5 (by decide)
                  by_cases e_6 : a0 = (6 : Int32)
                  · have ei : (a0).toInt = 6 := by rw [e_6]; decide
                    refine lv_tableIn (tgt := 56) (off := 55) hx hb d_Listing_rise_1 (by rw [ei]; decide) (by rw [ei]; decide) (by rw [ei]; rfl) (by decide) ?_
                    refine lv_iconst (v := (-1 : Int32)) hx hb d_Listing_rise_56 (by decide) ?_
                    cases h
                    exact gr_i hx hb hr hlocks hK hP hD hS d_Listing_rise_57
                  · have n_6 := lv_neT (a := 6) e_6 (by decide)
                    refine lv_tableOut (tgt := 56) hx hb d_Listing_rise_1 (by omega) (by decide) ?_
                    refine lv_iconst (v := (-1 : Int32)) hx hb d_Listing_rise_56 (by decide) ?_
                    cases h
                    exact gr_i hx hb hr hlocks hK hP hD hS d_Listing_rise_57
def K_Listing_set (l : Launch) (D : va_G) (cI cC : ClassId) : Prop :=
  ∀ (ht ht_ops ht_numbers ht_heights : Nat) (t_R : Nat) (t_size : Int32) (t_ops : Nat → Int32) (t_numbers : Nat → Int32) (t_heights : Nat → Int32) (a1 a2 a3 : Int32) (q : (Nat → Int32) × (Nat → Int32) × (Nat → Int32)), g_Listing_set t_R t_ops t_numbers t_heights t_size a1 a2 a3 = some q → ∀ (sz : Nat), Met l y_Listing_set w_Listing_set ({ frames := 1, cells := 0, slots := 0, locals := 21 }) (va_Pc [.ref ht, .int a1, .int a2, .int a3] (gB D (gT cI cC) [(ht, .inr (2, [.ref ht_ops, .ref ht_numbers, .ref ht_heights, .int t_size])), (ht_ops, .inl (cI, t_R, .inl t_ops)), (ht_numbers, .inl (cI, t_R, .inl t_numbers)), (ht_heights, .inl (cI, (t_R + 1), .inl t_heights))] sz)) (gQv D (gT cI cC) [(ht, .inr (2, [.ref ht_ops, .ref ht_numbers, .ref ht_heights, .int t_size])), (ht_ops, .inl (cI, t_R, .inl q.1)), (ht_numbers, .inl (cI, t_R, .inl q.2.1)), (ht_heights, .inl (cI, (t_R + 1), .inl q.2.2))] (va_A [(ht, .inr (2, [.ref ht_ops, .ref ht_numbers, .ref ht_heights, .int t_size])), (ht_ops, .inl (cI, t_R, .inl t_ops)), (ht_numbers, .inl (cI, t_R, .inl t_numbers)), (ht_heights, .inl (cI, (t_R + 1), .inl t_heights))] sz)) 0 0 (va_A [(ht, .inr (2, [.ref ht_ops, .ref ht_numbers, .ref ht_heights, .int t_size])), (ht_ops, .inl (cI, t_R, .inl t_ops)), (ht_numbers, .inl (cI, t_R, .inl t_numbers)), (ht_heights, .inl (cI, (t_R + 1), .inl t_heights))] sz)
set_option maxHeartbeats 4000000 in
set_option maxRecDepth 100000 in
theorem c_Listing_set (l : Launch) (D : va_G) (cI cC : ClassId) : K_Listing_set l D cI cC := by
  intro ht ht_ops ht_numbers ht_heights t_R t_size t_ops t_numbers t_heights a1 a2 a3 q h sz
  refine Met.ofW (cc := k_Listing_set) (maxL := 5) (ret := none) (by decide) rfl ?_
  intro p e s m args below meth c s₁ B hml hv
  obtain ⟨rfl, hsz, hP, hK, hD0⟩ := hv
  have hx := B.exec
  have hb := B.bytes
  have hr := B.returns
  have hts : ∀ w ∈ lw_t, w.before ([.ref ht, .int a1, .int a2, .int a3] : List Value).toArray s = true := fun w h => atoms_spec (ws := w_Listing_set) B.pre w (List.mem_cons_of_mem _ h)
  have hown : s.vm.findClass R_Listing = some m.cls := findClass_of_methodNamed B.named
  have hlocks := B.notSynchronized
  subst hsz
  have hD := hD0.self (sz := s.heap.size)
  generalize hAe : va_A [(ht, .inr (2, [.ref ht_ops, .ref ht_numbers, .ref ht_heights, .int t_size])), (ht_ops, .inl (cI, t_R, .inl t_ops)), (ht_numbers, .inl (cI, t_R, .inl t_numbers)), (ht_heights, .inl (cI, (t_R + 1), .inl t_heights))] s.heap.size = A at hD ⊢
  have hA : ∀ q : Nat, s.heap.size ≤ q → A q := fun q h => by rw [← hAe]; exact Or.inr h
  have hS : va_S A s.heap s.heap [] := va_S.rf
  have f_15 := hts _ mt_1_27
  have f_18 := hts _ mt_1_28
  have f_21 := hts _ mt_1_29
  have f_9 := hts _ mt_1_26
  have LP_38 : ∀ nn_38 : Nat, ∀ (t_ops : Nat → Int32) (t_numbers : Nat → Int32) (t_heights : Nat → Int32) (v4 : Int32), b_Listing_set_38 t_R t_size nn_38 t_ops t_numbers t_heights v4 = some q → gJ p l e (headSpec w_Listing_set ({ frames := 1, cells := 0, slots := 0, locals := 21 })).room s m ([.ref ht, .int a1, .int a2, .int a3] : List Value).toArray below meth c D A 5 (MQ below (gQv D (gT cI cC) [(ht, .inr (2, [.ref ht_ops, .ref ht_numbers, .ref ht_heights, .int t_size])), (ht_ops, .inl (cI, t_R, .inl q.1)), (ht_numbers, .inl (cI, t_R, .inl q.2.1)), (ht_heights, .inl (cI, (t_R + 1), .inl q.2.2))] A) ([.ref ht, .int a1, .int a2, .int a3] : List Value).toArray s 0 0 A) 38 [(ht, .inr (2, [.ref ht_ops, .ref ht_numbers, .ref ht_heights, .int t_size])), (ht_ops, .inl (cI, t_R, .inl t_ops)), (ht_numbers, .inl (cI, t_R, .inl t_numbers)), (ht_heights, .inl (cI, (t_R + 1), .inl t_heights))] [(0, .ref ht), (4, .int v4)] [] := by
    intro nn_38
    induction nn_38 with
    | zero => intro t_ops t_numbers t_heights v4 h; exact g_no h
    | succ nn_38 ih_38 =>
      intro t_ops t_numbers t_heights v4 h H locs ls hP hD hS hl
      rw [b_Listing_set_38] at h
      refine lv_iload hx hb d_Listing_set_38 (lv_at hl 1 rfl) ?_
      refine lv_aload_n hx hb d_Listing_set_40 rfl (lv_at hl 0 rfl) ?_
      refine va_get (D := D) (ci := 2) (v := .int t_size) (C := R_Listing) (T := F_Listing) (N := 4) hx hb hts u_Listing hown hK hP 0 rfl rfl 3 (by decide) f_21 (fun _ h9 => h9) rfl d_Listing_set_41 ?_
      refine lv_icmp_ge (tgt := 80) hx hb d_Listing_set_44 (by decide) (fun ec => ?_) (fun ec => ?_)
      · have h := g_t ec h
        cases h
        exact gr_v hx hb hr hlocks hK hP hD hS d_Listing_set_80
      · have h := g_f ec h
        refine lv_aload_n hx hb d_Listing_set_47 rfl (lv_at hl 0 rfl) ?_
        refine va_get (D := D) (ci := 2) (v := .ref ht_heights) (C := R_Listing) (T := F_Listing) (N := 4) hx hb hts u_Listing hown hK hP 0 rfl rfl 2 (by decide) f_18 (fun _ h9 => h9) rfl d_Listing_set_48 ?_
        refine lv_iload hx hb d_Listing_set_51 (lv_at hl 1 rfl) ?_
        refine lv_iconst (v := (1 : Int32)) hx hb d_Listing_set_53 (by decide) ?_
        refine lv_iadd hx hb d_Listing_set_54 ?_
        refine lv_aload_n hx hb d_Listing_set_55 rfl (lv_at hl 0 rfl) ?_
        refine va_get (D := D) (ci := 2) (v := .ref ht_heights) (C := R_Listing) (T := F_Listing) (N := 4) hx hb hts u_Listing hown hK hP 0 rfl rfl 2 (by decide) f_18 (fun _ h9 => h9) rfl d_Listing_set_56 ?_
        refine lv_iload hx hb d_Listing_set_59 (lv_at hl 1 rfl) ?_
        obtain ⟨hi, h⟩ := g_ck h
        refine va_iald hx hb hK hP 3 0 rfl rfl hi d_Listing_set_61 ?_
        refine lv_aload_n hx hb d_Listing_set_62 rfl (lv_at hl 0 rfl) ?_
        refine va_get (D := D) (ci := 2) (v := .ref ht_ops) (C := R_Listing) (T := F_Listing) (N := 4) hx hb hts u_Listing hown hK hP 0 rfl rfl 0 (by decide) f_9 (fun _ h9 => h9) rfl d_Listing_set_63 ?_
        refine lv_iload hx hb d_Listing_set_66 (lv_at hl 1 rfl) ?_
        obtain ⟨hi, h⟩ := g_ck h
        refine va_iald hx hb hK hP 1 0 rfl rfl hi d_Listing_set_68 ?_
        obtain ⟨q1, hc, h⟩ := g_bd h
        refine gk_i (va_runS (As := [.int (t_ops v4.toNatClampNeg)]) (rest := [.int (t_heights v4.toNatClampNeg), .int (v4 + (1 : Int32)), .ref ht_heights]) ⟨hx, hb, hml, hown, hts⟩ (c_Listing_rise l D cI cC (t_ops v4.toNatClampNeg) q1 hc _) (va_cwS 1 hts (gG_S mt_1_191 mt_1_192 mt_1_2 mt_1_193) rfl rfl rfl (by decide +kernel) ⟨Nat.le_of_ble_eq_true rfl, Nat.le_of_ble_eq_true rfl⟩) (gpS hK hP hD [] rfl (by decide)) rfl rfl hl.1 rfl (lv_room (Nat.le_of_ble_eq_true rfl)) d_Listing_set_69 ⟨Nat.zero_le _, Nat.zero_le _⟩) hK hP hD hS hA [] rfl (by decide) rfl rfl (fun H locs (hP : va_P D vwCl [(ht, .inr (2, [.ref ht_ops, .ref ht_numbers, .ref ht_heights, .int t_size])), (ht_ops, .inl (cI, t_R, .inl t_ops)), (ht_numbers, .inl (cI, t_R, .inl t_numbers)), (ht_heights, .inl (cI, (t_R + 1), .inl t_heights))] H) (hD : va_D A [(ht, .inr (2, [.ref ht_ops, .ref ht_numbers, .ref ht_heights, .int t_size])), (ht_ops, .inl (cI, t_R, .inl t_ops)), (ht_numbers, .inl (cI, t_R, .inl t_numbers)), (ht_heights, .inl (cI, (t_R + 1), .inl t_heights))]) hS => ?_)
        refine lv_iadd hx hb d_Listing_set_72 ?_
        obtain ⟨hi, h⟩ := g_ck h
        refine va_iast hx hb hK hP hD hS 3 0 rfl rfl hi d_Listing_set_73 (fun H locs (hP : va_P D vwCl [(ht, .inr (2, [.ref ht_ops, .ref ht_numbers, .ref ht_heights, .int t_size])), (ht_ops, .inl (cI, t_R, .inl t_ops)), (ht_numbers, .inl (cI, t_R, .inl t_numbers)), (ht_heights, .inl (cI, (t_R + 1), .inl (upd t_heights (v4 + (1 : Int32)).toNatClampNeg ((t_heights v4.toNatClampNeg) + q1))))] H) (hD : va_D A [(ht, .inr (2, [.ref ht_ops, .ref ht_numbers, .ref ht_heights, .int t_size])), (ht_ops, .inl (cI, t_R, .inl t_ops)), (ht_numbers, .inl (cI, t_R, .inl t_numbers)), (ht_heights, .inl (cI, (t_R + 1), .inl (upd t_heights (v4 + (1 : Int32)).toNatClampNeg ((t_heights v4.toNatClampNeg) + q1))))]) hS => ?_)
        refine lv_iinc (v := v4 + (1 : Int32)) (lv' := [(4, .int (v4 + (1 : Int32))), (0, .ref ht)]) hx hb d_Listing_set_74 hl (k := 1) rfl rfl (by decide) rfl (fun ls hl => ?_)
        refine lv_goto (tgt := 38) hx hb d_Listing_set_77 (by decide) ?_
        exact ih_38 _ _ _ _ h _ _ _ hP hD hS (lv_sub hl [1, 0] rfl)
  have hP : va_P D vwCl [(ht, .inr (2, [.ref ht_ops, .ref ht_numbers, .ref ht_heights, .int t_size])), (ht_ops, .inl (cI, t_R, .inl t_ops)), (ht_numbers, .inl (cI, t_R, .inl t_numbers)), (ht_heights, .inl (cI, (t_R + 1), .inl t_heights))] s.heap := hP
  have hl := lv_entry ([.ref ht, .int a1, .int a2, .int a3]) (n := 5) (Nat.le_of_ble_eq_true rfl)
  rw [lg_entry_eq]
  generalize (lg_sl ([.ref ht, .int a1, .int a2, .int a3]) ++ List.replicate (5 - (lg_sl ([.ref ht, .int a1, .int a2, .int a3])).length) Slot.unset).toArray = ls at hl ⊢
  have hl : lv_has ls 5 [(0, .ref ht), (1, .int a1), (2, .int a2), (3, .int a3)] := hl
  unfold g_Listing_set at h
  refine lv_aload_n hx hb d_Listing_set_0 rfl (lv_at hl 0 rfl) ?_
  refine lv_iload_n hx hb d_Listing_set_1 rfl (lv_at hl 1 rfl) ?_
  obtain ⟨q1, hc, h⟩ := g_bd h
  refine gk_i (va_runV (As := [.int a1]) (rest := []) ⟨hx, hb, hml, hown, hts⟩ (c_Listing_holds l D cI cC ht ht_ops ht_numbers ht_heights t_size a1 q1 hc _) (cwV 1 hts (gG_V mt_1_187 mt_1_188 mt_1_189 mt_1_2 mt_1_190) rfl rfl rfl (by decide +kernel) ⟨Nat.le_of_ble_eq_true rfl, Nat.le_of_ble_eq_true rfl⟩) (gpV hK hP hD [0] rfl (by decide) (ci := 2) 0 rfl rfl) rfl rfl hl.1 rfl (lv_room (Nat.le_of_ble_eq_true rfl)) d_Listing_set_2 ⟨Nat.zero_le _, Nat.zero_le _⟩) hK hP hD hS hA [0] rfl (by decide) rfl rfl (fun H locs (hP : va_P D vwCl [(ht, .inr (2, [.ref ht_ops, .ref ht_numbers, .ref ht_heights, .int t_size])), (ht_ops, .inl (cI, t_R, .inl t_ops)), (ht_numbers, .inl (cI, t_R, .inl t_numbers)), (ht_heights, .inl (cI, (t_R + 1), .inl t_heights))] H) (hD : va_D A [(ht, .inr (2, [.ref ht_ops, .ref ht_numbers, .ref ht_heights, .int t_size])), (ht_ops, .inl (cI, t_R, .inl t_ops)), (ht_numbers, .inl (cI, t_R, .inl t_numbers)), (ht_heights, .inl (cI, (t_R + 1), .inl t_heights))]) hS => ?_)
  refine lv_if_ne (tgt := 9) hx hb d_Listing_set_5 (by decide) (fun ec => ?_) (fun ec => ?_)
  · have h := g_f ec h
    refine lv_aload_n hx hb d_Listing_set_9 rfl (lv_at hl 0 rfl) ?_
    refine va_get (D := D) (ci := 2) (v := .ref ht_ops) (C := R_Listing) (T := F_Listing) (N := 4) hx hb hts u_Listing hown hK hP 0 rfl rfl 0 (by decide) f_9 (fun _ h9 => h9) rfl d_Listing_set_10 ?_
    refine lv_iload_n hx hb d_Listing_set_13 rfl (lv_at hl 1 rfl) ?_
    refine lv_iload_n hx hb d_Listing_set_14 rfl (lv_at hl 2 rfl) ?_
    obtain ⟨hi, h⟩ := g_ck h
    refine va_iast hx hb hK hP hD hS 1 0 rfl rfl hi d_Listing_set_15 (fun H locs (hP : va_P D vwCl [(ht, .inr (2, [.ref ht_ops, .ref ht_numbers, .ref ht_heights, .int t_size])), (ht_ops, .inl (cI, t_R, .inl (upd t_ops a1.toNatClampNeg a2))), (ht_numbers, .inl (cI, t_R, .inl t_numbers)), (ht_heights, .inl (cI, (t_R + 1), .inl t_heights))] H) (hD : va_D A [(ht, .inr (2, [.ref ht_ops, .ref ht_numbers, .ref ht_heights, .int t_size])), (ht_ops, .inl (cI, t_R, .inl (upd t_ops a1.toNatClampNeg a2))), (ht_numbers, .inl (cI, t_R, .inl t_numbers)), (ht_heights, .inl (cI, (t_R + 1), .inl t_heights))]) hS => ?_)
    refine lv_aload_n hx hb d_Listing_set_16 rfl (lv_at hl 0 rfl) ?_
    refine va_get (D := D) (ci := 2) (v := .ref ht_numbers) (C := R_Listing) (T := F_Listing) (N := 4) hx hb hts u_Listing hown hK hP 0 rfl rfl 1 (by decide) f_15 (fun _ h9 => h9) rfl d_Listing_set_17 ?_
    refine lv_iload_n hx hb d_Listing_set_20 rfl (lv_at hl 1 rfl) ?_
    refine lv_iload_n hx hb d_Listing_set_21 rfl (lv_at hl 2 rfl) ?_
    obtain ⟨q2, hc, h⟩ := g_bd h
    refine gk_i (va_runS (As := [.int a2]) (rest := [.int a1, .ref ht_numbers]) ⟨hx, hb, hml, hown, hts⟩ (c_Listing_greatestNumber l D cI cC a2 q2 hc _) (va_cwS 1 hts (gG_S mt_1_176 mt_1_177 mt_1_2 mt_1_178) rfl rfl rfl (by decide +kernel) ⟨Nat.le_of_ble_eq_true rfl, Nat.le_of_ble_eq_true rfl⟩) (gpS hK hP hD [] rfl (by decide)) rfl rfl hl.1 rfl (lv_room (Nat.le_of_ble_eq_true rfl)) d_Listing_set_22 ⟨Nat.zero_le _, Nat.zero_le _⟩) hK hP hD hS hA [] rfl (by decide) rfl rfl (fun H locs (hP : va_P D vwCl [(ht, .inr (2, [.ref ht_ops, .ref ht_numbers, .ref ht_heights, .int t_size])), (ht_ops, .inl (cI, t_R, .inl (upd t_ops a1.toNatClampNeg a2))), (ht_numbers, .inl (cI, t_R, .inl t_numbers)), (ht_heights, .inl (cI, (t_R + 1), .inl t_heights))] H) (hD : va_D A [(ht, .inr (2, [.ref ht_ops, .ref ht_numbers, .ref ht_heights, .int t_size])), (ht_ops, .inl (cI, t_R, .inl (upd t_ops a1.toNatClampNeg a2))), (ht_numbers, .inl (cI, t_R, .inl t_numbers)), (ht_heights, .inl (cI, (t_R + 1), .inl t_heights))]) hS => ?_)
    refine lv_iconst (v := (-1 : Int32)) hx hb d_Listing_set_25 (by decide) ?_
    refine lv_icmp_ne (tgt := 33) hx hb d_Listing_set_26 (by decide) (fun ec => ?_) (fun ec => ?_)
    · have h := g_f ec h
      refine lv_iload_n hx hb d_Listing_set_33 rfl (lv_at hl 3 rfl) ?_
      obtain ⟨hi, h⟩ := g_ck h
      refine va_iast hx hb hK hP hD hS 2 0 rfl rfl hi d_Listing_set_34 (fun H locs (hP : va_P D vwCl [(ht, .inr (2, [.ref ht_ops, .ref ht_numbers, .ref ht_heights, .int t_size])), (ht_ops, .inl (cI, t_R, .inl (upd t_ops a1.toNatClampNeg a2))), (ht_numbers, .inl (cI, t_R, .inl (upd t_numbers a1.toNatClampNeg a3))), (ht_heights, .inl (cI, (t_R + 1), .inl t_heights))] H) (hD : va_D A [(ht, .inr (2, [.ref ht_ops, .ref ht_numbers, .ref ht_heights, .int t_size])), (ht_ops, .inl (cI, t_R, .inl (upd t_ops a1.toNatClampNeg a2))), (ht_numbers, .inl (cI, t_R, .inl (upd t_numbers a1.toNatClampNeg a3))), (ht_heights, .inl (cI, (t_R + 1), .inl t_heights))]) hS => ?_)
      refine lv_iload_n hx hb d_Listing_set_35 rfl (lv_at hl 1 rfl) ?_
      refine lv_istore (lv' := [(4, .int a1), (0, .ref ht), (1, .int a1), (2, .int a2), (3, .int a3)]) hx hb d_Listing_set_36 hl (by decide) rfl (fun ls hl => ?_)
      exact LP_38 500 _ _ _ _ h _ _ _ hP hD hS (lv_sub hl [1, 0] rfl)
    · have h := g_t ec h
      refine lv_iconst (v := (0 : Int32)) hx hb d_Listing_set_29 (by decide) ?_
      refine lv_goto (tgt := 34) hx hb d_Listing_set_30 (by decide) ?_
      obtain ⟨hi, h⟩ := g_ck h
      refine va_iast hx hb hK hP hD hS 2 0 rfl rfl hi d_Listing_set_34 (fun H locs (hP : va_P D vwCl [(ht, .inr (2, [.ref ht_ops, .ref ht_numbers, .ref ht_heights, .int t_size])), (ht_ops, .inl (cI, t_R, .inl (upd t_ops a1.toNatClampNeg a2))), (ht_numbers, .inl (cI, t_R, .inl (upd t_numbers a1.toNatClampNeg (0 : Int32)))), (ht_heights, .inl (cI, (t_R + 1), .inl t_heights))] H) (hD : va_D A [(ht, .inr (2, [.ref ht_ops, .ref ht_numbers, .ref ht_heights, .int t_size])), (ht_ops, .inl (cI, t_R, .inl (upd t_ops a1.toNatClampNeg a2))), (ht_numbers, .inl (cI, t_R, .inl (upd t_numbers a1.toNatClampNeg (0 : Int32)))), (ht_heights, .inl (cI, (t_R + 1), .inl t_heights))]) hS => ?_)
      refine lv_iload_n hx hb d_Listing_set_35 rfl (lv_at hl 1 rfl) ?_
      refine lv_istore (lv' := [(4, .int a1), (0, .ref ht), (1, .int a1), (2, .int a2), (3, .int a3)]) hx hb d_Listing_set_36 hl (by decide) rfl (fun ls hl => ?_)
      exact LP_38 500 _ _ _ _ h _ _ _ hP hD hS (lv_sub hl [1, 0] rfl)
  · have h := g_t ec h
    cases h
    exact gr_v hx hb hr hlocks hK hP hD hS d_Listing_set_8
def K_Listing_add (l : Launch) (D : va_G) (cI cC : ClassId) : Prop :=
  ∀ (ht ht_ops ht_numbers ht_heights : Nat) (t_R : Nat) (t_size : Int32) (t_ops : Nat → Int32) (t_numbers : Nat → Int32) (t_heights : Nat → Int32) (a1 a2 : Int32) (q : Int32 × (Nat → Int32) × (Nat → Int32) × (Nat → Int32) × Int32), g_Listing_add t_R t_ops t_numbers t_heights t_size a1 a2 = some q → ∀ (sz : Nat), Met l y_Listing_add w_Listing_add ({ frames := 2, cells := 0, slots := 0, locals := 45 }) (va_Pc [.ref ht, .int a1, .int a2] (gB D (gT cI cC) [(ht, .inr (2, [.ref ht_ops, .ref ht_numbers, .ref ht_heights, .int t_size])), (ht_ops, .inl (cI, t_R, .inl t_ops)), (ht_numbers, .inl (cI, t_R, .inl t_numbers)), (ht_heights, .inl (cI, (t_R + 1), .inl t_heights))] sz)) (gQi D (gT cI cC) q.1 [(ht, .inr (2, [.ref ht_ops, .ref ht_numbers, .ref ht_heights, .int q.2.2.2.2])), (ht_ops, .inl (cI, t_R, .inl q.2.1)), (ht_numbers, .inl (cI, t_R, .inl q.2.2.1)), (ht_heights, .inl (cI, (t_R + 1), .inl q.2.2.2.1))] (va_A [(ht, .inr (2, [.ref ht_ops, .ref ht_numbers, .ref ht_heights, .int t_size])), (ht_ops, .inl (cI, t_R, .inl t_ops)), (ht_numbers, .inl (cI, t_R, .inl t_numbers)), (ht_heights, .inl (cI, (t_R + 1), .inl t_heights))] sz)) 0 0 (va_A [(ht, .inr (2, [.ref ht_ops, .ref ht_numbers, .ref ht_heights, .int t_size])), (ht_ops, .inl (cI, t_R, .inl t_ops)), (ht_numbers, .inl (cI, t_R, .inl t_numbers)), (ht_heights, .inl (cI, (t_R + 1), .inl t_heights))] sz)
set_option maxHeartbeats 4000000 in
set_option maxRecDepth 100000 in
theorem c_Listing_add (l : Launch) (D : va_G) (cI cC : ClassId) : K_Listing_add l D cI cC := by
  intro ht ht_ops ht_numbers ht_heights t_R t_size t_ops t_numbers t_heights a1 a2 q h sz
  refine Met.ofW (cc := k_Listing_add) (maxL := 3) (ret := (some .boolean)) (by decide) rfl ?_
  intro p e s m args below meth c s₁ B hml hv
  obtain ⟨rfl, hsz, hP, hK, hD0⟩ := hv
  have hx := B.exec
  have hb := B.bytes
  have hr := B.returns
  have hts : ∀ w ∈ lw_t, w.before ([.ref ht, .int a1, .int a2] : List Value).toArray s = true := fun w h => atoms_spec (ws := w_Listing_add) B.pre w (List.mem_cons_of_mem _ h)
  have hown : s.vm.findClass R_Listing = some m.cls := findClass_of_methodNamed B.named
  have hlocks := B.notSynchronized
  subst hsz
  have hD := hD0.self (sz := s.heap.size)
  generalize hAe : va_A [(ht, .inr (2, [.ref ht_ops, .ref ht_numbers, .ref ht_heights, .int t_size])), (ht_ops, .inl (cI, t_R, .inl t_ops)), (ht_numbers, .inl (cI, t_R, .inl t_numbers)), (ht_heights, .inl (cI, (t_R + 1), .inl t_heights))] s.heap.size = A at hD ⊢
  have hA : ∀ q : Nat, s.heap.size ≤ q → A q := fun q h => by rw [← hAe]; exact Or.inr h
  have hS : va_S A s.heap s.heap [] := va_S.rf
  have f_21 := hts _ mt_1_29
  have f_9 := hts _ mt_1_26
  have hP : va_P D vwCl [(ht, .inr (2, [.ref ht_ops, .ref ht_numbers, .ref ht_heights, .int t_size])), (ht_ops, .inl (cI, t_R, .inl t_ops)), (ht_numbers, .inl (cI, t_R, .inl t_numbers)), (ht_heights, .inl (cI, (t_R + 1), .inl t_heights))] s.heap := hP
  have hl := lv_entry ([.ref ht, .int a1, .int a2]) (n := 3) (Nat.le_of_ble_eq_true rfl)
  rw [lg_entry_eq]
  generalize (lg_sl ([.ref ht, .int a1, .int a2]) ++ List.replicate (3 - (lg_sl ([.ref ht, .int a1, .int a2])).length) Slot.unset).toArray = ls at hl ⊢
  have hl : lv_has ls 3 [(0, .ref ht), (1, .int a1), (2, .int a2)] := hl
  unfold g_Listing_add at h
  refine lv_aload_n hx hb d_Listing_add_0 rfl (lv_at hl 0 rfl) ?_
  refine va_get (D := D) (ci := 2) (v := .int t_size) (C := R_Listing) (T := F_Listing) (N := 4) hx hb hts u_Listing hown hK hP 0 rfl rfl 3 (by decide) f_21 (fun _ h9 => h9) rfl d_Listing_add_1 ?_
  refine lv_aload_n hx hb d_Listing_add_4 rfl (lv_at hl 0 rfl) ?_
  refine va_get (D := D) (ci := 2) (v := .ref ht_ops) (C := R_Listing) (T := F_Listing) (N := 4) hx hb hts u_Listing hown hK hP 0 rfl rfl 0 (by decide) f_9 (fun _ h9 => h9) rfl d_Listing_add_5 ?_
  refine va_alen (v := nI t_R) hx hb hK hP 1 0 rfl rfl rfl d_Listing_add_8 ?_
  refine lv_icmp_lt (tgt := 14) hx hb d_Listing_add_9 (by decide) (fun ec => ?_) (fun ec => ?_)
  · have h := g_t ec h
    refine lv_aload_n hx hb d_Listing_add_14 rfl (lv_at hl 0 rfl) ?_
    refine lv_dup hx hb d_Listing_add_15 rfl ?_
    refine va_get (D := D) (ci := 2) (v := .int t_size) (C := R_Listing) (T := F_Listing) (N := 4) hx hb hts u_Listing hown hK hP 0 rfl rfl 3 (by decide) f_21 (fun _ h9 => h9) rfl d_Listing_add_16 ?_
    refine lv_iconst (v := (1 : Int32)) hx hb d_Listing_add_19 (by decide) ?_
    refine lv_iadd hx hb d_Listing_add_20 ?_
    refine va_put (D := D) (ci := 2) (v := .int (t_size + (1 : Int32))) (ty := .int) (C := R_Listing) (T := F_Listing) (N := 4) hx hb hts u_Listing t_Listing t_Listing_ok n_Listing hown hK hP hD hS 0 rfl rfl 3 (by decide) f_21 (fun _ h9 => h9) rfl (by decide +kernel) rfl rfl (Nat.le_of_ble_eq_true rfl) d_Listing_add_21 (fun H locs (hP : va_P D vwCl [(ht, .inr (2, [.ref ht_ops, .ref ht_numbers, .ref ht_heights, .int (t_size + (1 : Int32))])), (ht_ops, .inl (cI, t_R, .inl t_ops)), (ht_numbers, .inl (cI, t_R, .inl t_numbers)), (ht_heights, .inl (cI, (t_R + 1), .inl t_heights))] H) (hD : va_D A [(ht, .inr (2, [.ref ht_ops, .ref ht_numbers, .ref ht_heights, .int (t_size + (1 : Int32))])), (ht_ops, .inl (cI, t_R, .inl t_ops)), (ht_numbers, .inl (cI, t_R, .inl t_numbers)), (ht_heights, .inl (cI, (t_R + 1), .inl t_heights))]) hS => ?_)
    refine lv_aload_n hx hb d_Listing_add_24 rfl (lv_at hl 0 rfl) ?_
    refine lv_aload_n hx hb d_Listing_add_25 rfl (lv_at hl 0 rfl) ?_
    refine va_get (D := D) (ci := 2) (v := .int (t_size + (1 : Int32))) (C := R_Listing) (T := F_Listing) (N := 4) hx hb hts u_Listing hown hK hP 0 rfl rfl 3 (by decide) f_21 (fun _ h9 => h9) rfl d_Listing_add_26 ?_
    refine lv_iconst (v := (1 : Int32)) hx hb d_Listing_add_29 (by decide) ?_
    refine lv_isub hx hb d_Listing_add_30 ?_
    refine lv_iload_n hx hb d_Listing_add_31 rfl (lv_at hl 1 rfl) ?_
    refine lv_iload_n hx hb d_Listing_add_32 rfl (lv_at hl 2 rfl) ?_
    obtain ⟨q1, hc, h⟩ := g_bd h
    refine gk_v (va_runV (As := [.int ((t_size + (1 : Int32)) - (1 : Int32)), .int a1, .int a2]) (rest := []) ⟨hx, hb, hml, hown, hts⟩ (c_Listing_set l D cI cC ht ht_ops ht_numbers ht_heights t_R (t_size + (1 : Int32)) t_ops t_numbers t_heights ((t_size + (1 : Int32)) - (1 : Int32)) a1 a2 q1 hc _) (cwV 3 hts (gG_V mt_1_183 mt_1_184 mt_1_185 mt_1_2 mt_1_186) rfl rfl rfl (by decide +kernel) ⟨Nat.le_of_ble_eq_true rfl, Nat.le_of_ble_eq_true rfl⟩) (gpV hK hP hD [0, 1, 2, 3] rfl (by decide) (ci := 2) 0 rfl rfl) rfl rfl hl.1 rfl (lv_room (Nat.le_of_ble_eq_true rfl)) d_Listing_add_33 ⟨Nat.zero_le _, Nat.zero_le _⟩) hK hP hD hS hA [0, 1, 2, 3] rfl (by decide) rfl rfl (fun H locs (hP : va_P D vwCl [(ht, .inr (2, [.ref ht_ops, .ref ht_numbers, .ref ht_heights, .int (t_size + (1 : Int32))])), (ht_ops, .inl (cI, t_R, .inl q1.1)), (ht_numbers, .inl (cI, t_R, .inl q1.2.1)), (ht_heights, .inl (cI, (t_R + 1), .inl q1.2.2))] H) (hD : va_D A [(ht, .inr (2, [.ref ht_ops, .ref ht_numbers, .ref ht_heights, .int (t_size + (1 : Int32))])), (ht_ops, .inl (cI, t_R, .inl q1.1)), (ht_numbers, .inl (cI, t_R, .inl q1.2.1)), (ht_heights, .inl (cI, (t_R + 1), .inl q1.2.2))]) hS => ?_)
    refine lv_iconst (v := (1 : Int32)) hx hb d_Listing_add_36 (by decide) ?_
    cases h
    exact gr_z (v := (1 : Int32)) (by decide) hx hb hr hlocks hK hP hD hS d_Listing_add_37
  · have h := g_f ec h
    refine lv_iconst (v := (0 : Int32)) hx hb d_Listing_add_12 (by decide) ?_
    cases h
    exact gr_z (v := (0 : Int32)) (by decide) hx hb hr hlocks hK hP hD hS d_Listing_add_13
def K_Listing_fits (l : Launch) (D : va_G) (cI cC : ClassId) : Prop :=
  ∀ (a0 a1 : Int32) (q : Int32), g_Listing_fits a0 a1 = some q → ∀ (sz : Nat), Met l y_Listing_fits w_Listing_fits ({ frames := 1, cells := 0, slots := 0, locals := 20 }) (va_Pc [.int a0, .int a1] (gB D (gT cI cC) [] sz)) (gQi D (gT cI cC) q [] (va_A [] sz)) 0 0 (va_A [] sz)
set_option maxHeartbeats 4000000 in
set_option maxRecDepth 100000 in
theorem c_Listing_fits (l : Launch) (D : va_G) (cI cC : ClassId) : K_Listing_fits l D cI cC := by
  intro a0 a1 q h sz
  refine Met.ofW (cc := k_Listing_fits) (maxL := 3) (ret := (some .boolean)) (by decide) rfl ?_
  intro p e s m args below meth c s₁ B hml hv
  obtain ⟨rfl, hsz, hP, hK, hD0⟩ := hv
  have hx := B.exec
  have hb := B.bytes
  have hr := B.returns
  have hts : ∀ w ∈ lw_t, w.before ([.int a0, .int a1] : List Value).toArray s = true := fun w h => atoms_spec (ws := w_Listing_fits) B.pre w (List.mem_cons_of_mem _ h)
  have hown : s.vm.findClass R_Listing = some m.cls := findClass_of_methodNamed B.named
  have hlocks := B.notSynchronized
  subst hsz
  have hD := hD0.self (sz := s.heap.size)
  generalize hAe : va_A [] s.heap.size = A at hD ⊢
  have hA : ∀ q : Nat, s.heap.size ≤ q → A q := fun q h => by rw [← hAe]; exact Or.inr h
  have hS : va_S A s.heap s.heap [] := va_S.rf
  have hP : va_P D vwCl [] s.heap := hP
  have hl := lv_entry ([.int a0, .int a1]) (n := 3) (Nat.le_of_ble_eq_true rfl)
  rw [lg_entry_eq]
  generalize (lg_sl ([.int a0, .int a1]) ++ List.replicate (3 - (lg_sl ([.int a0, .int a1])).length) Slot.unset).toArray = ls at hl ⊢
  have hl : lv_has ls 3 [(0, .int a0), (1, .int a1)] := hl
  unfold g_Listing_fits at h
  refine lv_iload_n hx hb d_Listing_fits_0 rfl (lv_at hl 0 rfl) ?_
  refine lv_if_lt (tgt := 10) hx hb d_Listing_fits_1 (by decide) (fun ec => ?_) (fun ec => ?_)
  · have h := g_t ec h
    refine lv_iconst (v := (0 : Int32)) hx hb d_Listing_fits_10 (by decide) ?_
    cases h
    exact gr_z (v := (0 : Int32)) (by decide) hx hb hr hlocks hK hP hD hS d_Listing_fits_11
  · have h := g_f ec h
    refine lv_iload_n hx hb d_Listing_fits_4 rfl (lv_at hl 0 rfl) ?_
    refine lv_bipush (v := (10 : Int32)) hx hb d_Listing_fits_5 (by decide) ?_
    refine lv_icmp_le (tgt := 12) hx hb d_Listing_fits_7 (by decide) (fun ec => ?_) (fun ec => ?_)
    · have h := g_t ec h
      refine lv_iload_n hx hb d_Listing_fits_12 rfl (lv_at hl 0 rfl) ?_
      obtain ⟨q1, hc, h⟩ := g_bd h
      refine gk_i (va_runS (As := [.int a0]) (rest := []) ⟨hx, hb, hml, hown, hts⟩ (c_Listing_greatestNumber l D cI cC a0 q1 hc _) (va_cwS 1 hts (gG_S mt_1_176 mt_1_177 mt_1_2 mt_1_178) rfl rfl rfl (by decide +kernel) ⟨Nat.le_of_ble_eq_true rfl, Nat.le_of_ble_eq_true rfl⟩) (gpS hK hP hD [] rfl (by decide)) rfl rfl hl.1 rfl (lv_room (Nat.le_of_ble_eq_true rfl)) d_Listing_fits_13 ⟨Nat.zero_le _, Nat.zero_le _⟩) hK hP hD hS hA [] rfl (by decide) rfl rfl (fun H locs (hP : va_P D vwCl [] H) (hD : va_D A []) hS => ?_)
      refine lv_istore_n (lv' := [(2, .int q1), (0, .int a0), (1, .int a1)]) hx hb d_Listing_fits_16 rfl hl (by decide) rfl (fun ls hl => ?_)
      refine lv_iload_n hx hb d_Listing_fits_17 rfl (lv_at hl 0 rfl) ?_
      refine lv_iconst (v := (-1 : Int32)) hx hb d_Listing_fits_18 (by decide) ?_
      refine lv_icmp_eq (tgt := 31) hx hb d_Listing_fits_19 (by decide) (fun ec => ?_) (fun ec => ?_)
      · have h := g_t ec h
        refine lv_iconst (v := (1 : Int32)) hx hb d_Listing_fits_31 (by decide) ?_
        refine lv_goto (tgt := 36) hx hb d_Listing_fits_32 (by decide) ?_
        cases h
        exact gr_z (v := (1 : Int32)) (by decide) hx hb hr hlocks hK hP hD hS d_Listing_fits_36
      · have h := g_f ec h
        refine lv_iload_n hx hb d_Listing_fits_22 rfl (lv_at hl 2 rfl) ?_
        refine lv_if_lt (tgt := 35) hx hb d_Listing_fits_23 (by decide) (fun ec => ?_) (fun ec => ?_)
        · have h := g_t ec h
          refine lv_iconst (v := (0 : Int32)) hx hb d_Listing_fits_35 (by decide) ?_
          cases h
          exact gr_z (v := (0 : Int32)) (by decide) hx hb hr hlocks hK hP hD hS d_Listing_fits_36
        · have h := g_f ec h
          refine lv_iload_n hx hb d_Listing_fits_26 rfl (lv_at hl 2 rfl) ?_
          refine lv_iload_n hx hb d_Listing_fits_27 rfl (lv_at hl 0 rfl) ?_
          refine lv_icmp_gt (tgt := 35) hx hb d_Listing_fits_28 (by decide) (fun ec => ?_) (fun ec => ?_)
          · have h := g_t ec h
            refine lv_iconst (v := (0 : Int32)) hx hb d_Listing_fits_35 (by decide) ?_
            cases h
            exact gr_z (v := (0 : Int32)) (by decide) hx hb hr hlocks hK hP hD hS d_Listing_fits_36
          · have h := g_f ec h
            refine lv_iconst (v := (1 : Int32)) hx hb d_Listing_fits_31 (by decide) ?_
            refine lv_goto (tgt := 36) hx hb d_Listing_fits_32 (by decide) ?_
            cases h
            exact gr_z (v := (1 : Int32)) (by decide) hx hb hr hlocks hK hP hD hS d_Listing_fits_36
    · have h := g_f ec h
      refine lv_iconst (v := (0 : Int32)) hx hb d_Listing_fits_10 (by decide) ?_
      cases h
      exact gr_z (v := (0 : Int32)) (by decide) hx hb hr hlocks hK hP hD hS d_Listing_fits_11
def K_Listing_size (l : Launch) (D : va_G) (cI cC : ClassId) : Prop :=
  ∀ (ht ht_ops ht_numbers ht_heights : Nat) (t_size : Int32) (q : Int32), g_Listing_size t_size = some q → ∀ (sz : Nat), Met l y_Listing_size w_Listing_size ({ frames := 0, cells := 0, slots := 0, locals := 0 }) (va_Pc [.ref ht] (gB D (gT cI cC) [(ht, .inr (2, [.ref ht_ops, .ref ht_numbers, .ref ht_heights, .int t_size]))] sz)) (gQi D (gT cI cC) q [(ht, .inr (2, [.ref ht_ops, .ref ht_numbers, .ref ht_heights, .int t_size]))] (va_A [(ht, .inr (2, [.ref ht_ops, .ref ht_numbers, .ref ht_heights, .int t_size]))] sz)) 0 0 (va_A [(ht, .inr (2, [.ref ht_ops, .ref ht_numbers, .ref ht_heights, .int t_size]))] sz)
set_option maxHeartbeats 4000000 in
set_option maxRecDepth 100000 in
theorem c_Listing_size (l : Launch) (D : va_G) (cI cC : ClassId) : K_Listing_size l D cI cC := by
  intro ht ht_ops ht_numbers ht_heights t_size q h sz
  refine Met.ofW (cc := k_Listing_size) (maxL := 1) (ret := (some .int)) (by decide) rfl ?_
  intro p e s m args below meth c s₁ B hml hv
  obtain ⟨rfl, hsz, hP, hK, hD0⟩ := hv
  have hx := B.exec
  have hb := B.bytes
  have hr := B.returns
  have hts : ∀ w ∈ lw_t, w.before ([.ref ht] : List Value).toArray s = true := fun w h => atoms_spec (ws := w_Listing_size) B.pre w (List.mem_cons_of_mem _ h)
  have hown : s.vm.findClass R_Listing = some m.cls := findClass_of_methodNamed B.named
  have hlocks := B.notSynchronized
  subst hsz
  have hD := hD0.self (sz := s.heap.size)
  generalize hAe : va_A [(ht, .inr (2, [.ref ht_ops, .ref ht_numbers, .ref ht_heights, .int t_size]))] s.heap.size = A at hD ⊢
  have hA : ∀ q : Nat, s.heap.size ≤ q → A q := fun q h => by rw [← hAe]; exact Or.inr h
  have hS : va_S A s.heap s.heap [] := va_S.rf
  have f_21 := hts _ mt_1_29
  have hP : va_P D vwCl [(ht, .inr (2, [.ref ht_ops, .ref ht_numbers, .ref ht_heights, .int t_size]))] s.heap := hP
  have hl := lv_entry ([.ref ht]) (n := 1) (Nat.le_of_ble_eq_true rfl)
  rw [lg_entry_eq]
  generalize (lg_sl ([.ref ht]) ++ List.replicate (1 - (lg_sl ([.ref ht])).length) Slot.unset).toArray = ls at hl ⊢
  have hl : lv_has ls 1 [(0, .ref ht)] := hl
  unfold g_Listing_size at h
  refine lv_aload_n hx hb d_Listing_size_0 rfl (lv_at hl 0 rfl) ?_
  refine va_get (D := D) (ci := 2) (v := .int t_size) (C := R_Listing) (T := F_Listing) (N := 4) hx hb hts u_Listing hown hK hP 0 rfl rfl 3 (by decide) f_21 (fun _ h9 => h9) rfl d_Listing_size_1 ?_
  cases h
  exact gr_i hx hb hr hlocks hK hP hD hS d_Listing_size_4
def K_S_put (l : Launch) (D : va_G) (cI cC : ClassId) : Prop :=
  ∀ (ht ht_listing ht_draft ht_written ht_tree ht_machine ht_listing_ops ht_listing_numbers ht_listing_heights : Nat) (t_trouble : Int32) (t_listing_size : Int32) (t_listing_ops : Nat → Int32) (t_listing_numbers : Nat → Int32) (t_listing_heights : Nat → Int32) (a1 a2 : Int32) (q : Int32 × (Nat → Int32) × (Nat → Int32) × (Nat → Int32) × Int32), g_S_put t_listing_ops t_listing_numbers t_listing_heights t_listing_size a1 a2 = some q → ∀ (sz : Nat), Met l y_S_put w_S_put ({ frames := 3, cells := 0, slots := 0, locals := 67 }) (va_Pc [.ref ht, .int a1, .int a2] (gB D (gT cI cC) [(ht, .inr (5, [.ref ht_listing, .ref ht_draft, .ref ht_written, .ref ht_tree, .ref ht_machine, .int t_trouble])), (ht_listing, .inr (2, [.ref ht_listing_ops, .ref ht_listing_numbers, .ref ht_listing_heights, .int t_listing_size])), (ht_listing_ops, .inl (cI, 30, .inl t_listing_ops)), (ht_listing_numbers, .inl (cI, 30, .inl t_listing_numbers)), (ht_listing_heights, .inl (cI, (30 + 1), .inl t_listing_heights))] sz)) (gQi D (gT cI cC) q.1 [(ht, .inr (5, [.ref ht_listing, .ref ht_draft, .ref ht_written, .ref ht_tree, .ref ht_machine, .int t_trouble])), (ht_listing, .inr (2, [.ref ht_listing_ops, .ref ht_listing_numbers, .ref ht_listing_heights, .int q.2.2.2.2])), (ht_listing_ops, .inl (cI, 30, .inl q.2.1)), (ht_listing_numbers, .inl (cI, 30, .inl q.2.2.1)), (ht_listing_heights, .inl (cI, (30 + 1), .inl q.2.2.2.1))] (va_A [(ht, .inr (5, [.ref ht_listing, .ref ht_draft, .ref ht_written, .ref ht_tree, .ref ht_machine, .int t_trouble])), (ht_listing, .inr (2, [.ref ht_listing_ops, .ref ht_listing_numbers, .ref ht_listing_heights, .int t_listing_size])), (ht_listing_ops, .inl (cI, 30, .inl t_listing_ops)), (ht_listing_numbers, .inl (cI, 30, .inl t_listing_numbers)), (ht_listing_heights, .inl (cI, (30 + 1), .inl t_listing_heights))] sz)) 0 0 (va_A [(ht, .inr (5, [.ref ht_listing, .ref ht_draft, .ref ht_written, .ref ht_tree, .ref ht_machine, .int t_trouble])), (ht_listing, .inr (2, [.ref ht_listing_ops, .ref ht_listing_numbers, .ref ht_listing_heights, .int t_listing_size])), (ht_listing_ops, .inl (cI, 30, .inl t_listing_ops)), (ht_listing_numbers, .inl (cI, 30, .inl t_listing_numbers)), (ht_listing_heights, .inl (cI, (30 + 1), .inl t_listing_heights))] sz)
set_option maxHeartbeats 4000000 in
set_option maxRecDepth 100000 in
theorem c_S_put (l : Launch) (D : va_G) (cI cC : ClassId) : K_S_put l D cI cC := by
  intro ht ht_listing ht_draft ht_written ht_tree ht_machine ht_listing_ops ht_listing_numbers ht_listing_heights t_trouble t_listing_size t_listing_ops t_listing_numbers t_listing_heights a1 a2 q h sz
  refine Met.ofW (cc := k_S_put) (maxL := 3) (ret := (some .int)) (by decide) rfl ?_
  intro p e s m args below meth c s₁ B hml hv
  obtain ⟨rfl, hsz, hP, hK, hD0⟩ := hv
  have hx := B.exec
  have hb := B.bytes
  have hr := B.returns
  have hts : ∀ w ∈ lw_t, w.before ([.ref ht, .int a1, .int a2] : List Value).toArray s = true := fun w h => atoms_spec (ws := w_S_put) B.pre w (List.mem_cons_of_mem _ h)
  have hown : s.vm.findClass R_S = some m.cls := findClass_of_methodNamed B.named
  have hlocks := B.notSynchronized
  subst hsz
  have hD := hD0.self (sz := s.heap.size)
  generalize hAe : va_A [(ht, .inr (5, [.ref ht_listing, .ref ht_draft, .ref ht_written, .ref ht_tree, .ref ht_machine, .int t_trouble])), (ht_listing, .inr (2, [.ref ht_listing_ops, .ref ht_listing_numbers, .ref ht_listing_heights, .int t_listing_size])), (ht_listing_ops, .inl (cI, 30, .inl t_listing_ops)), (ht_listing_numbers, .inl (cI, 30, .inl t_listing_numbers)), (ht_listing_heights, .inl (cI, (30 + 1), .inl t_listing_heights))] s.heap.size = A at hD ⊢
  have hA : ∀ q : Nat, s.heap.size ≤ q → A q := fun q h => by rw [← hAe]; exact Or.inr h
  have hS : va_S A s.heap s.heap [] := va_S.rf
  have f_14 := hts _ mt_1_150
  have hP : va_P D vwCl [(ht, .inr (5, [.ref ht_listing, .ref ht_draft, .ref ht_written, .ref ht_tree, .ref ht_machine, .int t_trouble])), (ht_listing, .inr (2, [.ref ht_listing_ops, .ref ht_listing_numbers, .ref ht_listing_heights, .int t_listing_size])), (ht_listing_ops, .inl (cI, 30, .inl t_listing_ops)), (ht_listing_numbers, .inl (cI, 30, .inl t_listing_numbers)), (ht_listing_heights, .inl (cI, (30 + 1), .inl t_listing_heights))] s.heap := hP
  have hl := lv_entry ([.ref ht, .int a1, .int a2]) (n := 3) (Nat.le_of_ble_eq_true rfl)
  rw [lg_entry_eq]
  generalize (lg_sl ([.ref ht, .int a1, .int a2]) ++ List.replicate (3 - (lg_sl ([.ref ht, .int a1, .int a2])).length) Slot.unset).toArray = ls at hl ⊢
  have hl : lv_has ls 3 [(0, .ref ht), (1, .int a1), (2, .int a2)] := hl
  unfold g_S_put at h
  refine lv_iload_n hx hb d_S_put_0 rfl (lv_at hl 1 rfl) ?_
  refine lv_iload_n hx hb d_S_put_1 rfl (lv_at hl 2 rfl) ?_
  obtain ⟨q1, hc, h⟩ := g_bd h
  refine gk_i (va_runS (As := [.int a1, .int a2]) (rest := []) ⟨hx, hb, hml, hown, hts⟩ (c_Listing_fits l D cI cC a1 a2 q1 hc _) (va_cwS 2 hts (gG_S mt_1_173 mt_1_174 mt_1_2 mt_1_175) rfl rfl rfl (by decide +kernel) ⟨Nat.le_of_ble_eq_true rfl, Nat.le_of_ble_eq_true rfl⟩) (gpS hK hP hD [] rfl (by decide)) rfl rfl hl.1 rfl (lv_room (Nat.le_of_ble_eq_true rfl)) d_S_put_2 ⟨Nat.zero_le _, Nat.zero_le _⟩) hK hP hD hS hA [] rfl (by decide) rfl rfl (fun H locs (hP : va_P D vwCl [(ht, .inr (5, [.ref ht_listing, .ref ht_draft, .ref ht_written, .ref ht_tree, .ref ht_machine, .int t_trouble])), (ht_listing, .inr (2, [.ref ht_listing_ops, .ref ht_listing_numbers, .ref ht_listing_heights, .int t_listing_size])), (ht_listing_ops, .inl (cI, 30, .inl t_listing_ops)), (ht_listing_numbers, .inl (cI, 30, .inl t_listing_numbers)), (ht_listing_heights, .inl (cI, (30 + 1), .inl t_listing_heights))] H) (hD : va_D A [(ht, .inr (5, [.ref ht_listing, .ref ht_draft, .ref ht_written, .ref ht_tree, .ref ht_machine, .int t_trouble])), (ht_listing, .inr (2, [.ref ht_listing_ops, .ref ht_listing_numbers, .ref ht_listing_heights, .int t_listing_size])), (ht_listing_ops, .inl (cI, 30, .inl t_listing_ops)), (ht_listing_numbers, .inl (cI, 30, .inl t_listing_numbers)), (ht_listing_heights, .inl (cI, (30 + 1), .inl t_listing_heights))]) hS => ?_)
  refine lv_if_ne (tgt := 10) hx hb d_S_put_5 (by decide) (fun ec => ?_) (fun ec => ?_)
  · have h := g_f ec h
    refine lv_aload_n hx hb d_S_put_10 rfl (lv_at hl 0 rfl) ?_
    refine va_get (D := D) (ci := 5) (v := .ref ht_listing) (C := R_S) (T := F_S) (N := 6) hx hb hts u_S hown hK hP 0 rfl rfl 0 (by decide) f_14 (fun _ h9 => h9) rfl d_S_put_11 ?_
    refine lv_iload_n hx hb d_S_put_14 rfl (lv_at hl 1 rfl) ?_
    refine lv_iload_n hx hb d_S_put_15 rfl (lv_at hl 2 rfl) ?_
    obtain ⟨q2, hc, h⟩ := g_bd h
    refine gk_i (va_runV (As := [.int a1, .int a2]) (rest := []) ⟨hx, hb, hml, hown, hts⟩ (c_Listing_add l D cI cC ht_listing ht_listing_ops ht_listing_numbers ht_listing_heights 30 t_listing_size t_listing_ops t_listing_numbers t_listing_heights a1 a2 q2 hc _) (cwV 2 hts (gG_V mt_1_179 mt_1_180 mt_1_181 mt_1_2 mt_1_182) rfl rfl rfl (by decide +kernel) ⟨Nat.le_of_ble_eq_true rfl, Nat.le_of_ble_eq_true rfl⟩) (gpV hK hP hD [1, 2, 3, 4] rfl (by decide) (ci := 2) 1 rfl rfl) rfl rfl hl.1 rfl (lv_room (Nat.le_of_ble_eq_true rfl)) d_S_put_16 ⟨Nat.zero_le _, Nat.zero_le _⟩) hK hP hD hS hA [1, 2, 3, 4] rfl (by decide) rfl rfl (fun H locs (hP : va_P D vwCl [(ht, .inr (5, [.ref ht_listing, .ref ht_draft, .ref ht_written, .ref ht_tree, .ref ht_machine, .int t_trouble])), (ht_listing, .inr (2, [.ref ht_listing_ops, .ref ht_listing_numbers, .ref ht_listing_heights, .int q2.2.2.2.2])), (ht_listing_ops, .inl (cI, 30, .inl q2.2.1)), (ht_listing_numbers, .inl (cI, 30, .inl q2.2.2.1)), (ht_listing_heights, .inl (cI, (30 + 1), .inl q2.2.2.2.1))] H) (hD : va_D A [(ht, .inr (5, [.ref ht_listing, .ref ht_draft, .ref ht_written, .ref ht_tree, .ref ht_machine, .int t_trouble])), (ht_listing, .inr (2, [.ref ht_listing_ops, .ref ht_listing_numbers, .ref ht_listing_heights, .int q2.2.2.2.2])), (ht_listing_ops, .inl (cI, 30, .inl q2.2.1)), (ht_listing_numbers, .inl (cI, 30, .inl q2.2.2.1)), (ht_listing_heights, .inl (cI, (30 + 1), .inl q2.2.2.2.1))]) hS => ?_)
    refine lv_if_eq (tgt := 32) hx hb d_S_put_19 (by decide) (fun ec => ?_) (fun ec => ?_)
    · have h := g_t ec h
      refine lv_bipush (v := (-3 : Int32)) hx hb d_S_put_32 (by decide) ?_
      cases h
      exact gr_i hx hb hr hlocks hK hP hD hS d_S_put_34
    · have h := g_f ec h
      refine lv_aload_n hx hb d_S_put_22 rfl (lv_at hl 0 rfl) ?_
      refine va_get (D := D) (ci := 5) (v := .ref ht_listing) (C := R_S) (T := F_S) (N := 6) hx hb hts u_S hown hK hP 0 rfl rfl 0 (by decide) f_14 (fun _ h9 => h9) rfl d_S_put_23 ?_
      obtain ⟨q3, hc, h⟩ := g_bd h
      refine gk_i (va_runV (As := []) (rest := []) ⟨hx, hb, hml, hown, hts⟩ (c_Listing_size l D cI cC ht_listing ht_listing_ops ht_listing_numbers ht_listing_heights q2.2.2.2.2 q3 hc _) (cwV 0 hts (gG_V mt_1_194 mt_1_195 mt_1_196 mt_1_2 mt_1_197) rfl rfl rfl (by decide +kernel) ⟨Nat.le_of_ble_eq_true rfl, Nat.le_of_ble_eq_true rfl⟩) (gpV hK hP hD [1] rfl (by decide) (ci := 2) 1 rfl rfl) rfl rfl hl.1 rfl (lv_room (Nat.le_of_ble_eq_true rfl)) d_S_put_26 ⟨Nat.zero_le _, Nat.zero_le _⟩) hK hP hD hS hA [1] rfl (by decide) rfl rfl (fun H locs (hP : va_P D vwCl [(ht, .inr (5, [.ref ht_listing, .ref ht_draft, .ref ht_written, .ref ht_tree, .ref ht_machine, .int t_trouble])), (ht_listing, .inr (2, [.ref ht_listing_ops, .ref ht_listing_numbers, .ref ht_listing_heights, .int q2.2.2.2.2])), (ht_listing_ops, .inl (cI, 30, .inl q2.2.1)), (ht_listing_numbers, .inl (cI, 30, .inl q2.2.2.1)), (ht_listing_heights, .inl (cI, (30 + 1), .inl q2.2.2.2.1))] H) (hD : va_D A [(ht, .inr (5, [.ref ht_listing, .ref ht_draft, .ref ht_written, .ref ht_tree, .ref ht_machine, .int t_trouble])), (ht_listing, .inr (2, [.ref ht_listing_ops, .ref ht_listing_numbers, .ref ht_listing_heights, .int q2.2.2.2.2])), (ht_listing_ops, .inl (cI, 30, .inl q2.2.1)), (ht_listing_numbers, .inl (cI, 30, .inl q2.2.2.1)), (ht_listing_heights, .inl (cI, (30 + 1), .inl q2.2.2.2.1))]) hS => ?_)
      refine lv_goto (tgt := 34) hx hb d_S_put_29 (by decide) ?_
      cases h
      exact gr_i hx hb hr hlocks hK hP hD hS d_S_put_34
  · have h := g_t ec h
    refine lv_iconst (v := (-1 : Int32)) hx hb d_S_put_8 (by decide) ?_
    cases h
    exact gr_i hx hb hr hlocks hK hP hD hS d_S_put_9
def K_S_change (l : Launch) (D : va_G) (cI cC : ClassId) : Prop :=
  ∀ (ht ht_listing ht_draft ht_written ht_tree ht_machine ht_listing_ops ht_listing_numbers ht_listing_heights : Nat) (t_trouble : Int32) (t_listing_size : Int32) (t_listing_ops : Nat → Int32) (t_listing_numbers : Nat → Int32) (t_listing_heights : Nat → Int32) (a1 a2 a3 : Int32) (q : Int32 × (Nat → Int32) × (Nat → Int32) × (Nat → Int32)), g_S_change t_listing_ops t_listing_numbers t_listing_heights t_listing_size a1 a2 a3 = some q → ∀ (sz : Nat), Met l y_S_change w_S_change ({ frames := 2, cells := 0, slots := 0, locals := 45 }) (va_Pc [.ref ht, .int a1, .int a2, .int a3] (gB D (gT cI cC) [(ht, .inr (5, [.ref ht_listing, .ref ht_draft, .ref ht_written, .ref ht_tree, .ref ht_machine, .int t_trouble])), (ht_listing, .inr (2, [.ref ht_listing_ops, .ref ht_listing_numbers, .ref ht_listing_heights, .int t_listing_size])), (ht_listing_ops, .inl (cI, 30, .inl t_listing_ops)), (ht_listing_numbers, .inl (cI, 30, .inl t_listing_numbers)), (ht_listing_heights, .inl (cI, (30 + 1), .inl t_listing_heights))] sz)) (gQi D (gT cI cC) q.1 [(ht, .inr (5, [.ref ht_listing, .ref ht_draft, .ref ht_written, .ref ht_tree, .ref ht_machine, .int t_trouble])), (ht_listing, .inr (2, [.ref ht_listing_ops, .ref ht_listing_numbers, .ref ht_listing_heights, .int t_listing_size])), (ht_listing_ops, .inl (cI, 30, .inl q.2.1)), (ht_listing_numbers, .inl (cI, 30, .inl q.2.2.1)), (ht_listing_heights, .inl (cI, (30 + 1), .inl q.2.2.2))] (va_A [(ht, .inr (5, [.ref ht_listing, .ref ht_draft, .ref ht_written, .ref ht_tree, .ref ht_machine, .int t_trouble])), (ht_listing, .inr (2, [.ref ht_listing_ops, .ref ht_listing_numbers, .ref ht_listing_heights, .int t_listing_size])), (ht_listing_ops, .inl (cI, 30, .inl t_listing_ops)), (ht_listing_numbers, .inl (cI, 30, .inl t_listing_numbers)), (ht_listing_heights, .inl (cI, (30 + 1), .inl t_listing_heights))] sz)) 0 0 (va_A [(ht, .inr (5, [.ref ht_listing, .ref ht_draft, .ref ht_written, .ref ht_tree, .ref ht_machine, .int t_trouble])), (ht_listing, .inr (2, [.ref ht_listing_ops, .ref ht_listing_numbers, .ref ht_listing_heights, .int t_listing_size])), (ht_listing_ops, .inl (cI, 30, .inl t_listing_ops)), (ht_listing_numbers, .inl (cI, 30, .inl t_listing_numbers)), (ht_listing_heights, .inl (cI, (30 + 1), .inl t_listing_heights))] sz)
set_option maxHeartbeats 4000000 in
set_option maxRecDepth 100000 in
theorem c_S_change (l : Launch) (D : va_G) (cI cC : ClassId) : K_S_change l D cI cC := by
  intro ht ht_listing ht_draft ht_written ht_tree ht_machine ht_listing_ops ht_listing_numbers ht_listing_heights t_trouble t_listing_size t_listing_ops t_listing_numbers t_listing_heights a1 a2 a3 q h sz
  refine Met.ofW (cc := k_S_change) (maxL := 4) (ret := (some .boolean)) (by decide) rfl ?_
  intro p e s m args below meth c s₁ B hml hv
  obtain ⟨rfl, hsz, hP, hK, hD0⟩ := hv
  have hx := B.exec
  have hb := B.bytes
  have hr := B.returns
  have hts : ∀ w ∈ lw_t, w.before ([.ref ht, .int a1, .int a2, .int a3] : List Value).toArray s = true := fun w h => atoms_spec (ws := w_S_change) B.pre w (List.mem_cons_of_mem _ h)
  have hown : s.vm.findClass R_S = some m.cls := findClass_of_methodNamed B.named
  have hlocks := B.notSynchronized
  subst hsz
  have hD := hD0.self (sz := s.heap.size)
  generalize hAe : va_A [(ht, .inr (5, [.ref ht_listing, .ref ht_draft, .ref ht_written, .ref ht_tree, .ref ht_machine, .int t_trouble])), (ht_listing, .inr (2, [.ref ht_listing_ops, .ref ht_listing_numbers, .ref ht_listing_heights, .int t_listing_size])), (ht_listing_ops, .inl (cI, 30, .inl t_listing_ops)), (ht_listing_numbers, .inl (cI, 30, .inl t_listing_numbers)), (ht_listing_heights, .inl (cI, (30 + 1), .inl t_listing_heights))] s.heap.size = A at hD ⊢
  have hA : ∀ q : Nat, s.heap.size ≤ q → A q := fun q h => by rw [← hAe]; exact Or.inr h
  have hS : va_S A s.heap s.heap [] := va_S.rf
  have f_14 := hts _ mt_1_150
  have hP : va_P D vwCl [(ht, .inr (5, [.ref ht_listing, .ref ht_draft, .ref ht_written, .ref ht_tree, .ref ht_machine, .int t_trouble])), (ht_listing, .inr (2, [.ref ht_listing_ops, .ref ht_listing_numbers, .ref ht_listing_heights, .int t_listing_size])), (ht_listing_ops, .inl (cI, 30, .inl t_listing_ops)), (ht_listing_numbers, .inl (cI, 30, .inl t_listing_numbers)), (ht_listing_heights, .inl (cI, (30 + 1), .inl t_listing_heights))] s.heap := hP
  have hl := lv_entry ([.ref ht, .int a1, .int a2, .int a3]) (n := 4) (Nat.le_of_ble_eq_true rfl)
  rw [lg_entry_eq]
  generalize (lg_sl ([.ref ht, .int a1, .int a2, .int a3]) ++ List.replicate (4 - (lg_sl ([.ref ht, .int a1, .int a2, .int a3])).length) Slot.unset).toArray = ls at hl ⊢
  have hl : lv_has ls 4 [(0, .ref ht), (1, .int a1), (2, .int a2), (3, .int a3)] := hl
  unfold g_S_change at h
  refine lv_aload_n hx hb d_S_change_0 rfl (lv_at hl 0 rfl) ?_
  refine va_get (D := D) (ci := 5) (v := .ref ht_listing) (C := R_S) (T := F_S) (N := 6) hx hb hts u_S hown hK hP 0 rfl rfl 0 (by decide) f_14 (fun _ h9 => h9) rfl d_S_change_1 ?_
  refine lv_iload_n hx hb d_S_change_4 rfl (lv_at hl 1 rfl) ?_
  obtain ⟨q1, hc, h⟩ := g_bd h
  refine gk_i (va_runV (As := [.int a1]) (rest := []) ⟨hx, hb, hml, hown, hts⟩ (c_Listing_holds l D cI cC ht_listing ht_listing_ops ht_listing_numbers ht_listing_heights t_listing_size a1 q1 hc _) (cwV 1 hts (gG_V mt_1_202 mt_1_188 mt_1_189 mt_1_2 mt_1_190) rfl rfl rfl (by decide +kernel) ⟨Nat.le_of_ble_eq_true rfl, Nat.le_of_ble_eq_true rfl⟩) (gpV hK hP hD [1] rfl (by decide) (ci := 2) 1 rfl rfl) rfl rfl hl.1 rfl (lv_room (Nat.le_of_ble_eq_true rfl)) d_S_change_5 ⟨Nat.zero_le _, Nat.zero_le _⟩) hK hP hD hS hA [1] rfl (by decide) rfl rfl (fun H locs (hP : va_P D vwCl [(ht, .inr (5, [.ref ht_listing, .ref ht_draft, .ref ht_written, .ref ht_tree, .ref ht_machine, .int t_trouble])), (ht_listing, .inr (2, [.ref ht_listing_ops, .ref ht_listing_numbers, .ref ht_listing_heights, .int t_listing_size])), (ht_listing_ops, .inl (cI, 30, .inl t_listing_ops)), (ht_listing_numbers, .inl (cI, 30, .inl t_listing_numbers)), (ht_listing_heights, .inl (cI, (30 + 1), .inl t_listing_heights))] H) (hD : va_D A [(ht, .inr (5, [.ref ht_listing, .ref ht_draft, .ref ht_written, .ref ht_tree, .ref ht_machine, .int t_trouble])), (ht_listing, .inr (2, [.ref ht_listing_ops, .ref ht_listing_numbers, .ref ht_listing_heights, .int t_listing_size])), (ht_listing_ops, .inl (cI, 30, .inl t_listing_ops)), (ht_listing_numbers, .inl (cI, 30, .inl t_listing_numbers)), (ht_listing_heights, .inl (cI, (30 + 1), .inl t_listing_heights))]) hS => ?_)
  refine lv_if_eq (tgt := 19) hx hb d_S_change_8 (by decide) (fun ec => ?_) (fun ec => ?_)
  · have h := g_t ec h
    refine lv_iconst (v := (0 : Int32)) hx hb d_S_change_19 (by decide) ?_
    cases h
    exact gr_z (v := (0 : Int32)) (by decide) hx hb hr hlocks hK hP hD hS d_S_change_20
  · have h := g_f ec h
    refine lv_iload_n hx hb d_S_change_11 rfl (lv_at hl 2 rfl) ?_
    refine lv_iload_n hx hb d_S_change_12 rfl (lv_at hl 3 rfl) ?_
    obtain ⟨q2, hc, h⟩ := g_bd h
    refine gk_i (va_runS (As := [.int a2, .int a3]) (rest := []) ⟨hx, hb, hml, hown, hts⟩ (c_Listing_fits l D cI cC a2 a3 q2 hc _) (va_cwS 2 hts (gG_S mt_1_173 mt_1_174 mt_1_2 mt_1_175) rfl rfl rfl (by decide +kernel) ⟨Nat.le_of_ble_eq_true rfl, Nat.le_of_ble_eq_true rfl⟩) (gpS hK hP hD [] rfl (by decide)) rfl rfl hl.1 rfl (lv_room (Nat.le_of_ble_eq_true rfl)) d_S_change_13 ⟨Nat.zero_le _, Nat.zero_le _⟩) hK hP hD hS hA [] rfl (by decide) rfl rfl (fun H locs (hP : va_P D vwCl [(ht, .inr (5, [.ref ht_listing, .ref ht_draft, .ref ht_written, .ref ht_tree, .ref ht_machine, .int t_trouble])), (ht_listing, .inr (2, [.ref ht_listing_ops, .ref ht_listing_numbers, .ref ht_listing_heights, .int t_listing_size])), (ht_listing_ops, .inl (cI, 30, .inl t_listing_ops)), (ht_listing_numbers, .inl (cI, 30, .inl t_listing_numbers)), (ht_listing_heights, .inl (cI, (30 + 1), .inl t_listing_heights))] H) (hD : va_D A [(ht, .inr (5, [.ref ht_listing, .ref ht_draft, .ref ht_written, .ref ht_tree, .ref ht_machine, .int t_trouble])), (ht_listing, .inr (2, [.ref ht_listing_ops, .ref ht_listing_numbers, .ref ht_listing_heights, .int t_listing_size])), (ht_listing_ops, .inl (cI, 30, .inl t_listing_ops)), (ht_listing_numbers, .inl (cI, 30, .inl t_listing_numbers)), (ht_listing_heights, .inl (cI, (30 + 1), .inl t_listing_heights))]) hS => ?_)
    refine lv_if_ne (tgt := 21) hx hb d_S_change_16 (by decide) (fun ec => ?_) (fun ec => ?_)
    · have h := g_f ec h
      refine lv_aload_n hx hb d_S_change_21 rfl (lv_at hl 0 rfl) ?_
      refine va_get (D := D) (ci := 5) (v := .ref ht_listing) (C := R_S) (T := F_S) (N := 6) hx hb hts u_S hown hK hP 0 rfl rfl 0 (by decide) f_14 (fun _ h9 => h9) rfl d_S_change_22 ?_
      refine lv_iload_n hx hb d_S_change_25 rfl (lv_at hl 1 rfl) ?_
      refine lv_iload_n hx hb d_S_change_26 rfl (lv_at hl 2 rfl) ?_
      refine lv_iload_n hx hb d_S_change_27 rfl (lv_at hl 3 rfl) ?_
      obtain ⟨q3, hc, h⟩ := g_bd h
      refine gk_v (va_runV (As := [.int a1, .int a2, .int a3]) (rest := []) ⟨hx, hb, hml, hown, hts⟩ (c_Listing_set l D cI cC ht_listing ht_listing_ops ht_listing_numbers ht_listing_heights 30 t_listing_size t_listing_ops t_listing_numbers t_listing_heights a1 a2 a3 q3 hc _) (cwV 3 hts (gG_V mt_1_203 mt_1_184 mt_1_185 mt_1_2 mt_1_186) rfl rfl rfl (by decide +kernel) ⟨Nat.le_of_ble_eq_true rfl, Nat.le_of_ble_eq_true rfl⟩) (gpV hK hP hD [1, 2, 3, 4] rfl (by decide) (ci := 2) 1 rfl rfl) rfl rfl hl.1 rfl (lv_room (Nat.le_of_ble_eq_true rfl)) d_S_change_28 ⟨Nat.zero_le _, Nat.zero_le _⟩) hK hP hD hS hA [1, 2, 3, 4] rfl (by decide) rfl rfl (fun H locs (hP : va_P D vwCl [(ht, .inr (5, [.ref ht_listing, .ref ht_draft, .ref ht_written, .ref ht_tree, .ref ht_machine, .int t_trouble])), (ht_listing, .inr (2, [.ref ht_listing_ops, .ref ht_listing_numbers, .ref ht_listing_heights, .int t_listing_size])), (ht_listing_ops, .inl (cI, 30, .inl q3.1)), (ht_listing_numbers, .inl (cI, 30, .inl q3.2.1)), (ht_listing_heights, .inl (cI, (30 + 1), .inl q3.2.2))] H) (hD : va_D A [(ht, .inr (5, [.ref ht_listing, .ref ht_draft, .ref ht_written, .ref ht_tree, .ref ht_machine, .int t_trouble])), (ht_listing, .inr (2, [.ref ht_listing_ops, .ref ht_listing_numbers, .ref ht_listing_heights, .int t_listing_size])), (ht_listing_ops, .inl (cI, 30, .inl q3.1)), (ht_listing_numbers, .inl (cI, 30, .inl q3.2.1)), (ht_listing_heights, .inl (cI, (30 + 1), .inl q3.2.2))]) hS => ?_)
      refine lv_iconst (v := (1 : Int32)) hx hb d_S_change_31 (by decide) ?_
      cases h
      exact gr_z (v := (1 : Int32)) (by decide) hx hb hr hlocks hK hP hD hS d_S_change_32
    · have h := g_t ec h
      refine lv_iconst (v := (0 : Int32)) hx hb d_S_change_19 (by decide) ?_
      cases h
      exact gr_z (v := (0 : Int32)) (by decide) hx hb hr hlocks hK hP hD hS d_S_change_20
def K_Characters_drop (l : Launch) (D : va_G) (cI cC : ClassId) : Prop :=
  ∀ (ht ht_row : Nat) (t_size : Int32) (q : Int32), g_Characters_drop t_size = some q → ∀ (sz : Nat), Met l y_Characters_drop w_Characters_drop ({ frames := 0, cells := 0, slots := 0, locals := 0 }) (va_Pc [.ref ht] (gB D (gT cI cC) [(ht, .inr (0, [.ref ht_row, .int t_size]))] sz)) (gQv D (gT cI cC) [(ht, .inr (0, [.ref ht_row, .int q]))] (va_A [(ht, .inr (0, [.ref ht_row, .int t_size]))] sz)) 0 0 (va_A [(ht, .inr (0, [.ref ht_row, .int t_size]))] sz)
set_option maxHeartbeats 4000000 in
set_option maxRecDepth 100000 in
theorem c_Characters_drop (l : Launch) (D : va_G) (cI cC : ClassId) : K_Characters_drop l D cI cC := by
  intro ht ht_row t_size q h sz
  refine Met.ofW (cc := k_Characters_drop) (maxL := 1) (ret := none) (by decide) rfl ?_
  intro p e s m args below meth c s₁ B hml hv
  obtain ⟨rfl, hsz, hP, hK, hD0⟩ := hv
  have hx := B.exec
  have hb := B.bytes
  have hr := B.returns
  have hts : ∀ w ∈ lw_t, w.before ([.ref ht] : List Value).toArray s = true := fun w h => atoms_spec (ws := w_Characters_drop) B.pre w (List.mem_cons_of_mem _ h)
  have hown : s.vm.findClass R_Characters = some m.cls := findClass_of_methodNamed B.named
  have hlocks := B.notSynchronized
  subst hsz
  have hD := hD0.self (sz := s.heap.size)
  generalize hAe : va_A [(ht, .inr (0, [.ref ht_row, .int t_size]))] s.heap.size = A at hD ⊢
  have hA : ∀ q : Nat, s.heap.size ≤ q → A q := fun q h => by rw [← hAe]; exact Or.inr h
  have hS : va_S A s.heap s.heap [] := va_S.rf
  have f_15 := hts _ mt_1_53
  have hP : va_P D vwCl [(ht, .inr (0, [.ref ht_row, .int t_size]))] s.heap := hP
  have hl := lv_entry ([.ref ht]) (n := 1) (Nat.le_of_ble_eq_true rfl)
  rw [lg_entry_eq]
  generalize (lg_sl ([.ref ht]) ++ List.replicate (1 - (lg_sl ([.ref ht])).length) Slot.unset).toArray = ls at hl ⊢
  have hl : lv_has ls 1 [(0, .ref ht)] := hl
  unfold g_Characters_drop at h
  refine lv_aload_n hx hb d_Characters_drop_0 rfl (lv_at hl 0 rfl) ?_
  refine lv_iconst (v := (0 : Int32)) hx hb d_Characters_drop_1 (by decide) ?_
  refine va_put (D := D) (ci := 0) (v := .int (0 : Int32)) (ty := .int) (C := R_Characters) (T := F_Characters) (N := 2) hx hb hts u_Characters t_Characters t_Characters_ok n_Characters hown hK hP hD hS 0 rfl rfl 1 (by decide) f_15 (fun _ h9 => h9) rfl (by decide +kernel) rfl rfl (Nat.le_of_ble_eq_true rfl) d_Characters_drop_2 (fun H locs (hP : va_P D vwCl [(ht, .inr (0, [.ref ht_row, .int (0 : Int32)]))] H) (hD : va_D A [(ht, .inr (0, [.ref ht_row, .int (0 : Int32)]))]) hS => ?_)
  cases h
  exact gr_v hx hb hr hlocks hK hP hD hS d_Characters_drop_5
def K_Characters_size (l : Launch) (D : va_G) (cI cC : ClassId) : Prop :=
  ∀ (ht ht_row : Nat) (t_size : Int32) (q : Int32), g_Characters_size t_size = some q → ∀ (sz : Nat), Met l y_Characters_size w_Characters_size ({ frames := 0, cells := 0, slots := 0, locals := 0 }) (va_Pc [.ref ht] (gB D (gT cI cC) [(ht, .inr (0, [.ref ht_row, .int t_size]))] sz)) (gQi D (gT cI cC) q [(ht, .inr (0, [.ref ht_row, .int t_size]))] (va_A [(ht, .inr (0, [.ref ht_row, .int t_size]))] sz)) 0 0 (va_A [(ht, .inr (0, [.ref ht_row, .int t_size]))] sz)
set_option maxHeartbeats 4000000 in
set_option maxRecDepth 100000 in
theorem c_Characters_size (l : Launch) (D : va_G) (cI cC : ClassId) : K_Characters_size l D cI cC := by
  intro ht ht_row t_size q h sz
  refine Met.ofW (cc := k_Characters_size) (maxL := 1) (ret := (some .int)) (by decide) rfl ?_
  intro p e s m args below meth c s₁ B hml hv
  obtain ⟨rfl, hsz, hP, hK, hD0⟩ := hv
  have hx := B.exec
  have hb := B.bytes
  have hr := B.returns
  have hts : ∀ w ∈ lw_t, w.before ([.ref ht] : List Value).toArray s = true := fun w h => atoms_spec (ws := w_Characters_size) B.pre w (List.mem_cons_of_mem _ h)
  have hown : s.vm.findClass R_Characters = some m.cls := findClass_of_methodNamed B.named
  have hlocks := B.notSynchronized
  subst hsz
  have hD := hD0.self (sz := s.heap.size)
  generalize hAe : va_A [(ht, .inr (0, [.ref ht_row, .int t_size]))] s.heap.size = A at hD ⊢
  have hA : ∀ q : Nat, s.heap.size ≤ q → A q := fun q h => by rw [← hAe]; exact Or.inr h
  have hS : va_S A s.heap s.heap [] := va_S.rf
  have f_15 := hts _ mt_1_53
  have hP : va_P D vwCl [(ht, .inr (0, [.ref ht_row, .int t_size]))] s.heap := hP
  have hl := lv_entry ([.ref ht]) (n := 1) (Nat.le_of_ble_eq_true rfl)
  rw [lg_entry_eq]
  generalize (lg_sl ([.ref ht]) ++ List.replicate (1 - (lg_sl ([.ref ht])).length) Slot.unset).toArray = ls at hl ⊢
  have hl : lv_has ls 1 [(0, .ref ht)] := hl
  unfold g_Characters_size at h
  refine lv_aload_n hx hb d_Characters_size_0 rfl (lv_at hl 0 rfl) ?_
  refine va_get (D := D) (ci := 0) (v := .int t_size) (C := R_Characters) (T := F_Characters) (N := 2) hx hb hts u_Characters hown hK hP 0 rfl rfl 1 (by decide) f_15 (fun _ h9 => h9) rfl d_Characters_size_1 ?_
  cases h
  exact gr_i hx hb hr hlocks hK hP hD hS d_Characters_size_4
def K_Draft_row (l : Launch) (D : va_G) (cI cC : ClassId) : Prop :=
  ∀ (ht ht_row ht_made : Nat) (t_at : Int32), ∀ (sz : Nat), Met l y_Draft_row w_Draft_row ({ frames := 0, cells := 0, slots := 0, locals := 0 }) (va_Pc [.ref ht] (gB D (gT cI cC) [(ht, .inr (1, [.ref ht_row, .ref ht_made, .int t_at]))] sz)) (gQr D (gT cI cC) ht_row [(ht, .inr (1, [.ref ht_row, .ref ht_made, .int t_at]))] (va_A [(ht, .inr (1, [.ref ht_row, .ref ht_made, .int t_at]))] sz)) 0 0 (va_A [(ht, .inr (1, [.ref ht_row, .ref ht_made, .int t_at]))] sz)
set_option maxHeartbeats 4000000 in
set_option maxRecDepth 100000 in
theorem c_Draft_row (l : Launch) (D : va_G) (cI cC : ClassId) : K_Draft_row l D cI cC := by
  intro ht ht_row ht_made t_at sz
  refine Met.ofW (cc := k_Draft_row) (maxL := 1) (ret := (some (.object "SourceDesk$Characters"))) (by decide) rfl ?_
  intro p e s m args below meth c s₁ B hml hv
  obtain ⟨rfl, hsz, hP, hK, hD0⟩ := hv
  have hx := B.exec
  have hb := B.bytes
  have hr := B.returns
  have hts : ∀ w ∈ lw_t, w.before ([.ref ht] : List Value).toArray s = true := fun w h => atoms_spec (ws := w_Draft_row) B.pre w (List.mem_cons_of_mem _ h)
  have hown : s.vm.findClass R_Draft = some m.cls := findClass_of_methodNamed B.named
  have hlocks := B.notSynchronized
  subst hsz
  have hD := hD0.self (sz := s.heap.size)
  generalize hAe : va_A [(ht, .inr (1, [.ref ht_row, .ref ht_made, .int t_at]))] s.heap.size = A at hD ⊢
  have hA : ∀ q : Nat, s.heap.size ≤ q → A q := fun q h => by rw [← hAe]; exact Or.inr h
  have hS : va_S A s.heap s.heap [] := va_S.rf
  have f_14 := hts _ mt_1_62
  have hP : va_P D vwCl [(ht, .inr (1, [.ref ht_row, .ref ht_made, .int t_at]))] s.heap := hP
  have hl := lv_entry ([.ref ht]) (n := 1) (Nat.le_of_ble_eq_true rfl)
  rw [lg_entry_eq]
  generalize (lg_sl ([.ref ht]) ++ List.replicate (1 - (lg_sl ([.ref ht])).length) Slot.unset).toArray = ls at hl ⊢
  have hl : lv_has ls 1 [(0, .ref ht)] := hl
  refine lv_aload_n hx hb d_Draft_row_0 rfl (lv_at hl 0 rfl) ?_
  refine va_get (D := D) (ci := 1) (v := .ref ht_row) (C := R_Draft) (T := F_Draft) (N := 3) hx hb hts u_Draft hown hK hP 0 rfl rfl 0 (by decide) f_14 (fun _ h9 => h9) rfl d_Draft_row_1 ?_
  exact gr_r hx hb hr (Or.inl ⟨_, rfl⟩) hlocks hK hP hD hS d_Draft_row_4
def K_Listing_drop (l : Launch) (D : va_G) (cI cC : ClassId) : Prop :=
  ∀ (ht ht_ops ht_numbers ht_heights : Nat) (t_size : Int32) (q : Int32), g_Listing_drop t_size = some q → ∀ (sz : Nat), Met l y_Listing_drop w_Listing_drop ({ frames := 0, cells := 0, slots := 0, locals := 0 }) (va_Pc [.ref ht] (gB D (gT cI cC) [(ht, .inr (2, [.ref ht_ops, .ref ht_numbers, .ref ht_heights, .int t_size]))] sz)) (gQv D (gT cI cC) [(ht, .inr (2, [.ref ht_ops, .ref ht_numbers, .ref ht_heights, .int q]))] (va_A [(ht, .inr (2, [.ref ht_ops, .ref ht_numbers, .ref ht_heights, .int t_size]))] sz)) 0 0 (va_A [(ht, .inr (2, [.ref ht_ops, .ref ht_numbers, .ref ht_heights, .int t_size]))] sz)
set_option maxHeartbeats 4000000 in
set_option maxRecDepth 100000 in
theorem c_Listing_drop (l : Launch) (D : va_G) (cI cC : ClassId) : K_Listing_drop l D cI cC := by
  intro ht ht_ops ht_numbers ht_heights t_size q h sz
  refine Met.ofW (cc := k_Listing_drop) (maxL := 1) (ret := none) (by decide) rfl ?_
  intro p e s m args below meth c s₁ B hml hv
  obtain ⟨rfl, hsz, hP, hK, hD0⟩ := hv
  have hx := B.exec
  have hb := B.bytes
  have hr := B.returns
  have hts : ∀ w ∈ lw_t, w.before ([.ref ht] : List Value).toArray s = true := fun w h => atoms_spec (ws := w_Listing_drop) B.pre w (List.mem_cons_of_mem _ h)
  have hown : s.vm.findClass R_Listing = some m.cls := findClass_of_methodNamed B.named
  have hlocks := B.notSynchronized
  subst hsz
  have hD := hD0.self (sz := s.heap.size)
  generalize hAe : va_A [(ht, .inr (2, [.ref ht_ops, .ref ht_numbers, .ref ht_heights, .int t_size]))] s.heap.size = A at hD ⊢
  have hA : ∀ q : Nat, s.heap.size ≤ q → A q := fun q h => by rw [← hAe]; exact Or.inr h
  have hS : va_S A s.heap s.heap [] := va_S.rf
  have f_21 := hts _ mt_1_29
  have hP : va_P D vwCl [(ht, .inr (2, [.ref ht_ops, .ref ht_numbers, .ref ht_heights, .int t_size]))] s.heap := hP
  have hl := lv_entry ([.ref ht]) (n := 1) (Nat.le_of_ble_eq_true rfl)
  rw [lg_entry_eq]
  generalize (lg_sl ([.ref ht]) ++ List.replicate (1 - (lg_sl ([.ref ht])).length) Slot.unset).toArray = ls at hl ⊢
  have hl : lv_has ls 1 [(0, .ref ht)] := hl
  unfold g_Listing_drop at h
  refine lv_aload_n hx hb d_Listing_drop_0 rfl (lv_at hl 0 rfl) ?_
  refine lv_iconst (v := (0 : Int32)) hx hb d_Listing_drop_1 (by decide) ?_
  refine va_put (D := D) (ci := 2) (v := .int (0 : Int32)) (ty := .int) (C := R_Listing) (T := F_Listing) (N := 4) hx hb hts u_Listing t_Listing t_Listing_ok n_Listing hown hK hP hD hS 0 rfl rfl 3 (by decide) f_21 (fun _ h9 => h9) rfl (by decide +kernel) rfl rfl (Nat.le_of_ble_eq_true rfl) d_Listing_drop_2 (fun H locs (hP : va_P D vwCl [(ht, .inr (2, [.ref ht_ops, .ref ht_numbers, .ref ht_heights, .int (0 : Int32)]))] H) (hD : va_D A [(ht, .inr (2, [.ref ht_ops, .ref ht_numbers, .ref ht_heights, .int (0 : Int32)]))]) hS => ?_)
  cases h
  exact gr_v hx hb hr hlocks hK hP hD hS d_Listing_drop_5
def K_S_clear (l : Launch) (D : va_G) (cI cC : ClassId) : Prop :=
  ∀ (ht ht_listing ht_draft ht_written ht_tree ht_machine ht_listing_ops ht_listing_numbers ht_listing_heights ht_draft_row ht_draft_made ht_draft_row_row : Nat) (t_trouble : Int32) (t_listing_size : Int32) (t_draft_at : Int32) (t_draft_row_size : Int32) (a1 : Int32) (q : Int32 × Int32 × Int32), g_S_clear t_listing_size t_draft_row_size a1 = some q → ∀ (sz : Nat), Met l y_S_clear w_S_clear ({ frames := 1, cells := 0, slots := 0, locals := 20 }) (va_Pc [.ref ht, .int a1] (gB D (gT cI cC) [(ht, .inr (5, [.ref ht_listing, .ref ht_draft, .ref ht_written, .ref ht_tree, .ref ht_machine, .int t_trouble])), (ht_listing, .inr (2, [.ref ht_listing_ops, .ref ht_listing_numbers, .ref ht_listing_heights, .int t_listing_size])), (ht_draft, .inr (1, [.ref ht_draft_row, .ref ht_draft_made, .int t_draft_at])), (ht_draft_row, .inr (0, [.ref ht_draft_row_row, .int t_draft_row_size]))] sz)) (gQi D (gT cI cC) q.1 [(ht, .inr (5, [.ref ht_listing, .ref ht_draft, .ref ht_written, .ref ht_tree, .ref ht_machine, .int t_trouble])), (ht_listing, .inr (2, [.ref ht_listing_ops, .ref ht_listing_numbers, .ref ht_listing_heights, .int q.2.1])), (ht_draft, .inr (1, [.ref ht_draft_row, .ref ht_draft_made, .int t_draft_at])), (ht_draft_row, .inr (0, [.ref ht_draft_row_row, .int q.2.2]))] (va_A [(ht, .inr (5, [.ref ht_listing, .ref ht_draft, .ref ht_written, .ref ht_tree, .ref ht_machine, .int t_trouble])), (ht_listing, .inr (2, [.ref ht_listing_ops, .ref ht_listing_numbers, .ref ht_listing_heights, .int t_listing_size])), (ht_draft, .inr (1, [.ref ht_draft_row, .ref ht_draft_made, .int t_draft_at])), (ht_draft_row, .inr (0, [.ref ht_draft_row_row, .int t_draft_row_size]))] sz)) 0 0 (va_A [(ht, .inr (5, [.ref ht_listing, .ref ht_draft, .ref ht_written, .ref ht_tree, .ref ht_machine, .int t_trouble])), (ht_listing, .inr (2, [.ref ht_listing_ops, .ref ht_listing_numbers, .ref ht_listing_heights, .int t_listing_size])), (ht_draft, .inr (1, [.ref ht_draft_row, .ref ht_draft_made, .int t_draft_at])), (ht_draft_row, .inr (0, [.ref ht_draft_row_row, .int t_draft_row_size]))] sz)
set_option maxHeartbeats 4000000 in
set_option maxRecDepth 100000 in
theorem c_S_clear (l : Launch) (D : va_G) (cI cC : ClassId) : K_S_clear l D cI cC := by
  intro ht ht_listing ht_draft ht_written ht_tree ht_machine ht_listing_ops ht_listing_numbers ht_listing_heights ht_draft_row ht_draft_made ht_draft_row_row t_trouble t_listing_size t_draft_at t_draft_row_size a1 q h sz
  refine Met.ofW (cc := k_S_clear) (maxL := 3) (ret := (some .int)) (by decide) rfl ?_
  intro p e s m args below meth c s₁ B hml hv
  obtain ⟨rfl, hsz, hP, hK, hD0⟩ := hv
  have hx := B.exec
  have hb := B.bytes
  have hr := B.returns
  have hts : ∀ w ∈ lw_t, w.before ([.ref ht, .int a1] : List Value).toArray s = true := fun w h => atoms_spec (ws := w_S_clear) B.pre w (List.mem_cons_of_mem _ h)
  have hown : s.vm.findClass R_S = some m.cls := findClass_of_methodNamed B.named
  have hlocks := B.notSynchronized
  subst hsz
  have hD := hD0.self (sz := s.heap.size)
  generalize hAe : va_A [(ht, .inr (5, [.ref ht_listing, .ref ht_draft, .ref ht_written, .ref ht_tree, .ref ht_machine, .int t_trouble])), (ht_listing, .inr (2, [.ref ht_listing_ops, .ref ht_listing_numbers, .ref ht_listing_heights, .int t_listing_size])), (ht_draft, .inr (1, [.ref ht_draft_row, .ref ht_draft_made, .int t_draft_at])), (ht_draft_row, .inr (0, [.ref ht_draft_row_row, .int t_draft_row_size]))] s.heap.size = A at hD ⊢
  have hA : ∀ q : Nat, s.heap.size ≤ q → A q := fun q h => by rw [← hAe]; exact Or.inr h
  have hS : va_S A s.heap s.heap [] := va_S.rf
  have f_14 := hts _ mt_1_150
  have f_21 := hts _ mt_1_151
  have hP : va_P D vwCl [(ht, .inr (5, [.ref ht_listing, .ref ht_draft, .ref ht_written, .ref ht_tree, .ref ht_machine, .int t_trouble])), (ht_listing, .inr (2, [.ref ht_listing_ops, .ref ht_listing_numbers, .ref ht_listing_heights, .int t_listing_size])), (ht_draft, .inr (1, [.ref ht_draft_row, .ref ht_draft_made, .int t_draft_at])), (ht_draft_row, .inr (0, [.ref ht_draft_row_row, .int t_draft_row_size]))] s.heap := hP
  have hl := lv_entry ([.ref ht, .int a1]) (n := 3) (Nat.le_of_ble_eq_true rfl)
  rw [lg_entry_eq]
  generalize (lg_sl ([.ref ht, .int a1]) ++ List.replicate (3 - (lg_sl ([.ref ht, .int a1])).length) Slot.unset).toArray = ls at hl ⊢
  have hl : lv_has ls 3 [(0, .ref ht), (1, .int a1)] := hl
  unfold g_S_clear at h
  refine lv_iconst (v := (-1 : Int32)) hx hb d_S_clear_0 (by decide) ?_
  refine lv_istore_n (lv' := [(2, .int (-1 : Int32)), (0, .ref ht), (1, .int a1)]) hx hb d_S_clear_1 rfl hl (by decide) rfl (fun ls hl => ?_)
  refine lv_iload_n hx hb d_S_clear_2 rfl (lv_at hl 2 rfl) ?_
  refine lv_if_ne (tgt := 24) hx hb d_S_clear_3 (by decide) (fun ec => ?_) (fun ec => ?_)
  · have h := g_f ec h
    refine lv_iload_n hx hb d_S_clear_24 rfl (lv_at hl 2 rfl) ?_
    refine lv_iconst (v := (1 : Int32)) hx hb d_S_clear_25 (by decide) ?_
    refine lv_icmp_ne (tgt := 50) hx hb d_S_clear_26 (by decide) (fun ec => ?_) (fun ec => ?_)
    · have h := g_f ec h
      refine lv_iload_n hx hb d_S_clear_50 rfl (lv_at hl 0 rfl) ?_
      cases h
      exact gr_i hx hb hr hlocks hK hP hD hS d_S_clear_51
    · have h := g_t ec h
      refine lv_aload_n hx hb d_S_clear_29 rfl (lv_at hl 1 rfl) ?_
      refine va_get (D := D) (ci := 5) (v := .ref ht_draft) (C := R_S) (T := F_S) (N := 6) hx hb hts u_S hown hK hP 0 rfl rfl 1 (by decide) f_21 (fun _ h9 => h9) rfl d_S_clear_30 ?_
      refine gk_r (va_runV (As := []) (rest := []) ⟨hx, hb, hml, hown, hts⟩ (c_Draft_row l D cI cC ht_draft ht_draft_row ht_draft_made t_draft_at _) (cwV 0 hts (gG_V mt_1_212 mt_1_213 mt_1_214 mt_1_3 mt_1_215) rfl rfl rfl (by decide +kernel) ⟨Nat.le_of_ble_eq_true rfl, Nat.le_of_ble_eq_true rfl⟩) (gpV hK hP hD [2] rfl (by decide) (ci := 1) 2 rfl rfl) rfl rfl hl.1 rfl (lv_room (Nat.le_of_ble_eq_true rfl)) d_S_clear_33 ⟨Nat.zero_le _, Nat.zero_le _⟩) hK hP hD hS hA [2] rfl (by decide) rfl rfl (fun H locs (hP : va_P D vwCl [(ht, .inr (5, [.ref ht_listing, .ref ht_draft, .ref ht_written, .ref ht_tree, .ref ht_machine, .int t_trouble])), (ht_listing, .inr (2, [.ref ht_listing_ops, .ref ht_listing_numbers, .ref ht_listing_heights, .int t_listing_size])), (ht_draft, .inr (1, [.ref ht_draft_row, .ref ht_draft_made, .int t_draft_at])), (ht_draft_row, .inr (0, [.ref ht_draft_row_row, .int t_draft_row_size]))] H) (hD : va_D A [(ht, .inr (5, [.ref ht_listing, .ref ht_draft, .ref ht_written, .ref ht_tree, .ref ht_machine, .int t_trouble])), (ht_listing, .inr (2, [.ref ht_listing_ops, .ref ht_listing_numbers, .ref ht_listing_heights, .int t_listing_size])), (ht_draft, .inr (1, [.ref ht_draft_row, .ref ht_draft_made, .int t_draft_at])), (ht_draft_row, .inr (0, [.ref ht_draft_row_row, .int t_draft_row_size]))]) hS => ?_)
      obtain ⟨q2, hc, h⟩ := g_bd h
      refine gk_i (va_runV (As := []) (rest := []) ⟨hx, hb, hml, hown, hts⟩ (c_Characters_size l D cI cC ht_draft_row ht_draft_row_row t_draft_row_size q2 hc _) (cwV 0 hts (gG_V mt_1_216 mt_1_217 mt_1_218 mt_1_4 mt_1_219) rfl rfl rfl (by decide +kernel) ⟨Nat.le_of_ble_eq_true rfl, Nat.le_of_ble_eq_true rfl⟩) (gpV hK hP hD [3] rfl (by decide) (ci := 0) 3 rfl rfl) rfl rfl hl.1 rfl (lv_room (Nat.le_of_ble_eq_true rfl)) d_S_clear_36 ⟨Nat.zero_le _, Nat.zero_le _⟩) hK hP hD hS hA [3] rfl (by decide) rfl rfl (fun H locs (hP : va_P D vwCl [(ht, .inr (5, [.ref ht_listing, .ref ht_draft, .ref ht_written, .ref ht_tree, .ref ht_machine, .int t_trouble])), (ht_listing, .inr (2, [.ref ht_listing_ops, .ref ht_listing_numbers, .ref ht_listing_heights, .int t_listing_size])), (ht_draft, .inr (1, [.ref ht_draft_row, .ref ht_draft_made, .int t_draft_at])), (ht_draft_row, .inr (0, [.ref ht_draft_row_row, .int t_draft_row_size]))] H) (hD : va_D A [(ht, .inr (5, [.ref ht_listing, .ref ht_draft, .ref ht_written, .ref ht_tree, .ref ht_machine, .int t_trouble])), (ht_listing, .inr (2, [.ref ht_listing_ops, .ref ht_listing_numbers, .ref ht_listing_heights, .int t_listing_size])), (ht_draft, .inr (1, [.ref ht_draft_row, .ref ht_draft_made, .int t_draft_at])), (ht_draft_row, .inr (0, [.ref ht_draft_row_row, .int t_draft_row_size]))]) hS => ?_)
      refine lv_istore_n (lv' := [(2, .int q2), (0, .ref ht), (1, .int a1)]) hx hb d_S_clear_39 rfl hl (by decide) rfl (fun ls hl => ?_)
      refine lv_aload_n hx hb d_S_clear_40 rfl (lv_at hl 1 rfl) ?_
      refine va_get (D := D) (ci := 5) (v := .ref ht_draft) (C := R_S) (T := F_S) (N := 6) hx hb hts u_S hown hK hP 0 rfl rfl 1 (by decide) f_21 (fun _ h9 => h9) rfl d_S_clear_41 ?_
      refine gk_r (va_runV (As := []) (rest := []) ⟨hx, hb, hml, hown, hts⟩ (c_Draft_row l D cI cC ht_draft ht_draft_row ht_draft_made t_draft_at _) (cwV 0 hts (gG_V mt_1_212 mt_1_213 mt_1_214 mt_1_3 mt_1_215) rfl rfl rfl (by decide +kernel) ⟨Nat.le_of_ble_eq_true rfl, Nat.le_of_ble_eq_true rfl⟩) (gpV hK hP hD [2] rfl (by decide) (ci := 1) 2 rfl rfl) rfl rfl hl.1 rfl (lv_room (Nat.le_of_ble_eq_true rfl)) d_S_clear_44 ⟨Nat.zero_le _, Nat.zero_le _⟩) hK hP hD hS hA [2] rfl (by decide) rfl rfl (fun H locs (hP : va_P D vwCl [(ht, .inr (5, [.ref ht_listing, .ref ht_draft, .ref ht_written, .ref ht_tree, .ref ht_machine, .int t_trouble])), (ht_listing, .inr (2, [.ref ht_listing_ops, .ref ht_listing_numbers, .ref ht_listing_heights, .int t_listing_size])), (ht_draft, .inr (1, [.ref ht_draft_row, .ref ht_draft_made, .int t_draft_at])), (ht_draft_row, .inr (0, [.ref ht_draft_row_row, .int t_draft_row_size]))] H) (hD : va_D A [(ht, .inr (5, [.ref ht_listing, .ref ht_draft, .ref ht_written, .ref ht_tree, .ref ht_machine, .int t_trouble])), (ht_listing, .inr (2, [.ref ht_listing_ops, .ref ht_listing_numbers, .ref ht_listing_heights, .int t_listing_size])), (ht_draft, .inr (1, [.ref ht_draft_row, .ref ht_draft_made, .int t_draft_at])), (ht_draft_row, .inr (0, [.ref ht_draft_row_row, .int t_draft_row_size]))]) hS => ?_)
      obtain ⟨q4, hc, h⟩ := g_bd h
      refine gk_v (va_runV (As := []) (rest := []) ⟨hx, hb, hml, hown, hts⟩ (c_Characters_drop l D cI cC ht_draft_row ht_draft_row_row t_draft_row_size q4 hc _) (cwV 0 hts (gG_V mt_1_220 mt_1_221 mt_1_222 mt_1_4 mt_1_223) rfl rfl rfl (by decide +kernel) ⟨Nat.le_of_ble_eq_true rfl, Nat.le_of_ble_eq_true rfl⟩) (gpV hK hP hD [3] rfl (by decide) (ci := 0) 3 rfl rfl) rfl rfl hl.1 rfl (lv_room (Nat.le_of_ble_eq_true rfl)) d_S_clear_47 ⟨Nat.zero_le _, Nat.zero_le _⟩) hK hP hD hS hA [3] rfl (by decide) rfl rfl (fun H locs (hP : va_P D vwCl [(ht, .inr (5, [.ref ht_listing, .ref ht_draft, .ref ht_written, .ref ht_tree, .ref ht_machine, .int t_trouble])), (ht_listing, .inr (2, [.ref ht_listing_ops, .ref ht_listing_numbers, .ref ht_listing_heights, .int t_listing_size])), (ht_draft, .inr (1, [.ref ht_draft_row, .ref ht_draft_made, .int t_draft_at])), (ht_draft_row, .inr (0, [.ref ht_draft_row_row, .int q4]))] H) (hD : va_D A [(ht, .inr (5, [.ref ht_listing, .ref ht_draft, .ref ht_written, .ref ht_tree, .ref ht_machine, .int t_trouble])), (ht_listing, .inr (2, [.ref ht_listing_ops, .ref ht_listing_numbers, .ref ht_listing_heights, .int t_listing_size])), (ht_draft, .inr (1, [.ref ht_draft_row, .ref ht_draft_made, .int t_draft_at])), (ht_draft_row, .inr (0, [.ref ht_draft_row_row, .int q4]))]) hS => ?_)
      refine lv_iload_n hx hb d_S_clear_50 rfl (lv_at hl 0 rfl) ?_
      cases h
      exact gr_i hx hb hr hlocks hK hP hD hS d_S_clear_51
  · have h := g_t ec h
    refine lv_aload_n hx hb d_S_clear_6 rfl (lv_at hl 1 rfl) ?_
    refine va_get (D := D) (ci := 5) (v := .ref ht_listing) (C := R_S) (T := F_S) (N := 6) hx hb hts u_S hown hK hP 0 rfl rfl 0 (by decide) f_14 (fun _ h9 => h9) rfl d_S_clear_7 ?_
    obtain ⟨q5, hc, h⟩ := g_bd h
    refine gk_i (va_runV (As := []) (rest := []) ⟨hx, hb, hml, hown, hts⟩ (c_Listing_size l D cI cC ht_listing ht_listing_ops ht_listing_numbers ht_listing_heights t_listing_size q5 hc _) (cwV 0 hts (gG_V mt_1_194 mt_1_195 mt_1_196 mt_1_2 mt_1_197) rfl rfl rfl (by decide +kernel) ⟨Nat.le_of_ble_eq_true rfl, Nat.le_of_ble_eq_true rfl⟩) (gpV hK hP hD [1] rfl (by decide) (ci := 2) 1 rfl rfl) rfl rfl hl.1 rfl (lv_room (Nat.le_of_ble_eq_true rfl)) d_S_clear_10 ⟨Nat.zero_le _, Nat.zero_le _⟩) hK hP hD hS hA [1] rfl (by decide) rfl rfl (fun H locs (hP : va_P D vwCl [(ht, .inr (5, [.ref ht_listing, .ref ht_draft, .ref ht_written, .ref ht_tree, .ref ht_machine, .int t_trouble])), (ht_listing, .inr (2, [.ref ht_listing_ops, .ref ht_listing_numbers, .ref ht_listing_heights, .int t_listing_size])), (ht_draft, .inr (1, [.ref ht_draft_row, .ref ht_draft_made, .int t_draft_at])), (ht_draft_row, .inr (0, [.ref ht_draft_row_row, .int t_draft_row_size]))] H) (hD : va_D A [(ht, .inr (5, [.ref ht_listing, .ref ht_draft, .ref ht_written, .ref ht_tree, .ref ht_machine, .int t_trouble])), (ht_listing, .inr (2, [.ref ht_listing_ops, .ref ht_listing_numbers, .ref ht_listing_heights, .int t_listing_size])), (ht_draft, .inr (1, [.ref ht_draft_row, .ref ht_draft_made, .int t_draft_at])), (ht_draft_row, .inr (0, [.ref ht_draft_row_row, .int t_draft_row_size]))]) hS => ?_)
    refine lv_istore_n (lv' := [(2, .int q5), (0, .ref ht), (1, .int a1)]) hx hb d_S_clear_13 rfl hl (by decide) rfl (fun ls hl => ?_)
    refine lv_aload_n hx hb d_S_clear_14 rfl (lv_at hl 1 rfl) ?_
    refine va_get (D := D) (ci := 5) (v := .ref ht_listing) (C := R_S) (T := F_S) (N := 6) hx hb hts u_S hown hK hP 0 rfl rfl 0 (by decide) f_14 (fun _ h9 => h9) rfl d_S_clear_15 ?_
    obtain ⟨q6, hc, h⟩ := g_bd h
    refine gk_v (va_runV (As := []) (rest := []) ⟨hx, hb, hml, hown, hts⟩ (c_Listing_drop l D cI cC ht_listing ht_listing_ops ht_listing_numbers ht_listing_heights t_listing_size q6 hc _) (cwV 0 hts (gG_V mt_1_208 mt_1_209 mt_1_210 mt_1_2 mt_1_211) rfl rfl rfl (by decide +kernel) ⟨Nat.le_of_ble_eq_true rfl, Nat.le_of_ble_eq_true rfl⟩) (gpV hK hP hD [1] rfl (by decide) (ci := 2) 1 rfl rfl) rfl rfl hl.1 rfl (lv_room (Nat.le_of_ble_eq_true rfl)) d_S_clear_18 ⟨Nat.zero_le _, Nat.zero_le _⟩) hK hP hD hS hA [1] rfl (by decide) rfl rfl (fun H locs (hP : va_P D vwCl [(ht, .inr (5, [.ref ht_listing, .ref ht_draft, .ref ht_written, .ref ht_tree, .ref ht_machine, .int t_trouble])), (ht_listing, .inr (2, [.ref ht_listing_ops, .ref ht_listing_numbers, .ref ht_listing_heights, .int q6])), (ht_draft, .inr (1, [.ref ht_draft_row, .ref ht_draft_made, .int t_draft_at])), (ht_draft_row, .inr (0, [.ref ht_draft_row_row, .int t_draft_row_size]))] H) (hD : va_D A [(ht, .inr (5, [.ref ht_listing, .ref ht_draft, .ref ht_written, .ref ht_tree, .ref ht_machine, .int t_trouble])), (ht_listing, .inr (2, [.ref ht_listing_ops, .ref ht_listing_numbers, .ref ht_listing_heights, .int q6])), (ht_draft, .inr (1, [.ref ht_draft_row, .ref ht_draft_made, .int t_draft_at])), (ht_draft_row, .inr (0, [.ref ht_draft_row_row, .int t_draft_row_size]))]) hS => ?_)
    refine lv_goto (tgt := 50) hx hb d_S_clear_21 (by decide) ?_
    refine lv_iload_n hx hb d_S_clear_50 rfl (lv_at hl 0 rfl) ?_
    cases h
    exact gr_i hx hb hr hlocks hK hP hD hS d_S_clear_51
def K_Listing_heightBefore (l : Launch) (D : va_G) (cI cC : ClassId) : Prop :=
  ∀ (ht ht_ops ht_numbers ht_heights : Nat) (t_R : Nat) (t_size : Int32) (t_heights : Nat → Int32) (a1 : Int32) (q : Int32), g_Listing_heightBefore t_R t_heights t_size a1 = some q → ∀ (sz : Nat), Met l y_Listing_heightBefore w_Listing_heightBefore ({ frames := 0, cells := 0, slots := 0, locals := 0 }) (va_Pc [.ref ht, .int a1] (gB D (gT cI cC) [(ht, .inr (2, [.ref ht_ops, .ref ht_numbers, .ref ht_heights, .int t_size])), (ht_heights, .inl (cI, (t_R + 1), .inl t_heights))] sz)) (gQi D (gT cI cC) q [(ht, .inr (2, [.ref ht_ops, .ref ht_numbers, .ref ht_heights, .int t_size])), (ht_heights, .inl (cI, (t_R + 1), .inl t_heights))] (va_A [(ht, .inr (2, [.ref ht_ops, .ref ht_numbers, .ref ht_heights, .int t_size])), (ht_heights, .inl (cI, (t_R + 1), .inl t_heights))] sz)) 0 0 (va_A [(ht, .inr (2, [.ref ht_ops, .ref ht_numbers, .ref ht_heights, .int t_size])), (ht_heights, .inl (cI, (t_R + 1), .inl t_heights))] sz)
set_option maxHeartbeats 4000000 in
set_option maxRecDepth 100000 in
theorem c_Listing_heightBefore (l : Launch) (D : va_G) (cI cC : ClassId) : K_Listing_heightBefore l D cI cC := by
  intro ht ht_ops ht_numbers ht_heights t_R t_size t_heights a1 q h sz
  refine Met.ofW (cc := k_Listing_heightBefore) (maxL := 2) (ret := (some .int)) (by decide) rfl ?_
  intro p e s m args below meth c s₁ B hml hv
  obtain ⟨rfl, hsz, hP, hK, hD0⟩ := hv
  have hx := B.exec
  have hb := B.bytes
  have hr := B.returns
  have hts : ∀ w ∈ lw_t, w.before ([.ref ht, .int a1] : List Value).toArray s = true := fun w h => atoms_spec (ws := w_Listing_heightBefore) B.pre w (List.mem_cons_of_mem _ h)
  have hown : s.vm.findClass R_Listing = some m.cls := findClass_of_methodNamed B.named
  have hlocks := B.notSynchronized
  subst hsz
  have hD := hD0.self (sz := s.heap.size)
  generalize hAe : va_A [(ht, .inr (2, [.ref ht_ops, .ref ht_numbers, .ref ht_heights, .int t_size])), (ht_heights, .inl (cI, (t_R + 1), .inl t_heights))] s.heap.size = A at hD ⊢
  have hA : ∀ q : Nat, s.heap.size ≤ q → A q := fun q h => by rw [← hAe]; exact Or.inr h
  have hS : va_S A s.heap s.heap [] := va_S.rf
  have f_18 := hts _ mt_1_28
  have f_21 := hts _ mt_1_29
  have hP : va_P D vwCl [(ht, .inr (2, [.ref ht_ops, .ref ht_numbers, .ref ht_heights, .int t_size])), (ht_heights, .inl (cI, (t_R + 1), .inl t_heights))] s.heap := hP
  have hl := lv_entry ([.ref ht, .int a1]) (n := 2) (Nat.le_of_ble_eq_true rfl)
  rw [lg_entry_eq]
  generalize (lg_sl ([.ref ht, .int a1]) ++ List.replicate (2 - (lg_sl ([.ref ht, .int a1])).length) Slot.unset).toArray = ls at hl ⊢
  have hl : lv_has ls 2 [(0, .ref ht), (1, .int a1)] := hl
  unfold g_Listing_heightBefore at h
  refine lv_iload_n hx hb d_Listing_heightBefore_0 rfl (lv_at hl 1 rfl) ?_
  refine lv_if_lt (tgt := 21) hx hb d_Listing_heightBefore_1 (by decide) (fun ec => ?_) (fun ec => ?_)
  · have h := g_t ec h
    refine lv_iconst (v := (0 : Int32)) hx hb d_Listing_heightBefore_21 (by decide) ?_
    cases h
    exact gr_i hx hb hr hlocks hK hP hD hS d_Listing_heightBefore_22
  · have h := g_f ec h
    refine lv_iload_n hx hb d_Listing_heightBefore_4 rfl (lv_at hl 1 rfl) ?_
    refine lv_aload_n hx hb d_Listing_heightBefore_5 rfl (lv_at hl 0 rfl) ?_
    refine va_get (D := D) (ci := 2) (v := .int t_size) (C := R_Listing) (T := F_Listing) (N := 4) hx hb hts u_Listing hown hK hP 0 rfl rfl 3 (by decide) f_21 (fun _ h9 => h9) rfl d_Listing_heightBefore_6 ?_
    refine lv_icmp_gt (tgt := 21) hx hb d_Listing_heightBefore_9 (by decide) (fun ec => ?_) (fun ec => ?_)
    · have h := g_t ec h
      refine lv_iconst (v := (0 : Int32)) hx hb d_Listing_heightBefore_21 (by decide) ?_
      cases h
      exact gr_i hx hb hr hlocks hK hP hD hS d_Listing_heightBefore_22
    · have h := g_f ec h
      refine lv_aload_n hx hb d_Listing_heightBefore_12 rfl (lv_at hl 0 rfl) ?_
      refine va_get (D := D) (ci := 2) (v := .ref ht_heights) (C := R_Listing) (T := F_Listing) (N := 4) hx hb hts u_Listing hown hK hP 0 rfl rfl 2 (by decide) f_18 (fun _ h9 => h9) rfl d_Listing_heightBefore_13 ?_
      refine lv_iload_n hx hb d_Listing_heightBefore_16 rfl (lv_at hl 1 rfl) ?_
      obtain ⟨hi, h⟩ := g_ck h
      refine va_iald hx hb hK hP 1 0 rfl rfl hi d_Listing_heightBefore_17 ?_
      refine lv_goto (tgt := 22) hx hb d_Listing_heightBefore_18 (by decide) ?_
      cases h
      exact gr_i hx hb hr hlocks hK hP hD hS d_Listing_heightBefore_22
def K_Listing_number (l : Launch) (D : va_G) (cI cC : ClassId) : Prop :=
  ∀ (ht ht_ops ht_numbers ht_heights : Nat) (t_R : Nat) (t_size : Int32) (t_numbers : Nat → Int32) (a1 : Int32) (q : Int32), g_Listing_number t_R t_numbers t_size a1 = some q → ∀ (sz : Nat), Met l y_Listing_number w_Listing_number ({ frames := 1, cells := 0, slots := 0, locals := 21 }) (va_Pc [.ref ht, .int a1] (gB D (gT cI cC) [(ht, .inr (2, [.ref ht_ops, .ref ht_numbers, .ref ht_heights, .int t_size])), (ht_numbers, .inl (cI, t_R, .inl t_numbers))] sz)) (gQi D (gT cI cC) q [(ht, .inr (2, [.ref ht_ops, .ref ht_numbers, .ref ht_heights, .int t_size])), (ht_numbers, .inl (cI, t_R, .inl t_numbers))] (va_A [(ht, .inr (2, [.ref ht_ops, .ref ht_numbers, .ref ht_heights, .int t_size])), (ht_numbers, .inl (cI, t_R, .inl t_numbers))] sz)) 0 0 (va_A [(ht, .inr (2, [.ref ht_ops, .ref ht_numbers, .ref ht_heights, .int t_size])), (ht_numbers, .inl (cI, t_R, .inl t_numbers))] sz)
set_option maxHeartbeats 4000000 in
set_option maxRecDepth 100000 in
theorem c_Listing_number (l : Launch) (D : va_G) (cI cC : ClassId) : K_Listing_number l D cI cC := by
  intro ht ht_ops ht_numbers ht_heights t_R t_size t_numbers a1 q h sz
  refine Met.ofW (cc := k_Listing_number) (maxL := 2) (ret := (some .int)) (by decide) rfl ?_
  intro p e s m args below meth c s₁ B hml hv
  obtain ⟨rfl, hsz, hP, hK, hD0⟩ := hv
  have hx := B.exec
  have hb := B.bytes
  have hr := B.returns
  have hts : ∀ w ∈ lw_t, w.before ([.ref ht, .int a1] : List Value).toArray s = true := fun w h => atoms_spec (ws := w_Listing_number) B.pre w (List.mem_cons_of_mem _ h)
  have hown : s.vm.findClass R_Listing = some m.cls := findClass_of_methodNamed B.named
  have hlocks := B.notSynchronized
  subst hsz
  have hD := hD0.self (sz := s.heap.size)
  generalize hAe : va_A [(ht, .inr (2, [.ref ht_ops, .ref ht_numbers, .ref ht_heights, .int t_size])), (ht_numbers, .inl (cI, t_R, .inl t_numbers))] s.heap.size = A at hD ⊢
  have hA : ∀ q : Nat, s.heap.size ≤ q → A q := fun q h => by rw [← hAe]; exact Or.inr h
  have hS : va_S A s.heap s.heap [] := va_S.rf
  have f_15 := hts _ mt_1_27
  have hP : va_P D vwCl [(ht, .inr (2, [.ref ht_ops, .ref ht_numbers, .ref ht_heights, .int t_size])), (ht_numbers, .inl (cI, t_R, .inl t_numbers))] s.heap := hP
  have hl := lv_entry ([.ref ht, .int a1]) (n := 2) (Nat.le_of_ble_eq_true rfl)
  rw [lg_entry_eq]
  generalize (lg_sl ([.ref ht, .int a1]) ++ List.replicate (2 - (lg_sl ([.ref ht, .int a1])).length) Slot.unset).toArray = ls at hl ⊢
  have hl : lv_has ls 2 [(0, .ref ht), (1, .int a1)] := hl
  unfold g_Listing_number at h
  refine lv_aload_n hx hb d_Listing_number_0 rfl (lv_at hl 0 rfl) ?_
  refine lv_iload_n hx hb d_Listing_number_1 rfl (lv_at hl 1 rfl) ?_
  obtain ⟨q1, hc, h⟩ := g_bd h
  refine gk_i (va_runV (As := [.int a1]) (rest := []) ⟨hx, hb, hml, hown, hts⟩ (c_Listing_holds l D cI cC ht ht_ops ht_numbers ht_heights t_size a1 q1 hc _) (cwV 1 hts (gG_V mt_1_187 mt_1_188 mt_1_189 mt_1_2 mt_1_190) rfl rfl rfl (by decide +kernel) ⟨Nat.le_of_ble_eq_true rfl, Nat.le_of_ble_eq_true rfl⟩) (gpV hK hP hD [0] rfl (by decide) (ci := 2) 0 rfl rfl) rfl rfl hl.1 rfl (lv_room (Nat.le_of_ble_eq_true rfl)) d_Listing_number_2 ⟨Nat.zero_le _, Nat.zero_le _⟩) hK hP hD hS hA [0] rfl (by decide) rfl rfl (fun H locs (hP : va_P D vwCl [(ht, .inr (2, [.ref ht_ops, .ref ht_numbers, .ref ht_heights, .int t_size])), (ht_numbers, .inl (cI, t_R, .inl t_numbers))] H) (hD : va_D A [(ht, .inr (2, [.ref ht_ops, .ref ht_numbers, .ref ht_heights, .int t_size])), (ht_numbers, .inl (cI, t_R, .inl t_numbers))]) hS => ?_)
  refine lv_if_eq (tgt := 17) hx hb d_Listing_number_5 (by decide) (fun ec => ?_) (fun ec => ?_)
  · have h := g_t ec h
    refine lv_bipush (v := (-2 : Int32)) hx hb d_Listing_number_17 (by decide) ?_
    cases h
    exact gr_i hx hb hr hlocks hK hP hD hS d_Listing_number_19
  · have h := g_f ec h
    refine lv_aload_n hx hb d_Listing_number_8 rfl (lv_at hl 0 rfl) ?_
    refine va_get (D := D) (ci := 2) (v := .ref ht_numbers) (C := R_Listing) (T := F_Listing) (N := 4) hx hb hts u_Listing hown hK hP 0 rfl rfl 1 (by decide) f_15 (fun _ h9 => h9) rfl d_Listing_number_9 ?_
    refine lv_iload_n hx hb d_Listing_number_12 rfl (lv_at hl 1 rfl) ?_
    obtain ⟨hi, h⟩ := g_ck h
    refine va_iald hx hb hK hP 1 0 rfl rfl hi d_Listing_number_13 ?_
    refine lv_goto (tgt := 19) hx hb d_Listing_number_14 (by decide) ?_
    cases h
    exact gr_i hx hb hr hlocks hK hP hD hS d_Listing_number_19
def K_Listing_op (l : Launch) (D : va_G) (cI cC : ClassId) : Prop :=
  ∀ (ht ht_ops ht_numbers ht_heights : Nat) (t_R : Nat) (t_size : Int32) (t_ops : Nat → Int32) (a1 : Int32) (q : Int32), g_Listing_op t_R t_ops t_size a1 = some q → ∀ (sz : Nat), Met l y_Listing_op w_Listing_op ({ frames := 1, cells := 0, slots := 0, locals := 21 }) (va_Pc [.ref ht, .int a1] (gB D (gT cI cC) [(ht, .inr (2, [.ref ht_ops, .ref ht_numbers, .ref ht_heights, .int t_size])), (ht_ops, .inl (cI, t_R, .inl t_ops))] sz)) (gQi D (gT cI cC) q [(ht, .inr (2, [.ref ht_ops, .ref ht_numbers, .ref ht_heights, .int t_size])), (ht_ops, .inl (cI, t_R, .inl t_ops))] (va_A [(ht, .inr (2, [.ref ht_ops, .ref ht_numbers, .ref ht_heights, .int t_size])), (ht_ops, .inl (cI, t_R, .inl t_ops))] sz)) 0 0 (va_A [(ht, .inr (2, [.ref ht_ops, .ref ht_numbers, .ref ht_heights, .int t_size])), (ht_ops, .inl (cI, t_R, .inl t_ops))] sz)
set_option maxHeartbeats 4000000 in
set_option maxRecDepth 100000 in
theorem c_Listing_op (l : Launch) (D : va_G) (cI cC : ClassId) : K_Listing_op l D cI cC := by
  intro ht ht_ops ht_numbers ht_heights t_R t_size t_ops a1 q h sz
  refine Met.ofW (cc := k_Listing_op) (maxL := 2) (ret := (some .int)) (by decide) rfl ?_
  intro p e s m args below meth c s₁ B hml hv
  obtain ⟨rfl, hsz, hP, hK, hD0⟩ := hv
  have hx := B.exec
  have hb := B.bytes
  have hr := B.returns
  have hts : ∀ w ∈ lw_t, w.before ([.ref ht, .int a1] : List Value).toArray s = true := fun w h => atoms_spec (ws := w_Listing_op) B.pre w (List.mem_cons_of_mem _ h)
  have hown : s.vm.findClass R_Listing = some m.cls := findClass_of_methodNamed B.named
  have hlocks := B.notSynchronized
  subst hsz
  have hD := hD0.self (sz := s.heap.size)
  generalize hAe : va_A [(ht, .inr (2, [.ref ht_ops, .ref ht_numbers, .ref ht_heights, .int t_size])), (ht_ops, .inl (cI, t_R, .inl t_ops))] s.heap.size = A at hD ⊢
  have hA : ∀ q : Nat, s.heap.size ≤ q → A q := fun q h => by rw [← hAe]; exact Or.inr h
  have hS : va_S A s.heap s.heap [] := va_S.rf
  have f_9 := hts _ mt_1_26
  have hP : va_P D vwCl [(ht, .inr (2, [.ref ht_ops, .ref ht_numbers, .ref ht_heights, .int t_size])), (ht_ops, .inl (cI, t_R, .inl t_ops))] s.heap := hP
  have hl := lv_entry ([.ref ht, .int a1]) (n := 2) (Nat.le_of_ble_eq_true rfl)
  rw [lg_entry_eq]
  generalize (lg_sl ([.ref ht, .int a1]) ++ List.replicate (2 - (lg_sl ([.ref ht, .int a1])).length) Slot.unset).toArray = ls at hl ⊢
  have hl : lv_has ls 2 [(0, .ref ht), (1, .int a1)] := hl
  unfold g_Listing_op at h
  refine lv_aload_n hx hb d_Listing_op_0 rfl (lv_at hl 0 rfl) ?_
  refine lv_iload_n hx hb d_Listing_op_1 rfl (lv_at hl 1 rfl) ?_
  obtain ⟨q1, hc, h⟩ := g_bd h
  refine gk_i (va_runV (As := [.int a1]) (rest := []) ⟨hx, hb, hml, hown, hts⟩ (c_Listing_holds l D cI cC ht ht_ops ht_numbers ht_heights t_size a1 q1 hc _) (cwV 1 hts (gG_V mt_1_187 mt_1_188 mt_1_189 mt_1_2 mt_1_190) rfl rfl rfl (by decide +kernel) ⟨Nat.le_of_ble_eq_true rfl, Nat.le_of_ble_eq_true rfl⟩) (gpV hK hP hD [0] rfl (by decide) (ci := 2) 0 rfl rfl) rfl rfl hl.1 rfl (lv_room (Nat.le_of_ble_eq_true rfl)) d_Listing_op_2 ⟨Nat.zero_le _, Nat.zero_le _⟩) hK hP hD hS hA [0] rfl (by decide) rfl rfl (fun H locs (hP : va_P D vwCl [(ht, .inr (2, [.ref ht_ops, .ref ht_numbers, .ref ht_heights, .int t_size])), (ht_ops, .inl (cI, t_R, .inl t_ops))] H) (hD : va_D A [(ht, .inr (2, [.ref ht_ops, .ref ht_numbers, .ref ht_heights, .int t_size])), (ht_ops, .inl (cI, t_R, .inl t_ops))]) hS => ?_)
  refine lv_if_eq (tgt := 17) hx hb d_Listing_op_5 (by decide) (fun ec => ?_) (fun ec => ?_)
  · have h := g_t ec h
    refine lv_bipush (v := (-2 : Int32)) hx hb d_Listing_op_17 (by decide) ?_
    cases h
    exact gr_i hx hb hr hlocks hK hP hD hS d_Listing_op_19
  · have h := g_f ec h
    refine lv_aload_n hx hb d_Listing_op_8 rfl (lv_at hl 0 rfl) ?_
    refine va_get (D := D) (ci := 2) (v := .ref ht_ops) (C := R_Listing) (T := F_Listing) (N := 4) hx hb hts u_Listing hown hK hP 0 rfl rfl 0 (by decide) f_9 (fun _ h9 => h9) rfl d_Listing_op_9 ?_
    refine lv_iload_n hx hb d_Listing_op_12 rfl (lv_at hl 1 rfl) ?_
    obtain ⟨hi, h⟩ := g_ck h
    refine va_iald hx hb hK hP 1 0 rfl rfl hi d_Listing_op_13 ?_
    refine lv_goto (tgt := 19) hx hb d_Listing_op_14 (by decide) ?_
    cases h
    exact gr_i hx hb hr hlocks hK hP hD hS d_Listing_op_19
def K_S_code (l : Launch) (D : va_G) (cI cC : ClassId) : Prop :=
  ∀ (ht ht_listing ht_draft ht_written ht_tree ht_machine ht_listing_ops ht_listing_numbers ht_listing_heights : Nat) (t_trouble : Int32) (t_listing_size : Int32) (t_listing_ops : Nat → Int32) (t_listing_numbers : Nat → Int32) (t_listing_heights : Nat → Int32) (a1 a2 : Int32) (q : Int32), g_S_code t_listing_ops t_listing_numbers t_listing_heights t_listing_size a1 a2 = some q → ∀ (sz : Nat), Met l y_S_code w_S_code ({ frames := 2, cells := 0, slots := 0, locals := 42 }) (va_Pc [.ref ht, .int a1, .int a2] (gB D (gT cI cC) [(ht, .inr (5, [.ref ht_listing, .ref ht_draft, .ref ht_written, .ref ht_tree, .ref ht_machine, .int t_trouble])), (ht_listing, .inr (2, [.ref ht_listing_ops, .ref ht_listing_numbers, .ref ht_listing_heights, .int t_listing_size])), (ht_listing_ops, .inl (cI, 30, .inl t_listing_ops)), (ht_listing_numbers, .inl (cI, 30, .inl t_listing_numbers)), (ht_listing_heights, .inl (cI, (30 + 1), .inl t_listing_heights))] sz)) (gQi D (gT cI cC) q [(ht, .inr (5, [.ref ht_listing, .ref ht_draft, .ref ht_written, .ref ht_tree, .ref ht_machine, .int t_trouble])), (ht_listing, .inr (2, [.ref ht_listing_ops, .ref ht_listing_numbers, .ref ht_listing_heights, .int t_listing_size])), (ht_listing_ops, .inl (cI, 30, .inl t_listing_ops)), (ht_listing_numbers, .inl (cI, 30, .inl t_listing_numbers)), (ht_listing_heights, .inl (cI, (30 + 1), .inl t_listing_heights))] (va_A [(ht, .inr (5, [.ref ht_listing, .ref ht_draft, .ref ht_written, .ref ht_tree, .ref ht_machine, .int t_trouble])), (ht_listing, .inr (2, [.ref ht_listing_ops, .ref ht_listing_numbers, .ref ht_listing_heights, .int t_listing_size])), (ht_listing_ops, .inl (cI, 30, .inl t_listing_ops)), (ht_listing_numbers, .inl (cI, 30, .inl t_listing_numbers)), (ht_listing_heights, .inl (cI, (30 + 1), .inl t_listing_heights))] sz)) 0 0 (va_A [(ht, .inr (5, [.ref ht_listing, .ref ht_draft, .ref ht_written, .ref ht_tree, .ref ht_machine, .int t_trouble])), (ht_listing, .inr (2, [.ref ht_listing_ops, .ref ht_listing_numbers, .ref ht_listing_heights, .int t_listing_size])), (ht_listing_ops, .inl (cI, 30, .inl t_listing_ops)), (ht_listing_numbers, .inl (cI, 30, .inl t_listing_numbers)), (ht_listing_heights, .inl (cI, (30 + 1), .inl t_listing_heights))] sz)
set_option maxHeartbeats 4000000 in
set_option maxRecDepth 100000 in
theorem c_S_code (l : Launch) (D : va_G) (cI cC : ClassId) : K_S_code l D cI cC := by
  intro ht ht_listing ht_draft ht_written ht_tree ht_machine ht_listing_ops ht_listing_numbers ht_listing_heights t_trouble t_listing_size t_listing_ops t_listing_numbers t_listing_heights a1 a2 q h sz
  refine Met.ofW (cc := k_S_code) (maxL := 3) (ret := (some .int)) (by decide) rfl ?_
  intro p e s m args below meth c s₁ B hml hv
  obtain ⟨rfl, hsz, hP, hK, hD0⟩ := hv
  have hx := B.exec
  have hb := B.bytes
  have hr := B.returns
  have hts : ∀ w ∈ lw_t, w.before ([.ref ht, .int a1, .int a2] : List Value).toArray s = true := fun w h => atoms_spec (ws := w_S_code) B.pre w (List.mem_cons_of_mem _ h)
  have hown : s.vm.findClass R_S = some m.cls := findClass_of_methodNamed B.named
  have hlocks := B.notSynchronized
  subst hsz
  have hD := hD0.self (sz := s.heap.size)
  generalize hAe : va_A [(ht, .inr (5, [.ref ht_listing, .ref ht_draft, .ref ht_written, .ref ht_tree, .ref ht_machine, .int t_trouble])), (ht_listing, .inr (2, [.ref ht_listing_ops, .ref ht_listing_numbers, .ref ht_listing_heights, .int t_listing_size])), (ht_listing_ops, .inl (cI, 30, .inl t_listing_ops)), (ht_listing_numbers, .inl (cI, 30, .inl t_listing_numbers)), (ht_listing_heights, .inl (cI, (30 + 1), .inl t_listing_heights))] s.heap.size = A at hD ⊢
  have hA : ∀ q : Nat, s.heap.size ≤ q → A q := fun q h => by rw [← hAe]; exact Or.inr h
  have hS : va_S A s.heap s.heap [] := va_S.rf
  have f_14 := hts _ mt_1_150
  have hP : va_P D vwCl [(ht, .inr (5, [.ref ht_listing, .ref ht_draft, .ref ht_written, .ref ht_tree, .ref ht_machine, .int t_trouble])), (ht_listing, .inr (2, [.ref ht_listing_ops, .ref ht_listing_numbers, .ref ht_listing_heights, .int t_listing_size])), (ht_listing_ops, .inl (cI, 30, .inl t_listing_ops)), (ht_listing_numbers, .inl (cI, 30, .inl t_listing_numbers)), (ht_listing_heights, .inl (cI, (30 + 1), .inl t_listing_heights))] s.heap := hP
  have hl := lv_entry ([.ref ht, .int a1, .int a2]) (n := 3) (Nat.le_of_ble_eq_true rfl)
  rw [lg_entry_eq]
  generalize (lg_sl ([.ref ht, .int a1, .int a2]) ++ List.replicate (3 - (lg_sl ([.ref ht, .int a1, .int a2])).length) Slot.unset).toArray = ls at hl ⊢
  have hl : lv_has ls 3 [(0, .ref ht), (1, .int a1), (2, .int a2)] := hl
  unfold g_S_code at h
  refine lv_iload_n hx hb d_S_code_0 rfl (lv_at hl 2 rfl) ?_
  refine lv_if_lt (tgt := 9) hx hb d_S_code_1 (by decide) (fun ec => ?_) (fun ec => ?_)
  · have h := g_t ec h
    refine lv_iconst (v := (-1 : Int32)) hx hb d_S_code_9 (by decide) ?_
    cases h
    exact gr_i hx hb hr hlocks hK hP hD hS d_S_code_10
  · have h := g_f ec h
    refine lv_iload_n hx hb d_S_code_4 rfl (lv_at hl 2 rfl) ?_
    refine lv_iconst (v := (2 : Int32)) hx hb d_S_code_5 (by decide) ?_
    refine lv_icmp_le (tgt := 11) hx hb d_S_code_6 (by decide) (fun ec => ?_) (fun ec => ?_)
    · have h := g_t ec h
      refine lv_iload_n hx hb d_S_code_11 rfl (lv_at hl 2 rfl) ?_
      refine lv_iconst (v := (2 : Int32)) hx hb d_S_code_12 (by decide) ?_
      refine lv_icmp_ne (tgt := 52) hx hb d_S_code_13 (by decide) (fun ec => ?_) (fun ec => ?_)
      · have h := g_f ec h
        refine lv_iload_n hx hb d_S_code_52 rfl (lv_at hl 2 rfl) ?_
        refine lv_if_ne (tgt := 67) hx hb d_S_code_53 (by decide) (fun ec => ?_) (fun ec => ?_)
        · have h := g_f ec h
          refine lv_aload_n hx hb d_S_code_67 rfl (lv_at hl 0 rfl) ?_
          refine va_get (D := D) (ci := 5) (v := .ref ht_listing) (C := R_S) (T := F_S) (N := 6) hx hb hts u_S hown hK hP 0 rfl rfl 0 (by decide) f_14 (fun _ h9 => h9) rfl d_S_code_68 ?_
          refine lv_iload_n hx hb d_S_code_71 rfl (lv_at hl 1 rfl) ?_
          obtain ⟨q1, hc, h⟩ := g_bd h
          refine gk_i (va_runV (As := [.int a1]) (rest := []) ⟨hx, hb, hml, hown, hts⟩ (c_Listing_number l D cI cC ht_listing ht_listing_ops ht_listing_numbers ht_listing_heights 30 t_listing_size t_listing_numbers a1 q1 hc _) (cwV 1 hts (gG_V mt_1_236 mt_1_237 mt_1_238 mt_1_2 mt_1_239) rfl rfl rfl (by decide +kernel) ⟨Nat.le_of_ble_eq_true rfl, Nat.le_of_ble_eq_true rfl⟩) (gpV hK hP hD [1, 3] rfl (by decide) (ci := 2) 1 rfl rfl) rfl rfl hl.1 rfl (lv_room (Nat.le_of_ble_eq_true rfl)) d_S_code_72 ⟨Nat.zero_le _, Nat.zero_le _⟩) hK hP hD hS hA [1, 3] rfl (by decide) rfl rfl (fun H locs (hP : va_P D vwCl [(ht, .inr (5, [.ref ht_listing, .ref ht_draft, .ref ht_written, .ref ht_tree, .ref ht_machine, .int t_trouble])), (ht_listing, .inr (2, [.ref ht_listing_ops, .ref ht_listing_numbers, .ref ht_listing_heights, .int t_listing_size])), (ht_listing_ops, .inl (cI, 30, .inl t_listing_ops)), (ht_listing_numbers, .inl (cI, 30, .inl t_listing_numbers)), (ht_listing_heights, .inl (cI, (30 + 1), .inl t_listing_heights))] H) (hD : va_D A [(ht, .inr (5, [.ref ht_listing, .ref ht_draft, .ref ht_written, .ref ht_tree, .ref ht_machine, .int t_trouble])), (ht_listing, .inr (2, [.ref ht_listing_ops, .ref ht_listing_numbers, .ref ht_listing_heights, .int t_listing_size])), (ht_listing_ops, .inl (cI, 30, .inl t_listing_ops)), (ht_listing_numbers, .inl (cI, 30, .inl t_listing_numbers)), (ht_listing_heights, .inl (cI, (30 + 1), .inl t_listing_heights))]) hS => ?_)
          cases h
          exact gr_i hx hb hr hlocks hK hP hD hS d_S_code_75
        · have h := g_t ec h
          refine lv_aload_n hx hb d_S_code_56 rfl (lv_at hl 0 rfl) ?_
          refine va_get (D := D) (ci := 5) (v := .ref ht_listing) (C := R_S) (T := F_S) (N := 6) hx hb hts u_S hown hK hP 0 rfl rfl 0 (by decide) f_14 (fun _ h9 => h9) rfl d_S_code_57 ?_
          refine lv_iload_n hx hb d_S_code_60 rfl (lv_at hl 1 rfl) ?_
          obtain ⟨q2, hc, h⟩ := g_bd h
          refine gk_i (va_runV (As := [.int a1]) (rest := []) ⟨hx, hb, hml, hown, hts⟩ (c_Listing_op l D cI cC ht_listing ht_listing_ops ht_listing_numbers ht_listing_heights 30 t_listing_size t_listing_ops a1 q2 hc _) (cwV 1 hts (gG_V mt_1_232 mt_1_233 mt_1_234 mt_1_2 mt_1_235) rfl rfl rfl (by decide +kernel) ⟨Nat.le_of_ble_eq_true rfl, Nat.le_of_ble_eq_true rfl⟩) (gpV hK hP hD [1, 2] rfl (by decide) (ci := 2) 1 rfl rfl) rfl rfl hl.1 rfl (lv_room (Nat.le_of_ble_eq_true rfl)) d_S_code_61 ⟨Nat.zero_le _, Nat.zero_le _⟩) hK hP hD hS hA [1, 2] rfl (by decide) rfl rfl (fun H locs (hP : va_P D vwCl [(ht, .inr (5, [.ref ht_listing, .ref ht_draft, .ref ht_written, .ref ht_tree, .ref ht_machine, .int t_trouble])), (ht_listing, .inr (2, [.ref ht_listing_ops, .ref ht_listing_numbers, .ref ht_listing_heights, .int t_listing_size])), (ht_listing_ops, .inl (cI, 30, .inl t_listing_ops)), (ht_listing_numbers, .inl (cI, 30, .inl t_listing_numbers)), (ht_listing_heights, .inl (cI, (30 + 1), .inl t_listing_heights))] H) (hD : va_D A [(ht, .inr (5, [.ref ht_listing, .ref ht_draft, .ref ht_written, .ref ht_tree, .ref ht_machine, .int t_trouble])), (ht_listing, .inr (2, [.ref ht_listing_ops, .ref ht_listing_numbers, .ref ht_listing_heights, .int t_listing_size])), (ht_listing_ops, .inl (cI, 30, .inl t_listing_ops)), (ht_listing_numbers, .inl (cI, 30, .inl t_listing_numbers)), (ht_listing_heights, .inl (cI, (30 + 1), .inl t_listing_heights))]) hS => ?_)
          refine lv_goto (tgt := 75) hx hb d_S_code_64 (by decide) ?_
          cases h
          exact gr_i hx hb hr hlocks hK hP hD hS d_S_code_75
      · have h := g_t ec h
        refine lv_iload_n hx hb d_S_code_16 rfl (lv_at hl 1 rfl) ?_
        refine lv_aload_n hx hb d_S_code_17 rfl (lv_at hl 0 rfl) ?_
        refine va_get (D := D) (ci := 5) (v := .ref ht_listing) (C := R_S) (T := F_S) (N := 6) hx hb hts u_S hown hK hP 0 rfl rfl 0 (by decide) f_14 (fun _ h9 => h9) rfl d_S_code_18 ?_
        obtain ⟨q3, hc, h⟩ := g_bd h
        refine gk_i (va_runV (As := []) (rest := [.int a1]) ⟨hx, hb, hml, hown, hts⟩ (c_Listing_size l D cI cC ht_listing ht_listing_ops ht_listing_numbers ht_listing_heights t_listing_size q3 hc _) (cwV 0 hts (gG_V mt_1_194 mt_1_195 mt_1_196 mt_1_2 mt_1_197) rfl rfl rfl (by decide +kernel) ⟨Nat.le_of_ble_eq_true rfl, Nat.le_of_ble_eq_true rfl⟩) (gpV hK hP hD [1] rfl (by decide) (ci := 2) 1 rfl rfl) rfl rfl hl.1 rfl (lv_room (Nat.le_of_ble_eq_true rfl)) d_S_code_21 ⟨Nat.zero_le _, Nat.zero_le _⟩) hK hP hD hS hA [1] rfl (by decide) rfl rfl (fun H locs (hP : va_P D vwCl [(ht, .inr (5, [.ref ht_listing, .ref ht_draft, .ref ht_written, .ref ht_tree, .ref ht_machine, .int t_trouble])), (ht_listing, .inr (2, [.ref ht_listing_ops, .ref ht_listing_numbers, .ref ht_listing_heights, .int t_listing_size])), (ht_listing_ops, .inl (cI, 30, .inl t_listing_ops)), (ht_listing_numbers, .inl (cI, 30, .inl t_listing_numbers)), (ht_listing_heights, .inl (cI, (30 + 1), .inl t_listing_heights))] H) (hD : va_D A [(ht, .inr (5, [.ref ht_listing, .ref ht_draft, .ref ht_written, .ref ht_tree, .ref ht_machine, .int t_trouble])), (ht_listing, .inr (2, [.ref ht_listing_ops, .ref ht_listing_numbers, .ref ht_listing_heights, .int t_listing_size])), (ht_listing_ops, .inl (cI, 30, .inl t_listing_ops)), (ht_listing_numbers, .inl (cI, 30, .inl t_listing_numbers)), (ht_listing_heights, .inl (cI, (30 + 1), .inl t_listing_heights))]) hS => ?_)
        refine lv_icmp_eq (tgt := 38) hx hb d_S_code_24 (by decide) (fun ec => ?_) (fun ec => ?_)
        · have h := g_t ec h
          refine lv_aload_n hx hb d_S_code_38 rfl (lv_at hl 0 rfl) ?_
          refine va_get (D := D) (ci := 5) (v := .ref ht_listing) (C := R_S) (T := F_S) (N := 6) hx hb hts u_S hown hK hP 0 rfl rfl 0 (by decide) f_14 (fun _ h9 => h9) rfl d_S_code_39 ?_
          refine lv_iload_n hx hb d_S_code_42 rfl (lv_at hl 1 rfl) ?_
          obtain ⟨q4, hc, h⟩ := g_bd h
          refine gk_i (va_runV (As := [.int a1]) (rest := []) ⟨hx, hb, hml, hown, hts⟩ (c_Listing_heightBefore l D cI cC ht_listing ht_listing_ops ht_listing_numbers ht_listing_heights 30 t_listing_size t_listing_heights a1 q4 hc _) (cwV 1 hts (gG_V mt_1_228 mt_1_229 mt_1_230 mt_1_2 mt_1_231) rfl rfl rfl (by decide +kernel) ⟨Nat.le_of_ble_eq_true rfl, Nat.le_of_ble_eq_true rfl⟩) (gpV hK hP hD [1, 4] rfl (by decide) (ci := 2) 1 rfl rfl) rfl rfl hl.1 rfl (lv_room (Nat.le_of_ble_eq_true rfl)) d_S_code_43 ⟨Nat.zero_le _, Nat.zero_le _⟩) hK hP hD hS hA [1, 4] rfl (by decide) rfl rfl (fun H locs (hP : va_P D vwCl [(ht, .inr (5, [.ref ht_listing, .ref ht_draft, .ref ht_written, .ref ht_tree, .ref ht_machine, .int t_trouble])), (ht_listing, .inr (2, [.ref ht_listing_ops, .ref ht_listing_numbers, .ref ht_listing_heights, .int t_listing_size])), (ht_listing_ops, .inl (cI, 30, .inl t_listing_ops)), (ht_listing_numbers, .inl (cI, 30, .inl t_listing_numbers)), (ht_listing_heights, .inl (cI, (30 + 1), .inl t_listing_heights))] H) (hD : va_D A [(ht, .inr (5, [.ref ht_listing, .ref ht_draft, .ref ht_written, .ref ht_tree, .ref ht_machine, .int t_trouble])), (ht_listing, .inr (2, [.ref ht_listing_ops, .ref ht_listing_numbers, .ref ht_listing_heights, .int t_listing_size])), (ht_listing_ops, .inl (cI, 30, .inl t_listing_ops)), (ht_listing_numbers, .inl (cI, 30, .inl t_listing_numbers)), (ht_listing_heights, .inl (cI, (30 + 1), .inl t_listing_heights))]) hS => ?_)
          refine lv_goto (tgt := 51) hx hb d_S_code_46 (by decide) ?_
          cases h
          exact gr_i hx hb hr hlocks hK hP hD hS d_S_code_51
        · have h := g_f ec h
          refine lv_aload_n hx hb d_S_code_27 rfl (lv_at hl 0 rfl) ?_
          refine va_get (D := D) (ci := 5) (v := .ref ht_listing) (C := R_S) (T := F_S) (N := 6) hx hb hts u_S hown hK hP 0 rfl rfl 0 (by decide) f_14 (fun _ h9 => h9) rfl d_S_code_28 ?_
          refine lv_iload_n hx hb d_S_code_31 rfl (lv_at hl 1 rfl) ?_
          obtain ⟨q5, hc, h⟩ := g_bd h
          refine gk_i (va_runV (As := [.int a1]) (rest := []) ⟨hx, hb, hml, hown, hts⟩ (c_Listing_holds l D cI cC ht_listing ht_listing_ops ht_listing_numbers ht_listing_heights t_listing_size a1 q5 hc _) (cwV 1 hts (gG_V mt_1_202 mt_1_188 mt_1_189 mt_1_2 mt_1_190) rfl rfl rfl (by decide +kernel) ⟨Nat.le_of_ble_eq_true rfl, Nat.le_of_ble_eq_true rfl⟩) (gpV hK hP hD [1] rfl (by decide) (ci := 2) 1 rfl rfl) rfl rfl hl.1 rfl (lv_room (Nat.le_of_ble_eq_true rfl)) d_S_code_32 ⟨Nat.zero_le _, Nat.zero_le _⟩) hK hP hD hS hA [1] rfl (by decide) rfl rfl (fun H locs (hP : va_P D vwCl [(ht, .inr (5, [.ref ht_listing, .ref ht_draft, .ref ht_written, .ref ht_tree, .ref ht_machine, .int t_trouble])), (ht_listing, .inr (2, [.ref ht_listing_ops, .ref ht_listing_numbers, .ref ht_listing_heights, .int t_listing_size])), (ht_listing_ops, .inl (cI, 30, .inl t_listing_ops)), (ht_listing_numbers, .inl (cI, 30, .inl t_listing_numbers)), (ht_listing_heights, .inl (cI, (30 + 1), .inl t_listing_heights))] H) (hD : va_D A [(ht, .inr (5, [.ref ht_listing, .ref ht_draft, .ref ht_written, .ref ht_tree, .ref ht_machine, .int t_trouble])), (ht_listing, .inr (2, [.ref ht_listing_ops, .ref ht_listing_numbers, .ref ht_listing_heights, .int t_listing_size])), (ht_listing_ops, .inl (cI, 30, .inl t_listing_ops)), (ht_listing_numbers, .inl (cI, 30, .inl t_listing_numbers)), (ht_listing_heights, .inl (cI, (30 + 1), .inl t_listing_heights))]) hS => ?_)
          refine lv_if_eq (tgt := 49) hx hb d_S_code_35 (by decide) (fun ec => ?_) (fun ec => ?_)
          · have h := g_t ec h
            refine lv_bipush (v := (-2 : Int32)) hx hb d_S_code_49 (by decide) ?_
            cases h
            exact gr_i hx hb hr hlocks hK hP hD hS d_S_code_51
          · have h := g_f ec h
            refine lv_aload_n hx hb d_S_code_38 rfl (lv_at hl 0 rfl) ?_
            refine va_get (D := D) (ci := 5) (v := .ref ht_listing) (C := R_S) (T := F_S) (N := 6) hx hb hts u_S hown hK hP 0 rfl rfl 0 (by decide) f_14 (fun _ h9 => h9) rfl d_S_code_39 ?_
            refine lv_iload_n hx hb d_S_code_42 rfl (lv_at hl 1 rfl) ?_
            obtain ⟨q6, hc, h⟩ := g_bd h
            refine gk_i (va_runV (As := [.int a1]) (rest := []) ⟨hx, hb, hml, hown, hts⟩ (c_Listing_heightBefore l D cI cC ht_listing ht_listing_ops ht_listing_numbers ht_listing_heights 30 t_listing_size t_listing_heights a1 q6 hc _) (cwV 1 hts (gG_V mt_1_228 mt_1_229 mt_1_230 mt_1_2 mt_1_231) rfl rfl rfl (by decide +kernel) ⟨Nat.le_of_ble_eq_true rfl, Nat.le_of_ble_eq_true rfl⟩) (gpV hK hP hD [1, 4] rfl (by decide) (ci := 2) 1 rfl rfl) rfl rfl hl.1 rfl (lv_room (Nat.le_of_ble_eq_true rfl)) d_S_code_43 ⟨Nat.zero_le _, Nat.zero_le _⟩) hK hP hD hS hA [1, 4] rfl (by decide) rfl rfl (fun H locs (hP : va_P D vwCl [(ht, .inr (5, [.ref ht_listing, .ref ht_draft, .ref ht_written, .ref ht_tree, .ref ht_machine, .int t_trouble])), (ht_listing, .inr (2, [.ref ht_listing_ops, .ref ht_listing_numbers, .ref ht_listing_heights, .int t_listing_size])), (ht_listing_ops, .inl (cI, 30, .inl t_listing_ops)), (ht_listing_numbers, .inl (cI, 30, .inl t_listing_numbers)), (ht_listing_heights, .inl (cI, (30 + 1), .inl t_listing_heights))] H) (hD : va_D A [(ht, .inr (5, [.ref ht_listing, .ref ht_draft, .ref ht_written, .ref ht_tree, .ref ht_machine, .int t_trouble])), (ht_listing, .inr (2, [.ref ht_listing_ops, .ref ht_listing_numbers, .ref ht_listing_heights, .int t_listing_size])), (ht_listing_ops, .inl (cI, 30, .inl t_listing_ops)), (ht_listing_numbers, .inl (cI, 30, .inl t_listing_numbers)), (ht_listing_heights, .inl (cI, (30 + 1), .inl t_listing_heights))]) hS => ?_)
            refine lv_goto (tgt := 51) hx hb d_S_code_46 (by decide) ?_
            cases h
            exact gr_i hx hb hr hlocks hK hP hD hS d_S_code_51
    · have h := g_f ec h
      refine lv_iconst (v := (-1 : Int32)) hx hb d_S_code_9 (by decide) ?_
      cases h
      exact gr_i hx hb hr hlocks hK hP hD hS d_S_code_10
def K_Listing_isLanding (l : Launch) (D : va_G) (cI cC : ClassId) : Prop :=
  ∀ (ht ht_ops ht_numbers ht_heights : Nat) (t_R : Nat) (t_size : Int32) (t_heights : Nat → Int32) (a1 : Int32) (q : Int32), g_Listing_isLanding t_R t_heights t_size a1 = some q → ∀ (sz : Nat), Met l y_Listing_isLanding w_Listing_isLanding ({ frames := 1, cells := 0, slots := 0, locals := 21 }) (va_Pc [.ref ht, .int a1] (gB D (gT cI cC) [(ht, .inr (2, [.ref ht_ops, .ref ht_numbers, .ref ht_heights, .int t_size])), (ht_heights, .inl (cI, (t_R + 1), .inl t_heights))] sz)) (gQi D (gT cI cC) q [(ht, .inr (2, [.ref ht_ops, .ref ht_numbers, .ref ht_heights, .int t_size])), (ht_heights, .inl (cI, (t_R + 1), .inl t_heights))] (va_A [(ht, .inr (2, [.ref ht_ops, .ref ht_numbers, .ref ht_heights, .int t_size])), (ht_heights, .inl (cI, (t_R + 1), .inl t_heights))] sz)) 0 0 (va_A [(ht, .inr (2, [.ref ht_ops, .ref ht_numbers, .ref ht_heights, .int t_size])), (ht_heights, .inl (cI, (t_R + 1), .inl t_heights))] sz)
set_option maxHeartbeats 4000000 in
set_option maxRecDepth 100000 in
theorem c_Listing_isLanding (l : Launch) (D : va_G) (cI cC : ClassId) : K_Listing_isLanding l D cI cC := by
  intro ht ht_ops ht_numbers ht_heights t_R t_size t_heights a1 q h sz
  refine Met.ofW (cc := k_Listing_isLanding) (maxL := 2) (ret := (some .boolean)) (by decide) rfl ?_
  intro p e s m args below meth c s₁ B hml hv
  obtain ⟨rfl, hsz, hP, hK, hD0⟩ := hv
  have hx := B.exec
  have hb := B.bytes
  have hr := B.returns
  have hts : ∀ w ∈ lw_t, w.before ([.ref ht, .int a1] : List Value).toArray s = true := fun w h => atoms_spec (ws := w_Listing_isLanding) B.pre w (List.mem_cons_of_mem _ h)
  have hown : s.vm.findClass R_Listing = some m.cls := findClass_of_methodNamed B.named
  have hlocks := B.notSynchronized
  subst hsz
  have hD := hD0.self (sz := s.heap.size)
  generalize hAe : va_A [(ht, .inr (2, [.ref ht_ops, .ref ht_numbers, .ref ht_heights, .int t_size])), (ht_heights, .inl (cI, (t_R + 1), .inl t_heights))] s.heap.size = A at hD ⊢
  have hA : ∀ q : Nat, s.heap.size ≤ q → A q := fun q h => by rw [← hAe]; exact Or.inr h
  have hS : va_S A s.heap s.heap [] := va_S.rf
  have f_21 := hts _ mt_1_29
  have hP : va_P D vwCl [(ht, .inr (2, [.ref ht_ops, .ref ht_numbers, .ref ht_heights, .int t_size])), (ht_heights, .inl (cI, (t_R + 1), .inl t_heights))] s.heap := hP
  have hl := lv_entry ([.ref ht, .int a1]) (n := 2) (Nat.le_of_ble_eq_true rfl)
  rw [lg_entry_eq]
  generalize (lg_sl ([.ref ht, .int a1]) ++ List.replicate (2 - (lg_sl ([.ref ht, .int a1])).length) Slot.unset).toArray = ls at hl ⊢
  have hl : lv_has ls 2 [(0, .ref ht), (1, .int a1)] := hl
  unfold g_Listing_isLanding at h
  refine lv_iload_n hx hb d_Listing_isLanding_0 rfl (lv_at hl 1 rfl) ?_
  refine lv_aload_n hx hb d_Listing_isLanding_1 rfl (lv_at hl 0 rfl) ?_
  refine va_get (D := D) (ci := 2) (v := .int t_size) (C := R_Listing) (T := F_Listing) (N := 4) hx hb hts u_Listing hown hK hP 0 rfl rfl 3 (by decide) f_21 (fun _ h9 => h9) rfl d_Listing_isLanding_2 ?_
  refine lv_icmp_gt (tgt := 20) hx hb d_Listing_isLanding_5 (by decide) (fun ec => ?_) (fun ec => ?_)
  · have h := g_t ec h
    refine lv_iconst (v := (0 : Int32)) hx hb d_Listing_isLanding_20 (by decide) ?_
    cases h
    exact gr_z (v := (0 : Int32)) (by decide) hx hb hr hlocks hK hP hD hS d_Listing_isLanding_21
  · have h := g_f ec h
    refine lv_aload_n hx hb d_Listing_isLanding_8 rfl (lv_at hl 0 rfl) ?_
    refine lv_iload_n hx hb d_Listing_isLanding_9 rfl (lv_at hl 1 rfl) ?_
    obtain ⟨q1, hc, h⟩ := g_bd h
    refine gk_i (va_runV (As := [.int a1]) (rest := []) ⟨hx, hb, hml, hown, hts⟩ (c_Listing_heightBefore l D cI cC ht ht_ops ht_numbers ht_heights t_R t_size t_heights a1 q1 hc _) (cwV 1 hts (gG_V mt_2_12 mt_1_229 mt_1_230 mt_1_2 mt_1_231) rfl rfl rfl (by decide +kernel) ⟨Nat.le_of_ble_eq_true rfl, Nat.le_of_ble_eq_true rfl⟩) (gpV hK hP hD [0, 1] rfl (by decide) (ci := 2) 0 rfl rfl) rfl rfl hl.1 rfl (lv_room (Nat.le_of_ble_eq_true rfl)) d_Listing_isLanding_10 ⟨Nat.zero_le _, Nat.zero_le _⟩) hK hP hD hS hA [0, 1] rfl (by decide) rfl rfl (fun H locs (hP : va_P D vwCl [(ht, .inr (2, [.ref ht_ops, .ref ht_numbers, .ref ht_heights, .int t_size])), (ht_heights, .inl (cI, (t_R + 1), .inl t_heights))] H) (hD : va_D A [(ht, .inr (2, [.ref ht_ops, .ref ht_numbers, .ref ht_heights, .int t_size])), (ht_heights, .inl (cI, (t_R + 1), .inl t_heights))]) hS => ?_)
    refine lv_if_ne (tgt := 20) hx hb d_Listing_isLanding_13 (by decide) (fun ec => ?_) (fun ec => ?_)
    · have h := g_f ec h
      refine lv_iconst (v := (0 : Int32)) hx hb d_Listing_isLanding_20 (by decide) ?_
      cases h
      exact gr_z (v := (0 : Int32)) (by decide) hx hb hr hlocks hK hP hD hS d_Listing_isLanding_21
    · have h := g_t ec h
      refine lv_iconst (v := (1 : Int32)) hx hb d_Listing_isLanding_16 (by decide) ?_
      refine lv_goto (tgt := 21) hx hb d_Listing_isLanding_17 (by decide) ?_
      cases h
      exact gr_z (v := (1 : Int32)) (by decide) hx hb hr hlocks hK hP hD hS d_Listing_isLanding_21
def K_Listing_isWrong (l : Launch) (D : va_G) (cI cC : ClassId) : Prop :=
  ∀ (ht ht_ops ht_numbers ht_heights : Nat) (t_R : Nat) (t_size : Int32) (t_ops : Nat → Int32) (t_numbers : Nat → Int32) (t_heights : Nat → Int32) (a1 : Int32) (q : Int32), g_Listing_isWrong t_R t_ops t_numbers t_heights t_size a1 = some q → ∀ (sz : Nat), Met l y_Listing_isWrong w_Listing_isWrong ({ frames := 2, cells := 0, slots := 0, locals := 42 }) (va_Pc [.ref ht, .int a1] (gB D (gT cI cC) [(ht, .inr (2, [.ref ht_ops, .ref ht_numbers, .ref ht_heights, .int t_size])), (ht_ops, .inl (cI, t_R, .inl t_ops)), (ht_numbers, .inl (cI, t_R, .inl t_numbers)), (ht_heights, .inl (cI, (t_R + 1), .inl t_heights))] sz)) (gQi D (gT cI cC) q [(ht, .inr (2, [.ref ht_ops, .ref ht_numbers, .ref ht_heights, .int t_size])), (ht_ops, .inl (cI, t_R, .inl t_ops)), (ht_numbers, .inl (cI, t_R, .inl t_numbers)), (ht_heights, .inl (cI, (t_R + 1), .inl t_heights))] (va_A [(ht, .inr (2, [.ref ht_ops, .ref ht_numbers, .ref ht_heights, .int t_size])), (ht_ops, .inl (cI, t_R, .inl t_ops)), (ht_numbers, .inl (cI, t_R, .inl t_numbers)), (ht_heights, .inl (cI, (t_R + 1), .inl t_heights))] sz)) 0 0 (va_A [(ht, .inr (2, [.ref ht_ops, .ref ht_numbers, .ref ht_heights, .int t_size])), (ht_ops, .inl (cI, t_R, .inl t_ops)), (ht_numbers, .inl (cI, t_R, .inl t_numbers)), (ht_heights, .inl (cI, (t_R + 1), .inl t_heights))] sz)
set_option maxHeartbeats 4000000 in
set_option maxRecDepth 100000 in
theorem c_Listing_isWrong (l : Launch) (D : va_G) (cI cC : ClassId) : K_Listing_isWrong l D cI cC := by
  intro ht ht_ops ht_numbers ht_heights t_R t_size t_ops t_numbers t_heights a1 q h sz
  refine Met.ofW (cc := k_Listing_isWrong) (maxL := 3) (ret := (some .boolean)) (by decide) rfl ?_
  intro p e s m args below meth c s₁ B hml hv
  obtain ⟨rfl, hsz, hP, hK, hD0⟩ := hv
  have hx := B.exec
  have hb := B.bytes
  have hr := B.returns
  have hts : ∀ w ∈ lw_t, w.before ([.ref ht, .int a1] : List Value).toArray s = true := fun w h => atoms_spec (ws := w_Listing_isWrong) B.pre w (List.mem_cons_of_mem _ h)
  have hown : s.vm.findClass R_Listing = some m.cls := findClass_of_methodNamed B.named
  have hlocks := B.notSynchronized
  subst hsz
  have hD := hD0.self (sz := s.heap.size)
  generalize hAe : va_A [(ht, .inr (2, [.ref ht_ops, .ref ht_numbers, .ref ht_heights, .int t_size])), (ht_ops, .inl (cI, t_R, .inl t_ops)), (ht_numbers, .inl (cI, t_R, .inl t_numbers)), (ht_heights, .inl (cI, (t_R + 1), .inl t_heights))] s.heap.size = A at hD ⊢
  have hA : ∀ q : Nat, s.heap.size ≤ q → A q := fun q h => by rw [← hAe]; exact Or.inr h
  have hS : va_S A s.heap s.heap [] := va_S.rf
  have hP : va_P D vwCl [(ht, .inr (2, [.ref ht_ops, .ref ht_numbers, .ref ht_heights, .int t_size])), (ht_ops, .inl (cI, t_R, .inl t_ops)), (ht_numbers, .inl (cI, t_R, .inl t_numbers)), (ht_heights, .inl (cI, (t_R + 1), .inl t_heights))] s.heap := hP
  have hl := lv_entry ([.ref ht, .int a1]) (n := 3) (Nat.le_of_ble_eq_true rfl)
  rw [lg_entry_eq]
  generalize (lg_sl ([.ref ht, .int a1]) ++ List.replicate (3 - (lg_sl ([.ref ht, .int a1])).length) Slot.unset).toArray = ls at hl ⊢
  have hl : lv_has ls 3 [(0, .ref ht), (1, .int a1)] := hl
  unfold g_Listing_isWrong at h
  refine lv_aload_n hx hb d_Listing_isWrong_0 rfl (lv_at hl 0 rfl) ?_
  refine lv_iload_n hx hb d_Listing_isWrong_1 rfl (lv_at hl 1 rfl) ?_
  obtain ⟨q1, hc, h⟩ := g_bd h
  refine gk_i (va_runV (As := [.int a1]) (rest := []) ⟨hx, hb, hml, hown, hts⟩ (c_Listing_heightBefore l D cI cC ht ht_ops ht_numbers ht_heights t_R t_size t_heights a1 q1 hc _) (cwV 1 hts (gG_V mt_2_12 mt_1_229 mt_1_230 mt_1_2 mt_1_231) rfl rfl rfl (by decide +kernel) ⟨Nat.le_of_ble_eq_true rfl, Nat.le_of_ble_eq_true rfl⟩) (gpV hK hP hD [0, 3] rfl (by decide) (ci := 2) 0 rfl rfl) rfl rfl hl.1 rfl (lv_room (Nat.le_of_ble_eq_true rfl)) d_Listing_isWrong_2 ⟨Nat.zero_le _, Nat.zero_le _⟩) hK hP hD hS hA [0, 3] rfl (by decide) rfl rfl (fun H locs (hP : va_P D vwCl [(ht, .inr (2, [.ref ht_ops, .ref ht_numbers, .ref ht_heights, .int t_size])), (ht_ops, .inl (cI, t_R, .inl t_ops)), (ht_numbers, .inl (cI, t_R, .inl t_numbers)), (ht_heights, .inl (cI, (t_R + 1), .inl t_heights))] H) (hD : va_D A [(ht, .inr (2, [.ref ht_ops, .ref ht_numbers, .ref ht_heights, .int t_size])), (ht_ops, .inl (cI, t_R, .inl t_ops)), (ht_numbers, .inl (cI, t_R, .inl t_numbers)), (ht_heights, .inl (cI, (t_R + 1), .inl t_heights))]) hS => ?_)
  refine lv_istore_n (lv' := [(2, .int q1), (0, .ref ht), (1, .int a1)]) hx hb d_Listing_isWrong_5 rfl hl (by decide) rfl (fun ls hl => ?_)
  refine lv_aload_n hx hb d_Listing_isWrong_6 rfl (lv_at hl 1 rfl) ?_
  refine lv_iload_n hx hb d_Listing_isWrong_7 rfl (lv_at hl 2 rfl) ?_
  obtain ⟨q2, hc, h⟩ := g_bd h
  refine gk_i (va_runV (As := [.int a1]) (rest := []) ⟨hx, hb, hml, hown, hts⟩ (c_Listing_op l D cI cC ht ht_ops ht_numbers ht_heights t_R t_size t_ops a1 q2 hc _) (cwV 1 hts (gG_V mt_2_13 mt_1_233 mt_1_234 mt_1_2 mt_1_235) rfl rfl rfl (by decide +kernel) ⟨Nat.le_of_ble_eq_true rfl, Nat.le_of_ble_eq_true rfl⟩) (gpV hK hP hD [0, 1] rfl (by decide) (ci := 2) 0 rfl rfl) rfl rfl hl.1 rfl (lv_room (Nat.le_of_ble_eq_true rfl)) d_Listing_isWrong_8 ⟨Nat.zero_le _, Nat.zero_le _⟩) hK hP hD hS hA [0, 1] rfl (by decide) rfl rfl (fun H locs (hP : va_P D vwCl [(ht, .inr (2, [.ref ht_ops, .ref ht_numbers, .ref ht_heights, .int t_size])), (ht_ops, .inl (cI, t_R, .inl t_ops)), (ht_numbers, .inl (cI, t_R, .inl t_numbers)), (ht_heights, .inl (cI, (t_R + 1), .inl t_heights))] H) (hD : va_D A [(ht, .inr (2, [.ref ht_ops, .ref ht_numbers, .ref ht_heights, .int t_size])), (ht_ops, .inl (cI, t_R, .inl t_ops)), (ht_numbers, .inl (cI, t_R, .inl t_numbers)), (ht_heights, .inl (cI, (t_R + 1), .inl t_heights))]) hS => ?_)
  by_cases e_0 : q2 = (0 : Int32)
  · have h := g_t e_0 h
    have ei : (q2).toInt = 0 := by rw [e_0]; decide
    refine lv_tableIn (tgt := 64) (off := 53) hx hb d_Listing_isWrong_11 (by rw [ei]; decide) (by rw [ei]; decide) (by rw [ei]; rfl) (by decide) ?_
    refine lv_iload_n hx hb d_Listing_isWrong_64 rfl (lv_at hl 0 rfl) ?_
    refine lv_bipush (v := (8 : Int32)) hx hb d_Listing_isWrong_65 (by decide) ?_
    refine lv_icmp_lt (tgt := 74) hx hb d_Listing_isWrong_67 (by decide) (fun ec => ?_) (fun ec => ?_)
    · have h := g_t ec h
      refine lv_iconst (v := (0 : Int32)) hx hb d_Listing_isWrong_74 (by decide) ?_
      cases h
      exact gr_z (v := (0 : Int32)) (by decide) hx hb hr hlocks hK hP hD hS d_Listing_isWrong_75
    · have h := g_f ec h
      refine lv_iconst (v := (1 : Int32)) hx hb d_Listing_isWrong_70 (by decide) ?_
      refine lv_goto (tgt := 75) hx hb d_Listing_isWrong_71 (by decide) ?_
      cases h
      exact gr_z (v := (1 : Int32)) (by decide) hx hb hr hlocks hK hP hD hS d_Listing_isWrong_75
  · have h := g_f e_0 h
    have n_0 := lv_neT (a := 0) e_0 (by decide)
    by_cases e_1 : q2 = (1 : Int32)
    · have h := g_t e_1 h
      have ei : (q2).toInt = 1 := by rw [e_1]; decide
      refine lv_tableIn (tgt := 64) (off := 53) hx hb d_Listing_isWrong_11 (by rw [ei]; decide) (by rw [ei]; decide) (by rw [ei]; rfl) (by decide) ?_
      refine lv_iload_n hx hb d_Listing_isWrong_64 rfl (lv_at hl 0 rfl) ?_
      refine lv_bipush (v := (8 : Int32)) hx hb d_Listing_isWrong_65 (by decide) ?_
      refine lv_icmp_lt (tgt := 74) hx hb d_Listing_isWrong_67 (by decide) (fun ec => ?_) (fun ec => ?_)
      · have h := g_t ec h
        refine lv_iconst (v := (0 : Int32)) hx hb d_Listing_isWrong_74 (by decide) ?_
        cases h
        exact gr_z (v := (0 : Int32)) (by decide) hx hb hr hlocks hK hP hD hS d_Listing_isWrong_75
      · have h := g_f ec h
        refine lv_iconst (v := (1 : Int32)) hx hb d_Listing_isWrong_70 (by decide) ?_
        refine lv_goto (tgt := 75) hx hb d_Listing_isWrong_71 (by decide) ?_
        cases h
        exact gr_z (v := (1 : Int32)) (by decide) hx hb hr hlocks hK hP hD hS d_Listing_isWrong_75
    · have h := g_f e_1 h
      have n_1 := lv_neT (a := 1) e_1 (by decide)
      by_cases e_3 : q2 = (3 : Int32)
      · have h := g_t e_3 h
        have ei : (q2).toInt = 3 := by rw [e_3]; decide
        refine lv_tableIn (tgt := 76) (off := 65) hx hb d_Listing_isWrong_11 (by rw [ei]; decide) (by rw [ei]; decide) (by rw [ei]; rfl) (by decide) ?_
        refine lv_iload_n hx hb d_Listing_isWrong_76 rfl (lv_at hl 0 rfl) ?_
        refine lv_iconst (v := (2 : Int32)) hx hb d_Listing_isWrong_77 (by decide) ?_
        refine lv_icmp_ge (tgt := 85) hx hb d_Listing_isWrong_78 (by decide) (fun ec => ?_) (fun ec => ?_)
        · have h := g_t ec h
          refine lv_iconst (v := (0 : Int32)) hx hb d_Listing_isWrong_85 (by decide) ?_
          cases h
          exact gr_z (v := (0 : Int32)) (by decide) hx hb hr hlocks hK hP hD hS d_Listing_isWrong_86
        · have h := g_f ec h
          refine lv_iconst (v := (1 : Int32)) hx hb d_Listing_isWrong_81 (by decide) ?_
          refine lv_goto (tgt := 86) hx hb d_Listing_isWrong_82 (by decide) ?_
          cases h
          exact gr_z (v := (1 : Int32)) (by decide) hx hb hr hlocks hK hP hD hS d_Listing_isWrong_86
      · have h := g_f e_3 h
        have n_3 := lv_neT (a := 3) e_3 (by decide)
        by_cases e_4 : q2 = (4 : Int32)
        · have h := g_t e_4 h
          have ei : (q2).toInt = 4 := by rw [e_4]; decide
          refine lv_tableIn (tgt := 76) (off := 65) hx hb d_Listing_isWrong_11 (by rw [ei]; decide) (by rw [ei]; decide) (by rw [ei]; rfl) (by decide) ?_
          refine lv_iload_n hx hb d_Listing_isWrong_76 rfl (lv_at hl 0 rfl) ?_
          refine lv_iconst (v := (2 : Int32)) hx hb d_Listing_isWrong_77 (by decide) ?_
          refine lv_icmp_ge (tgt := 85) hx hb d_Listing_isWrong_78 (by decide) (fun ec => ?_) (fun ec => ?_)
          · have h := g_t ec h
            refine lv_iconst (v := (0 : Int32)) hx hb d_Listing_isWrong_85 (by decide) ?_
            cases h
            exact gr_z (v := (0 : Int32)) (by decide) hx hb hr hlocks hK hP hD hS d_Listing_isWrong_86
          · have h := g_f ec h
            refine lv_iconst (v := (1 : Int32)) hx hb d_Listing_isWrong_81 (by decide) ?_
            refine lv_goto (tgt := 86) hx hb d_Listing_isWrong_82 (by decide) ?_
            cases h
            exact gr_z (v := (1 : Int32)) (by decide) hx hb hr hlocks hK hP hD hS d_Listing_isWrong_86
        · have h := g_f e_4 h
          have n_4 := lv_neT (a := 4) e_4 (by decide)
          by_cases e_5 : q2 = (5 : Int32)
          · have h := g_t e_5 h
            have ei : (q2).toInt = 5 := by rw [e_5]; decide
            refine lv_tableIn (tgt := 76) (off := 65) hx hb d_Listing_isWrong_11 (by rw [ei]; decide) (by rw [ei]; decide) (by rw [ei]; rfl) (by decide) ?_
            refine lv_iload_n hx hb d_Listing_isWrong_76 rfl (lv_at hl 0 rfl) ?_
            refine lv_iconst (v := (2 : Int32)) hx hb d_Listing_isWrong_77 (by decide) ?_
            refine lv_icmp_ge (tgt := 85) hx hb d_Listing_isWrong_78 (by decide) (fun ec => ?_) (fun ec => ?_)
            · have h := g_t ec h
              refine lv_iconst (v := (0 : Int32)) hx hb d_Listing_isWrong_85 (by decide) ?_
              cases h
              exact gr_z (v := (0 : Int32)) (by decide) hx hb hr hlocks hK hP hD hS d_Listing_isWrong_86
            · have h := g_f ec h
              refine lv_iconst (v := (1 : Int32)) hx hb d_Listing_isWrong_81 (by decide) ?_
              refine lv_goto (tgt := 86) hx hb d_Listing_isWrong_82 (by decide) ?_
              cases h
              exact gr_z (v := (1 : Int32)) (by decide) hx hb hr hlocks hK hP hD hS d_Listing_isWrong_86
          · have h := g_f e_5 h
            have n_5 := lv_neT (a := 5) e_5 (by decide)
            by_cases e_6 : q2 = (6 : Int32)
            · have h := g_t e_6 h
              have ei : (q2).toInt = 6 := by rw [e_6]; decide
              refine lv_tableIn (tgt := 76) (off := 65) hx hb d_Listing_isWrong_11 (by rw [ei]; decide) (by rw [ei]; decide) (by rw [ei]; rfl) (by decide) ?_
              refine lv_iload_n hx hb d_Listing_isWrong_76 rfl (lv_at hl 0 rfl) ?_
              refine lv_iconst (v := (2 : Int32)) hx hb d_Listing_isWrong_77 (by decide) ?_
              refine lv_icmp_ge (tgt := 85) hx hb d_Listing_isWrong_78 (by decide) (fun ec => ?_) (fun ec => ?_)
              · have h := g_t ec h
                refine lv_iconst (v := (0 : Int32)) hx hb d_Listing_isWrong_85 (by decide) ?_
                cases h
                exact gr_z (v := (0 : Int32)) (by decide) hx hb hr hlocks hK hP hD hS d_Listing_isWrong_86
              · have h := g_f ec h
                refine lv_iconst (v := (1 : Int32)) hx hb d_Listing_isWrong_81 (by decide) ?_
                refine lv_goto (tgt := 86) hx hb d_Listing_isWrong_82 (by decide) ?_
                cases h
                exact gr_z (v := (1 : Int32)) (by decide) hx hb hr hlocks hK hP hD hS d_Listing_isWrong_86
            · have h := g_f e_6 h
              have n_6 := lv_neT (a := 6) e_6 (by decide)
              by_cases e_7 : q2 = (7 : Int32)
              · have h := g_t e_7 h
                have ei : (q2).toInt = 7 := by rw [e_7]; decide
                refine lv_tableIn (tgt := 87) (off := 76) hx hb d_Listing_isWrong_11 (by rw [ei]; decide) (by rw [ei]; decide) (by rw [ei]; rfl) (by decide) ?_
                refine lv_iload_n hx hb d_Listing_isWrong_87 rfl (lv_at hl 0 rfl) ?_
                refine lv_iconst (v := (1 : Int32)) hx hb d_Listing_isWrong_88 (by decide) ?_
                refine lv_icmp_ge (tgt := 96) hx hb d_Listing_isWrong_89 (by decide) (fun ec => ?_) (fun ec => ?_)
                · have h := g_t ec h
                  refine lv_iconst (v := (0 : Int32)) hx hb d_Listing_isWrong_96 (by decide) ?_
                  cases h
                  exact gr_z (v := (0 : Int32)) (by decide) hx hb hr hlocks hK hP hD hS d_Listing_isWrong_97
                · have h := g_f ec h
                  refine lv_iconst (v := (1 : Int32)) hx hb d_Listing_isWrong_92 (by decide) ?_
                  refine lv_goto (tgt := 97) hx hb d_Listing_isWrong_93 (by decide) ?_
                  cases h
                  exact gr_z (v := (1 : Int32)) (by decide) hx hb hr hlocks hK hP hD hS d_Listing_isWrong_97
              · have h := g_f e_7 h
                have n_7 := lv_neT (a := 7) e_7 (by decide)
                by_cases e_8 : q2 = (8 : Int32)
                · have h := g_t e_8 h
                  have ei : (q2).toInt = 8 := by rw [e_8]; decide
                  refine lv_tableIn (tgt := 98) (off := 87) hx hb d_Listing_isWrong_11 (by rw [ei]; decide) (by rw [ei]; decide) (by rw [ei]; rfl) (by decide) ?_
                  refine lv_iload_n hx hb d_Listing_isWrong_98 rfl (lv_at hl 0 rfl) ?_
                  refine lv_if_ne (tgt := 114) hx hb d_Listing_isWrong_99 (by decide) (fun ec => ?_) (fun ec => ?_)
                  · have h := g_f ec h
                    refine lv_iconst (v := (1 : Int32)) hx hb d_Listing_isWrong_114 (by decide) ?_
                    refine lv_goto (tgt := 119) hx hb d_Listing_isWrong_115 (by decide) ?_
                    cases h
                    exact gr_z (v := (1 : Int32)) (by decide) hx hb hr hlocks hK hP hD hS d_Listing_isWrong_119
                  · have h := g_t ec h
                    refine lv_aload_n hx hb d_Listing_isWrong_102 rfl (lv_at hl 1 rfl) ?_
                    refine lv_aload_n hx hb d_Listing_isWrong_103 rfl (lv_at hl 1 rfl) ?_
                    refine lv_iload_n hx hb d_Listing_isWrong_104 rfl (lv_at hl 2 rfl) ?_
                    obtain ⟨q3, hc, h⟩ := g_bd h
                    refine gk_i (va_runV (As := [.int a1]) (rest := [.ref ht]) ⟨hx, hb, hml, hown, hts⟩ (c_Listing_number l D cI cC ht ht_ops ht_numbers ht_heights t_R t_size t_numbers a1 q3 hc _) (cwV 1 hts (gG_V mt_2_14 mt_1_237 mt_1_238 mt_1_2 mt_1_239) rfl rfl rfl (by decide +kernel) ⟨Nat.le_of_ble_eq_true rfl, Nat.le_of_ble_eq_true rfl⟩) (gpV hK hP hD [0, 2] rfl (by decide) (ci := 2) 0 rfl rfl) rfl rfl hl.1 rfl (lv_room (Nat.le_of_ble_eq_true rfl)) d_Listing_isWrong_105 ⟨Nat.zero_le _, Nat.zero_le _⟩) hK hP hD hS hA [0, 2] rfl (by decide) rfl rfl (fun H locs (hP : va_P D vwCl [(ht, .inr (2, [.ref ht_ops, .ref ht_numbers, .ref ht_heights, .int t_size])), (ht_ops, .inl (cI, t_R, .inl t_ops)), (ht_numbers, .inl (cI, t_R, .inl t_numbers)), (ht_heights, .inl (cI, (t_R + 1), .inl t_heights))] H) (hD : va_D A [(ht, .inr (2, [.ref ht_ops, .ref ht_numbers, .ref ht_heights, .int t_size])), (ht_ops, .inl (cI, t_R, .inl t_ops)), (ht_numbers, .inl (cI, t_R, .inl t_numbers)), (ht_heights, .inl (cI, (t_R + 1), .inl t_heights))]) hS => ?_)
                    obtain ⟨q4, hc, h⟩ := g_bd h
                    refine gk_i (va_runV (As := [.int q3]) (rest := []) ⟨hx, hb, hml, hown, hts⟩ (c_Listing_isLanding l D cI cC ht ht_ops ht_numbers ht_heights t_R t_size t_heights q3 q4 hc _) (cwV 1 hts (gG_V mt_2_15 mt_2_17 mp_1 mt_1_2 mt_2_18) rfl rfl rfl (by decide +kernel) ⟨Nat.le_of_ble_eq_true rfl, Nat.le_of_ble_eq_true rfl⟩) (gpV hK hP hD [0, 3] rfl (by decide) (ci := 2) 0 rfl rfl) rfl rfl hl.1 rfl (lv_room (Nat.le_of_ble_eq_true rfl)) d_Listing_isWrong_108 ⟨Nat.zero_le _, Nat.zero_le _⟩) hK hP hD hS hA [0, 3] rfl (by decide) rfl rfl (fun H locs (hP : va_P D vwCl [(ht, .inr (2, [.ref ht_ops, .ref ht_numbers, .ref ht_heights, .int t_size])), (ht_ops, .inl (cI, t_R, .inl t_ops)), (ht_numbers, .inl (cI, t_R, .inl t_numbers)), (ht_heights, .inl (cI, (t_R + 1), .inl t_heights))] H) (hD : va_D A [(ht, .inr (2, [.ref ht_ops, .ref ht_numbers, .ref ht_heights, .int t_size])), (ht_ops, .inl (cI, t_R, .inl t_ops)), (ht_numbers, .inl (cI, t_R, .inl t_numbers)), (ht_heights, .inl (cI, (t_R + 1), .inl t_heights))]) hS => ?_)
                    refine lv_if_ne (tgt := 118) hx hb d_Listing_isWrong_111 (by decide) (fun ec => ?_) (fun ec => ?_)
                    · have h := g_f ec h
                      refine lv_iconst (v := (0 : Int32)) hx hb d_Listing_isWrong_118 (by decide) ?_
                      cases h
                      exact gr_z (v := (0 : Int32)) (by decide) hx hb hr hlocks hK hP hD hS d_Listing_isWrong_119
                    · have h := g_t ec h
                      refine lv_iconst (v := (1 : Int32)) hx hb d_Listing_isWrong_114 (by decide) ?_
                      refine lv_goto (tgt := 119) hx hb d_Listing_isWrong_115 (by decide) ?_
                      cases h
                      exact gr_z (v := (1 : Int32)) (by decide) hx hb hr hlocks hK hP hD hS d_Listing_isWrong_119
                · have h := g_f e_8 h
                  have n_8 := lv_neT (a := 8) e_8 (by decide)
                  by_cases e_9 : q2 = (9 : Int32)
                  · have h := g_t e_9 h
                    have ei : (q2).toInt = 9 := by rw [e_9]; decide
                    refine lv_tableIn (tgt := 120) (off := 109) hx hb d_Listing_isWrong_11 (by rw [ei]; decide) (by rw [ei]; decide) (by rw [ei]; rfl) (by decide) ?_
                    refine lv_iload_n hx hb d_Listing_isWrong_120 rfl (lv_at hl 0 rfl) ?_
                    refine lv_iconst (v := (1 : Int32)) hx hb d_Listing_isWrong_121 (by decide) ?_
                    refine lv_icmp_ne (tgt := 137) hx hb d_Listing_isWrong_122 (by decide) (fun ec => ?_) (fun ec => ?_)
                    · have h := g_f ec h
                      refine lv_iconst (v := (1 : Int32)) hx hb d_Listing_isWrong_137 (by decide) ?_
                      refine lv_goto (tgt := 142) hx hb d_Listing_isWrong_138 (by decide) ?_
                      cases h
                      exact gr_z (v := (1 : Int32)) (by decide) hx hb hr hlocks hK hP hD hS d_Listing_isWrong_142
                    · have h := g_t ec h
                      refine lv_aload_n hx hb d_Listing_isWrong_125 rfl (lv_at hl 1 rfl) ?_
                      refine lv_aload_n hx hb d_Listing_isWrong_126 rfl (lv_at hl 1 rfl) ?_
                      refine lv_iload_n hx hb d_Listing_isWrong_127 rfl (lv_at hl 2 rfl) ?_
                      obtain ⟨q5, hc, h⟩ := g_bd h
                      refine gk_i (va_runV (As := [.int a1]) (rest := [.ref ht]) ⟨hx, hb, hml, hown, hts⟩ (c_Listing_number l D cI cC ht ht_ops ht_numbers ht_heights t_R t_size t_numbers a1 q5 hc _) (cwV 1 hts (gG_V mt_2_14 mt_1_237 mt_1_238 mt_1_2 mt_1_239) rfl rfl rfl (by decide +kernel) ⟨Nat.le_of_ble_eq_true rfl, Nat.le_of_ble_eq_true rfl⟩) (gpV hK hP hD [0, 2] rfl (by decide) (ci := 2) 0 rfl rfl) rfl rfl hl.1 rfl (lv_room (Nat.le_of_ble_eq_true rfl)) d_Listing_isWrong_128 ⟨Nat.zero_le _, Nat.zero_le _⟩) hK hP hD hS hA [0, 2] rfl (by decide) rfl rfl (fun H locs (hP : va_P D vwCl [(ht, .inr (2, [.ref ht_ops, .ref ht_numbers, .ref ht_heights, .int t_size])), (ht_ops, .inl (cI, t_R, .inl t_ops)), (ht_numbers, .inl (cI, t_R, .inl t_numbers)), (ht_heights, .inl (cI, (t_R + 1), .inl t_heights))] H) (hD : va_D A [(ht, .inr (2, [.ref ht_ops, .ref ht_numbers, .ref ht_heights, .int t_size])), (ht_ops, .inl (cI, t_R, .inl t_ops)), (ht_numbers, .inl (cI, t_R, .inl t_numbers)), (ht_heights, .inl (cI, (t_R + 1), .inl t_heights))]) hS => ?_)
                      obtain ⟨q6, hc, h⟩ := g_bd h
                      refine gk_i (va_runV (As := [.int q5]) (rest := []) ⟨hx, hb, hml, hown, hts⟩ (c_Listing_isLanding l D cI cC ht ht_ops ht_numbers ht_heights t_R t_size t_heights q5 q6 hc _) (cwV 1 hts (gG_V mt_2_15 mt_2_17 mp_1 mt_1_2 mt_2_18) rfl rfl rfl (by decide +kernel) ⟨Nat.le_of_ble_eq_true rfl, Nat.le_of_ble_eq_true rfl⟩) (gpV hK hP hD [0, 3] rfl (by decide) (ci := 2) 0 rfl rfl) rfl rfl hl.1 rfl (lv_room (Nat.le_of_ble_eq_true rfl)) d_Listing_isWrong_131 ⟨Nat.zero_le _, Nat.zero_le _⟩) hK hP hD hS hA [0, 3] rfl (by decide) rfl rfl (fun H locs (hP : va_P D vwCl [(ht, .inr (2, [.ref ht_ops, .ref ht_numbers, .ref ht_heights, .int t_size])), (ht_ops, .inl (cI, t_R, .inl t_ops)), (ht_numbers, .inl (cI, t_R, .inl t_numbers)), (ht_heights, .inl (cI, (t_R + 1), .inl t_heights))] H) (hD : va_D A [(ht, .inr (2, [.ref ht_ops, .ref ht_numbers, .ref ht_heights, .int t_size])), (ht_ops, .inl (cI, t_R, .inl t_ops)), (ht_numbers, .inl (cI, t_R, .inl t_numbers)), (ht_heights, .inl (cI, (t_R + 1), .inl t_heights))]) hS => ?_)
                      refine lv_if_ne (tgt := 141) hx hb d_Listing_isWrong_134 (by decide) (fun ec => ?_) (fun ec => ?_)
                      · have h := g_f ec h
                        refine lv_iconst (v := (0 : Int32)) hx hb d_Listing_isWrong_141 (by decide) ?_
                        cases h
                        exact gr_z (v := (0 : Int32)) (by decide) hx hb hr hlocks hK hP hD hS d_Listing_isWrong_142
                      · have h := g_t ec h
                        refine lv_iconst (v := (1 : Int32)) hx hb d_Listing_isWrong_137 (by decide) ?_
                        refine lv_goto (tgt := 142) hx hb d_Listing_isWrong_138 (by decide) ?_
                        cases h
                        exact gr_z (v := (1 : Int32)) (by decide) hx hb hr hlocks hK hP hD hS d_Listing_isWrong_142
                  · have h := g_f e_9 h
                    have n_9 := lv_neT (a := 9) e_9 (by decide)
                    by_cases e_2 : q2 = (2 : Int32)
                    · have ei : (q2).toInt = 2 := by rw [e_2]; decide
                      refine lv_tableIn (tgt := 143) (off := 132) hx hb d_Listing_isWrong_11 (by rw [ei]; decide) (by rw [ei]; decide) (by rw [ei]; rfl) (by decide) ?_
                      refine lv_iload_n hx hb d_Listing_isWrong_143 rfl (lv_at hl 0 rfl) ?_
                      refine lv_iconst (v := (1 : Int32)) hx hb d_Listing_isWrong_144 (by decide) ?_
                      refine lv_icmp_eq (tgt := 152) hx hb d_Listing_isWrong_145 (by decide) (fun ec => ?_) (fun ec => ?_)
                      · have h := g_t ec h
                        refine lv_iconst (v := (0 : Int32)) hx hb d_Listing_isWrong_152 (by decide) ?_
                        cases h
                        exact gr_z (v := (0 : Int32)) (by decide) hx hb hr hlocks hK hP hD hS d_Listing_isWrong_153
                      · have h := g_f ec h
                        refine lv_iconst (v := (1 : Int32)) hx hb d_Listing_isWrong_148 (by decide) ?_
                        refine lv_goto (tgt := 153) hx hb d_Listing_isWrong_149 (by decide) ?_
                        cases h
                        exact gr_z (v := (1 : Int32)) (by decide) hx hb hr hlocks hK hP hD hS d_Listing_isWrong_153
                    · have n_2 := lv_neT (a := 2) e_2 (by decide)
                      refine lv_tableOut (tgt := 143) hx hb d_Listing_isWrong_11 (by omega) (by decide) ?_
                      refine lv_iload_n hx hb d_Listing_isWrong_143 rfl (lv_at hl 0 rfl) ?_
                      refine lv_iconst (v := (1 : Int32)) hx hb d_Listing_isWrong_144 (by decide) ?_
                      refine lv_icmp_eq (tgt := 152) hx hb d_Listing_isWrong_145 (by decide) (fun ec => ?_) (fun ec => ?_)
                      · have h := g_t ec h
                        refine lv_iconst (v := (0 : Int32)) hx hb d_Listing_isWrong_152 (by decide) ?_
                        cases h
                        exact gr_z (v := (0 : Int32)) (by decide) hx hb hr hlocks hK hP hD hS d_Listing_isWrong_153
                      · have h := g_f ec h
                        refine lv_iconst (v := (1 : Int32)) hx hb d_Listing_isWrong_148 (by decide) ?_
                        refine lv_goto (tgt := 153) hx hb d_Listing_isWrong_149 (by decide) ?_
                        cases h
                        exact gr_z (v := (1 : Int32)) (by decide) hx hb hr hlocks hK hP hD hS d_Listing_isWrong_153
