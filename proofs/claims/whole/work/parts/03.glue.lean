theorem gG {ws : List Cond} (h : ∀ w ∈ ws, w ∈ lw_t) : GoodIn lw_t ws := fun w hw => ⟨h w hw, good_of_word (List.mem_filter.mp (h w hw)).2⟩
theorem gG_I {c : Cond} (h : c ∈ lw_t) : GoodIn lw_t (c :: lw_t) := gG (fun w hw => by
  rcases List.mem_cons.mp hw with rfl | hw
  · exact h
  · exact hw)
theorem gG_V {own C : String} {idx : Nat} {y : MethodName} {c : Cond} (h1 : Cond.methodLink own idx y ∈ lw_t) (h2 : Cond.instanceMethod y ∈ lw_t) (h3 : Cond.selects C y y ∈ lw_t) (h4 : Cond.initialized C ∈ lw_t) (h5 : c ∈ lw_t) : GoodIn lw_t (wsV own idx C y (c :: lw_t)) := gG (fun w hw => by
  unfold wsV at hw
  simp only [List.cons_append, List.nil_append, List.mem_cons] at hw
  rcases hw with rfl | rfl | rfl | rfl | rfl | hw <;> assumption)
theorem gG_S {own : String} {idx : Nat} {y : MethodName} {c : Cond} (h1 : Cond.methodLink own idx y ∈ lw_t) (h2 : Cond.static y ∈ lw_t) (h4 : Cond.initialized y.cls ∈ lw_t) (h5 : c ∈ lw_t) : GoodIn lw_t (va_wsS own idx y (c :: lw_t)) := gG (fun w hw => by
  unfold va_wsS at hw
  simp only [List.cons_append, List.nil_append, List.mem_cons] at hw
  rcases hw with rfl | rfl | rfl | rfl | hw <;> assumption)
/-! GLUE: the shape that every contract here has, and the rows that lay calls, returns and the pure functions' branches over the kit's rows. -/
abbrev gT (cI cC : ClassId) : List (ClassId × FieldType) := [(cI, .int), (cC, .char)]
def gB (D : va_G) (tys : List (ClassId × FieldType)) (ws : va_W) (sz : Nat) (U : State) : Prop := U.heap.size = sz ∧ va_P D vwCl ws U.heap ∧ va_K D vwCl tys U ∧ va_D (fun _ => True) ws
def gE (D : va_G) (tys : List (ClassId × FieldType)) (ws : va_W) (A : Nat → Prop) (t : State) : Prop := va_P D vwCl ws t.heap ∧ va_K D vwCl tys t ∧ va_D A ws
def gQi (D : va_G) (tys : List (ClassId × FieldType)) (r : Int32) (ws : va_W) (A : Nat → Prop) : Array Value → State → Outcome → State → Prop := va_Qi (fun r' (_ : Unit) => r' = r) (fun _ t => gE D tys ws A t) A
def gQv (D : va_G) (tys : List (ClassId × FieldType)) (ws : va_W) (A : Nat → Prop) : Array Value → State → Outcome → State → Prop := va_Qv (fun (_ : Unit) => True) (fun _ t => gE D tys ws A t) A
def gQr (D : va_G) (tys : List (ClassId × FieldType)) (a : Nat) (ws : va_W) (A : Nat → Prop) : Array Value → State → Outcome → State → Prop := va_Qr (fun (_ : Unit) => True) (fun _ a' t => a' = a ∧ gE D tys ws A t) A
def gc (x : Int32) : Int32 := (x.toUInt32 % 65536).toInt32
def ck (i : Int32) (n : Nat) : Bool := decide (¬ (i < 0 ∨ n ≤ i.toNatClampNeg))
def cpok (ty : FieldType) (n0 n1 : Nat) (f : Nat → Int32) (sp dp n : Int32) : Bool := decide (¬ sp < 0) && (decide (¬ dp < 0) && (decide (¬ n < 0) && (decide (sp.toNatClampNeg + n.toNatClampNeg ≤ n0) && (decide (dp.toNatClampNeg + n.toNatClampNeg ≤ n1) && decide (∀ i, i < n.toNatClampNeg → fits ty (.int (f (sp.toNatClampNeg + i))) = true)))))
theorem cpok_in {ty : FieldType} {n0 n1 : Nat} {f : Nat → Int32} {sp dp n : Int32} (h : cpok ty n0 n1 f sp dp n = true) : (¬ sp < 0) ∧ (¬ dp < 0) ∧ (¬ n < 0) ∧ (sp.toNatClampNeg + n.toNatClampNeg ≤ n0) ∧ (dp.toNatClampNeg + n.toNatClampNeg ≤ n1) ∧ (∀ i, i < n.toNatClampNeg → fits ty (.int (f (sp.toNatClampNeg + i))) = true) := by
  unfold cpok at h
  simp only [Bool.and_eq_true, decide_eq_true_eq] at h
  exact h
theorem g_ck {α : Type} {i : Int32} {n : Nat} {A : Option α} {o : α} (h : (if ck i n = true then A else none) = some o) : vp_in i n ∧ A = some o := by
  by_cases hc : ck i n = true
  · rw [if_pos hc] at h
    exact ⟨of_decide_eq_true (p := ¬ (i < 0 ∨ n ≤ i.toNatClampNeg)) hc, h⟩
  · rw [if_neg hc] at h
    cases h
theorem g_gd {α : Type} {c : Prop} [Decidable c] {A : Option α} {o : α} (h : (if c then A else none) = some o) : c ∧ A = some o := by
  by_cases hc : c
  · rw [if_pos hc] at h
    exact ⟨hc, h⟩
  · rw [if_neg hc] at h
    cases h
theorem g_dz {α : Type} {c : Prop} [Decidable c] {A : Option α} {o : α} (h : (if c then none else A) = some o) : ¬ c ∧ A = some o := by
  by_cases hc : c
  · rw [if_pos hc] at h
    cases h
  · rw [if_neg hc] at h
    exact ⟨hc, h⟩
theorem g_t {α : Type} {c : Prop} [Decidable c] {A B : Option α} {o : α} (hc : c) (h : (if c then A else B) = some o) : A = some o := by
  rw [if_pos hc] at h
  exact h
theorem g_f {α : Type} {c : Prop} [Decidable c] {A B : Option α} {o : α} (hc : ¬ c) (h : (if c then A else B) = some o) : B = some o := by
  rw [if_neg hc] at h
  exact h
theorem g_bd {α β : Type} {x : Option α} {f : α → Option β} {o : β} (h : x.bind f = some o) : ∃ q, x = some q ∧ f q = some o := by
  cases x with
  | none => cases h
  | some q => exact ⟨q, rfl, h⟩
theorem g_no {α : Type} {o : α} {P : Prop} (h : (none : Option α) = some o) : P := by cases h
theorem g_zn {v : Int32} (h : v = 0 ∨ v = 1) : narrow .boolean (.int v) = .int v := by
  rcases h with rfl | rfl <;> decide
def gm : List Nat → va_W → va_W → va_W
  | [], _, ws => ws
  | i :: is, es, ws => match es with
    | [] => ws
    | e :: es => gm is es (ws.set i e)
theorem gm_get : ∀ (is : List Nat) (es ws : va_W) (k : Nat) (q : Nat × va_E), (gm is es ws)[k]? = some q → (ws[k]? = some q ∧ (is.length = es.length → k ∉ is)) ∨ ∃ j : Nat, es[j]? = some q
  | [], es, ws, k, q, h => Or.inl ⟨h, fun _ => List.not_mem_nil⟩
  | i :: is, [], ws, k, q, h => Or.inl ⟨h, fun hl => by cases hl⟩
  | i :: is, e :: es, ws, k, q, h => by
    rcases gm_get is es (ws.set i e) k q h with ⟨h1, h2⟩ | ⟨j, hj⟩
    · by_cases hk : i = k
      · subst hk
        have hlt : i < ws.length := by
          have := (List.getElem?_eq_some_iff.mp h1).1
          rw [List.length_set] at this
          exact this
        rw [List.getElem?_set_self hlt] at h1
        exact Or.inr ⟨0, h1⟩
      · rw [List.getElem?_set_ne hk] at h1
        refine Or.inl ⟨h1, fun hl hm => ?_⟩
        rcases List.mem_cons.mp hm with h3 | h3
        · exact hk h3.symm
        · exact h2 (Nat.succ.inj hl) h3
    · exact Or.inr ⟨j + 1, hj⟩
theorem gm_fst : ∀ (is : List Nat) (es ws : va_W), (∀ (j i : Nat) (e q : Nat × va_E), is[j]? = some i → es[j]? = some e → ws[i]? = some q → q.1 = e.1) → (gm is es ws).map Prod.fst = ws.map Prod.fst
  | [], _, _, _ => rfl
  | _ :: _, [], _, _ => rfl
  | i :: is, e :: es, ws, h => by
    have hset : (ws.set i e).map Prod.fst = ws.map Prod.fst := by
      apply List.ext_getElem?
      intro k
      rw [List.getElem?_map, List.getElem?_map]
      by_cases hk : i = k
      · subst hk
        by_cases hlt : i < ws.length
        · rw [List.getElem?_set_self hlt, List.getElem?_eq_getElem hlt]
          have := h 0 i e ws[i] rfl rfl (List.getElem?_eq_getElem hlt)
          simp [this]
        · rw [List.getElem?_eq_none (by rw [List.length_set]; omega), List.getElem?_eq_none (by omega)]
      · rw [List.getElem?_set_ne hk]
    have key := gm_fst is es (ws.set i e) (fun j i' e' q' h1 h2 h3 => by
      have h4 : (ws.map Prod.fst)[i']? = some q'.1 := by rw [← hset, List.getElem?_map, h3]; rfl
      rw [List.getElem?_map] at h4
      cases h5 : ws[i']? with
      | none => rw [h5] at h4; cases h4
      | some w =>
        rw [h5] at h4
        have h6 : w.1 = q'.1 := Option.some.inj h4
        rw [← h6]
        exact h (j + 1) i' e' w h1 h2 h5)
    exact key.trans hset
theorem va_D_fst {A : Nat → Prop} {ws ws' : va_W} (hD : va_D A ws) (he : ws'.map Prod.fst = ws.map Prod.fst) : va_D A ws' := by
  have key : ∀ (k : Nat) (q : Nat × va_E), ws'[k]? = some q → ∃ q0, ws[k]? = some q0 ∧ q0.1 = q.1 := by
    intro k q hk
    have h4 : (ws.map Prod.fst)[k]? = some q.1 := by rw [← he, List.getElem?_map, hk]; rfl
    rw [List.getElem?_map] at h4
    cases h5 : ws[k]? with
    | none => rw [h5] at h4; cases h4
    | some w => rw [h5] at h4; exact ⟨w, rfl, Option.some.inj h4⟩
  refine ⟨fun i j x y hi hj hxy => ?_, fun k q hk => ?_⟩
  · obtain ⟨x0, h1, h2⟩ := key i x hi
    obtain ⟨y0, h3, h4⟩ := key j y hj
    exact hD.1 i j x0 y0 h1 h3 (h2.trans (hxy.trans h4.symm))
  · obtain ⟨q0, h1, h2⟩ := key k q hk
    rw [← h2]
    exact hD.2 k q0 h1
theorem gm_ok {A0 : Nat → Prop} {D : va_G} {cl : List vw_C} {ws wc wc' : va_W} {H H1 : Heap} (hP : va_P D cl ws H) (hD : va_D A0 ws) (isC : List Nat) (hC : isC.map (fun i => ws[i]?) = wc.map some) (ha : wc'.map Prod.fst = wc.map Prod.fst)
    (hk : ∀ q : Nat, q < H.size → ¬ va_A wc H.size q → H1[q]? = H[q]?) (hP1 : va_P D cl wc' H1) : va_P D cl (gm isC wc' ws) H1 ∧ va_D A0 (gm isC wc' ws) := by
  have at' : ∀ (j : Nat) (q : Nat × va_E), wc[j]? = some q → ∃ i, isC[j]? = some i ∧ ws[i]? = some q := by
    intro j q hq
    have h1 : (isC.map (fun i => ws[i]?))[j]? = some (some q) := by rw [hC, List.getElem?_map, hq]; rfl
    rw [List.getElem?_map] at h1
    cases hi : isC[j]? with
    | none => rw [hi] at h1; cases h1
    | some i => rw [hi] at h1; exact ⟨i, rfl, Option.some.inj h1⟩
  have hl1 : isC.length = wc.length := by
    have := congrArg List.length hC
    simpa using this
  have hl2 : wc'.length = wc.length := by
    have := congrArg List.length ha
    simpa using this
  refine ⟨fun k q hq => ?_, va_D_fst hD (gm_fst isC wc' ws (fun j i e q h1 h2 h3 => ?_))⟩
  · rcases gm_get isC wc' ws k q hq with ⟨h1, h2⟩ | ⟨j, hj⟩
    · have hn := h2 (hl1.trans hl2.symm)
      have hlt := (hP k q h1).lt
      refine (hP k q h1).kept (hk q.1 hlt (fun hA => ?_))
      rcases hA with ⟨j, e, hj⟩ | hsz
      · obtain ⟨i, hi, hw⟩ := at' j (q.1, e) hj
        have hki := hD.1 k i q (q.1, e) h1 hw rfl
        subst hki
        exact hn (List.mem_of_getElem? hi)
      · omega
    · exact hP1 j q hj
  · have h4 : (wc.map Prod.fst)[j]? = some e.1 := by rw [← ha, List.getElem?_map, h2]; rfl
    rw [List.getElem?_map] at h4
    cases h5 : wc[j]? with
    | none => rw [h5] at h4; cases h4
    | some w =>
      rw [h5] at h4
      have h6 : w.1 = e.1 := Option.some.inj h4
      obtain ⟨i', hi', hw⟩ := at' j w h5
      rw [h1] at hi'
      cases hi'
      rw [h3] at hw
      cases hw
      exact h6
section GGlue
variable {p : Program} {l : Launch} {e : Env} {R : Room} {s : State} {m : MethodId} {args : Array Value} {below : List Frame} {meth : Method} {c : Code} {H : Heap} {locs : List Loc} {cells slots : Nat} {Q : State → Prop}
variable {cc : ByteArray} {pc : Nat} {ls : Array Slot} {rest st0 : List Value} {D : va_G} {A : Nat → Prop} {tys : List (ClassId × FieldType)} {ws ws2 wc wc' : va_W} {H0 : Heap} {a : Array Value}
/-- a place in a method's code that more than one road reaches -/
abbrev gJ (p : Program) (l : Launch) (e : Env) (R : Room) (s : State) (m : MethodId) (args : Array Value) (below : List Frame) (meth : Method) (c : Code) (D : va_G) (A : Nat → Prop) (nL : Nat) (Q : State → Prop) (pc : Nat) (ws : va_W) (lv : List (Nat × Value)) (st : List Value) : Prop :=
  ∀ (H : Heap) (locs : List Loc) (ls : Array Slot), va_P D vwCl ws H → va_D A ws → va_S A s.heap H locs → lv_has ls nL lv → W p l e R s m args below meth c H locs 0 0 Q (F0 m pc ls st)
theorem gr_i {v : Int32} (hx : p.tables.exec = Jvm.exec) (hb : c.code = cc) (hr : meth.sig.returnType = some .int) (hlocks : meth.locks = false) (hK : va_K D vwCl tys s) (hP : va_P D vwCl ws H) (hD : va_D A ws) (hS : va_S A s.heap H locs) (hdg : decode cc pc = .ok (.ireturn, 1)) :
    W p l e R s m args below meth c H locs cells slots (MQ below (gQi D tys v ws A) args s cells slots A) (F0 m pc ls [.int v]) :=
  W.iret (v := v) hx hb hr (fun t ht hW => ⟨⟨v, (), rfl, rfl, by rw [ht]; exact hP, va_K.moved hW.alike hK, hD⟩, hS.F ht⟩) hS.2.2 hdg hlocks
theorem gr_z {v : Int32} {ty : FieldType} (hn : narrow ty (.int v) = .int v) (hx : p.tables.exec = Jvm.exec) (hb : c.code = cc) (hr : meth.sig.returnType = some ty) (hlocks : meth.locks = false) (hK : va_K D vwCl tys s) (hP : va_P D vwCl ws H) (hD : va_D A ws) (hS : va_S A s.heap H locs) (hdg : decode cc pc = .ok (.ireturn, 1)) :
    W p l e R s m args below meth c H locs cells slots (MQ below (gQi D tys v ws A) args s cells slots A) (F0 m pc ls [.int v]) :=
  W.zret (v := v) hx hb hr hn (fun t ht hW => ⟨⟨v, (), rfl, rfl, by rw [ht]; exact hP, va_K.moved hW.alike hK, hD⟩, hS.F ht⟩) hS.2.2 hdg hlocks
theorem gr_v (hx : p.tables.exec = Jvm.exec) (hb : c.code = cc) (hr : meth.sig.returnType = none) (hlocks : meth.locks = false) (hK : va_K D vwCl tys s) (hP : va_P D vwCl ws H) (hD : va_D A ws) (hS : va_S A s.heap H locs) (hdg : decode cc pc = .ok (.return_, 1)) :
    W p l e R s m args below meth c H locs cells slots (MQ below (gQv D tys ws A) args s cells slots A) (F0 m pc ls []) :=
  W.vret hx hb hr (fun t ht hW => ⟨⟨(), rfl, trivial, by rw [ht]; exact hP, va_K.moved hW.alike hK, hD⟩, hS.F ht⟩) hS.2.2 hdg hlocks
theorem gr_r {x : Nat} {rt : FieldType} (hx : p.tables.exec = Jvm.exec) (hb : c.code = cc) (hr : meth.sig.returnType = some rt) (hrt : (∃ n, rt = .object n) ∨ ∃ t, rt = .array t) (hlocks : meth.locks = false) (hK : va_K D vwCl tys s) (hP : va_P D vwCl ws H) (hD : va_D A ws) (hS : va_S A s.heap H locs) (hdg : decode cc pc = .ok (.areturn, 1)) :
    W p l e R s m args below meth c H locs cells slots (MQ below (gQr D tys x ws A) args s cells slots A) (F0 m pc ls [.ref x]) :=
  W.aret (v := .ref x) hx hb hr hrt (Or.inr ⟨x, rfl⟩) (fun t ht hW => ⟨⟨(), x, rfl, trivial, rfl, by rw [ht]; exact hP, va_K.moved hW.alike hK, hD⟩, hS.F ht⟩) hS.2.2 hdg hlocks
theorem gk_i {v : Int32} (hr : va_Run p l e R s m args below meth c H locs cells slots 0 0 (F0 m pc ls st0) rest (gQi D tys v wc' (va_A wc H.size) a) (va_A wc H.size)) (hK : va_K D vwCl tys s) (hP : va_P D vwCl ws H) (hD : va_D A ws) (hS : va_S A H0 H locs) (hA : ∀ q, H0.size ≤ q → A q)
    (isC : List Nat) (hC : isC.map (fun i => ws[i]?) = wc.map some) (hn : va_nd isC = true) (ha : wc'.map Prod.fst = wc.map Prod.fst) (hs : gm isC wc' ws = ws2)
    (kk : ∀ (H1 : Heap) (locs1 : List Loc), va_P D vwCl ws2 H1 → va_D A ws2 → va_S A H0 H1 locs1 → W p l e R s m args below meth c H1 locs1 cells slots Q (F0 m (pc + 3) ls (.int v :: rest))) : W p l e R s m args below meth c H locs cells slots Q (F0 m pc ls st0) := by
  have hF := va_free hD hS hA isC hC
  refine va_calli hr hS (fun q _ h => hF q h) hF (fun r u t H1 locs1 ht hvm hw hB hz hk hS1 => ?_)
  have hw : r = v := hw
  subst hw
  obtain ⟨hP1, hK1, hD1⟩ := hB
  rw [ht] at hP1
  have hj := gm_ok hP hD isC hC ha hk hP1
  rw [hs] at hj
  exact kk H1 locs1 hj.1 hj.2 hS1
theorem gk_v (hr : va_Run p l e R s m args below meth c H locs cells slots 0 0 (F0 m pc ls st0) rest (gQv D tys wc' (va_A wc H.size) a) (va_A wc H.size)) (hK : va_K D vwCl tys s) (hP : va_P D vwCl ws H) (hD : va_D A ws) (hS : va_S A H0 H locs) (hA : ∀ q, H0.size ≤ q → A q)
    (isC : List Nat) (hC : isC.map (fun i => ws[i]?) = wc.map some) (hn : va_nd isC = true) (ha : wc'.map Prod.fst = wc.map Prod.fst) (hs : gm isC wc' ws = ws2)
    (kk : ∀ (H1 : Heap) (locs1 : List Loc), va_P D vwCl ws2 H1 → va_D A ws2 → va_S A H0 H1 locs1 → W p l e R s m args below meth c H1 locs1 cells slots Q (F0 m (pc + 3) ls rest)) : W p l e R s m args below meth c H locs cells slots Q (F0 m pc ls st0) := by
  have hF := va_free hD hS hA isC hC
  refine va_callv hr hS (fun q _ h => hF q h) hF (fun u t H1 locs1 ht hvm hw hB hz hk hS1 => ?_)
  obtain ⟨hP1, hK1, hD1⟩ := hB
  rw [ht] at hP1
  have hj := gm_ok hP hD isC hC ha hk hP1
  rw [hs] at hj
  exact kk H1 locs1 hj.1 hj.2 hS1
theorem gk_r {x : Nat} (hr : va_Run p l e R s m args below meth c H locs cells slots 0 0 (F0 m pc ls st0) rest (gQr D tys x wc' (va_A wc H.size) a) (va_A wc H.size)) (hK : va_K D vwCl tys s) (hP : va_P D vwCl ws H) (hD : va_D A ws) (hS : va_S A H0 H locs) (hA : ∀ q, H0.size ≤ q → A q)
    (isC : List Nat) (hC : isC.map (fun i => ws[i]?) = wc.map some) (hn : va_nd isC = true) (ha : wc'.map Prod.fst = wc.map Prod.fst) (hs : gm isC wc' ws = ws2)
    (kk : ∀ (H1 : Heap) (locs1 : List Loc), va_P D vwCl ws2 H1 → va_D A ws2 → va_S A H0 H1 locs1 → W p l e R s m args below meth c H1 locs1 cells slots Q (F0 m (pc + 3) ls (.ref x :: rest))) : W p l e R s m args below meth c H locs cells slots Q (F0 m pc ls st0) := by
  have hF := va_free hD hS hA isC hC
  refine va_callr hr hS (fun q _ h => hF q h) hF (fun u ra t H1 locs1 ht hvm hw hB hz hk hS1 => ?_)
  obtain ⟨rfl, hP1, hK1, hD1⟩ := hB
  rw [ht] at hP1
  have hj := gm_ok hP hD isC hC ha hk hP1
  rw [hs] at hj
  exact kk H1 locs1 hj.1 hj.2 hS1
theorem g_blind {av : List Value} {wc : va_W} {sz : Nat} : FrameBlind (va_Pc av (gB D tys wc sz)) := fun a U g mk q => by
  obtain ⟨q0, q1, qP, qK, qD⟩ := q
  exact ⟨q0, q1, qP, va_K.moved (u := U) (U := U.calling g mk a) (Vm.Alike.refl U.vm) qK, qD⟩
theorem g_pre {av : List Value} (hK : va_K D vwCl tys s) (hP : va_P D vwCl ws H) (hD : va_D A ws) (isC : List Nat) (hC : isC.map (fun i => ws[i]?) = wc.map some) (hn : va_nd isC = true) : ∀ U : State, U.heap = H → s.WarmedH U.vm → va_Pc av (gB D tys wc H.size) av.toArray U := by
  have hs : isC.filterMap (fun i => ws[i]?) = wc := by
    have h1 : isC.filterMap (fun i => ws[i]?) = (isC.map (fun i => ws[i]?)).filterMap id := by rw [List.filterMap_map]; rfl
    rw [h1, hC, List.filterMap_map]
    simp
  exact fun U hU hW => ⟨rfl, by rw [hU], by rw [hU]; exact hP.sub isC hs, va_K.moved hW.alike hK, (hD.sub isC hn hC).weaken (fun _ _ _ _ => trivial)⟩
theorem gpV {b ci : Nat} {fs As : List Value} {r : vw_C} (hK : va_K D vwCl tys s) (hP : va_P D vwCl ws H) (hD : va_D A ws) (isC : List Nat) (hC : isC.map (fun i => ws[i]?) = wc.map some) (hn : va_nd isC = true) (q0 : Nat) (hc : vwCl[ci]? = some r) (he : ws[q0]? = some (b, .inr (ci, fs))) : PreV s H r.1 b (va_Pc (.ref b :: As) (gB D tys wc H.size)) As :=
  ⟨g_blind, va_recv hK hP hc he, g_pre hK hP hD isC hC hn⟩
theorem gpS {As : List Value} (hK : va_K D vwCl tys s) (hP : va_P D vwCl ws H) (hD : va_D A ws) (isC : List Nat) (hC : isC.map (fun i => ws[i]?) = wc.map some) (hn : va_nd isC = true) : PreS s H (va_Pc As (gB D tys wc H.size)) As :=
  ⟨g_blind, g_pre hK hP hD isC hC hn⟩
end GGlue
