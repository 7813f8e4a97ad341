/-! rows of characters: the DRAFT and the TEXT on both sides; letter, text, copy, output -/
/-- L characters (33 to 126) in the class's row, the same in the reference's -/
def RelD (R L : Nat) (row draft : Nat → Int32) : Prop := L ≤ R ∧ ∀ i, i < L → draft i = row i ∧ ∃ c : Nat, 33 ≤ c ∧ c ≤ 126 ∧ row i = nI c
theorem RelD.zero {R L : Nat} {row draft : Nat → Int32} (h : RelD R L row draft) : RelD R 0 row draft := ⟨by omega, fun i hi => by omega⟩
theorem r_letter {L : Nat} {row draft : Nat → Int32} (h : RelD 120 L row draft) (x : Int32) : ∃ q q', g_S_letter row (nI L) x = some q ∧ g_M_letter draft (nI L) x = some q' ∧ q.1 = q'.1 ∧ ∃ L' : Nat, q.2.2 = nI L' ∧ q'.2.2 = nI L' ∧ RelD 120 L' q.2.1 q'.2.1 := by
  have hL := h.1
  unfold g_S_letter g_M_letter
  by_cases h1 : x.toInt < 33 ∨ 126 < x.toInt
  · have e : g_M_in x 33 126 = some 0 := ml_in0 (by have := zi_33; have := zi_126; omega)
    rw [z_bind e, if_pos (show (0 : Int32) = 0 from rfl)]
    by_cases h2 : x < 33
    · rw [if_pos h2]
      exact ⟨_, _, rfl, rfl, rfl, L, rfl, rfl, h⟩
    · rw [if_neg h2, if_neg (show ¬ x ≤ 126 by rw [z_lt] at h2; rw [z_le]; have := zi_33; have := zi_126; omega)]
      exact ⟨_, _, rfl, rfl, rfl, L, rfl, rfl, h⟩
  · have e : g_M_in x 33 126 = some 1 := ml_in1 (by have := zi_33; omega) (by have := zi_126; omega)
    rw [z_bind e, if_neg (show ¬ (1 : Int32) = 0 by decide), if_neg (show ¬ x < 33 by rw [z_lt]; have := zi_33; omega), if_pos (show x ≤ 126 by rw [z_le]; have := zi_126; omega)]
    by_cases h2 : L = 120
    · subst h2
      rw [z_bind (cl_Chars_addF (by omega)), if_pos (show (nI 120 : Int32) = 120 from rfl)]
      exact ⟨_, _, rfl, rfl, rfl, 120, rfl, rfl, h⟩
    · rw [z_bind (cl_Chars_add (by omega) (by omega)), if_neg (show ¬ nI L = 120 by rw [show (120 : Int32) = nI 120 from rfl, nI_eq (by omega) (by omega)]; exact h2), if_pos (z_ck (by omega) (by omega)), z_a1, z_cl (by omega)]
      obtain ⟨c, hc, rfl⟩ : ∃ c : Nat, (33 ≤ c ∧ c ≤ 126) ∧ x = nI c := ⟨x.toInt.toNat, by omega, Int32.toInt_inj.mp (by rw [z_tI (by omega)]; omega)⟩
      rw [z_gc (by omega)]
      suffices key : RelD 120 (L + 1) (upd row L (nI c)) (upd draft L (nI c)) from ⟨_, _, rfl, rfl, rfl, L + 1, rfl, rfl, key⟩
      refine ⟨by omega, fun i hi => ?_⟩
      by_cases hiL : i = L
      · subst hiL
        rw [pk_us, pk_us]
        exact ⟨rfl, c, hc.1, hc.2, rfl⟩
      · rw [pk_un hiL, pk_un hiL]
        exact h.2 i (by omega)
theorem r_text {T : Nat} {row text : Nat → Int32} (h : RelD 90 T row text) (x : Int32) : ∃ r : Int32, g_S_text row (nI T) x = some r ∧ g_M_text text (nI T) x = some r := by
  have hT := h.1
  unfold g_S_text g_M_text
  by_cases h1 : x = -1
  · rw [if_pos h1, if_pos h1]
    exact ⟨_, rfl, rfl⟩
  · rw [if_neg h1, if_neg h1]
    rcases z_ix x T (by omega) with hx | ⟨k, hk, rfl⟩
    · rw [z_bind (ml_inp (by omega) hx), if_pos (show (0 : Int32) = 0 from rfl)]
      have e : g_Characters_at 90 row (nI T) x = some (-2) := by
        unfold g_Characters_at
        by_cases h0 : x < 0
        · rw [if_pos h0]
        · rw [if_neg h0, if_pos (show nI T ≤ x by rw [z_lt] at h0; rw [z_le, z_tI (by omega)]; have := zi_0; omega)]
      rw [z_bind e]
      exact ⟨_, rfl, rfl⟩
    · rw [z_bind (cl_Chars_at hT (by omega) (by omega)), if_pos hk, z_bind (ml_inq (by omega) hk), if_neg (show ¬ (1 : Int32) = 0 by decide), if_pos (z_ck (by omega) (by omega)), z_cl (by omega), (h.2 k hk).1]
      exact ⟨_, rfl, rfl⟩
theorem r_where (w : Int32) : g_S_where w = some w ∧ g_M_where w = some w := ⟨rfl, rfl⟩
theorem ml_copy_loop {T : Nat} {text : Nat → Int32} {l0 : Int32} (hT : T ≤ 120) : ∀ (f i : Nat) (draft : Nat → Int32), i ≤ T → T - i < f → (∀ j, j < i → draft j = text j) → ∃ d : Nat → Int32, b_M_copy_14 text (nI T) f draft l0 (nI i) = some (nI T, d, nI T) ∧ ∀ j, j < T → d j = text j := by
  intro f
  induction f with
  | zero => intro i d h1 h2; omega
  | succ f ih =>
    intro i d h1 h2 h3
    rw [b_M_copy_14]
    by_cases h : i < T
    · rw [if_neg (nI_ge h (by omega)), if_pos (z_ck (by omega) (by omega)), if_pos (z_ck (by omega) (by omega)), z_cl (by omega), z_a1]
      refine ih (i + 1) _ (by omega) (by omega) (fun j hj => ?_)
      by_cases hji : j = i
      · subst hji; rw [pk_us]
      · rw [pk_un hji]; exact h3 j (by omega)
    · have : i = T := by omega
      subst this
      rw [if_pos (nI_le (Nat.le_refl _) (by omega))]
      exact ⟨d, rfl, h3⟩
theorem fits_c {c : Nat} (h : c < 65536) : fits .char (.int (nI c)) = true := (pk_charN h).2
theorem cl_become {T : Nat} {row drow : Nat → Int32} {s0 : Int32} (hT : T ≤ 90) (hc : ∀ i, i < T → ∃ c : Nat, 33 ≤ c ∧ c ≤ 126 ∧ row i = nI c) : ∃ d : Nat → Int32, g_Characters_become 120 90 drow s0 row (nI T) = some (d, nI T) ∧ ∀ j, j < T → d j = row j := by
  unfold g_Characters_become
  have e : (if nI 120 < nI T then nI 120 else nI T) = nI T := if_neg (nI_nlt (by omega) (by omega))
  rw [e]
  have hok : cpok .char 90 120 row 0 0 (nI T) = true := by
    unfold cpok
    simp only [Bool.and_eq_true, decide_eq_true_eq]
    refine ⟨by decide, by decide, nI_pos (by omega), ?_, ?_, fun i hi => ?_⟩
    · rw [z_cl0, z_cl (by omega)]; omega
    · rw [z_cl0, z_cl (by omega)]; omega
    · rw [z_cl (by omega)] at hi
      rw [z_cl0, Nat.zero_add]
      obtain ⟨c, h1, h2, h3⟩ := hc i hi
      rw [h3]
      exact fits_c (by omega)
  rw [if_pos hok]
  refine ⟨_, rfl, fun j hj => ?_⟩
  rw [z_cl0, z_cl (by omega), pk_cpy_in (by omega) (by omega)]
  congr 1
  omega
theorem r_copy {T L : Nat} {row text drow draft : Nat → Int32} (h : RelD 90 T row text) : ∃ q q', g_S_copy drow (nI L) row (nI T) = some q ∧ g_M_copy draft text (nI L) (nI T) = some q' ∧ q.1 = q'.1 ∧ q.2.2 = nI T ∧ q'.2.2 = nI T ∧ RelD 120 T q.2.1 q'.2.1 := by
  have hT := h.1
  unfold g_S_copy g_M_copy
  rw [z_bind (cl_Chars_size _), if_pos (show nI T ≤ 120 from nI_le (b := 120) (by omega) (by omega)), if_pos (show nI T ≤ 120 from nI_le (b := 120) (by omega) (by omega))]
  obtain ⟨d, e1, e2⟩ := cl_become (drow := drow) (s0 := nI L) hT (fun i hi => (h.2 i hi).2)
  obtain ⟨d', e3, e4⟩ := ml_copy_loop (text := text) (l0 := nI L) (T := T) (by omega) 500 0 draft (by omega) (by omega) (fun j hj => by omega)
  have e3 : b_M_copy_14 text (nI T) 500 draft (nI L) 0 = some (nI T, d', nI T) := e3
  rw [z_bind e1, z_bind (cl_Chars_size _), e3]
  refine ⟨_, _, rfl, rfl, rfl, rfl, rfl, by omega, fun i hi => ?_⟩
  have e5 : d' i = d i := by rw [e4 i hi, e2 i hi]; exact (h.2 i hi).1
  refine ⟨e5, ?_⟩
  obtain ⟨c, h1, h2, h3⟩ := (h.2 i hi).2
  exact ⟨c, h1, h2, by rw [← h3]; exact e2 i hi⟩
/-- OUTPUT, counts and VARIABLES of the latest run on both sides -/
def RelM (vars kept : Nat → Int32) (printed done : Int32) (var out : Nat → Int32) (prt dn : Int32) : Prop := (∃ pr : Nat, pr ≤ 400 ∧ printed = nI pr ∧ prt = nI pr ∧ ∀ k, k < 20 → out k = if k < pr then kept k else 0) ∧ done = dn ∧ ∀ v, v < 6 → var v = vars v
theorem r_output {vars kept : Nat → Int32} {printed done : Int32} {var out : Nat → Int32} {prt dn : Int32} (h : RelM vars kept printed done var out prt dn) (x : Int32) : ∃ r : Int32, g_S_output kept printed x = some r ∧ g_M_output out x = some r := by
  obtain ⟨⟨pr, hp, rfl, rfl, ho⟩, -, -⟩ := h
  unfold g_S_output g_M_output
  rcases z_ix x 20 (by omega) with hx | ⟨k, hk, rfl⟩
  · have e : g_M_in x 0 19 = some 0 := ml_in0 (by have := zi_0; have := zi_19; omega)
    rw [z_bind e, if_pos (show (0 : Int32) = 0 from rfl)]
    have e2 : g_Machine_kept kept (nI pr) x = some 0 := by
      unfold g_Machine_kept
      by_cases h0 : x < 0
      · rw [if_pos h0]
      · rw [if_neg h0]
        by_cases h1 : nI pr ≤ x
        · rw [if_pos h1]
        · rw [if_neg h1, if_pos (show (20 : Int32) ≤ x by rw [z_lt] at h0; rw [z_le]; have := zi_0; have := zi_20; omega)]
    rw [z_bind e2]
    exact ⟨_, rfl, rfl⟩
  · have e : g_M_in (nI k) 0 19 = some 1 := ml_inn (lo := 0) (hi := 19) (by omega) (by omega) (by omega)
    rw [z_bind e, if_neg (show ¬ (1 : Int32) = 0 by decide), if_pos (z_ck (by omega) (by omega)), z_cl (by omega), ho k hk]
    have e2 : g_Machine_kept kept (nI pr) (nI k) = some (if k < pr then kept k else 0) := by
      unfold g_Machine_kept
      rw [if_neg (nI_pos (by omega))]
      by_cases h1 : k < pr
      · rw [if_neg (nI_ge h1 (by omega)), if_neg (show ¬ (20 : Int32) ≤ nI k from nI_ge (b := 20) hk (by omega)), if_pos (z_ck (by omega) (by omega)), z_cl (by omega), if_pos h1]
      · rw [if_pos (nI_le (by omega) (by omega)), if_neg h1]
    rw [z_bind e2]
    exact ⟨_, rfl, rfl⟩
