-- the history
def RH (n s : Int32) (ring : Nat → Nat → Int32) (acts : Int32) (past : Nat → Int32) : Prop := ∃ a b : Nat, a < 6 ∧ b ≤ 6 ∧ n = nI a ∧ s = nI b ∧ acts = nI b ∧ ∀ r, r < b → RP (ring ((a + 6 - b + r) % 6)) (fun j => past (189 * r + j))
theorem c_take (d s : Nat → Int32) : ∃ d', p_X4_takeOver d s = some d' ∧ ∀ j, j < 117 → d' j = s j := by
  refine ⟨_, rfl, fun j hj => ?_⟩
  show (if tn 0 ≤ j ∧ j < tn 0 + tn 117 then s (tn 0 + (j - tn 0)) else d j) = s j
  rw [show tn (0 : Int32) = 0 from tn_nI (n := 0) (by omega), show tn (117 : Int32) = 117 from tn_nI (n := 117) (by omega), if_pos (by omega)]
  congr 1; omega
-- copying loops of the model
theorem m_starts_loop (v : Nat → Int32) : ∀ (d i n : Nat) (f : Nat → Int32), i + d = 189 → (∀ j, j < i → f j = v j) → d < n → ∃ (z : Int32) (fF : Nat → Int32), loopN (p_X8_starts_L2 v) n (nI i, f) = some (z, fF) ∧ ∀ j, j < 189 → fF j = v j := by
  intro d
  induction d with
  | zero =>
    intro i n f hi hf hn
    obtain ⟨n, rfl⟩ : ∃ m, n = m + 1 := ⟨n - 1, by omega⟩
    refine ⟨_, f, loopN_out (e := (nI i, f)) ?_, fun j hj => hf j (by omega)⟩
    rw [p_X8_starts_L2, if_pos (by rw [show (189 : Int32) = nI 189 from rfl, le_nI (by omega) (by omega)]; omega)]
  | succ d ih =>
    intro i n f hi hf hn
    obtain ⟨n, rfl⟩ : ∃ m, n = m + 1 := ⟨n - 1, by omega⟩
    have hs : p_X8_starts_L2 v (nI i, f) = some (.inl (nI (i + 1), upd f i (v i))) := by
      rw [p_X8_starts_L2]
      simp (disch := omega) only [ol, nI_add, le_nI, ib_nI, gd_t, tn_nI]
      rw [if_neg (by omega)]
    rw [loopN_in hs]
    refine ih (i + 1) n _ (by omega) (fun j hj => ?_) (by omega)
    rw [upd_at]
    by_cases h : j = i
    · rw [if_pos h, h]
    · rw [if_neg h]; exact hf j (by omega)
theorem m_starts (v f : Nat → Int32) : ∃ fF, p_X8_starts v f = some fF ∧ ∀ j, j < 189 → fF j = v j := by
  have hu := fuel_ge
  obtain ⟨z, fF, e, q⟩ := m_starts_loop v 189 0 fuel f (by omega) (fun j hj => by omega) (by omega)
  exact ⟨fF, by rw [p_X8_starts, show ((0 : Int32), f) = (nI 0, f) from rfl, e, bd2_s], q⟩
theorem m_put_loop {a : Nat} (ha : a < 6) (v p0 : Nat → Int32) : ∀ (d i n : Nat) (f : Nat → Int32), i + d = 189 → (∀ j, f j = if 189 * a ≤ j ∧ j < 189 * a + i then v (j - 189 * a) else p0 j) → d < n → ∃ (z : Int32) (fF : Nat → Int32), loopN (p_X8_notes_L47 v (nI a)) n (nI i, f) = some (z, fF) ∧ ∀ j, fF j = if 189 * a ≤ j ∧ j < 189 * a + 189 then v (j - 189 * a) else p0 j := by
  intro d
  induction d with
  | zero =>
    intro i n f hi hf hn
    obtain ⟨n, rfl⟩ : ∃ m, n = m + 1 := ⟨n - 1, by omega⟩
    have : i = 189 := by omega
    subst this
    refine ⟨_, f, loopN_out (e := (nI 189, f)) ?_, hf⟩
    rw [p_X8_notes_L47, if_pos (by decide)]
  | succ d ih =>
    intro i n f hi hf hn
    obtain ⟨n, rfl⟩ : ∃ m, n = m + 1 := ⟨n - 1, by omega⟩
    have hs : p_X8_notes_L47 v (nI a) (nI i, f) = some (.inl (nI (i + 1), upd f (189 * a + i) (v i))) := by
      rw [p_X8_notes_L47]
      simp (disch := omega) only [ol, nI_add, mul_nI, le_nI, ib_nI, gd_t, tn_nI]
      rw [if_neg (by omega)]
    rw [loopN_in hs]
    refine ih (i + 1) n _ (by omega) (fun j => ?_) (by omega)
    rw [upd_at]
    by_cases h : j = 189 * a + i
    · rw [if_pos h, if_pos (by omega)]; congr 1; omega
    · rw [if_neg h, hf j]
      by_cases h2 : 189 * a ≤ j ∧ j < 189 * a + i
      · rw [if_pos h2, if_pos (by omega)]
      · rw [if_neg h2, if_neg (by omega)]
theorem m_put {a : Nat} (ha : a < 6) (v p0 : Nat → Int32) : ∃ fF : Nat → Int32, p_X8_notes_B45_2 v (nI a) p0 = some (nI (a + 1), fF) ∧ (∀ j, j < 189 → fF (189 * a + j) = v j) ∧ ∀ j, (j < 189 * a ∨ 189 * a + 189 ≤ j) → fF j = p0 j := by
  have hu := fuel_ge
  obtain ⟨z, fF, e, q⟩ := m_put_loop ha v p0 189 0 fuel p0 (by omega) (fun j => by rw [if_neg (by omega)]) (by omega)
  refine ⟨fF, by rw [p_X8_notes_B45_2, show ((0 : Int32), p0) = (nI 0, p0) from rfl, e, bd2_s, nI_1], fun j hj => ?_, fun j hj => ?_⟩
  · rw [q, if_pos (by omega)]; congr 1; omega
  · rw [q, if_neg (by omega)]
theorem m_shift_loop (p0 : Nat → Int32) : ∀ (d i n : Nat) (f : Nat → Int32), i + d = 945 → (∀ j, f j = if j < i then p0 (j + 189) else p0 j) → d < n → ∃ (z : Int32) (fF : Nat → Int32), loopN p_X8_notes_L11 n (nI i, f) = some (z, fF) ∧ ∀ j, j < 945 → fF j = p0 (j + 189) := by
  intro d
  induction d with
  | zero =>
    intro i n f hi hf hn
    obtain ⟨n, rfl⟩ : ∃ m, n = m + 1 := ⟨n - 1, by omega⟩
    have : i = 945 := by omega
    subst this
    refine ⟨_, f, loopN_out (e := (nI 945, f)) ?_, fun j hj => by rw [hf, if_pos hj]⟩
    rw [p_X8_notes_L11, if_pos (by rw [show (945 : Int32) = nI 945 from rfl, le_nI (by omega) (by omega)]; omega)]
  | succ d ih =>
    intro i n f hi hf hn
    obtain ⟨n, rfl⟩ : ∃ m, n = m + 1 := ⟨n - 1, by omega⟩
    have hs : p_X8_notes_L11 (nI i, f) = some (.inl (nI (i + 1), upd f i (f (i + 189)))) := by
      rw [p_X8_notes_L11]
      simp (disch := omega) only [ol, nI_add, mul_nI, le_nI, ib_nI, gd_t, tn_nI]
      rw [if_neg (by omega)]
    rw [loopN_in hs]
    refine ih (i + 1) n _ (by omega) (fun j => ?_) (by omega)
    rw [upd_at]
    by_cases h : j = i
    · rw [if_pos h, if_pos (by omega), hf, if_neg (by omega), h]
    · rw [if_neg h, hf j]
      by_cases h2 : j < i
      · rw [if_pos h2, if_pos (by omega)]
      · rw [if_neg h2, if_neg (by omega)]
theorem RP_r {c v c' v' : Nat → Int32} (h : RP c v) (e : c' = c) (f : ∀ j, j < 189 → v' j = v j) : RP c' v' := RP_to h (fun j _ => by rw [e]) f
theorem hs_rem {n s : Int32} {ring : Nat → Nat → Int32} {acts : Int32} {past cb fb : Nat → Int32} (h : RH n s ring acts past) (hb : RP cb fb) : ∃ (n' s' : Int32) (ring' : Nat → Nat → Int32) (acts' : Int32) (past' : Nat → Int32), p_X0_remember n s ring cb = some (n', s', ring') ∧ p_X8_notes acts past fb = some (acts', past') ∧ RH n' s' ring' acts' past' := by
  obtain ⟨a, b, ha, hb6, rfl, rfl, rfl, hr⟩ := h
  have hu := fuel_ge
  obtain ⟨d', et, hd⟩ := c_take (ring (tn (nI a))) cb
  have e1 : irem (nI a + 1) 6 = nI ((a + 1) % 6) := by rw [nI_1]; exact rem_nI (d := 6) (by omega) (by omega) (by omega)
  rw [p_X0_remember, ib_nI (by omega) (by omega), gd_t, et, bd1_s, e1, tn_nI (by omega), nI_1, p_X8_notes]
  have hup : ∀ i j, i ≠ a → (va_up ring a d') i j = ring i j := fun i j hi => by show (if i = a then d' else ring i) j = _; rw [if_neg hi]
  have hua : ∀ j, (va_up ring a d') a j = d' j := fun j => by show (if a = a then d' else ring a) j = _; rw [if_pos rfl]
  by_cases h6 : b = 6
  · subst h6
    obtain ⟨z, f1, q1, q2⟩ := m_shift_loop past 945 0 fuel past (by omega) (fun j => by rw [if_neg (by omega)]) (by omega)
    obtain ⟨f2, q3, q4, q5⟩ := m_put (a := 5) (by omega) fb f1
    rw [if_pos (show nI 6 = 6 from rfl), show ((0 : Int32), past) = (nI 0, past) from rfl, q1, bd2_s, show (5 : Int32) = nI 5 from rfl, q3, if_pos (by decide)]
    refine ⟨_, _, _, _, _, rfl, rfl, (a + 1) % 6, 6, by omega, by omega, rfl, rfl, rfl, fun r hr6 => ?_⟩
    by_cases hr5 : r = 5
    · subst hr5
      refine RP_to hb (fun j hj => ?_) (fun j hj => ?_)
      · rw [show ((a + 1) % 6 + 6 - 6 + 5) % 6 = a by omega, hua, hd j hj]
      · exact q4 j hj
    · refine RP_to (hr (r + 1) (by omega)) (fun j hj => ?_) (fun j hj => ?_)
      · rw [hup _ _ (by omega), show ((a + 1) % 6 + 6 - 6 + r) % 6 = (a + 6 - 6 + (r + 1)) % 6 by omega]
      · show f2 (189 * r + j) = past (189 * (r + 1) + j)
        rw [q5 _ (by omega), q2 _ (by omega), show 189 * r + j + 189 = 189 * (r + 1) + j by omega]
  · obtain ⟨f2, q3, q4, q5⟩ := m_put (a := b) (by omega) fb past
    rw [if_neg (show ¬ nI b = 6 by rw [show (6 : Int32) = nI 6 from rfl, eq_nI (by omega) (by omega)]; omega), q3, if_neg (show ¬ 6 < nI (b + 1) by rw [show (6 : Int32) = nI 6 from rfl, lt_nI (by omega) (by omega)]; omega)]
    refine ⟨_, _, _, _, _, rfl, rfl, (a + 1) % 6, b + 1, by omega, by omega, rfl, rfl, rfl, fun r hr6 => ?_⟩
    by_cases hr5 : r = b
    · subst hr5
      refine RP_to hb (fun j hj => ?_) (fun j hj => ?_)
      · rw [show ((a + 1) % 6 + 6 - (r + 1) + r) % 6 = a by omega, hua, hd j hj]
      · exact q4 j hj
    · refine RP_to (hr r (by omega)) (fun j hj => ?_) (fun j hj => ?_)
      · rw [hup _ _ (by omega)]
        congr 1; omega
      · show f2 (189 * r + j) = past (189 * r + j)
        rw [q5 _ (by omega)]
theorem hs_done {n s : Int32} {ring : Nat → Nat → Int32} {acts : Int32} {past cb fb : Nat → Int32} (h : RH n s ring acts past) (hb : RP cb fb) (x : Int32) : ∃ (n' s' : Int32) (ring' : Nat → Nat → Int32) (acts' : Int32) (past' : Nat → Int32), p_X7_recorded n s cb ring x = some (x, n', s', ring') ∧ p_X8_done acts past fb x = some (x, acts', past') ∧ RH n' s' ring' acts' past' := by
  rw [p_X7_recorded, p_X8_done]
  by_cases hx : x < 0
  · rw [if_pos hx, if_pos hx]; exact ⟨_, _, _, _, _, rfl, rfl, h⟩
  · obtain ⟨n', s', ring', acts', past', e1, e2, e3⟩ := hs_rem h hb
    rw [if_neg hx, if_neg hx, e1, bd3_s, e2, bd2_s]; exact ⟨_, _, _, _, _, rfl, rfl, e3⟩
-- undo
theorem m_undo_loop {a : Nat} (ha : a < 6) (p : Nat → Int32) : ∀ (d i n : Nat) (f : Nat → Int32), i + d = 189 → (∀ j, j < i → f j = p (189 * a + j)) → d < n → ∃ (z : Int32) (fF : Nat → Int32), loopN (p_X8_undo_L22 (nI (a + 1)) p) n (nI i, f) = some (z, fF) ∧ ∀ j, j < 189 → fF j = p (189 * a + j) := by
  intro d
  induction d with
  | zero =>
    intro i n f hi hf hn
    obtain ⟨n, rfl⟩ : ∃ m, n = m + 1 := ⟨n - 1, by omega⟩
    refine ⟨_, f, loopN_out (e := (nI i, f)) ?_, fun j hj => hf j (by omega)⟩
    rw [p_X8_undo_L22, if_pos (by rw [show (189 : Int32) = nI 189 from rfl, le_nI (by omega) (by omega)]; omega)]
  | succ d ih =>
    intro i n f hi hf hn
    obtain ⟨n, rfl⟩ : ∃ m, n = m + 1 := ⟨n - 1, by omega⟩
    have hs : p_X8_undo_L22 (nI (a + 1)) p (nI i, f) = some (.inl (nI (i + 1), upd f i (p (189 * a + i)))) := by
      rw [p_X8_undo_L22, show nI (a + 1) - (1 : Int32) = nI a from nI_pred a]
      simp (disch := omega) only [ol, nI_add, mul_nI, le_nI, ib_nI, gd_t, tn_nI]
      rw [if_neg (by omega)]
    rw [loopN_in hs]
    refine ih (i + 1) n _ (by omega) (fun j hj => ?_) (by omega)
    rw [upd_at]
    by_cases h : j = i
    · rw [if_pos h, h]
    · rw [if_neg h]; exact hf j (by omega)
theorem hs_undo {n s : Int32} {ring : Nat → Nat → Int32} {acts : Int32} {past c v : Nat → Int32} (h : RH n s ring acts past) (hP : RP c v) : ∃ (r n' s' : Int32) (c' : Nat → Int32) (acts' : Int32) (v' : Nat → Int32), p_X7_undo n s c ring = some (r, n', s', c') ∧ p_X8_undo acts v past = some (r, acts', v') ∧ RH n' s' ring acts' past ∧ RP c' v' := by
  have hh := h
  obtain ⟨a, b, ha, hb6, rfl, rfl, rfl, hr⟩ := h
  have hu := fuel_ge
  rw [p_X7_undo, p_X8_undo]
  by_cases hb : b = 0
  · subst hb
    rw [if_pos (show nI 0 = 0 from rfl), if_pos (show nI 0 = 0 from rfl)]; exact ⟨_, _, _, _, _, _, rfl, rfl, hh, hP⟩
  obtain ⟨K, rfl⟩ : ∃ K, b = K + 1 := ⟨b - 1, by omega⟩
  have hz : ¬ nI (K + 1) = 0 := by rw [show (0 : Int32) = nI 0 from rfl, eq_nI (by omega) (by omega)]; omega
  have e1 : irem (nI a + 6 - 1) 6 = nI ((a + 5) % 6) := by
    rw [show nI a + (6 : Int32) - 1 = nI (a + 5) by rw [show nI a + (6 : Int32) = nI (a + 5 + 1) from nI_add a 6]; exact nI_pred _]
    exact rem_nI (d := 6) (by omega) (by omega) (by omega)
  obtain ⟨d', et, hd⟩ := c_take c (ring ((a + 5) % 6))
  obtain ⟨z, fF, e, q⟩ := m_undo_loop (a := K) (by omega) past 189 0 fuel v (by omega) (fun j hj => by omega) (by omega)
  rw [if_neg hz, if_neg hz, p_X0_takeBack, e1, ib_nI (by omega) (by omega), gd_t, tn_nI (by omega), et, bd1_s, bd3_s, show ((0 : Int32), v) = (nI 0, v) from rfl, e, bd2_s, show nI (K + 1) - (1 : Int32) = nI K from nI_pred K]
  refine ⟨_, _, _, _, _, _, rfl, rfl, ⟨(a + 5) % 6, K, by omega, by omega, rfl, rfl, rfl, fun r hr2 => ?_⟩, ?_⟩
  · rw [show ((a + 5) % 6 + 6 - K + r) % 6 = (a + 6 - (K + 1) + r) % 6 by omega]
    exact hr r (by omega)
  · refine RP_to (hr K (by omega)) (fun j hj => ?_) (fun j hj => q j hj)
    rw [hd j hj]; congr 1; omega
