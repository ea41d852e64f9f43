-- the tape
def RT (len : Int32) (chars : Nat → Int32) (typed : Int32) (tape : Nat → Int32) : Prop := ∃ (t : Nat) (ch : Nat → Nat), t ≤ 90 ∧ len = nI t ∧ typed = nI t ∧ ∀ j, j < t → chars j = nI (ch j) ∧ tape j = nI (ch j) ∧ 32 ≤ ch j ∧ ch j ≤ 126
theorem m_inT (x : Int32) : p_X8_in (Int32.toInt64 x) 32 126 = some (if x < 32 then 0 else if 126 < x then 0 else 1) := m_in x 32 126
theorem tp_type {len typed : Int32} {chars tape : Nat → Int32} (h : RT len chars typed tape) (x1 : Int32) : ∃ (r len' : Int32) (chars' : Nat → Int32) (typed' : Int32) (tape' : Nat → Int32), p_X7_type len chars x1 = some (r, len', chars') ∧ p_X8_type typed tape x1 = some (r, typed', tape') ∧ RT len' chars' typed' tape' := by
  have hh := h
  obtain ⟨t, ch, ht, rfl, rfl, hc⟩ := h
  rw [p_X7_type, p_X6_append, p_X8_type, m_inT, bd1_s]
  rcases rg_cases x1 32 126 (by omega) (by omega) with (q | ⟨q, q'⟩) | ⟨x, hx1, hx, rfl⟩
  · rw [if_pos (show x1 < 32 from q), if_pos (show x1 < 32 from q), if_pos rfl, bd3_s]; exact ⟨_, _, _, _, _, rfl, rfl, hh⟩
  · rw [if_neg (show ¬ x1 < 32 from q), if_neg (show ¬ x1 < 32 from q), if_neg (Int32.not_le.mpr (show (126 : Int32) < x1 from q')), if_pos (show (126 : Int32) < x1 from q'), if_pos rfl, bd3_s]; exact ⟨_, _, _, _, _, rfl, rfl, hh⟩
  have a1 : ¬ nI x < 32 := by rw [show (32 : Int32) = nI 32 from rfl, lt_nI (by omega) (by omega)]; omega
  have a2 : ¬ 126 < nI x := by rw [show (126 : Int32) = nI 126 from rfl, lt_nI (by omega) (by omega)]; omega
  rw [if_neg a1, if_neg a1, if_neg a2, if_neg one_ne, if_pos (Int32.not_lt.mp a2)]
  by_cases h9 : t = 90
  · subst h9
    rw [if_neg (by decide), if_pos (show nI 90 = 90 from rfl), bd3_s]; exact ⟨_, _, _, _, _, rfl, rfl, hh⟩
  · rw [if_pos (show nI t < 90 by rw [show (90 : Int32) = nI 90 from rfl, lt_nI (by omega) (by omega)]; omega), if_neg (show ¬ nI t = 90 by rw [show (90 : Int32) = nI 90 from rfl, eq_nI (by omega) (by omega)]; omega), ib_nI (by omega) (by omega), gd_t, gd_t, bd3_s, tn_nI (by omega), nI_1]
    refine ⟨_, _, _, _, _, rfl, rfl, t + 1, uA ch t x, by omega, rfl, rfl, fun j hj => ?_⟩
    unfold uA
    rw [upd_at, upd_at]
    by_cases hjt : j = t
    · rw [if_pos hjt, if_pos hjt, if_pos hjt]; exact ⟨rfl, rfl, hx1, hx⟩
    · rw [if_neg hjt, if_neg hjt, if_neg hjt]; exact hc j (by omega)
-- the text's poem
theorem t_addL {T : Nat → Int32} {m x b : Nat} (hm : m < 12) (h8 : T 8 = nI m) (hx : x ≤ 3) (hb : b ≤ 1) : p_X4_addLine T (nI x) (nI b) = some (nI m, upd (upd (upd (upd T (9 + m) (nI x)) (21 + m) (nI (if m = 0 then 1 else b))) (33 + m) 0) 8 (nI (m + 1))) := by
  rw [p_X4_addLine, c_isRhyme, bd1_s, show (if nI x < 0 then (0 : Int32) else if (4 : Int32) ≤ nI x then 0 else 1) = 1 by simp (disch := omega) only [ol, lt_nI, le_nI]; rw [if_neg (by omega), if_neg (by omega)], if_neg one_ne, if_neg (show ¬ nI b < 0 by rw [show (0 : Int32) = nI 0 from rfl, lt_nI (by omega) (by omega)]; omega), if_pos (show nI b ≤ 1 by rw [show (1 : Int32) = nI 1 from rfl, le_nI (by omega) (by omega)]; omega), p_X4_lines, bd1_s, h8, if_pos (show nI m < 12 by rw [show (12 : Int32) = nI 12 from rfl, lt_nI (by omega) (by omega)]; omega)]
  have hcl : (if nI m = 0 then p_X4_addLine_B59_10 T (nI x) (nI m) 1 else p_X4_addLine_B59_10 T (nI x) (nI m) (nI b)) = p_X4_addLine_B59_10 T (nI x) (nI m) (nI (if m = 0 then 1 else b)) := by
    by_cases hz : m = 0
    · rw [if_pos hz, if_pos (by rw [hz]; rfl)]; rfl
    · rw [if_neg hz, if_neg (by rw [show (0 : Int32) = nI 0 from rfl, eq_nI (by omega) (by omega)]; omega)]
  rw [hcl, p_X4_addLine_B59_10]
  simp (disch := omega) only [ol, nI_add, ib_nI, gd_t, tn_nI]
theorem t_addL12 {T : Nat → Int32} {x b : Nat} (h8 : T 8 = nI 12) (hx : x ≤ 3) (hb : b ≤ 1) : p_X4_addLine T (nI x) (nI b) = some (-3, T) := by
  rw [p_X4_addLine, c_isRhyme, bd1_s, show (if nI x < 0 then (0 : Int32) else if (4 : Int32) ≤ nI x then 0 else 1) = 1 by simp (disch := omega) only [ol, lt_nI, le_nI]; rw [if_neg (by omega), if_neg (by omega)], if_neg one_ne, if_neg (show ¬ nI b < 0 by rw [show (0 : Int32) = nI 0 from rfl, lt_nI (by omega) (by omega)]; omega), if_pos (show nI b ≤ 1 by rw [show (1 : Int32) = nI 1 from rfl, le_nI (by omega) (by omega)]; omega), p_X4_lines, bd1_s, h8, if_neg (by decide)]
theorem t_words {T : Nat → Int32} {m w : Nat} (hm : m < 12) (hw : T (33 + m) = nI w) : p_X4_wordsOf T (nI m) = some (nI w) := by
  rw [p_X4_wordsOf]
  simp (disch := omega) only [ol, nI_add, ib_nI, gd_t, tn_nI, hw]
theorem t_addW {T : Nat → Int32} {m w x : Nat} (hm : m < 12) (h8 : T 8 = nI (m + 1)) (hw : T (33 + m) = nI w) (hw6 : w ≤ 6) (hx : 1 ≤ x ∧ x ≤ 9) : p_X4_addWord T (nI x) 0 = if w < 6 then some (nI (w + 1), upd (upd T (45 + 6 * m + w) (nI (4 * x))) (33 + m) (nI (w + 1))) else some (-3, T) := by
  have a1 : ¬ nI x < 1 := by rw [show (1 : Int32) = nI 1 from rfl, lt_nI (by omega) (by omega)]; omega
  have a2 : ¬ 9 < nI x := by rw [show (9 : Int32) = nI 9 from rfl, lt_nI (by omega) (by omega)]; omega
  rw [p_X4_addWord, if_neg a1, if_neg a2, if_neg (by decide), if_pos (by decide), p_X4_lines, bd1_s, nm_s, h8, show nI (m + 1) - (1 : Int32) = nI m from nI_pred m, if_pos (show (0 : Int32) ≤ nI m by rw [show (0 : Int32) = nI 0 from rfl, le_nI (by omega) (by omega)]; omega), t_words hm hw, bd1_s]
  by_cases h6 : w < 6
  · rw [if_pos (show nI w < 6 by rw [show (6 : Int32) = nI 6 from rfl, lt_nI (by omega) (by omega)]; omega), if_pos h6]
    simp (disch := omega) only [ol, nI_add, mul_nI, ib_nI, gd_t, tn_nI]
    rw [show 45 + m * 6 + w = 45 + 6 * m + w by omega, show x * 4 + 0 = 4 * x by omega]
  · rw [if_neg (show ¬ nI w < 6 by rw [show (6 : Int32) = nI 6 from rfl, lt_nI (by omega) (by omega)]; omega), if_neg h6]
theorem t_pause {T : Nat → Int32} {m w x p : Nat} (hm : m < 12) (h8 : T 8 = nI (m + 1)) (hw : T (33 + m) = nI (w + 1)) (hw6 : w < 6) (hT : T (45 + 6 * m + w) = nI (4 * x)) (hx : x ≤ 9) : p_X4_setLastPause T (nI p) = some (upd T (45 + 6 * m + w) (nI (4 * x + p))) := by
  have hl : p_X4_lettersOf T (nI m) (nI w) = some (nI x) := by
    rw [p_X4_lettersOf]
    simp (disch := omega) only [ol, nI_add, mul_nI, ib_nI, gd_t, tn_nI]
    rw [show 45 + m * 6 + w = 45 + 6 * m + w by omega, hT, div_nI (by omega) (by omega) (by omega), show 4 * x / 4 = x by omega]
  have hz : ¬ nI (w + 1) = 0 := by rw [show (0 : Int32) = nI 0 from rfl, eq_nI (by omega) (by omega)]; omega
  rw [p_X4_setLastPause, p_X4_lines, bd1_s, nm_s, h8, show nI (m + 1) - (1 : Int32) = nI m from nI_pred m, if_neg (show ¬ nI m < 0 by rw [show (0 : Int32) = nI 0 from rfl, lt_nI (by omega) (by omega)]; omega), t_words hm hw, bd1_s, if_neg hz, bd1_s, nm_s, show nI (w + 1) - (1 : Int32) = nI w from nI_pred w, hl, bd1_s]
  simp (disch := omega) only [ol, nI_add, mul_nI, ib_nI, gd_t, tn_nI]
  rw [show 45 + m * 6 + w = 45 + 6 * m + w by omega, show x * 4 + p = 4 * x + p by omega]
-- skipping blanks
def skf (ch : Nat → Nat) : Nat → Nat → Nat
  | 0, i => i
  | d + 1, i => if ch i = 32 then skf ch d (i + 1) else i
def sk (t : Nat) (ch : Nat → Nat) (i : Nat) : Nat := skf ch (t - i) i
theorem skf_ge (ch : Nat → Nat) : ∀ d i, i ≤ skf ch d i ∧ skf ch d i ≤ i + d
  | 0, i => ⟨Nat.le_refl _, Nat.le_refl _⟩
  | d + 1, i => by
    show i ≤ (if ch i = 32 then skf ch d (i + 1) else i) ∧ _ ≤ _
    have := skf_ge ch d (i + 1)
    by_cases h : ch i = 32
    · rw [if_pos h]; show i ≤ _ ∧ (if ch i = 32 then skf ch d (i + 1) else i) ≤ _; rw [if_pos h]; omega
    · rw [if_neg h]; show i ≤ _ ∧ (if ch i = 32 then skf ch d (i + 1) else i) ≤ _; rw [if_neg h]; omega
theorem sk_ge {t i : Nat} (ch : Nat → Nat) (h : i ≤ t) : i ≤ sk t ch i ∧ sk t ch i ≤ t := by
  have := skf_ge ch (t - i) i
  unfold sk; omega
theorem sk_end (t : Nat) (ch : Nat → Nat) : sk t ch t = t := by unfold sk; rw [Nat.sub_self]; rfl
theorem sk_bl {t i : Nat} {ch : Nat → Nat} (h : i < t) (hb : ch i = 32) : sk t ch i = sk t ch (i + 1) := by
  unfold sk
  rw [show t - i = (t - (i + 1)) + 1 by omega]
  show (if ch i = 32 then _ else i) = _
  rw [if_pos hb]
theorem sk_nb {t i : Nat} {ch : Nat → Nat} (h : i < t) (hb : ¬ ch i = 32) : sk t ch i = i := by
  unfold sk
  rw [show t - i = (t - (i + 1)) + 1 by omega]
  show (if ch i = 32 then _ else i) = _
  rw [if_neg hb]
theorem sk_sk {t : Nat} (ch : Nat → Nat) : ∀ (d i : Nat), i + d = t → sk t ch (sk t ch i) = sk t ch i ∧ (sk t ch i < t → ¬ ch (sk t ch i) = 32)
  | 0, i, h => by
    have : i = t := by omega
    subst this
    rw [sk_end, sk_end]
    exact ⟨rfl, fun h => absurd h (Nat.lt_irrefl _)⟩
  | d + 1, i, h => by
    by_cases hb : ch i = 32
    · rw [sk_bl (by omega) hb]; exact sk_sk ch d (i + 1) (by omega)
    · rw [sk_nb (by omega) hb, sk_nb (by omega) hb]; exact ⟨rfl, fun _ => hb⟩
theorem m_here_loop {t : Nat} {ch : Nat → Nat} {tape : Nat → Int32} (ht : t ≤ 90) (hc : ∀ j, j < t → tape j = nI (ch j) ∧ 32 ≤ ch j ∧ ch j ≤ 126) : ∀ (d i n : Nat), i + d = t → d < n → loopN (p_X8_here_L0 (nI t) tape) n (nI i) = some (nI (sk t ch i)) := by
  intro d
  induction d with
  | zero =>
    intro i n hi hn
    obtain ⟨n, rfl⟩ : ∃ m, n = m + 1 := ⟨n - 1, by omega⟩
    have : i = t := by omega
    subst this
    rw [sk_end]
    refine loopN_out (e := nI i) ?_
    rw [p_X8_here_L0, if_pos (by rw [le_nI (by omega) (by omega)]; omega)]
  | succ d ih =>
    intro i n hi hn
    obtain ⟨n, rfl⟩ : ∃ m, n = m + 1 := ⟨n - 1, by omega⟩
    have hci := hc i (by omega)
    have e32 : (tape i = 32) = (ch i = 32) := by rw [hci.1, show (32 : Int32) = nI 32 from rfl, eq_nI (by omega) (by omega)]
    by_cases hb : ch i = 32
    · have hs : p_X8_here_L0 (nI t) tape (nI i) = some (.inl (nI (i + 1))) := by
        rw [p_X8_here_L0, if_neg (by rw [le_nI (by omega) (by omega)]; omega), ib_nI (by omega) (by omega), gd_t, tn_nI (by omega), if_pos (by rw [e32]; exact hb), nI_1]
      rw [loopN_in hs, sk_bl (by omega) hb]
      exact ih (i + 1) n (by omega) (by omega)
    · rw [sk_nb (by omega) hb]
      refine loopN_out (e := nI i) ?_
      rw [p_X8_here_L0, if_neg (by rw [le_nI (by omega) (by omega)]; omega), ib_nI (by omega) (by omega), gd_t, tn_nI (by omega), if_neg (by rw [e32]; exact hb)]
def cx (t : Nat) (ch : Nat → Nat) (i : Nat) : Nat := if t ≤ sk t ch i then 0 else ch (sk t ch i)
theorem m_here {t : Nat} {ch : Nat → Nat} {tape : Nat → Int32} (ht : t ≤ 90) (hc : ∀ j, j < t → tape j = nI (ch j) ∧ 32 ≤ ch j ∧ ch j ≤ 126) {i : Nat} (hi : i ≤ t) : p_X8_here (nI t) (nI i) tape = some (nI (cx t ch i), nI (sk t ch i)) := by
  have hu := fuel_ge
  have hk := sk_ge ch hi
  rw [p_X8_here, m_here_loop ht hc (t - i) i fuel (by omega) (by omega), bd1_s, cx]
  by_cases h : t ≤ sk t ch i
  · rw [if_pos (by rw [le_nI (by omega) (by omega)]; exact h), if_pos h]; rfl
  · rw [if_neg (by rw [le_nI (by omega) (by omega)]; exact h), if_neg h, ib_nI (by omega) (by omega), gd_t, tn_nI (by omega), (hc _ (by omega)).1]
theorem cx_bnd {t : Nat} {ch : Nat → Nat} (hc : ∀ j, j < t → 32 ≤ ch j ∧ ch j ≤ 126) (i : Nat) : cx t ch i ≤ 126 := by
  unfold cx
  by_cases h : t ≤ sk t ch i
  · rw [if_pos h]; omega
  · rw [if_neg h]; exact (hc _ (by omega)).2
theorem cx_sk {t : Nat} {ch : Nat → Nat} {i : Nat} (hi : i ≤ t) : cx t ch (sk t ch i) = cx t ch i := by
  unfold cx
  rw [(sk_sk ch (t - i) i (by omega)).1]
