-- the sheets
def SR (em la le : Int32) (el : Nat → Int64) (ml ms : Int32) (it : Nat → Int64) : Prop := (em = 1 ∧ ml = -1) ∨ (em = 0 ∧ ∃ l n, l ≤ 3 ∧ n ≤ 24 ∧ la = nI l ∧ le = nI n ∧ ml = nI l ∧ ms = nI n ∧ ∀ j, j < 24 → el j = it j)
def RS (em la le : Nat → Int32) (el : Nat → Nat → Int64) (ml ms : Nat → Int32) (it : Nat → Int64) : Prop := ∀ i, i < 4 → SR (em i) (la i) (le i) (el i) (ml i) (ms i) (fun j => it (24 * i + j))
theorem c_isSheet (x : Int32) : p_X7_isSheet x = some (if x < 0 then 0 else if (4 : Int32) ≤ x then 0 else 1) := by
  rw [p_X7_isSheet]
  by_cases h : x < 0
  · rw [if_pos h, if_pos h]
  · rw [if_neg h, if_neg h]
    by_cases h2 : (4 : Int32) ≤ x
    · rw [if_pos h2, if_pos h2]
    · rw [if_neg h2, if_neg h2]
theorem sh_cases (x : Int32) : (p_X7_isSheet x = some 0 ∧ p_X7_isLane x = some 0 ∧ p_X8_isSheet x = some 0 ∧ p_X8_in (Int32.toInt64 x) 0 3 = some 0) ∨ ∃ i, i < 4 ∧ x = nI i ∧ p_X7_isSheet x = some 1 ∧ p_X7_isLane x = some 1 ∧ p_X8_isSheet x = some 1 ∧ p_X8_in (Int32.toInt64 x) 0 3 = some 1 := by
  rw [show p_X7_isLane x = p_X7_isSheet x from rfl, c_isSheet, p_X8_isSheet, m_in3, bd1_s]
  rcases rg_cases x 0 3 (by omega) (by omega) with (q | ⟨q, q'⟩) | ⟨i, _, hi, rfl⟩
  · left; rw [if_pos (show x < 0 from q), if_pos (show x < 0 from q)]; exact ⟨rfl, rfl, rfl, rfl⟩
  · left; rw [if_neg (show ¬ x < 0 from q), if_neg (show ¬ x < 0 from q), if_pos (le4 q'), if_pos (show (3 : Int32) < x from q')]; exact ⟨rfl, rfl, rfl, rfl⟩
  · right
    refine ⟨i, by omega, rfl, ?_⟩
    rw [show (if nI i < 0 then (0 : Int32) else if (4 : Int32) ≤ nI i then 0 else 1) = 1 by simp (disch := omega) only [ol, lt_nI, le_nI]; rw [if_neg (by omega), if_neg (by omega)], show (if nI i < 0 then (0 : Int32) else if (3 : Int32) < nI i then 0 else 1) = 1 by simp (disch := omega) only [ol, lt_nI, le_nI]; rw [if_neg (by omega), if_neg (by omega)]]
    exact ⟨rfl, rfl, rfl, rfl⟩
theorem sub_lt {n a k : Nat} (hn : n ≤ 24) (ha : a < 2147483648) (hk : k < 2147483648) : (nI n - nI a < nI k) = (n < a + k) := by
  rw [Int32.lt_iff_toInt_lt, Int32.toInt_sub, nI_toInt (by omega), nI_toInt (by omega), nI_toInt (by omega), Int.bmod_eq_of_le (by omega) (by omega)]
  apply propext; omega
theorem le_sub {n a k : Nat} (hn : n ≤ 24) (ha : a < 2147483648) (hk : k < 2147483648) : (nI k ≤ nI n - nI a) = (a + k ≤ n) := by
  rw [Int32.le_iff_toInt_le, Int32.toInt_sub, nI_toInt (by omega), nI_toInt (by omega), nI_toInt (by omega), Int.bmod_eq_of_le (by omega) (by omega)]
  apply propext; omega
theorem c_ins {n a k : Nat} (hn : n ≤ 24) (ha : a < 2147483648) (hk : k < 2147483648) : p_X5_isInside (nI n) (nI a) (nI k) = some (if a + k ≤ n then 1 else 0) := by
  rw [p_X5_isInside]
  simp (disch := omega) only [ol, lt_nI, sub_lt]
  rw [if_neg (by omega), if_neg (by omega)]
  by_cases h : n < k
  · rw [if_pos h, if_neg (by omega)]
  · rw [if_neg h]
    by_cases h2 : n < k + a
    · rw [if_pos h2, if_neg (by omega)]
    · rw [if_neg h2, if_pos (by omega)]
theorem nI_nn (i : Nat) (h : i < 2147483648) : (0 : Int32) ≤ nI i := by rw [show (0 : Int32) = nI 0 from rfl, le_nI (by omega) h]; omega
-- which error, or none
theorem fnd {em la le : Nat → Int32} {el : Nat → Nat → Int64} {ml ms : Nat → Int32} {it : Nat → Int64} (h : RS em la le el ml ms it) (x1 x2 x3 : Int32) {k : Nat} (hk : k ≤ 24) :
    (p_X7_errorOf em la le x1 x2 x3 (nI k) = some (-1) ∧ p_X8_isSheet x1 = some 0) ∨ (p_X7_errorOf em la le x1 x2 x3 (nI k) = some (-1) ∧ p_X8_isSheet x1 = some 1 ∧ p_X8_in (Int32.toInt64 x2) 0 3 = some 0) ∨
    (∃ er : Int32, ¬ er = 0 ∧ ¬ (0 : Int32) ≤ er ∧ p_X7_errorOf em la le x1 x2 x3 (nI k) = some er ∧ p_X8_isSheet x1 = some 1 ∧ p_X8_in (Int32.toInt64 x2) 0 3 = some 1 ∧ p_X8_found ml ms x1 x2 x3 (nI k) = some er) ∨
    (∃ i l q n, i < 4 ∧ l ≤ 3 ∧ n ≤ 24 ∧ q + k ≤ n ∧ x1 = nI i ∧ x2 = nI l ∧ x3 = nI q ∧ em i = 0 ∧ la i = nI l ∧ le i = nI n ∧ ml i = nI l ∧ ms i = nI n ∧ p_X7_errorOf em la le x1 x2 x3 (nI k) = some 0 ∧ p_X8_isSheet x1 = some 1 ∧ p_X8_in (Int32.toInt64 x2) 0 3 = some 1 ∧ p_X8_found ml ms x1 x2 x3 (nI k) = some 0 ∧ ∀ j, j < 24 → el i j = it (24 * i + j)) := by
  rcases sh_cases x1 with ⟨a1, _, a3, _⟩ | ⟨i, hi, rfl, a1, _, a3, _⟩
  · left; rw [p_X7_errorOf, a1, bd1_s, if_pos rfl]; exact ⟨rfl, a3⟩
  rcases sh_cases x2 with ⟨_, b2, _, b4⟩ | ⟨l2, hl2, rfl, _, b2, _, b4⟩
  · right; left; rw [p_X7_errorOf, a1, bd1_s, if_neg one_ne, b2, bd1_s, if_pos rfl]; exact ⟨rfl, a3, b4⟩
  right; right
  rw [p_X7_errorOf, a1, bd1_s, if_neg one_ne, b2, bd1_s, if_neg one_ne, p_X8_found]
  simp (disch := omega) only [ib_nI, gd_t, tn_nI]
  rcases h i hi with ⟨h1, h2⟩ | ⟨h1, l, n, hl, hn, h2, h3, h4, h5, h6⟩
  · left
    rw [h1, if_neg one_ne, h2, if_neg (show ¬ (0 : Int32) ≤ -1 by decide)]
    exact ⟨-11, by decide, by decide, rfl, a3, b4, rfl⟩
  rw [h1, if_pos rfl, h2, h3, h4, h5, if_pos (nI_nn l (by omega))]
  by_cases hll : l = l2
  · subst hll
    rw [if_pos rfl, if_pos rfl]
    by_cases hx : x3 < 0
    · left
      rw [if_pos hx, p_X5_isInside, if_pos hx, bd1_s, if_pos rfl]
      exact ⟨-13, by decide, by decide, rfl, a3, b4, rfl⟩
    · obtain ⟨q, hq, rfl⟩ := nI_of hx
      rw [if_neg hx, c_ins hn hq (by omega), bd1_s]
      by_cases hqn : q + k ≤ n
      · right
        rw [if_pos hqn, if_neg one_ne, if_pos (show nI k ≤ nI n - nI q by rw [le_sub hn hq (by omega)]; exact hqn)]
        exact ⟨i, l, q, n, hi, hl, hn, hqn, rfl, rfl, rfl, h1, h2, h3, h4, h5, rfl, a3, b4, rfl, h6⟩
      · left
        rw [if_neg hqn, if_pos rfl, if_neg (show ¬ nI k ≤ nI n - nI q by rw [le_sub hn hq (by omega)]; exact hqn)]
        exact ⟨-13, by decide, by decide, rfl, a3, b4, rfl⟩
  · left
    rw [if_neg (show ¬ nI l = nI l2 by rw [eq_nI (by omega) (by omega)]; exact hll), if_neg (show ¬ nI l = nI l2 by rw [eq_nI (by omega) (by omega)]; exact hll)]
    exact ⟨-12, by decide, by decide, rfl, a3, b4, rfl⟩
theorem up_s {α : Type} (f : Nat → α) (k : Nat) (x : α) : va_up f k x k = x := by unfold va_up; rw [if_pos rfl]
theorem up_n {α : Type} (f : Nat → α) {k j : Nat} (x : α) (h : j ≠ k) : va_up f k x j = f j := by unfold va_up; rw [if_neg h]
-- a new sheet
theorem c_fill24 : ∀ (d i n : Nat) (T : Nat → Int64), i + d = 24 → (∀ r, r < i → T r = 0) → d < n → ∃ (z : Int32) (TF : Nat → Int64), loopN (p_J7_fill_d0a16_L6 24 0 (nI 24)) n (nI i, T) = some (z, TF) ∧ ∀ r, r < 24 → TF r = 0 := by
  intro d
  induction d with
  | zero =>
    intro i n T hi hT hn
    obtain ⟨n, rfl⟩ : ∃ m, n = m + 1 := ⟨n - 1, by omega⟩
    refine ⟨nI i, T, loopN_out ?_, fun r hr => hT r (by omega)⟩
    rw [p_J7_fill_d0a16_L6]
    simp (disch := omega) only [le_nI]
    rw [if_pos (by omega)]
  | succ d ih =>
    intro i n T hi hT hn
    obtain ⟨n, rfl⟩ : ∃ m, n = m + 1 := ⟨n - 1, by omega⟩
    have hs : p_J7_fill_d0a16_L6 24 0 (nI 24) (nI i, T) = some (.inl (nI (i + 1), vp_updL T i 0)) := by
      rw [p_J7_fill_d0a16_L6]
      simp (disch := omega) only [le_nI, ib_nI, gd_t, tn_nI]
      rw [if_neg (by omega), show nI i + (1 : Int32) = nI (i + 1) from nI_1 i]
    rw [loopN_in hs]
    refine ih (i + 1) n _ (by omega) (fun r hr => ?_) (by omega)
    by_cases h : r = i
    · subst h; rw [vL_same]
    · rw [vL_ne _ _ h]; exact hT r (by omega)
theorem m_fill24 {i1 : Nat} (h4 : i1 < 4) (it0 : Nat → Int64) : ∀ (d i n : Nat) (T : Nat → Int64), i + d = 24 → (∀ j, T j = if 24 * i1 ≤ j ∧ j < 24 * i1 + i then 0 else it0 j) → d < n → ∃ (z : Int32) (TF : Nat → Int64), loopN (p_X8_sheet_L51 (nI i1)) n (nI i, T) = some (z, TF) ∧ ∀ j, TF j = if 24 * i1 ≤ j ∧ j < 24 * i1 + 24 then 0 else it0 j := by
  intro d
  induction d with
  | zero =>
    intro i n T hi hT hn
    obtain ⟨n, rfl⟩ : ∃ m, n = m + 1 := ⟨n - 1, by omega⟩
    have : i = 24 := by omega
    subst this
    refine ⟨nI 24, T, loopN_out ?_, hT⟩
    rw [p_X8_sheet_L51, if_pos (by decide)]
  | succ d ih =>
    intro i n T hi hT hn
    obtain ⟨n, rfl⟩ : ∃ m, n = m + 1 := ⟨n - 1, by omega⟩
    have hs : p_X8_sheet_L51 (nI i1) (nI i, T) = some (.inl (nI (i + 1), vp_updL T (24 * i1 + i) 0)) := by
      rw [p_X8_sheet_L51]
      simp (disch := omega) only [show (24 : Int32) = nI 24 from rfl, show (1 : Int32) = nI 1 from rfl, nI_add, mul_nI, le_nI, ib_nI, gd_t, tn_nI]
      rw [if_neg (by omega)]
    rw [loopN_in hs]
    refine ih (i + 1) n _ (by omega) (fun j => ?_) (by omega)
    by_cases h : j = 24 * i1 + i
    · rw [h, vL_same, if_pos (by omega)]
    · rw [vL_ne _ _ h, hT j]
      by_cases h2 : 24 * i1 ≤ j ∧ j < 24 * i1 + i
      · rw [if_pos h2, if_pos (by omega)]
      · rw [if_neg h2, if_neg (by omega)]
theorem sh_sheet {em la le : Nat → Int32} {el : Nat → Nat → Int64} {ml ms : Nat → Int32} {it : Nat → Int64} (h : RS em la le el ml ms it) (x1 x2 x3 : Int32) : ∃ (r : Int32) (em' la' le' : Nat → Int32) (el' : Nat → Nat → Int64) (ml' ms' : Nat → Int32) (it' : Nat → Int64), p_X7_sheet em la le el x1 x2 x3 = some (r, em', la', le', el') ∧ p_X8_sheet ml ms it x1 x2 x3 = some (r, ml', ms', it') ∧ RS em' la' le' el' ml' ms' it' := by
  have hu := fuel_ge
  rw [p_X7_sheet, p_X8_sheet]
  rcases sh_cases x1 with ⟨a1, _, a3, _⟩ | ⟨i, hi, rfl, a1, _, a3, _⟩
  · rw [a1, bd1_s, if_pos rfl, a3, bd1_s, if_pos rfl]; exact ⟨_, _, _, _, _, _, _, _, rfl, rfl, h⟩
  rw [a1, bd1_s, if_neg one_ne, a3, bd1_s, if_neg one_ne]
  rcases sh_cases x2 with ⟨_, b2, _, b4⟩ | ⟨l, hl, rfl, _, b2, _, b4⟩
  · rw [b2, bd1_s, if_pos rfl, b4, bd1_s, if_pos rfl]; exact ⟨_, _, _, _, _, _, _, _, rfl, rfl, h⟩
  rw [b2, bd1_s, if_neg one_ne, b4, bd1_s, if_neg one_ne]
  by_cases c1 : x3 ≤ 24
  · rw [if_pos c1, if_pos c1]
    by_cases c2 : (0 : Int32) ≤ x3
    · rw [if_pos c2, if_pos c2]
      obtain ⟨n, hn, rfl⟩ := nI_of (Int32.not_lt.mpr c2)
      rw [show (24 : Int32) = nI 24 from rfl, le_nI (by omega) (by omega)] at c1
      obtain ⟨z1, T1, e1, q1⟩ := c_fill24 24 0 fuel (el i) (by omega) (fun r hr => by omega) (by omega)
      obtain ⟨z2, T2, e2, q2⟩ := m_fill24 hi it 24 0 fuel it (by omega) (fun j => by rw [if_neg (by omega)]) (by omega)
      simp (disch := omega) only [ib_nI, gd_t, tn_nI]
      rw [p_X5_renew, p_J7_fill_d0a16, nm_s, show Int32.ofNat 24 = nI 24 from rfl, show ((0 : Int32), el i) = (nI 0, el i) from rfl, e1, bd2_s, bd1_s, bd4_s, show ((0 : Int32), it) = (nI 0, it) from rfl, e2, bd2_s]
      refine ⟨_, _, _, _, _, _, _, _, rfl, rfl, fun k hk => ?_⟩
      by_cases hki : k = i
      · subst hki
        rw [up_s, up_s, up_s, up_s, upd_same, upd_same]
        refine Or.inr ⟨rfl, l, n, by omega, by omega, rfl, rfl, rfl, rfl, fun j hj => ?_⟩
        rw [q1 j hj]; show _ = T2 (24 * k + j); rw [q2, if_pos (by omega)]
      · rw [up_n _ _ hki, up_n _ _ hki, up_n _ _ hki, up_n _ _ hki, upd_ne _ _ hki, upd_ne _ _ hki]
        rcases h k hk with g | ⟨g1, l', n', g2, g3, g4, g5, g6, g7, g8⟩
        · exact Or.inl g
        · refine Or.inr ⟨g1, l', n', g2, g3, g4, g5, g6, g7, fun j hj => ?_⟩
          rw [g8 j hj]; show _ = T2 (24 * k + j); rw [q2, if_neg (by omega)]
    · rw [if_neg c2, if_neg c2]; exact ⟨_, _, _, _, _, _, _, _, rfl, rfl, h⟩
  · rw [if_neg c1, if_neg c1]; exact ⟨_, _, _, _, _, _, _, _, rfl, rfl, h⟩
theorem sh_lift {em la le : Nat → Int32} {el : Nat → Nat → Int64} {ml ms : Nat → Int32} {it : Nat → Int64} (h : RS em la le el ml ms it) (x1 : Int32) : ∃ (r : Int32) (em' ml' : Nat → Int32), p_X7_lift em le x1 = some (r, em') ∧ p_X8_lift ml ms x1 = some (r, ml') ∧ RS em' la le el ml' ms it := by
  rw [p_X7_lift, p_X8_lift]
  rcases sh_cases x1 with ⟨a1, _, a3, _⟩ | ⟨i, hi, rfl, a1, _, a3, _⟩
  · rw [a1, bd1_s, if_pos rfl, a3, bd1_s, if_pos rfl]; exact ⟨_, _, _, rfl, rfl, h⟩
  rw [a1, bd1_s, if_neg one_ne, a3, bd1_s, if_neg one_ne]
  simp (disch := omega) only [ib_nI, gd_t, tn_nI]
  rcases h i hi with ⟨h1, h2⟩ | ⟨h1, l, n, hl, hn, h2, h3, h4, h5, h6⟩
  · rw [h1, if_neg one_ne, h2, if_neg (show ¬ (0 : Int32) ≤ -1 by decide)]; exact ⟨_, _, _, rfl, rfl, h⟩
  · rw [h1, if_pos rfl, h4, if_pos (nI_nn l (by omega)), h3, h5]
    refine ⟨_, _, _, rfl, rfl, fun k hk => ?_⟩
    by_cases hki : k = i
    · subst hki; rw [up_s, upd_same]; exact Or.inl ⟨rfl, rfl⟩
    · rw [up_n _ _ hki, upd_ne _ _ hki]; exact h k hk
-- one item
theorem sh_put {l : Nat} (T : Nat → Int64) {q : Nat} (hq : q < 24) (x : Int64) : ∃ y, p_X5_put (nI l) T (nI q) x = some (vp_updL T q y) ∧ p_X8_cut (nI l) x = some y := by
  rw [p_X5_put, p_X8_cut]
  simp (disch := omega) only [ib_nI, gd_t, tn_nI]
  by_cases h0 : nI l = 0
  · rw [if_pos h0, if_pos h0]; exact ⟨_, rfl, rfl⟩
  · rw [if_neg h0, if_neg h0]
    by_cases h1 : nI l = 1
    · rw [if_pos h1, if_pos h1]; exact ⟨_, rfl, rfl⟩
    · rw [if_neg h1, if_neg h1]
      by_cases h2 : nI l = 2
      · rw [if_pos h2, if_pos h2]; exact ⟨_, rfl, rfl⟩
      · rw [if_neg h2, if_neg h2]; exact ⟨_, rfl, rfl⟩
theorem RS_put {em la le : Nat → Int32} {el : Nat → Nat → Int64} {ml ms : Nat → Int32} {it : Nat → Int64} (h : RS em la le el ml ms it) {i q : Nat} (hi : i < 4) (hq : q < 24) (y : Int64) : RS em la le (va_up el i (vp_updL (el i) q y)) ml ms (vp_updL it (24 * i + q) y) := by
  intro k hk
  by_cases hki : k = i
  · subst hki
    rw [up_s]
    rcases h k hk with g | ⟨g1, l', n', g2, g3, g4, g5, g6, g7, g8⟩
    · exact Or.inl g
    · refine Or.inr ⟨g1, l', n', g2, g3, g4, g5, g6, g7, fun j hj => ?_⟩
      show vp_updL (el k) q y j = vp_updL it (24 * k + q) y (24 * k + j)
      by_cases hjq : j = q
      · subst hjq; rw [vL_same, vL_same]
      · rw [vL_ne _ _ hjq, vL_ne _ _ (by omega)]; exact g8 j hj
  · rw [up_n _ _ hki]
    rcases h k hk with g | ⟨g1, l', n', g2, g3, g4, g5, g6, g7, g8⟩
    · exact Or.inl g
    · refine Or.inr ⟨g1, l', n', g2, g3, g4, g5, g6, g7, fun j hj => ?_⟩
      show el k j = vp_updL it (24 * i + q) y (24 * k + j)
      rw [vL_ne _ _ (by omega)]; exact g8 j hj
theorem sh_item {em la le : Nat → Int32} {el : Nat → Nat → Int64} {ml ms : Nat → Int32} {it : Nat → Int64} (h : RS em la le el ml ms it) (x1 x2 x3 : Int32) (x4 : Int64) : ∃ (r : Int32) (el' : Nat → Nat → Int64) (it' : Nat → Int64), p_X7_item em la le el x1 x2 x3 x4 = some (r, el') ∧ p_X8_item ml ms it x1 x2 x3 x4 = some (r, it') ∧ RS em la le el' ml ms it' := by
  rw [p_X7_item, p_X8_item, show (1 : Int32) = nI 1 from rfl]
  rcases fnd h x1 x2 x3 (k := 1) (by omega) with ⟨e1, e2⟩ | ⟨e1, e2, e3⟩ | ⟨er, n1, n2, e1, e2, e3, e4⟩ | ⟨i, l, q, n, hi, hl, hn, hq, rfl, rfl, rfl, h1, h2, h3, h4, h5, e1, e2, e3, e4, h6⟩
  · rw [e1, bd1_s, if_neg (by decide), e2, bd1_s, if_pos rfl]; exact ⟨_, _, _, rfl, rfl, h⟩
  · rw [e1, bd1_s, if_neg (by decide), e2, bd1_s, if_neg one_ne, e3, bd1_s, if_pos rfl]; exact ⟨_, _, _, rfl, rfl, h⟩
  · rw [e1, bd1_s, if_neg n1, e2, bd1_s, if_neg one_ne, e3, bd1_s, if_neg one_ne, e4, bd1_s, if_neg n2]; exact ⟨_, _, _, rfl, rfl, h⟩
  · rw [e1, bd1_s, if_pos rfl, e2, bd1_s, if_neg one_ne, e3, bd1_s, if_neg one_ne, e4, bd1_s, if_pos (by decide)]
    obtain ⟨y, p1, p2⟩ := sh_put (l := l) (el i) (q := q) (by omega) x4
    rw [ib_nI hi (by omega), gd_t, tn_nI (by omega), h2, p1, bd1_s, p2, bd1_s, show (24 : Int32) * nI i + nI q = nI (24 * i + q) by rw [show (24 : Int32) * nI i = nI (24 * i) from mul_nI 24 i, nI_add], ib_nI (by omega) (by omega), gd_t, tn_nI (by omega)]
    exact ⟨_, _, _, rfl, rfl, RS_put h hi (by omega) y⟩
