/-! ===== said, count, page ===== -/
theorem m_said_loop {v : Nat → Int32} {A : Nat → Nat} (hV : VA A) (hM : repM v A) {k code i : Nat} (hk : k < 12) (hc : code < 32) (hi : i < A (11 + 15 * k)) : ∀ (d j n : Nat), j + d = i → d < n → loopN (p_X8_said_L90 v (nI k) (nI i) (nI code)) n (nI (nbs (A (11 + 15 * k)) code j), nI (pos A k code j), nI j) = some (nI (nbs (A (11 + 15 * k)) code i), nI (pos A k code i), nI i) := by
  have h1 := hV.ln hk
  have h2 := hV.st
  have h3 := ind_le hV hk
  intro d
  induction d with
  | zero =>
    intro j n hj hn
    obtain ⟨n, rfl⟩ : ∃ m, n = m + 1 := ⟨n - 1, by omega⟩
    refine loopN_out ?_
    rw [p_X8_said_L90]
    simp (disch := omega) only [le_nI]
    rw [if_pos (by omega), show j = i by omega]
  | succ d ih =>
    intro j n hj hn
    obtain ⟨n, rfl⟩ : ∃ m, n = m + 1 := ⟨n - 1, by omega⟩
    have h4 := h1.2.2.2 j (by omega)
    have hs : p_X8_said_L90 v (nI k) (nI i) (nI code) (nI (nbs (A (11 + 15 * k)) code j), nI (pos A k code j), nI j) = some (.inl (nI (nbs (A (11 + 15 * k)) code (j + 1)), nI (pos A k code (j + 1)), nI (j + 1))) := by
      rw [p_X8_said_L90, m_breaks hV hM hk hc (by omega), bd1_s]
      simp (disch := omega) only [le_nI]
      rw [if_neg (by omega)]
      show _ = some (Sum.inl (nI (nbs (A (11 + 15 * k)) code j + brk (A (11 + 15 * k)) code j), nI (if brk (A (11 + 15 * k)) code j = 1 then ind A k + A 4 else pos A k code j + A (12 + 15 * k + j) + 1), nI (j + 1)))
      have hb := brk_le (A (11 + 15 * k)) code j
      rcases (show brk (A (11 + 15 * k)) code j = 0 ∨ brk (A (11 + 15 * k)) code j = 1 by omega) with hz | hz
      · rw [hz, if_pos (show nI 0 = (0 : Int32) from rfl), p_X8_said_B119_24, nm_s, if_pos (show nI 0 = (0 : Int32) from rfl), show (3 : Int32) + nI j = nI (3 + j) from nI_add 3 j, m_at hM hk (by omega), bd1_s, nm_s, show 9 + 15 * k + (3 + j) = 12 + 15 * k + j by omega, nI_add, if_neg (show ¬ (0 : Nat) = 1 by decide), show nI (pos A k code j + A (12 + 15 * k + j)) + (1 : Int32) = nI (pos A k code j + A (12 + 15 * k + j) + 1) from nI_1 _, show nI j + (1 : Int32) = nI (j + 1) from nI_1 j, show nI (nbs (A (11 + 15 * k)) code j) + (0 : Int32) = nI (nbs (A (11 + 15 * k)) code j + 0) from nI_add _ 0]
      · rw [hz, if_neg (show ¬ nI 1 = (0 : Int32) by decide), p_X8_said_B119_24, nm_s, if_neg (show ¬ nI 1 = (0 : Int32) by decide), m_indent hV hM hk, bd1_s, nm_s, hM 4 (by omega), nI_add, if_pos rfl, show nI j + (1 : Int32) = nI (j + 1) from nI_1 j, show nI (nbs (A (11 + 15 * k)) code j) + (1 : Int32) = nI (nbs (A (11 + 15 * k)) code j + 1) from nI_1 _]
    rw [loopN_in hs]
    exact ih (j + 1) n (by omega) (by omega)
theorem m_in3 (x : Int32) : p_X8_in (Int32.toInt64 x) 0 3 = some (if x < 0 then 0 else if 3 < x then 0 else 1) := m_in x 0 3
theorem m_in2 (x : Int32) : p_X8_in (Int32.toInt64 x) 0 2 = some (if x < 0 then 0 else if 2 < x then 0 else 1) := m_in x 0 2
theorem m_in6 (x : Int32) : p_X8_in (Int32.toInt64 x) 0 6 = some (if x < 0 then 0 else if 6 < x then 0 else 1) := m_in x 0 6
theorem sm_cases (x : Int32) {N : Nat} (hN : N < 1000000) : (x < 0 ∨ nI N < x) ∨ ∃ k, k ≤ N ∧ x = nI k := by
  by_cases h : x < 0
  · exact Or.inl (Or.inl h)
  · obtain ⟨j, hj, rfl⟩ := nI_of h
    by_cases h2 : j ≤ N
    · exact Or.inr ⟨j, h2, rfl⟩
    · left; right; rw [lt_nI (by omega) hj]; omega
theorem pr_said {c v : Nat → Int32} {A : Nat → Nat} (hV : VA A) (hC : repC c A) (hM : repM v A) (i0 i1 i2 i3 : Int32) (a1 a2 a3 a4 a5 : Nat → Int32) (x1 x2 x3 : Int32) :
    ∃ r : Int32, (∃ o, p_X7_said i0 i1 i2 i3 c a1 a2 a3 a4 a5 x1 x2 x3 = some (r, o)) ∧ p_X8_said v x1 x2 x3 = some r := by
  have h0 := hV.n
  have hu := fuel_ge
  rw [p_X7_said, p_X8_said]
  rcases cm_line hV hC hM x1 with ⟨e1, e2⟩ | ⟨k, hk, rfl, e1, e2⟩
  · rw [e1, e2, bd1_s, bd1_s, if_pos (show (0 : Int32) = 0 from rfl)]
    exact ⟨-1, ⟨_, rfl⟩, rfl⟩
  · have h1 := hV.ln (k := k) (by omega)
    rw [e1, e2, bd1_s, bd1_s, if_neg (show ¬ (1 : Int32) = 0 by decide), if_neg (show ¬ (1 : Int32) = 0 by decide), c_wordsOf hV hC hk, bd1_s, m_words hM (by omega), bd1_s, m_inN, bd1_s, m_in3, bd1_s]
    rcases ix_cases x2 (N := A (11 + 15 * k)) (by omega) with ⟨h2, h3, h4⟩ | ⟨i, hi, rfl, h2, h3, h4, h5⟩
    · refine ⟨-1, ?_, ?_⟩
      · by_cases h : x2 < 0
        · rw [if_pos h]; exact ⟨_, rfl⟩
        · rw [if_neg h, if_neg (h2 h)]; exact ⟨_, rfl⟩
      · by_cases h : x2 < 0
        · rw [if_pos h, if_pos (show (0 : Int32) = 0 from rfl)]
        · rw [if_neg h, if_pos (h3.resolve_left h), if_pos (show (0 : Int32) = 0 from rfl)]
    · rw [if_neg h2, if_pos h3, if_neg h2, if_neg h4, if_neg (show ¬ (1 : Int32) = 0 by decide)]
      have h6 := h1.2.2.2 i (by omega)
      rcases sm_cases x3 (N := 3) (by omega) with hb | ⟨q, hq, rfl⟩
      · refine ⟨-1, ?_, ?_⟩
        · have n0 : ¬ x3 = 0 := fun z => by rw [z] at hb; rcases hb with hb | hb <;> exact absurd hb (by decide)
          have n1 : ¬ x3 = 1 := fun z => by rw [z] at hb; rcases hb with hb | hb <;> exact absurd hb (by decide)
          have n2 : ¬ x3 = 2 := fun z => by rw [z] at hb; rcases hb with hb | hb <;> exact absurd hb (by decide)
          have n3 : ¬ x3 = 3 := fun z => by rw [z] at hb; rcases hb with hb | hb <;> exact absurd hb (by decide)
          rw [if_neg n0, if_neg n1, if_neg n2, if_neg n3]; exact ⟨_, rfl⟩
        · by_cases h : x3 < 0
          · rw [if_pos h, if_pos (show (0 : Int32) = 0 from rfl)]
          · rw [if_neg h, if_pos (show (3 : Int32) < x3 from hb.resolve_left h), if_pos (show (0 : Int32) = 0 from rfl)]
      · obtain ⟨number, cost, rows, rc, nr, rn, row, posi, e, hL⟩ := c_laidOut hV hC hk i0 i1 i2 i3 a1 a2 a3 a4 a5
        have hB : ∀ w : Nat, w ≤ 9 → p_X8_said_B56_41 v (nI k) (nI i) (nI w) = some (nI (A (9 + 15 * k + (w + i)))) := by
          intro w hw
          rw [p_X8_said_B56_41, nI_add, m_at hM (by omega) (by omega), bd1_s]
        have lay : ∀ z : Int32, (∃ o, (if cost = -4 then some (-4) else gd (ib (nI i) 6) (some (row (tn (nI i))))) = some z ∧ o = z) → True := fun _ _ => trivial
        rcases (show q = 0 ∨ q = 1 ∨ q = 2 ∨ q = 3 by omega) with rfl | rfl | rfl | rfl
        · rw [if_pos (show nI 0 = (0 : Int32) from rfl), c_lettersOf hV hC hk hi, bd1_s, if_neg (show ¬ nI 0 < (0 : Int32) by decide), if_neg (show ¬ (3 : Int32) < nI 0 by decide), if_neg (show ¬ (1 : Int32) = 0 by decide), if_neg (show ¬ (2 : Int32) ≤ nI 0 by decide), if_pos (show nI 0 = (0 : Int32) from rfl), show p_X8_said_B56_41 v (nI k) (nI i) 3 = _ from hB 3 (by omega), show 9 + 15 * k + (3 + i) = 12 + 15 * k + i by omega]
          exact ⟨_, ⟨_, rfl⟩, rfl⟩
        · rw [if_neg (show ¬ nI 1 = (0 : Int32) by decide), if_pos (show nI 1 = (1 : Int32) from rfl), c_pauseOf hV hC hk hi, bd1_s, if_neg (show ¬ nI 1 < (0 : Int32) by decide), if_neg (show ¬ (3 : Int32) < nI 1 by decide), if_neg (show ¬ (1 : Int32) = 0 by decide), if_neg (show ¬ (2 : Int32) ≤ nI 1 by decide), if_neg (show ¬ nI 1 = (0 : Int32) by decide), show p_X8_said_B56_41 v (nI k) (nI i) 9 = _ from hB 9 (by omega), show 9 + 15 * k + (9 + i) = 18 + 15 * k + i by omega]
          exact ⟨_, ⟨_, rfl⟩, rfl⟩
        · rw [if_neg (show ¬ nI 2 = (0 : Int32) by decide), if_neg (show ¬ nI 2 = (1 : Int32) by decide), if_pos (show nI 2 = (2 : Int32) from rfl), e, bd9_s, p_X1_rowOf, if_neg (show ¬ nI 2 < (0 : Int32) by decide), if_neg (show ¬ (3 : Int32) < nI 2 by decide), if_neg (show ¬ (1 : Int32) = 0 by decide), if_pos (show (2 : Int32) ≤ nI 2 by decide), m_best hV hM (by omega), bd1_s, hL.2.1]
          unfold csN
          cases hb : bst A k with
          | none => exact ⟨-4, ⟨_, rfl⟩, rfl⟩
          | some x =>
            have hx := bst_bnd hV (by omega) hb
            rw [if_neg (show ¬ enc (Option.map (fun x : Nat × Nat => x.1) (some x)) = (-4 : Int32) from enc_ne (x := x.1) (by omega)), show encC (some x) = nI x.2 from rfl, if_pos (show (0 : Int32) ≤ nI x.2 from nI_pos' (by omega)), m_indent hV hM (by omega), bd1_s, show ((0 : Int32), nI (ind A k), (0 : Int32)) = (nI (nbs (A (11 + 15 * k)) x.2 0), nI (pos A k x.2 0), nI 0) from rfl, m_said_loop hV hM (by omega) hx.2 hi i 0 fuel (by omega) (by omega), bd3_s, if_pos (show nI 2 = (2 : Int32) from rfl)]
            simp (disch := omega) only [ib_nI, gd_t, tn_nI, bd1_s]
            rw [(hL.2.2.2 x hb i hi).1]
            exact ⟨_, ⟨_, rfl⟩, rfl⟩
        · rw [if_neg (show ¬ nI 3 = (0 : Int32) by decide), if_neg (show ¬ nI 3 = (1 : Int32) by decide), if_neg (show ¬ nI 3 = (2 : Int32) by decide), if_pos (show nI 3 = (3 : Int32) from rfl), e, bd9_s, p_X1_positionOf, if_neg (show ¬ nI 3 < (0 : Int32) by decide), if_neg (show ¬ (3 : Int32) < nI 3 by decide), if_neg (show ¬ (1 : Int32) = 0 by decide), if_pos (show (2 : Int32) ≤ nI 3 by decide), m_best hV hM (by omega), bd1_s, hL.2.1]
          unfold csN
          cases hb : bst A k with
          | none => exact ⟨-4, ⟨_, rfl⟩, rfl⟩
          | some x =>
            have hx := bst_bnd hV (by omega) hb
            rw [if_neg (show ¬ enc (Option.map (fun x : Nat × Nat => x.1) (some x)) = (-4 : Int32) from enc_ne (x := x.1) (by omega)), show encC (some x) = nI x.2 from rfl, if_pos (show (0 : Int32) ≤ nI x.2 from nI_pos' (by omega)), m_indent hV hM (by omega), bd1_s, show ((0 : Int32), nI (ind A k), (0 : Int32)) = (nI (nbs (A (11 + 15 * k)) x.2 0), nI (pos A k x.2 0), nI 0) from rfl, m_said_loop hV hM (by omega) hx.2 hi i 0 fuel (by omega) (by omega), bd3_s, if_neg (show ¬ nI 3 = (2 : Int32) by decide)]
            simp (disch := omega) only [ib_nI, gd_t, tn_nI, bd1_s]
            rw [(hL.2.2.2 x hb i hi).2]
            exact ⟨_, ⟨_, rfl⟩, rfl⟩
-- the sum of all costs
theorem cm_costs {c v : Nat → Int32} {A : Nat → Nat} (hV : VA A) (hC : repC c A) (hM : repM v A) : ∀ (d k n : Nat) (s i0 i1 i2 i3 : Int32) (a1 a2 a3 a4 a5 : Nat → Int32), k + d = A 0 → d < n →
    (∃ (r z : Int32) (j0 j1 j2 j3 : Int32) (b1 b2 b3 b4 b5 : Nat → Int32), loopN (p_X7_costOfAll_L4 c) n (s, nI k, i0, i1, i2, i3, a1, a2, a3, a4, a5) = some (.inl (r, z, j0, j1, j2, j3, b1, b2, b3, b4, b5)) ∧ loopN (p_X8_allCosts_L4 v) n (s, nI k) = some (.inl (r, z))) ∨
    (∃ o, loopN (p_X7_costOfAll_L4 c) n (s, nI k, i0, i1, i2, i3, a1, a2, a3, a4, a5) = some (.inr (-4, o)) ∧ loopN (p_X8_allCosts_L4 v) n (s, nI k) = some (.inr (-4))) := by
  have h0 := hV.n
  intro d
  induction d with
  | zero =>
    intro k n s i0 i1 i2 i3 a1 a2 a3 a4 a5 hk hn
    obtain ⟨n, rfl⟩ : ∃ m, n = m + 1 := ⟨n - 1, by omega⟩
    left
    refine ⟨s, nI k, i0, i1, i2, i3, a1, a2, a3, a4, a5, loopN_out ?_, loopN_out ?_⟩
    · rw [p_X7_costOfAll_L4, c_lines hC, bd1_s]
      simp (disch := omega) only [le_nI]
      rw [if_pos (by omega)]
    · rw [p_X8_allCosts_L4, hM 0 (by omega)]
      simp (disch := omega) only [le_nI]
      rw [if_pos (by omega)]
  | succ d ih =>
    intro k n s i0 i1 i2 i3 a1 a2 a3 a4 a5 hk hn
    obtain ⟨n, rfl⟩ : ∃ m, n = m + 1 := ⟨n - 1, by omega⟩
    obtain ⟨number, cost, rows, rc, nr, rn, row, posi, e, hL⟩ := c_laidOut hV hC (k := k) (by omega) i0 i1 i2 i3 a1 a2 a3 a4 a5
    have hs7 : p_X7_costOfAll_L4 c (s, nI k, i0, i1, i2, i3, a1, a2, a3, a4, a5) = if cost = -4 then some (.inr (.inr (-4, nI (ind A k), number, cost, rows, rc, nr, rn, row, posi))) else some (.inl (s + cost, nI (k + 1), nI (ind A k), number, cost, rows, rc, nr, rn, row, posi)) := by
      rw [p_X7_costOfAll_L4, c_lines hC, bd1_s, e, bd9_s]
      simp (disch := omega) only [le_nI, nm_s]
      rw [if_neg (by omega), show nI k + (1 : Int32) = nI (k + 1) from nI_1 k]
    have hs8 : p_X8_allCosts_L4 v (s, nI k) = if (0 : Int32) ≤ enc (csN A k) then some (.inl (s + enc (csN A k), nI (k + 1))) else some (.inr (.inr (-4))) := by
      rw [p_X8_allCosts_L4, hM 0 (by omega), m_costOf hV hM (by omega), bd1_s]
      simp (disch := omega) only [le_nI, nm_s]
      rw [if_neg (by omega), show nI k + (1 : Int32) = nI (k + 1) from nI_1 k]
    have ec : cost = enc (csN A k) := hL.2.1
    rw [ec] at hs7
    cases hcs : csN A k with
    | none =>
      rw [hcs] at hs7 hs8
      rw [if_pos (show enc none = (-4 : Int32) from rfl)] at hs7
      rw [if_neg (show ¬ (0 : Int32) ≤ enc none by decide)] at hs8
      right
      exact ⟨_, loopN_out hs7, loopN_out hs8⟩
    | some x =>
      have hx : x ≤ 9600 := by
        unfold csN at hcs
        cases hb : bst A k with
        | none => rw [hb] at hcs; cases hcs
        | some y => rw [hb] at hcs; cases hcs; exact (bst_bnd hV (by omega) hb).1
      rw [hcs] at hs7 hs8
      rw [if_neg (show ¬ enc (some x) = (-4 : Int32) from enc_ne (by omega))] at hs7
      rw [if_pos (show (0 : Int32) ≤ enc (some x) from nI_pos' (n := x) (by omega))] at hs8
      rw [loopN_in hs7, loopN_in hs8]
      exact ih (k + 1) n _ _ _ _ _ _ _ _ _ _ (by omega) (by omega)
theorem pr_costs {c v : Nat → Int32} {A : Nat → Nat} (hV : VA A) (hC : repC c A) (hM : repM v A) (i0 i1 i2 i3 : Int32) (a1 a2 a3 a4 a5 : Nat → Int32) : ∃ (r j0 j1 j2 j3 : Int32) (b1 b2 b3 b4 b5 : Nat → Int32), p_X7_costOfAll i0 i1 i2 i3 c a1 a2 a3 a4 a5 = some (r, j0, j1, j2, j3, b1, b2, b3, b4, b5) ∧ p_X8_allCosts v = some r := by
  have h0 := hV.n
  have hu := fuel_ge
  rw [p_X7_costOfAll, p_X8_allCosts]
  rcases cm_costs hV hC hM (A 0) 0 fuel 0 i0 i1 i2 i3 a1 a2 a3 a4 a5 (by omega) (by omega) with ⟨r, z, j0, j1, j2, j3, b1, b2, b3, b4, b5, e1, e2⟩ | ⟨⟨j0, j1, j2, j3, b1, b2, b3, b4, b5⟩, e1, e2⟩
  · rw [show loopN (p_X7_costOfAll_L4 c) fuel (0, 0, i0, i1, i2, i3, a1, a2, a3, a4, a5) = _ from e1, show loopN (p_X8_allCosts_L4 v) fuel (0, 0) = _ from e2]
    exact ⟨r, j0, j1, j2, j3, b1, b2, b3, b4, b5, rfl, rfl⟩
  · rw [show loopN (p_X7_costOfAll_L4 c) fuel (0, 0, i0, i1, i2, i3, a1, a2, a3, a4, a5) = _ from e1, show loopN (p_X8_allCosts_L4 v) fuel (0, 0) = _ from e2]
    exact ⟨-4, j0, j1, j2, j3, b1, b2, b3, b4, b5, rfl, rfl⟩
theorem pr_count {c v : Nat → Int32} {A : Nat → Nat} (hV : VA A) (hC : repC c A) (hM : repM v A) (size : Int32) (i0 i1 i2 i3 z : Int32) (a1 a2 a3 a4 a5 R7 w np : Nat → Int32) (z1 z2 : Int32) (R cu pa nx : Nat → Int32) (x1 : Int32) :
    ∃ r : Int32, (∃ o, p_X7_count size i0 i1 i2 i3 z c a1 a2 a3 a4 a5 R7 w np x1 = some (r, o)) ∧ ∃ o, p_X8_count size z1 z2 v R cu pa nx x1 = some (r, o) := by
  have h0 := hV.n
  rw [p_X7_count, p_X8_count, m_in6, bd1_s]
  rcases sm_cases x1 (N := 6) (by omega) with hb | ⟨q, hq, rfl⟩
  · have e7 : (if x1 < 0 then p_X7_count_B19_0 size i0 i1 i2 i3 z c a1 a2 a3 a4 a5 R7 w np x1 else if (7 : Int32) ≤ x1 then p_X7_count_B19_0 size i0 i1 i2 i3 z c a1 a2 a3 a4 a5 R7 w np x1 else bd1 (p_X4_setting c x1) fun r_56 => some (r_56, i0, i1, i2, i3, z, a1, a2, a3, a4, a5, R7, w, np)) = p_X7_count_B19_0 size i0 i1 i2 i3 z c a1 a2 a3 a4 a5 R7 w np x1 := by
      by_cases h : x1 < 0
      · rw [if_pos h]
      · have h6 := hb.resolve_left h
        have h7 : (7 : Int32) ≤ x1 := by
          rw [Int32.lt_iff_toInt_lt] at h6
          rw [Int32.le_iff_toInt_le]
          have : (nI 6).toInt = 6 := by decide
          have : (7 : Int32).toInt = 7 := by decide
          omega
        rw [if_neg h, if_pos h7]
    have e8 : (if x1 < 0 then (0 : Int32) else if 6 < x1 then 0 else 1) = 0 := by
      by_cases h : x1 < 0
      · rw [if_pos h]
      · rw [if_neg h, if_pos (show (6 : Int32) < x1 from hb.resolve_left h)]
    obtain ⟨RF8, cF, pF, xF, el, hR8, hMW⟩ := m_lays hV hM z1 z2 R cu pa nx
    rw [e7, e8, if_pos (show (0 : Int32) = 0 from rfl), el, bd6_s, p_X7_count_B19_0]
    by_cases q7 : x1 = 7
    · rw [if_pos q7, if_pos q7, c_lines hC, bd1_s, hM 0 (by omega)]; exact ⟨_, ⟨_, rfl⟩, _, rfl⟩
    rw [if_neg q7, if_neg q7]
    by_cases q8 : x1 = 8
    · rw [if_pos q8, if_pos q8, c_stanzas hV hC, bd1_s, m_stanzas hV hM, bd1_s]; exact ⟨_, ⟨_, rfl⟩, _, rfl⟩
    rw [if_neg q8, if_neg q8]
    by_cases q9 : x1 = 9
    · obtain ⟨r, j0, j1, j2, j3, b1, b2, b3, b4, b5, e1, e2⟩ := pr_costs hV hC hM i0 i1 i2 i3 a1 a2 a3 a4 a5
      rw [if_pos q9, if_pos q9, e1, bd10_s, e2, bd1_s]; exact ⟨_, ⟨_, rfl⟩, _, rfl⟩
    rw [if_neg q9, if_neg q9]
    obtain ⟨j0, j1, j2, j3, j4, b1, b2, b3, b4, b5, RF, wF, npF, ed, hR, hw, hCW⟩ := c_distributed hV hC i0 i1 i2 i3 z a1 a2 a3 a4 a5 R7 w np
    by_cases q10 : x1 = 10
    · rw [if_pos q10, if_pos q10, ed, bd13_s, p_X3_number, hw]
      cases hd : dst A with
      | none => exact ⟨-4, ⟨_, rfl⟩, _, rfl⟩
      | some x =>
        have hbd := dst_bnd hV hd
        have hMW := hMW (by rw [hd]; simp)
        rw [if_neg (show ¬ enc (Option.map (fun x : Nat × Nat => x.1) (some x)) = (-4 : Int32) from enc_ne (x := x.1) (by omega)), bd1_s, if_neg (show ¬ (some x) = none by simp), if_neg (show ¬ (1 : Int32) = 0 by decide), (hMW 0 (by omega) (by omega)).2.1, dst_some hd, show irem (enc (Option.map (fun x : Nat × Nat => x.1) (some x))) 100 = nI (x.1 % 100) from rem_nI (a := x.1) (d := 100) (by omega) (by omega) (by omega)]
        exact ⟨_, ⟨_, rfl⟩, _, rfl⟩
    rw [if_neg q10, if_neg q10]
    by_cases q11 : x1 = 11
    · rw [if_pos q11, if_pos q11, ed, bd13_s, p_X3_cutStanzas, hw]
      cases hd : dst A with
      | none => exact ⟨-4, ⟨_, rfl⟩, _, rfl⟩
      | some x =>
        have hbd := dst_bnd hV hd
        have hMW := hMW (by rw [hd]; simp)
        rw [if_neg (show ¬ enc (Option.map (fun x : Nat × Nat => x.1) (some x)) = (-4 : Int32) from enc_ne (x := x.1) (by omega)), bd1_s, if_neg (show ¬ (some x) = none by simp), if_neg (show ¬ (1 : Int32) = 0 by decide), (hMW 0 (by omega) (by omega)).1, dst_some hd, show enc (Option.map (fun x : Nat × Nat => x.1) (some x)) / 100 = nI (x.1 / 100) from div_nI (a := x.1) (d := 100) (by omega) (by omega) (by omega)]
        exact ⟨_, ⟨_, rfl⟩, _, rfl⟩
    rw [if_neg q11, if_neg q11]
    by_cases q12 : x1 = 12
    · rw [if_pos q12, if_pos q12]; exact ⟨_, ⟨_, rfl⟩, _, rfl⟩
    rw [if_neg q12, if_neg q12]
    exact ⟨-1, ⟨_, rfl⟩, _, rfl⟩
  · have e6 : ((6 : Int32) < nI q) = (6 < q) := lt_nI (a := 6) (by omega) (by omega)
    have e7 : ((7 : Int32) ≤ nI q) = (7 ≤ q) := le_nI (a := 7) (by omega) (by omega)
    simp only [e6, e7]
    rw [if_neg (show ¬ nI q < (0 : Int32) from nI_pos (by omega)), if_neg (show ¬ 7 ≤ q by omega), if_neg (show ¬ nI q < (0 : Int32) from nI_pos (by omega)), if_neg (show ¬ 6 < q by omega), if_neg (show ¬ (1 : Int32) = 0 by decide), c_setting hC (by omega), bd1_s, show (2 : Int32) + nI q = nI (2 + q) from nI_add 2 q]
    simp (disch := omega) only [ib_nI, gd_t, tn_nI]
    rw [hM (2 + q) (by omega)]
    exact ⟨_, ⟨_, rfl⟩, _, rfl⟩
theorem pr_page {c v : Nat → Int32} {A : Nat → Nat} (hV : VA A) (hC : repC c A) (hM : repM v A) (i0 i1 i2 i3 z : Int32) (a1 a2 a3 a4 a5 R7 w np : Nat → Int32) (z1 z2 : Int32) (R cu pa nx : Nat → Int32) (x1 x2 : Int32) :
    ∃ r : Int32, (∃ o, p_X7_page i0 i1 i2 i3 z c a1 a2 a3 a4 a5 R7 w np x1 x2 = some (r, o)) ∧ ∃ o, p_X8_page z1 z2 v R cu pa nx x1 x2 = some (r, o) := by
  have h0 := hV.n
  obtain ⟨RF8, cF, pF, xF, el, hR8, hMW⟩ := m_lays hV hM z1 z2 R cu pa nx
  obtain ⟨j0, j1, j2, j3, j4, b1, b2, b3, b4, b5, RF, wF, npF, ed, hR, hw, hCW⟩ := c_distributed hV hC i0 i1 i2 i3 z a1 a2 a3 a4 a5 R7 w np
  rw [p_X7_page, p_X8_page, el, bd6_s, ed, bd13_s, p_X3_number, hw]
  cases hd : dst A with
  | none =>
    rw [if_pos (show enc (Option.map (fun x : Nat × Nat => x.1) none) = (-4 : Int32) from rfl), bd1_s, if_pos rfl, if_pos (show (0 : Int32) = 0 from rfl)]
    by_cases h : x1 < 0
    · rw [if_pos h]; exact ⟨_, ⟨_, rfl⟩, _, rfl⟩
    · have h2 : ¬ x1 < -4 := by
        rw [Int32.lt_iff_toInt_lt] at h ⊢
        have : (0 : Int32).toInt = 0 := by decide
        have : (-4 : Int32).toInt = -4 := by decide
        omega
      rw [if_neg h, if_neg h2]; exact ⟨_, ⟨_, rfl⟩, _, rfl⟩
  | some x =>
    have hbd := dst_bnd hV hd
    have hMW := hMW (by rw [hd]; simp)
    have hCW := hCW (by rw [hd]; simp)
    rw [if_neg (show ¬ enc (Option.map (fun x : Nat × Nat => x.1) (some x)) = (-4 : Int32) from enc_ne (x := x.1) (by omega)), bd1_s, if_neg (show ¬ (some x) = none by simp), if_neg (show ¬ (1 : Int32) = 0 by decide), (hMW 0 (by omega) (by omega)).2.1, dst_some hd, show irem (enc (Option.map (fun x : Nat × Nat => x.1) (some x))) 100 = nI (x.1 % 100) from rem_nI (a := x.1) (d := 100) (by omega) (by omega) (by omega), show mP (some x) = nI (x.1 % 100) from rfl, m_inN, bd1_s, m_in2, bd1_s]
    rcases ix_cases x1 (N := x.1 % 100) (by omega) with ⟨h2, h3, h4⟩ | ⟨q, hq, rfl, h2, h3, h4, h5⟩
    · refine ⟨-1, ?_, ?_⟩
      · by_cases h : x1 < 0
        · rw [if_pos h]; exact ⟨_, rfl⟩
        · rw [if_neg h, if_neg (h2 h)]; exact ⟨_, rfl⟩
      · by_cases h : x1 < 0
        · rw [if_pos h, if_pos (show (0 : Int32) = 0 from rfl)]; exact ⟨_, rfl⟩
        · rw [if_neg h, if_pos (h3.resolve_left h), if_pos (show (0 : Int32) = 0 from rfl)]; exact ⟨_, rfl⟩
    · obtain ⟨f1, f2, f3, y, f4, f5⟩ := chn_lt hV hd hq
      have en : xF (chn A q) = nI (chn A (q + 1)) := by rw [(hMW (chn A q) (by omega) (by omega)).2.2 f1 y f4, f5]
      rw [if_neg h2, if_pos h3, if_neg h2, if_neg h4, if_neg (show ¬ (1 : Int32) = 0 by decide), c_firstL hV hd hCW (show q ≤ x.1 % 100 by omega), bd1_s, show nI q + (1 : Int32) = nI (q + 1) from nI_1 q, c_firstL hV hd hCW (show q + 1 ≤ x.1 % 100 by omega), bd1_s, m_firstOf hV hd hMW (show q ≤ x.1 % 100 by omega), bd1_s]
      simp (disch := omega) only [ib_nI, gd_t, tn_nI, en]
      rw [c_heightOf hV hC RF (by omega) f3, bd1_s, m_rowsFrom hV hM RF8 (by omega) f3, bd1_s, hg_congr (R := RF) (S := RR A) (by omega) (fun j hj => hR j (by omega)), hg_congr (R := RF8) (S := RR A) (by omega) (fun j hj => hR8 j (by omega))]
      rcases sm_cases x2 (N := 2) (by omega) with hb | ⟨u, hu, rfl⟩
      · refine ⟨-1, ?_, ?_⟩
        · have n0 : ¬ x2 = 0 := fun z => by rw [z] at hb; rcases hb with hb | hb <;> exact absurd hb (by decide)
          have n1 : ¬ x2 = 1 := fun z => by rw [z] at hb; rcases hb with hb | hb <;> exact absurd hb (by decide)
          have n2 : ¬ x2 = 2 := fun z => by rw [z] at hb; rcases hb with hb | hb <;> exact absurd hb (by decide)
          rw [if_neg n0, if_neg n1, if_neg n2]; exact ⟨_, rfl⟩
        · by_cases h : x2 < 0
          · rw [if_pos h, if_pos (show (0 : Int32) = 0 from rfl)]; exact ⟨_, rfl⟩
          · rw [if_neg h, if_pos (show (2 : Int32) < x2 from hb.resolve_left h), if_pos (show (0 : Int32) = 0 from rfl)]; exact ⟨_, rfl⟩
      · rcases (show u = 0 ∨ u = 1 ∨ u = 2 by omega) with rfl | rfl | rfl
        · exact ⟨_, ⟨_, rfl⟩, _, rfl⟩
        · exact ⟨_, ⟨_, rfl⟩, _, rfl⟩
        · exact ⟨_, ⟨_, rfl⟩, _, rfl⟩
