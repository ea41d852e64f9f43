-- the edits of a poem, class and model alike
theorem upd_at (f : Nat → Int32) (k : Nat) (x : Int32) (j : Nat) : upd f k x j = if j = k then x else f j := rfl
def RP (c v : Nat → Int32) : Prop := ∃ A : Nat → Nat, VA A ∧ repC c A ∧ repM v A
theorem repC_to {c c' : Nat → Int32} {A : Nat → Nat} (hV : VA A) (h : repC c A) (e : ∀ j, j < 117 → c' j = c j) : repC c' A := by
  obtain ⟨h1, h2, h3, h4⟩ := h
  have h0 := hV.n
  refine ⟨fun i hi => by rw [e i (by omega)]; exact h1 i hi, by rw [e 7 (by omega)]; exact h2, by rw [e 8 (by omega)]; exact h3, fun k hk => ?_⟩
  have hw := (hV.ln (show k < 12 by omega)).2.2.1
  obtain ⟨q1, q2, q3, q4⟩ := h4 k hk
  refine ⟨by rw [e _ (by omega)]; exact q1, by rw [e _ (by omega)]; exact q2, by rw [e _ (by omega)]; exact q3, fun i hi => by rw [e _ (by omega)]; exact q4 i hi⟩
theorem RP_to {c v c' v' : Nat → Int32} (h : RP c v) (e : ∀ j, j < 117 → c' j = c j) (f : ∀ j, j < 189 → v' j = v j) : RP c' v' := by
  obtain ⟨A, hV, hC, hM⟩ := h
  exact ⟨A, hV, repC_to hV hC e, fun j hj => by rw [f j hj]; exact hM j hj⟩
theorem rg_cases (x : Int32) (a b : Nat) (hb : b < 1000000) (hab : a ≤ b) : (x < nI a ∨ (¬ x < nI a ∧ nI b < x)) ∨ ∃ y, a ≤ y ∧ y ≤ b ∧ x = nI y := by
  by_cases h : x < nI a
  · exact Or.inl (Or.inl h)
  · have h0 : ¬ x < 0 := fun q => h (by
      rw [Int32.lt_iff_toInt_lt] at q ⊢
      have : (nI a).toInt = (a : Int) := nI_toInt (by omega)
      have : (0 : Int32).toInt = 0 := by decide
      omega)
    obtain ⟨j, hj, rfl⟩ := nI_of h0
    rw [lt_nI hj (by omega)] at h
    by_cases h2 : j ≤ b
    · exact Or.inr ⟨j, by omega, h2, rfl⟩
    · left; right; rw [lt_nI (by omega) (by omega), lt_nI (by omega) hj]; omega
theorem c_isRhyme (x : Int32) : p_X4_isRhyme x = some (if x < 0 then 0 else if (4 : Int32) ≤ x then 0 else 1) := by
  rw [p_X4_isRhyme]
  by_cases h : x < 0
  · rw [if_pos h, if_pos h]
  · rw [if_neg h, if_neg h]
    by_cases h2 : (4 : Int32) ≤ x
    · rw [if_pos h2, if_pos h2]
    · rw [if_neg h2, if_neg h2]
theorem le4 {x : Int32} (h : (3 : Int32) < x) : (4 : Int32) ≤ x := by
  rw [Int32.lt_iff_toInt_lt] at h
  rw [Int32.le_iff_toInt_le]
  have : (3 : Int32).toInt = 3 := by decide
  have : (4 : Int32).toInt = 4 := by decide
  omega
-- a new line
def aLn (A : Nat → Nat) (x b : Nat) : Nat → Nat := fun j => if j = 0 then A 0 + 1 else if j = 9 + 15 * A 0 then x else if j = 10 + 15 * A 0 then b else if 9 + 15 * A 0 ≤ j ∧ j < 24 + 15 * A 0 then 0 else A j
theorem aLn_out {A : Nat → Nat} {x b j : Nat} (h : j < 9 + 15 * A 0 ∨ 24 + 15 * A 0 ≤ j) (h0 : j ≠ 0) : aLn A x b j = A j := by
  unfold aLn
  rw [if_neg h0, if_neg (by omega), if_neg (by omega), if_neg (by omega)]
theorem aLn_in {A : Nat → Nat} {x b j : Nat} (h : 11 + 15 * A 0 ≤ j) (h0 : j < 24 + 15 * A 0) : aLn A x b j = 0 := by
  unfold aLn
  rw [if_neg (by omega), if_neg (by omega), if_neg (by omega), if_pos (by omega)]
theorem aLn_r {A : Nat → Nat} {x b : Nat} : aLn A x b (9 + 15 * A 0) = x := by
  unfold aLn
  rw [if_neg (by omega), if_pos rfl]
theorem aLn_b {A : Nat → Nat} {x b : Nat} : aLn A x b (10 + 15 * A 0) = b := by
  unfold aLn
  rw [if_neg (by omega), if_neg (by omega), if_pos rfl]
theorem aLn_VA {A : Nat → Nat} (hV : VA A) (hN : A 0 < 12) {x b : Nat} (hx : x ≤ 3) (hb : b ≤ 1) : VA (aLn A x b) := by
  obtain ⟨p0, p1, p2, p3, p4, p5, p6, p7, p8, p9, p10⟩ := hV
  have o : ∀ j, 1 ≤ j → j < 9 → aLn A x b j = A j := fun j h1 h2 => aLn_out (by omega) (by omega)
  refine ⟨(by show A 0 + 1 ≤ 12; omega), by rw [o 1 (by omega) (by omega)]; exact p1, by rw [o 2 (by omega) (by omega)]; exact p2, by rw [o 3 (by omega) (by omega)]; exact p3, by rw [o 4 (by omega) (by omega)]; exact p4, by rw [o 5 (by omega) (by omega)]; exact p5, by rw [o 6 (by omega) (by omega)]; exact p6, by rw [o 7 (by omega) (by omega)]; exact p7, by rw [o 8 (by omega) (by omega)]; exact p8, fun k hk => ?_, fun k hk i hi => ?_⟩
  · by_cases h : k = A 0
    · subst h
      refine ⟨by rw [aLn_r]; exact hx, by rw [aLn_b]; exact hb, by rw [aLn_in (by omega) (by omega)]; omega, fun i hi => ⟨by rw [aLn_in (by omega) (by omega)]; omega, by rw [aLn_in (by omega) (by omega)]; omega⟩⟩
    · obtain ⟨q1, q2, q3, q4⟩ := p9 k hk
      refine ⟨by rw [aLn_out (by omega) (by omega)]; exact q1, by rw [aLn_out (by omega) (by omega)]; exact q2, by rw [aLn_out (by omega) (by omega)]; exact q3, fun i hi => ⟨by rw [aLn_out (by omega) (by omega)]; exact (q4 i hi).1, by rw [aLn_out (by omega) (by omega)]; exact (q4 i hi).2⟩⟩
  · have hk : k < A 0 + 1 := hk
    by_cases h : k = A 0
    · subst h
      rw [aLn_in (by omega) (by omega)] at hi; omega
    · rw [aLn_out (by omega) (by omega)] at hi
      have := (p9 k (by omega)).2.2.1
      rw [aLn_out (by omega) (by omega)]; exact p10 k (by omega) i hi
theorem m_zero15 {N : Nat} (hN : N < 12) (v0 : Nat → Int32) : ∀ (d i n : Nat) (v : Nat → Int32), i + d = 15 → (∀ j, v j = if 9 + 15 * N ≤ j ∧ j < 9 + 15 * N + i then 0 else v0 j) → d < n → ∃ (z : Int32) (vF : Nat → Int32), loopN (p_X8_lineMore_L43 (nI N)) n (nI i, v) = some (z, vF) ∧ ∀ j, vF j = if 9 + 15 * N ≤ j ∧ j < 24 + 15 * N then 0 else v0 j := by
  intro d
  induction d with
  | zero =>
    intro i n v hi hv hn
    obtain ⟨n, rfl⟩ : ∃ m, n = m + 1 := ⟨n - 1, by omega⟩
    have : i = 15 := by omega
    subst this
    refine ⟨_, v, loopN_out (e := (nI 15, v)) ?_, fun j => by rw [hv j, show 9 + 15 * N + 15 = 24 + 15 * N by omega]⟩
    rw [p_X8_lineMore_L43, if_pos (by decide)]
  | succ d ih =>
    intro i n v hi hv hn
    obtain ⟨n, rfl⟩ : ∃ m, n = m + 1 := ⟨n - 1, by omega⟩
    have hs : p_X8_lineMore_L43 (nI N) (nI i, v) = some (.inl (nI (i + 1), upd v (9 + 15 * N + i) 0)) := by
      rw [p_X8_lineMore_L43]
      simp (disch := omega) only [ol, nI_add, mul_nI, le_nI, ib_nI, gd_t, tn_nI]
      rw [if_neg (by omega)]
    rw [loopN_in hs]
    refine ih (i + 1) n _ (by omega) (fun j => ?_) (by omega)
    rw [upd_at]
    by_cases h : j = 9 + 15 * N + i
    · rw [if_pos h, if_pos (by omega)]
    · rw [if_neg h, hv j]
      by_cases h2 : 9 + 15 * N ≤ j ∧ j < 9 + 15 * N + i
      · rw [if_pos h2, if_pos (by omega)]
      · rw [if_neg h2, if_neg (by omega)]
theorem ed_line {c v : Nat → Int32} (h : RP c v) (x1 x2 : Int32) : ∃ (r : Int32) (c' v' : Nat → Int32), p_X4_addLine c x1 x2 = some (r, c') ∧ p_X8_lineMore v x1 x2 = some (r, v') ∧ RP c' v' := by
  have hRP := h
  obtain ⟨A, hV, hC, hM⟩ := h
  have hu := fuel_ge
  have h0 := hV.n
  rw [p_X4_addLine, p_X8_lineMore, c_isRhyme, bd1_s, m_in3, bd1_s, m_in1, bd1_s]
  rcases rg_cases x1 0 3 (by omega) (by omega) with (q | ⟨q, q'⟩) | ⟨x, _, hx, rfl⟩
  · rw [if_pos (show x1 < 0 from q), if_pos (show x1 < 0 from q), if_pos rfl, if_pos rfl]; exact ⟨_, _, _, rfl, rfl, hRP⟩
  · rw [if_neg (show ¬ x1 < 0 from q), if_neg (show ¬ x1 < 0 from q), if_pos (le4 q'), if_pos rfl, if_pos (show (3 : Int32) < x1 from q'), if_pos rfl]; exact ⟨_, _, _, rfl, rfl, hRP⟩
  rw [show (if nI x < 0 then (0 : Int32) else if (4 : Int32) ≤ nI x then 0 else 1) = 1 by simp (disch := omega) only [ol, lt_nI, le_nI]; rw [if_neg (by omega), if_neg (by omega)], show (if nI x < 0 then (0 : Int32) else if (3 : Int32) < nI x then 0 else 1) = 1 by simp (disch := omega) only [ol, lt_nI, le_nI]; rw [if_neg (by omega), if_neg (by omega)], if_neg (show ¬ (1 : Int32) = 0 by decide), if_neg (show ¬ (1 : Int32) = 0 by decide)]
  rcases rg_cases x2 0 1 (by omega) (by omega) with (q | ⟨q, q'⟩) | ⟨b, _, hb, rfl⟩
  · rw [if_pos (show x2 < 0 from q), if_pos (show x2 < 0 from q), if_pos rfl]; exact ⟨_, _, _, rfl, rfl, hRP⟩
  · rw [if_neg (show ¬ x2 < 0 from q), if_neg (show ¬ x2 < 0 from q), if_neg (Int32.not_le.mpr (show (1 : Int32) < x2 from q')), if_pos (show (1 : Int32) < x2 from q'), if_pos rfl]; exact ⟨_, _, _, rfl, rfl, hRP⟩
  rw [show (if nI b < 0 then (0 : Int32) else if (1 : Int32) < nI b then 0 else 1) = 1 by simp (disch := omega) only [ol, lt_nI, le_nI]; rw [if_neg (by omega), if_neg (by omega)], if_neg (show ¬ (1 : Int32) = 0 by decide), if_neg (show ¬ nI b < 0 by rw [show (0 : Int32) = nI 0 from rfl, lt_nI (by omega) (by omega)]; omega), if_pos (show nI b ≤ 1 by rw [show (1 : Int32) = nI 1 from rfl, le_nI (by omega) (by omega)]; omega), c_lines hC, bd1_s, nm_s, hM 0 (by omega)]
  by_cases hN : A 0 = 12
  · rw [hN, if_neg (by decide), if_pos (by decide)]; exact ⟨_, _, _, rfl, rfl, hRP⟩
  have hN' : A 0 < 12 := by omega
  obtain ⟨z, vF, e, q⟩ := m_zero15 hN' v 15 0 fuel v (by omega) (fun j => by rw [if_neg (by omega)]) (by omega)
  rw [if_pos (show nI (A 0) < 12 by rw [show (12 : Int32) = nI 12 from rfl, lt_nI (by omega) (by omega)]; omega), if_neg (show ¬ nI (A 0) = 12 by rw [show (12 : Int32) = nI 12 from rfl, eq_nI (by omega) (by omega)]; omega), show ((0 : Int32), v) = (nI 0, v) from rfl, e, bd2_s, nm_s]
  have hcl : (if nI (A 0) = 0 then p_X4_addLine_B59_10 c (nI x) (nI (A 0)) 1 else p_X4_addLine_B59_10 c (nI x) (nI (A 0)) (nI b)) = p_X4_addLine_B59_10 c (nI x) (nI (A 0)) (nI (if A 0 = 0 then 1 else b)) := by
    by_cases hz : A 0 = 0
    · rw [if_pos hz, if_pos (by rw [hz]; rfl)]; rfl
    · rw [if_neg hz, if_neg (by rw [show (0 : Int32) = nI 0 from rfl, eq_nI (by omega) (by omega)]; omega)]
  rw [hcl, p_X4_addLine_B59_10]
  simp (disch := omega) only [ol, nI_add, mul_nI, ib_nI, gd_t, tn_nI]
  refine ⟨_, _, _, rfl, rfl, aLn A x b, aLn_VA hV hN' hx hb, ⟨fun i hi => ?_, ?_, ?_, fun k hk => ?_⟩, fun j hj => ?_⟩
  · rw [aLn_out (by omega) (by omega)]
    simp (disch := omega) only [upd_ne]
    exact hC.1 i hi
  · rw [aLn_out (by omega) (by omega)]
    simp (disch := omega) only [upd_ne]
    exact hC.2.1
  · simp (disch := omega) only [upd_same]; rfl
  · have hk : k < A 0 + 1 := hk
    by_cases hkk : k = A 0
    · subst hkk
      refine ⟨?_, ?_, ?_, fun i hi => ?_⟩
      · rw [aLn_r, upd_ne _ _ (by omega), upd_ne _ _ (by omega), upd_ne _ _ (by omega), upd_same]
      · rw [upd_ne _ _ (by omega), upd_ne _ _ (by omega), upd_same, bgn, aLn_b]
      · rw [aLn_in (by omega) (by omega), upd_ne _ _ (by omega), upd_same]
      · rw [aLn_in (by omega) (by omega)] at hi; omega
    · obtain ⟨q1, q2, q3, q4⟩ := hC.2.2.2 k (by omega)
      have hw := (hV.ln (show k < 12 by omega)).2.2.1
      refine ⟨?_, ?_, ?_, fun i hi => ?_⟩
      · rw [aLn_out (by omega) (by omega)]
        simp (disch := omega) only [upd_ne]; exact q1
      · unfold bgn at q2 ⊢
        rw [aLn_out (by omega) (by omega)]
        simp (disch := omega) only [upd_ne]; exact q2
      · rw [aLn_out (by omega) (by omega)]
        simp (disch := omega) only [upd_ne]; exact q3
      · rw [aLn_out (by omega) (by omega)] at hi
        rw [aLn_out (by omega) (by omega), aLn_out (by omega) (by omega)]
        simp (disch := omega) only [upd_ne]; exact q4 i hi
  · rw [upd_at]
    by_cases h1 : j = 0
    · subst h1
      rw [if_pos rfl, upd_ne _ _ (by omega), upd_ne _ _ (by omega), q, if_neg (by omega), hM 0 (by omega), nI_add]
      rfl
    · rw [if_neg h1, upd_at, upd_at, q, aLn, if_neg h1]
      by_cases h2 : j = 9 + 15 * A 0
      · rw [if_pos h2, if_neg (by omega), if_pos (by omega)]
      · rw [if_neg h2]
        by_cases h3 : j = 10 + 15 * A 0
        · rw [if_pos h3, if_pos (by omega)]
        · rw [if_neg h3, if_neg (by omega), if_neg (by omega)]
          by_cases h4 : 9 + 15 * A 0 ≤ j ∧ j < 24 + 15 * A 0
          · rw [if_pos h4, if_pos h4]; rfl
          · rw [if_neg h4, if_neg h4]; exact hM j hj
