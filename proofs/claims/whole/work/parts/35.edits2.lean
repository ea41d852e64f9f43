def uA (A : Nat → Nat) (k x : Nat) : Nat → Nat := fun j => if j = k then x else A j
theorem uA_s (A : Nat → Nat) (k x : Nat) : uA A k x k = x := by unfold uA; rw [if_pos rfl]
theorem uA_n (A : Nat → Nat) {k j : Nat} (x : Nat) (h : j ≠ k) : uA A k x j = A j := by unfold uA; rw [if_neg h]
theorem uA_M {v : Nat → Int32} {A : Nat → Nat} (hM : repM v A) (k x : Nat) : repM (upd v k (nI x)) (uA A k x) := by
  intro j hj
  unfold uA
  rw [upd_at]
  by_cases h : j = k
  · rw [if_pos h, if_pos h]
  · rw [if_neg h, if_neg h]; exact hM j hj
-- a new word
def aWd (A : Nat → Nat) (K w x y : Nat) : Nat → Nat := uA (uA (uA A (12 + 15 * K + w) x) (18 + 15 * K + w) y) (11 + 15 * K) (w + 1)
theorem aWd_out {A : Nat → Nat} {K w x y j : Nat} (h1 : j ≠ 12 + 15 * K + w) (h2 : j ≠ 18 + 15 * K + w) (h3 : j ≠ 11 + 15 * K) : aWd A K w x y j = A j := by
  unfold aWd
  rw [uA_n _ _ h3, uA_n _ _ h2, uA_n _ _ h1]
theorem aWd_n {A : Nat → Nat} {K w x y : Nat} : aWd A K w x y (11 + 15 * K) = w + 1 := uA_s _ _ _
theorem aWd_x {A : Nat → Nat} {K w x y : Nat} (hw : w < 6) : aWd A K w x y (12 + 15 * K + w) = x := by
  unfold aWd
  rw [uA_n _ _ (by omega), uA_n _ _ (by omega), uA_s]
theorem aWd_y {A : Nat → Nat} {K w x y : Nat} (hw : w < 6) : aWd A K w x y (18 + 15 * K + w) = y := by
  unfold aWd
  rw [uA_n _ _ (by omega), uA_s]
theorem aWd_VA {A : Nat → Nat} (hV : VA A) {K : Nat} (hK : K < A 0) (hw : A (11 + 15 * K) < 6) {x y : Nat} (hx : 1 ≤ x ∧ x ≤ 9) (hy : y ≤ 3) : VA (aWd A K (A (11 + 15 * K)) x y) := by
  have h0 := hV.n
  obtain ⟨p0, p1, p2, p3, p4, p5, p6, p7, p8, p9, p10⟩ := hV
  have o : ∀ j, j < 9 → aWd A K (A (11 + 15 * K)) x y j = A j := fun j h1 => aWd_out (by omega) (by omega) (by omega)
  refine ⟨by rw [o 0 (by omega)]; exact p0, by rw [o 1 (by omega)]; exact p1, by rw [o 2 (by omega)]; exact p2, by rw [o 3 (by omega)]; exact p3, by rw [o 4 (by omega)]; exact p4, by rw [o 5 (by omega)]; exact p5, by rw [o 6 (by omega)]; exact p6, by rw [o 7 (by omega)]; exact p7, by rw [o 8 (by omega)]; exact p8, fun k hk => ?_, fun k hk i hi => ?_⟩
  · obtain ⟨q1, q2, q3, q4⟩ := p9 k hk
    refine ⟨by rw [aWd_out (by omega) (by omega) (by omega)]; exact q1, by rw [aWd_out (by omega) (by omega) (by omega)]; exact q2, ?_, fun i hi => ⟨?_, ?_⟩⟩
    · by_cases h : k = K
      · subst h; rw [aWd_n]; omega
      · rw [aWd_out (by omega) (by omega) (by omega)]; exact q3
    · by_cases h : k = K ∧ i = A (11 + 15 * K)
      · obtain ⟨rfl, rfl⟩ := h; rw [aWd_x hw]; omega
      · rw [aWd_out (by omega) (by omega) (by omega)]; exact (q4 i hi).1
    · by_cases h : k = K ∧ i = A (11 + 15 * K)
      · obtain ⟨rfl, rfl⟩ := h; rw [aWd_y hw]; omega
      · rw [aWd_out (by omega) (by omega) (by omega)]; exact (q4 i hi).2
  · rw [o 0 (by omega)] at hk
    have := (p9 k (by omega)).2.2.1
    by_cases h : k = K
    · subst h
      rw [aWd_n] at hi
      by_cases h2 : i = A (11 + 15 * k)
      · subst h2; rw [aWd_x hw]; omega
      · rw [aWd_out (by omega) (by omega) (by omega)]; exact p10 k hk i (by omega)
    · rw [aWd_out (by omega) (by omega) (by omega)] at hi
      rw [aWd_out (by omega) (by omega) (by omega)]; exact p10 k hk i hi
theorem m_in19 (x : Int32) : p_X8_in (Int32.toInt64 x) 1 9 = some (if x < 1 then 0 else if 9 < x then 0 else 1) := m_in x 1 9
theorem one_ne : ¬ (1 : Int32) = 0 := by decide
theorem ed_word {c v : Nat → Int32} (h : RP c v) (x1 x2 : Int32) : ∃ (r : Int32) (c' v' : Nat → Int32), p_X4_addWord c x1 x2 = some (r, c') ∧ p_X8_wordMore v x1 x2 = some (r, v') ∧ RP c' v' := by
  have hRP := h
  obtain ⟨A, hV, hC, hM⟩ := h
  have h0 := hV.n
  rw [p_X4_addWord, p_X8_wordMore, m_in19, bd1_s, m_in3, bd1_s]
  rcases rg_cases x1 1 9 (by omega) (by omega) with (q | ⟨q, q'⟩) | ⟨x, hx1, hx, rfl⟩
  · rw [if_pos (show x1 < 1 from q), if_pos (show x1 < 1 from q), if_pos rfl]; exact ⟨_, _, _, rfl, rfl, hRP⟩
  · rw [if_neg (show ¬ x1 < 1 from q), if_neg (show ¬ x1 < 1 from q), if_pos (show (9 : Int32) < x1 from q'), if_pos (show (9 : Int32) < x1 from q'), if_pos rfl]; exact ⟨_, _, _, rfl, rfl, hRP⟩
  have a1 : ¬ nI x < 1 := by rw [show (1 : Int32) = nI 1 from rfl, lt_nI (by omega) (by omega)]; omega
  have a2 : ¬ 9 < nI x := by rw [show (9 : Int32) = nI 9 from rfl, lt_nI (by omega) (by omega)]; omega
  rw [if_neg a1, if_neg a1, if_neg a2, if_neg a2, if_neg one_ne]
  rcases rg_cases x2 0 3 (by omega) (by omega) with (q | ⟨q, q'⟩) | ⟨y, _, hy, rfl⟩
  · rw [if_pos (show x2 < 0 from q), if_pos (show x2 < 0 from q), if_pos rfl]; exact ⟨_, _, _, rfl, rfl, hRP⟩
  · rw [if_neg (show ¬ x2 < 0 from q), if_neg (show ¬ x2 < 0 from q), if_pos (show (3 : Int32) < x2 from q'), if_pos rfl, if_neg (Int32.not_lt.mpr (le4 q'))]; exact ⟨_, _, _, rfl, rfl, hRP⟩
  have b1 : ¬ nI y < 0 := by rw [show (0 : Int32) = nI 0 from rfl, lt_nI (by omega) (by omega)]; omega
  have b2 : ¬ 3 < nI y := by rw [show (3 : Int32) = nI 3 from rfl, lt_nI (by omega) (by omega)]; omega
  have b3 : nI y < 4 := by rw [show (4 : Int32) = nI 4 from rfl, lt_nI (by omega) (by omega)]; omega
  rw [if_neg b1, if_neg b1, if_neg b2, if_neg one_ne, if_pos b3, c_lines hC, bd1_s, nm_s, nm_s, hM 0 (by omega)]
  by_cases hN : A 0 = 0
  · rw [hN, if_neg (by decide), if_neg (by decide)]; exact ⟨_, _, _, rfl, rfl, hRP⟩
  obtain ⟨K, hK⟩ : ∃ K, A 0 = K + 1 := ⟨A 0 - 1, by omega⟩
  rw [hK, show nI (K + 1) - (1 : Int32) = nI K from nI_pred K, if_pos (show (0 : Int32) ≤ nI K by rw [show (0 : Int32) = nI 0 from rfl, le_nI (by omega) (by omega)]; omega), if_pos (show (0 : Int32) ≤ nI K by rw [show (0 : Int32) = nI 0 from rfl, le_nI (by omega) (by omega)]; omega), c_wordsOf hV hC (by omega), bd1_s, m_words hM (by omega), bd1_s]
  have hl := (hV.ln (show K < 12 by omega)).2.2.1
  by_cases hw : A (11 + 15 * K) = 6
  · rw [hw, if_neg (by decide), if_pos (by decide)]; exact ⟨_, _, _, rfl, rfl, hRP⟩
  have hw' : A (11 + 15 * K) < 6 := by omega
  rw [if_pos (show nI (A (11 + 15 * K)) < 6 by rw [show (6 : Int32) = nI 6 from rfl, lt_nI (by omega) (by omega)]; omega), if_neg (show ¬ nI (A (11 + 15 * K)) = 6 by rw [show (6 : Int32) = nI 6 from rfl, eq_nI (by omega) (by omega)]; omega)]
  simp (disch := omega) only [ol, nI_add, mul_nI, ib_nI, gd_t, tn_nI, nm_s]
  refine ⟨_, _, _, rfl, rfl, aWd A K (A (11 + 15 * K)) x y, aWd_VA hV (by omega) hw' ⟨hx1, hx⟩ hy, ⟨fun i hi => ?_, ?_, ?_, fun k hk => ?_⟩, ?_⟩
  · rw [aWd_out (by omega) (by omega) (by omega)]
    simp (disch := omega) only [upd_ne]
    exact hC.1 i hi
  · rw [aWd_out (by omega) (by omega) (by omega)]
    simp (disch := omega) only [upd_ne]
    exact hC.2.1
  · rw [aWd_out (by omega) (by omega) (by omega)]
    simp (disch := omega) only [upd_ne]
    exact hC.2.2.1
  · rw [aWd_out (by omega) (by omega) (by omega)] at hk
    obtain ⟨q1, q2, q3, q4⟩ := hC.2.2.2 k hk
    have hlk := (hV.ln (show k < 12 by omega)).2.2.1
    refine ⟨?_, ?_, ?_, fun i hi => ?_⟩
    · rw [aWd_out (by omega) (by omega) (by omega)]
      simp (disch := omega) only [upd_ne]; exact q1
    · unfold bgn at q2 ⊢
      rw [aWd_out (by omega) (by omega) (by omega)]
      simp (disch := omega) only [upd_ne]; exact q2
    · by_cases h : k = K
      · subst h; rw [aWd_n, upd_same]
      · rw [aWd_out (by omega) (by omega) (by omega)]
        simp (disch := omega) only [upd_ne]; exact q3
    · by_cases h : k = K
      · subst h
        rw [aWd_n] at hi
        rw [upd_ne _ _ (by omega), upd_at]
        by_cases h2 : i = A (11 + 15 * k)
        · subst h2
          rw [if_pos (by omega), aWd_x hw', aWd_y hw']
          congr 1; omega
        · rw [if_neg (by omega), aWd_out (by omega) (by omega) (by omega), aWd_out (by omega) (by omega) (by omega)]; exact q4 i (by omega)
      · rw [aWd_out (by omega) (by omega) (by omega)] at hi
        rw [aWd_out (by omega) (by omega) (by omega), aWd_out (by omega) (by omega) (by omega)]
        simp (disch := omega) only [upd_ne]; exact q4 i hi
  · have := uA_M (uA_M (uA_M hM (12 + 15 * K + A (11 + 15 * K)) x) (18 + 15 * K + A (11 + 15 * K)) y) (11 + 15 * K) (A (11 + 15 * K) + 1)
    intro j hj
    rw [show 9 + 15 * K + 3 + A (11 + 15 * K) = 12 + 15 * K + A (11 + 15 * K) by omega, show 9 + 15 * K + 9 + A (11 + 15 * K) = 18 + 15 * K + A (11 + 15 * K) by omega, show 9 + 15 * K + 2 = 11 + 15 * K by omega]
    exact this j hj
