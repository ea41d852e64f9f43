-- drop
theorem ed_drop {c v : Nat → Int32} (h : RP c v) : ∃ (r : Int32) (c' v' : Nat → Int32), p_X4_removeLine c = some (r, c') ∧ p_X8_lineLess v = some (r, v') ∧ RP c' v' := by
  have hRP := h
  obtain ⟨A, hV, hC, hM⟩ := h
  have h0 := hV.n
  rw [p_X4_removeLine, p_X8_lineLess, c_lines hC, bd1_s, p_X4_lines, bd1_s, hC.2.2.1, hM 0 (by omega), upd_same, upd_same]
  by_cases hN : A 0 = 0
  · rw [hN, if_pos (show nI 0 = 0 from rfl), if_pos (show nI 0 = 0 from rfl)]; exact ⟨_, _, _, rfl, rfl, hRP⟩
  obtain ⟨K, hK⟩ : ∃ K, A 0 = K + 1 := ⟨A 0 - 1, by omega⟩
  have hz : ¬ nI (K + 1) = 0 := by rw [show (0 : Int32) = nI 0 from rfl, eq_nI (by omega) (by omega)]; omega
  rw [hK, if_neg hz, if_neg hz, show nI (K + 1) - (1 : Int32) = nI K from nI_pred K]
  obtain ⟨p0, p1, p2, p3, p4, p5, p6, p7, p8, p9, p10⟩ := hV
  obtain ⟨c0, c1, c2, c3⟩ := hC
  refine ⟨_, _, _, rfl, rfl, uA A 0 K, ⟨?_, p1, p2, p3, p4, p5, p6, p7, p8, fun k hk => ?_, fun k hk i hi => ?_⟩, ⟨fun i hi => ?_, ?_, ?_, fun k hk => ?_⟩, uA_M hM 0 K⟩
  · rw [uA_s]; omega
  · obtain ⟨q1, q2, q3, q4⟩ := p9 k hk
    refine ⟨by rw [uA_n _ _ (by omega)]; exact q1, by rw [uA_n _ _ (by omega)]; exact q2, by rw [uA_n _ _ (by omega)]; exact q3, fun i hi => ⟨by rw [uA_n _ _ (by omega)]; exact (q4 i hi).1, by rw [uA_n _ _ (by omega)]; exact (q4 i hi).2⟩⟩
  · rw [uA_s] at hk
    rw [uA_n _ _ (by omega)] at hi
    rw [uA_n _ _ (by omega)]; exact p10 k (by omega) i hi
  · rw [uA_n _ _ (by omega), upd_ne _ _ (by omega)]; exact c0 i hi
  · rw [uA_n _ _ (by omega), upd_ne _ _ (by omega)]; exact c1
  · rw [uA_s, upd_same]
  · rw [uA_s] at hk
    obtain ⟨q1, q2, q3, q4⟩ := c3 k (by omega)
    refine ⟨by rw [uA_n _ _ (by omega), upd_ne _ _ (by omega)]; exact q1, ?_, by rw [uA_n _ _ (by omega), upd_ne _ _ (by omega)]; exact q3, fun i hi => ?_⟩
    · unfold bgn at q2 ⊢
      rw [uA_n _ _ (by omega), upd_ne _ _ (by omega)]; exact q2
    · rw [uA_n _ _ (by omega)] at hi
      rw [uA_n _ _ (by omega), uA_n _ _ (by omega), upd_ne _ _ (by omega)]; exact q4 i hi
-- rhyme
theorem aRh_ok {c : Nat → Int32} {A : Nat → Nat} (hV : VA A) (hC : repC c A) {k x : Nat} (hk : k < A 0) (hx : x ≤ 3) : VA (uA A (9 + 15 * k) x) ∧ repC (upd c (9 + k) (nI x)) (uA A (9 + 15 * k) x) := by
  have h0 := hV.n
  obtain ⟨p0, p1, p2, p3, p4, p5, p6, p7, p8, p9, p10⟩ := hV
  obtain ⟨c0, c1, c2, c3⟩ := hC
  have o : ∀ j, j < 9 → uA A (9 + 15 * k) x j = A j := fun j h1 => uA_n _ _ (by omega)
  refine ⟨⟨by rw [o 0 (by omega)]; exact p0, by rw [o 1 (by omega)]; exact p1, by rw [o 2 (by omega)]; exact p2, by rw [o 3 (by omega)]; exact p3, by rw [o 4 (by omega)]; exact p4, by rw [o 5 (by omega)]; exact p5, by rw [o 6 (by omega)]; exact p6, by rw [o 7 (by omega)]; exact p7, by rw [o 8 (by omega)]; exact p8, fun l hl => ?_, fun l hl i hi => ?_⟩, ⟨fun i hi => ?_, ?_, ?_, fun l hl => ?_⟩⟩
  · obtain ⟨q1, q2, q3, q4⟩ := p9 l hl
    refine ⟨?_, by rw [uA_n _ _ (by omega)]; exact q2, by rw [uA_n _ _ (by omega)]; exact q3, fun i hi => ⟨by rw [uA_n _ _ (by omega)]; exact (q4 i hi).1, by rw [uA_n _ _ (by omega)]; exact (q4 i hi).2⟩⟩
    by_cases h : l = k
    · subst h; rw [uA_s]; exact hx
    · rw [uA_n _ _ (by omega)]; exact q1
  · rw [o 0 (by omega)] at hl
    have := (p9 l (by omega)).2.2.1
    rw [uA_n _ _ (by omega)] at hi
    rw [uA_n _ _ (by omega)]; exact p10 l hl i hi
  · rw [o _ (by omega), upd_ne _ _ (by omega)]; exact c0 i hi
  · rw [o _ (by omega), upd_ne _ _ (by omega)]; exact c1
  · rw [o _ (by omega), upd_ne _ _ (by omega)]; exact c2
  · rw [o 0 (by omega)] at hl
    have := (p9 l (by omega)).2.2.1
    obtain ⟨q1, q2, q3, q4⟩ := c3 l hl
    refine ⟨?_, ?_, by rw [uA_n _ _ (by omega), upd_ne _ _ (by omega)]; exact q3, fun i hi => ?_⟩
    · by_cases h : l = k
      · subst h; rw [uA_s, upd_same]
      · rw [uA_n _ _ (by omega), upd_ne _ _ (by omega)]; exact q1
    · unfold bgn at q2 ⊢
      rw [uA_n _ _ (by omega), upd_ne _ _ (by omega)]; exact q2
    · rw [uA_n _ _ (by omega)] at hi
      rw [uA_n _ _ (by omega), uA_n _ _ (by omega), upd_ne _ _ (by omega)]; exact q4 i hi
theorem uA_id {v : Nat → Int32} {A : Nat → Nat} (hM : repM v A) {k : Nat} (x : Int32) (hk : k < 189) (hx : nI (A k) = x) : repM (upd v k x) A := by
  intro j hj
  rw [upd_at]
  by_cases h : j = k
  · rw [if_pos h, ← hx, h]
  · rw [if_neg h]; exact hM j hj
theorem ed_rhyme {c v : Nat → Int32} (h : RP c v) (x1 x2 : Int32) : ∃ (r : Int32) (c' v' : Nat → Int32), p_X4_changeRhyme c x1 x2 = some (r, c') ∧ p_X8_rhymes v x1 x2 = some (r, v') ∧ RP c' v' := by
  have hRP := h
  obtain ⟨A, hV, hC, hM⟩ := h
  have h0 := hV.n
  rw [p_X4_changeRhyme, p_X8_rhymes, c_isRhyme, bd1_s, m_in3, bd1_s]
  rcases cm_line hV hC hM x1 with ⟨e1, e2⟩ | ⟨k, hk, rfl, e1, e2⟩
  · rw [e1, bd1_s, e2, bd1_s, if_pos rfl, if_pos rfl]; exact ⟨_, _, _, rfl, rfl, hRP⟩
  rw [e1, bd1_s, e2, bd1_s, if_neg one_ne, if_neg one_ne]
  rcases rg_cases x2 0 3 (by omega) (by omega) with (q | ⟨q, q'⟩) | ⟨x, _, hx, rfl⟩
  · rw [if_pos (show x2 < 0 from q), if_pos (show x2 < 0 from q), if_pos rfl, if_pos rfl]; exact ⟨_, _, _, rfl, rfl, hRP⟩
  · rw [if_neg (show ¬ x2 < 0 from q), if_neg (show ¬ x2 < 0 from q), if_pos (le4 q'), if_pos rfl, if_pos (show (3 : Int32) < x2 from q'), if_pos rfl]; exact ⟨_, _, _, rfl, rfl, hRP⟩
  rw [show (if nI x < 0 then (0 : Int32) else if (4 : Int32) ≤ nI x then 0 else 1) = 1 by simp (disch := omega) only [ol, lt_nI, le_nI]; rw [if_neg (by omega), if_neg (by omega)], show (if nI x < 0 then (0 : Int32) else if (3 : Int32) < nI x then 0 else 1) = 1 by simp (disch := omega) only [ol, lt_nI, le_nI]; rw [if_neg (by omega), if_neg (by omega)], if_neg one_ne, if_neg one_ne, c_rhymeOf hV hC hk, bd1_s, show (0 : Int32) = nI 0 from rfl, m_at hM (by omega) (by omega), bd1_s]
  simp (disch := omega) only [ol, nI_add, mul_nI, ib_nI, gd_t, tn_nI, Nat.add_zero]
  by_cases he : nI (A (9 + 15 * k)) = nI x
  · rw [if_pos he, if_pos he]
    exact ⟨_, _, _, rfl, rfl, A, hV, hC, uA_id hM _ (by omega) he⟩
  · rw [if_neg he, if_neg he]
    obtain ⟨r1, r2⟩ := aRh_ok hV hC hk hx
    exact ⟨_, _, _, rfl, rfl, _, r1, r2, uA_M hM _ _⟩
-- tell
def loS : Nat → Nat := fun j => match j with
  | 0 => 6 | 1 => 0 | 2 => 0 | 3 => 2 | 4 => 1 | 5 => 0 | _ => 0
def hiS : Nat → Nat := fun j => match j with
  | 0 => 40 | 1 => 4 | 2 => 9 | 3 => 20 | 4 => 3 | 5 => 2 | _ => 2
theorem tabLI_n {i : Nat} (h : i < 7) : tabLI i = nI (loS i) := by
  rcases (show i = 0 ∨ i = 1 ∨ i = 2 ∨ i = 3 ∨ i = 4 ∨ i = 5 ∨ i = 6 by omega) with rfl | rfl | rfl | rfl | rfl | rfl | rfl <;> rfl
theorem tabMI_n {i : Nat} (h : i < 7) : tabMI i = nI (hiS i) := by
  rcases (show i = 0 ∨ i = 1 ∨ i = 2 ∨ i = 3 ∨ i = 4 ∨ i = 5 ∨ i = 6 by omega) with rfl | rfl | rfl | rfl | rfl | rfl | rfl <;> rfl
theorem S_bnd {i : Nat} (h : i < 7) : loS i ≤ hiS i ∧ hiS i ≤ 40 := by
  rcases (show i = 0 ∨ i = 1 ∨ i = 2 ∨ i = 3 ∨ i = 4 ∨ i = 5 ∨ i = 6 by omega) with rfl | rfl | rfl | rfl | rfl | rfl | rfl <;> decide
theorem b01_i (x a b : Int32) : gd (b01 (if x < a then (0 : Int32) else if b < x then 0 else 1)) (some (if x < a then (0 : Int32) else if b < x then 0 else 1)) = some (if x < a then (0 : Int32) else if b < x then 0 else 1) := by
  by_cases h : x < a
  · rw [if_pos h]; rfl
  · rw [if_neg h]
    by_cases h2 : b < x
    · rw [if_pos h2]; rfl
    · rw [if_neg h2]; rfl
theorem m_isFit {i : Nat} (h : i < 7) (x : Int32) : p_X8_isFit (nI i) x = some (if x < nI (loS i) then 0 else if nI (hiS i) < x then 0 else 1) := by
  have hin : ∀ a b : Nat, a < 100 → b < 100 → (bd1 (p_X8_in (Int32.toInt64 x) (lN a) (lN b)) fun r => gd (b01 r) (some r)) = some (if x < nI a then (0 : Int32) else if nI b < x then 0 else 1) := by
    intro a b ha hb
    rw [← nI_l (n := a) (by omega), ← nI_l (n := b) (by omega), m_in, bd1_s]
    exact b01_i x _ _
  rcases (show i = 0 ∨ i = 1 ∨ i = 2 ∨ i = 3 ∨ i = 4 ∨ i = 5 ∨ i = 6 by omega) with rfl | rfl | rfl | rfl | rfl | rfl | rfl
  · rw [p_X8_isFit, if_pos (by decide)]; exact hin 6 40 (by omega) (by omega)
  · rw [p_X8_isFit, if_neg (by decide), if_pos (by decide)]; exact hin 0 4 (by omega) (by omega)
  · rw [p_X8_isFit, if_neg (by decide), if_neg (by decide), if_pos (by decide)]; exact hin 0 9 (by omega) (by omega)
  · rw [p_X8_isFit, if_neg (by decide), if_neg (by decide), if_neg (by decide), if_pos (by decide)]; exact hin 2 20 (by omega) (by omega)
  · rw [p_X8_isFit, if_neg (by decide), if_neg (by decide), if_neg (by decide), if_neg (by decide), if_pos (by decide)]; exact hin 1 3 (by omega) (by omega)
  · rw [p_X8_isFit, if_neg (by decide), if_neg (by decide), if_neg (by decide), if_neg (by decide), if_neg (by decide), if_pos (by decide), p_X8_isFit_B98_0]; exact hin 0 2 (by omega) (by omega)
  · rw [p_X8_isFit, if_neg (by decide), if_neg (by decide), if_neg (by decide), if_neg (by decide), if_neg (by decide), if_neg (by decide), if_pos (by decide), p_X8_isFit_B98_0]; exact hin 0 2 (by omega) (by omega)
theorem m_isFit_no {x1 : Int32} (h : x1 < 0 ∨ (6 : Int32) < x1) (x : Int32) : p_X8_isFit x1 x = some 0 := by
  have n : ∀ k : Nat, k ≤ 6 → ¬ x1 = nI k := by
    intro k hk e
    subst e
    rcases h with h | h
    · rw [show (0 : Int32) = nI 0 from rfl, lt_nI (by omega) (by omega)] at h; omega
    · rw [show (6 : Int32) = nI 6 from rfl, lt_nI (by omega) (by omega)] at h; omega
  rw [p_X8_isFit, if_neg (show ¬ x1 = 0 from n 0 (by omega)), if_neg (show ¬ x1 = 1 from n 1 (by omega)), if_neg (show ¬ x1 = 2 from n 2 (by omega)), if_neg (show ¬ x1 = 3 from n 3 (by omega)), if_neg (show ¬ x1 = 4 from n 4 (by omega)), if_neg (show ¬ x1 = 5 from n 5 (by omega)), if_neg (show ¬ x1 = 6 from n 6 (by omega))]
theorem aSt_ok {c : Nat → Int32} {A : Nat → Nat} (hV : VA A) (hC : repC c A) {i x : Nat} (hi : i < 7) (hx : loS i ≤ x ∧ x ≤ hiS i) : VA (uA A (2 + i) x) ∧ repC (upd c i (nI x)) (uA A (2 + i) x) := by
  have h0 := hV.n
  obtain ⟨p0, p1, p2, p3, p4, p5, p6, p7, p8, p9, p10⟩ := hV
  obtain ⟨c0, c1, c2, c3⟩ := hC
  have o : ∀ j, 9 ≤ j ∨ j < 2 → uA A (2 + i) x j = A j := fun j h1 => uA_n _ _ (by omega)
  have r9 : ∀ k, k < 12 → uA A (2 + i) x (9 + 15 * k) ≤ 3 ∧ uA A (2 + i) x (10 + 15 * k) ≤ 1 ∧ uA A (2 + i) x (11 + 15 * k) ≤ 6 ∧ ∀ l, l < 6 → uA A (2 + i) x (12 + 15 * k + l) ≤ 9 ∧ uA A (2 + i) x (18 + 15 * k + l) ≤ 3 := by
    intro k hk
    obtain ⟨q1, q2, q3, q4⟩ := p9 k hk
    exact ⟨by rw [o _ (by omega)]; exact q1, by rw [o _ (by omega)]; exact q2, by rw [o _ (by omega)]; exact q3, fun l hl => ⟨by rw [o _ (by omega)]; exact (q4 l hl).1, by rw [o _ (by omega)]; exact (q4 l hl).2⟩⟩
  have r10 : ∀ k, k < uA A (2 + i) x 0 → ∀ l, l < uA A (2 + i) x (11 + 15 * k) → 1 ≤ uA A (2 + i) x (12 + 15 * k + l) := by
    intro k hk l hl
    rw [o 0 (by omega)] at hk
    rw [o _ (by omega)] at hl
    rw [o _ (by omega)]; exact p10 k hk l hl
  refine ⟨?_, ⟨fun j hj => ?_, by rw [o 1 (by omega), upd_ne _ _ (by omega)]; exact c1, by rw [o 0 (by omega), upd_ne _ _ (by omega)]; exact c2, fun k hk => ?_⟩⟩
  · rcases (show i = 0 ∨ i = 1 ∨ i = 2 ∨ i = 3 ∨ i = 4 ∨ i = 5 ∨ i = 6 by omega) with rfl | rfl | rfl | rfl | rfl | rfl | rfl
    · exact ⟨p0, p1, hx, p3, p4, p5, p6, p7, p8, r9, r10⟩
    · exact ⟨p0, p1, p2, hx.2, p4, p5, p6, p7, p8, r9, r10⟩
    · exact ⟨p0, p1, p2, p3, hx.2, p5, p6, p7, p8, r9, r10⟩
    · exact ⟨p0, p1, p2, p3, p4, hx, p6, p7, p8, r9, r10⟩
    · exact ⟨p0, p1, p2, p3, p4, p5, hx, p7, p8, r9, r10⟩
    · exact ⟨p0, p1, p2, p3, p4, p5, p6, hx.2, p8, r9, r10⟩
    · exact ⟨p0, p1, p2, p3, p4, p5, p6, p7, hx.2, r9, r10⟩
  · by_cases h : j = i
    · subst h; rw [uA_s, upd_same]
    · rw [uA_n _ _ (by omega), upd_ne _ _ h]; exact c0 j hj
  · rw [o 0 (by omega)] at hk
    obtain ⟨q1, q2, q3, q4⟩ := c3 k hk
    refine ⟨by rw [o _ (by omega), upd_ne _ _ (by omega)]; exact q1, ?_, by rw [o _ (by omega), upd_ne _ _ (by omega)]; exact q3, fun l hl => ?_⟩
    · unfold bgn at q2 ⊢
      rw [o _ (by omega), upd_ne _ _ (by omega)]; exact q2
    · rw [o _ (by omega)] at hl
      rw [o _ (by omega), o _ (by omega), upd_ne _ _ (by omega)]; exact q4 l hl
theorem ed_tell {c v : Nat → Int32} (h : RP c v) (x1 x2 : Int32) : ∃ (r : Int32) (c' v' : Nat → Int32), p_X4_changeSetting c x1 x2 = some (r, c') ∧ p_X8_tells v x1 x2 = some (r, v') ∧ RP c' v' := by
  have hRP := h
  obtain ⟨A, hV, hC, hM⟩ := h
  have h0 := hV.n
  rw [p_X4_changeSetting, p_X8_tells]
  rcases rg_cases x1 0 6 (by omega) (by omega) with (q | ⟨q, q'⟩) | ⟨i, _, hi, rfl⟩
  · rw [if_pos (show x1 < 0 from q), m_isFit_no (Or.inl q), bd1_s, if_pos rfl]; exact ⟨_, _, _, rfl, rfl, hRP⟩
  · have h7 : (7 : Int32) ≤ x1 := by
      rw [Int32.lt_iff_toInt_lt] at q'
      rw [Int32.le_iff_toInt_le]
      have : (nI 6).toInt = 6 := by decide
      have : (7 : Int32).toInt = 7 := by decide
      omega
    rw [if_neg (show ¬ x1 < 0 from q), if_pos h7, m_isFit_no (Or.inr q'), bd1_s, if_pos rfl]; exact ⟨_, _, _, rfl, rfl, hRP⟩
  rw [if_neg (show ¬ nI i < 0 by rw [show (0 : Int32) = nI 0 from rfl, lt_nI (by omega) (by omega)]; omega), if_neg (show ¬ (7 : Int32) ≤ nI i by rw [show (7 : Int32) = nI 7 from rfl, le_nI (by omega) (by omega)]; omega), m_isFit (by omega), bd1_s]
  have hb := S_bnd (show i < 7 by omega)
  simp (disch := omega) only [ib_nI, gd_t, tn_nI, tabLI_n, tabMI_n]
  rcases rg_cases x2 (loS i) (hiS i) (by omega) (by omega) with (q | ⟨q, q'⟩) | ⟨x, hx1, hx2, rfl⟩
  · rw [if_pos q, if_pos q, if_pos rfl]; exact ⟨_, _, _, rfl, rfl, hRP⟩
  · rw [if_neg q, if_neg q, if_pos q', if_pos rfl, if_neg (Int32.not_le.mpr q')]; exact ⟨_, _, _, rfl, rfl, hRP⟩
  have s1 : ¬ nI x < nI (loS i) := by rw [lt_nI (by omega) (by omega)]; omega
  have s2 : ¬ nI (hiS i) < nI x := by rw [lt_nI (by omega) (by omega)]; omega
  rw [if_neg s1, if_neg s1, if_neg s2, if_neg one_ne, if_pos (Int32.not_lt.mp s2), nm_s, hC.1 i (by omega)]
  simp (disch := omega) only [ol, nI_add, ib_nI, gd_t, tn_nI, nm_s, hM (2 + i)]
  by_cases he : nI (A (2 + i)) = nI x
  · rw [if_pos he, if_pos he]
    exact ⟨_, _, _, rfl, rfl, A, hV, hC, uA_id hM _ (by omega) he⟩
  · rw [if_neg he, if_neg he]
    obtain ⟨r1, r2⟩ := aSt_ok hV hC (show i < 7 by omega) ⟨hx1, hx2⟩
    exact ⟨_, _, _, rfl, rfl, _, r1, r2, uA_M hM _ _⟩
