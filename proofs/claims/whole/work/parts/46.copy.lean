-- copy
theorem m_mv_loop {i a k : Nat} (hi : i < 4) (ha : a + k ≤ 24) (it : Nat → Int64) : ∀ (d r n : Nat) (mv : Nat → Int64), r + d = k → (∀ j, j < r → mv j = it (24 * i + a + j)) → d < n → ∃ (z : Int32) (mF : Nat → Int64), loopN (p_X8_copy_L102 it (nI i) (nI a) (nI k)) n (nI r, mv) = some (z, mF) ∧ ∀ j, j < k → mF j = it (24 * i + a + j) := by
  intro d
  induction d with
  | zero =>
    intro r n mv hr hm hn
    obtain ⟨n, rfl⟩ : ∃ m, n = m + 1 := ⟨n - 1, by omega⟩
    refine ⟨nI r, mv, loopN_out ?_, fun j hj => hm j (by omega)⟩
    rw [p_X8_copy_L102, if_pos (by rw [le_nI (by omega) (by omega)]; omega)]
  | succ d ih =>
    intro r n mv hr hm hn
    obtain ⟨n, rfl⟩ : ∃ m, n = m + 1 := ⟨n - 1, by omega⟩
    have hs : p_X8_copy_L102 it (nI i) (nI a) (nI k) (nI r, mv) = some (.inl (nI (r + 1), vp_updL mv r (it (24 * i + a + r)))) := by
      rw [p_X8_copy_L102]
      simp (disch := omega) only [ol, nI_add, mul_nI, le_nI, ib_nI, gd_t, tn_nI]
      rw [if_neg (by omega)]
    rw [loopN_in hs]
    refine ih (r + 1) n _ (by omega) (fun j hj => ?_) (by omega)
    by_cases h : j = r
    · subst h; rw [vL_same]
    · rw [vL_ne _ _ h]; exact hm j (by omega)
theorem m_mw_loop {i b k : Nat} (hi : i < 4) (hb : b + k ≤ 24) (mv it0 : Nat → Int64) : ∀ (d r n : Nat) (it : Nat → Int64), r + d = k → (∀ j, it j = if 24 * i + b ≤ j ∧ j < 24 * i + b + r then mv (j - (24 * i + b)) else it0 j) → d < n → ∃ (z : Int32) (iF : Nat → Int64), loopN (p_X8_copy_L139 (nI i) (nI b) (nI k) mv) n (nI r, it) = some (z, iF) ∧ ∀ j, iF j = if 24 * i + b ≤ j ∧ j < 24 * i + b + k then mv (j - (24 * i + b)) else it0 j := by
  intro d
  induction d with
  | zero =>
    intro r n it hr hm hn
    obtain ⟨n, rfl⟩ : ∃ m, n = m + 1 := ⟨n - 1, by omega⟩
    have : r = k := by omega
    subst this
    refine ⟨nI r, it, loopN_out ?_, hm⟩
    rw [p_X8_copy_L139, if_pos (by rw [le_nI (by omega) (by omega)]; omega)]
  | succ d ih =>
    intro r n it hr hm hn
    obtain ⟨n, rfl⟩ : ∃ m, n = m + 1 := ⟨n - 1, by omega⟩
    have hs : p_X8_copy_L139 (nI i) (nI b) (nI k) mv (nI r, it) = some (.inl (nI (r + 1), vp_updL it (24 * i + b + r) (mv r))) := by
      rw [p_X8_copy_L139]
      simp (disch := omega) only [ol, nI_add, mul_nI, le_nI, ib_nI, gd_t, tn_nI]
      rw [if_neg (by omega)]
    rw [loopN_in hs]
    refine ih (r + 1) n _ (by omega) (fun j => ?_) (by omega)
    by_cases h : j = 24 * i + b + r
    · rw [h, vL_same, if_pos (by omega), show 24 * i + b + r - (24 * i + b) = r by omega]
    · rw [vL_ne _ _ h, hm j]
      by_cases h2 : 24 * i + b ≤ j ∧ j < 24 * i + b + r
      · rw [if_pos h2, if_pos (by omega)]
      · rw [if_neg h2, if_neg (by omega)]
theorem c_ins_neg1 {n : Int32} {x k : Int32} (h : x < 0) : p_X5_isInside n x k = some 0 := by rw [p_X5_isInside, if_pos h]
theorem c_ins_neg2 {n : Int32} {x k : Int32} (h : k < 0) : p_X5_isInside n x k = some 0 := by
  rw [p_X5_isInside]
  by_cases h2 : x < 0
  · rw [if_pos h2]
  · rw [if_neg h2, if_pos h]
theorem c_ins_01 (n x k : Int32) : p_X5_isInside n x k = some 0 ∨ p_X5_isInside n x k = some 1 := by
  rw [p_X5_isInside]
  by_cases h1 : x < 0
  · rw [if_pos h1]; exact Or.inl rfl
  · rw [if_neg h1]
    by_cases h2 : k < 0
    · rw [if_pos h2]; exact Or.inl rfl
    · rw [if_neg h2]
      by_cases h3 : n < k
      · rw [if_pos h3]; exact Or.inl rfl
      · rw [if_neg h3]
        by_cases h4 : n - k < x
        · rw [if_pos h4]; exact Or.inl rfl
        · rw [if_neg h4]; exact Or.inr rfl
theorem sh_copy {em la le : Nat → Int32} {el : Nat → Nat → Int64} {ml ms : Nat → Int32} {it : Nat → Int64} (h : RS em la le el ml ms it) (mv : Nat → Int64) (x1 x2 x3 x4 x5 : Int32) : ∃ (r : Int32) (el' : Nat → Nat → Int64) (it' mv' : Nat → Int64), p_X7_copy em la le el x1 x2 x3 x4 x5 = some (r, el') ∧ p_X8_copy ml ms it mv x1 x2 x3 x4 x5 = some (r, it', mv') ∧ RS em la le el' ml ms it' := by
  have hu := fuel_ge
  rw [p_X7_copy, p_X8_copy]
  rcases sh_cases x1 with ⟨a1, _, a3, _⟩ | ⟨i, hi, rfl, a1, _, a3, _⟩
  · rw [a1, bd1_s, if_pos rfl, a3, bd1_s, if_pos rfl]; exact ⟨_, _, _, _, rfl, rfl, h⟩
  rw [a1, bd1_s, if_neg one_ne, a3, bd1_s, if_neg one_ne]
  rcases sh_cases x3 with ⟨b1, _, b3, _⟩ | ⟨i3, hi3, rfl, b1, _, b3, _⟩
  · rw [b1, bd1_s, if_pos rfl, b3, bd1_s, if_pos rfl]; exact ⟨_, _, _, _, rfl, rfl, h⟩
  rw [b1, bd1_s, if_neg one_ne, b3, bd1_s, if_neg one_ne, ib_nI hi (by omega), tn_nI (n := i) (by omega), ib_nI hi3 (by omega), tn_nI (n := i3) (by omega)]
  simp only [gd_t]
  rcases h i hi with ⟨h1, h2⟩ | ⟨h1, l, n, hl, hn, h2, h3, h4, h5, h6⟩
  · rw [h1, if_neg one_ne, h2, if_pos (show (-1 : Int32) < 0 by decide)]; exact ⟨_, _, _, _, rfl, rfl, h⟩
  rw [h1, if_pos rfl, h4, if_neg (Int32.not_lt.mpr (nI_nn l (by omega)))]
  rcases h i3 hi3 with ⟨g1, g2⟩ | ⟨g1, l', n', hl', hn', g2, g3, g4, g5, g6⟩
  · rw [g1, if_neg one_ne, g2, if_neg (show ¬ (0 : Int32) ≤ -1 by decide)]; exact ⟨_, _, _, _, rfl, rfl, h⟩
  rw [g1, if_pos rfl, g4, if_pos (nI_nn l' (by omega)), h2, g2, h3, g3, h5, g5]
  by_cases hll : nI l = nI l'
  · rw [if_pos hll, if_pos hll]
    by_cases c5 : x5 < 0
    · rw [if_pos c5, c_ins_neg2 c5, bd1_s, if_pos rfl]; exact ⟨_, _, _, _, rfl, rfl, h⟩
    rw [if_neg c5]
    by_cases c2 : x2 < 0
    · rw [if_pos c2, c_ins_neg1 c2, bd1_s, if_pos rfl]; exact ⟨_, _, _, _, rfl, rfl, h⟩
    rw [if_neg c2]
    by_cases c4 : x4 < 0
    · rw [if_pos c4, c_ins_neg1 (x := x4) c4]
      rcases c_ins_01 (nI n) x2 x5 with q | q
      · rw [q, bd1_s, if_pos rfl]; exact ⟨_, _, _, _, rfl, rfl, h⟩
      · rw [q, bd1_s, if_neg one_ne, bd1_s, if_pos rfl]; exact ⟨_, _, _, _, rfl, rfl, h⟩
    rw [if_neg c4]
    obtain ⟨k, hk, rfl⟩ := nI_of c5
    obtain ⟨a, ha, rfl⟩ := nI_of c2
    obtain ⟨b, hb, rfl⟩ := nI_of c4
    rw [c_ins hn ha hk, bd1_s, c_ins hn' hb hk, bd1_s]
    by_cases q1 : a + k ≤ n
    · rw [if_pos q1, if_neg one_ne, if_neg (show ¬ nI n - nI a < nI k by rw [sub_lt hn ha hk]; omega)]
      by_cases q2 : b + k ≤ n'
      · rw [if_pos q2, if_neg one_ne, if_pos (show nI k ≤ nI n' - nI b by rw [le_sub hn' hb hk]; omega)]
        obtain ⟨z1, mF, e1, r1⟩ := m_mv_loop hi (show a + k ≤ 24 by omega) it k 0 fuel mv (by omega) (fun j hj => by omega) (by omega)
        obtain ⟨z2, iF, e2, r2⟩ := m_mw_loop hi3 (show b + k ≤ 24 by omega) mF it k 0 fuel it (by omega) (fun j => by rw [if_neg (by omega)]) (by omega)
        have hcp : cpok (nI a) (nI b) (nI k) 24 24 = true := by
          unfold cpok
          rw [decide_eq_true_eq]
          refine ⟨c2, c4, c5, ?_, ?_⟩ <;> simp (disch := omega) only [tn_nI] <;> omega
        rw [hcp, gd_t, show ((0 : Int32), mv) = (nI 0, mv) from rfl, e1, bd2_s, show ((0 : Int32), it) = (nI 0, it) from rfl, e2, bd2_s]
        refine ⟨_, _, _, _, rfl, rfl, fun y hy => ?_⟩
        by_cases hyi : y = i3
        · subst hyi
          rw [up_s]
          refine Or.inr ⟨g1, l', n', hl', hn', g2, g3, g4, g5, fun j hj => ?_⟩
          show (if tn (nI b) ≤ j ∧ j < tn (nI b) + tn (nI k) then el i (tn (nI a) + (j - tn (nI b))) else el y j) = iF (24 * y + j)
          rw [tn_nI (by omega), tn_nI (by omega), tn_nI (by omega), r2]
          by_cases hj2 : b ≤ j ∧ j < b + k
          · rw [if_pos hj2, if_pos (by omega), r1 _ (by omega), h6 _ (by omega), show 24 * y + j - (24 * y + b) = j - b by omega]
            show it (24 * i + (a + (j - b))) = it (24 * i + a + (j - b))
            rw [Nat.add_assoc]
          · rw [if_neg hj2, if_neg (by omega)]; exact g6 j hj
        · rw [up_n _ _ hyi]
          rcases h y hy with w | ⟨w1, l2, n2, w2, w3, w4, w5, w6, w7, w8⟩
          · exact Or.inl w
          · refine Or.inr ⟨w1, l2, n2, w2, w3, w4, w5, w6, w7, fun j hj => ?_⟩
            show el y j = iF (24 * y + j)
            rw [r2, if_neg (by omega)]; exact w8 j hj
      · rw [if_neg q2, if_pos rfl, if_neg (show ¬ nI k ≤ nI n' - nI b by rw [le_sub hn' hb hk]; omega)]; exact ⟨_, _, _, _, rfl, rfl, h⟩
    · rw [if_neg q1, if_pos rfl, if_pos (show nI n - nI a < nI k by rw [sub_lt hn ha hk]; omega)]; exact ⟨_, _, _, _, rfl, rfl, h⟩
  · rw [if_neg hll, if_neg hll]; exact ⟨_, _, _, _, rfl, rfl, h⟩
-- film
theorem sh_film_loop {c v : Nat → Int32} {A : Nat → Nat} (hV : VA A) (hC : repC c A) (hM : repM v A) {la em le ml ms : Nat → Int32} {i l q : Nat} (hi : i < 4) (hq : q + A 0 ≤ 24) (hla : la i = nI l) : ∀ (d k n : Nat) (i0 i1 i2 i3 : Int32) (a1 a2 a3 a4 a5 : Nat → Int32) (el : Nat → Nat → Int64) (it : Nat → Int64), k + d = A 0 → RS em la le el ml ms it → d < n →
    ∃ (z z' j0 j1 j2 j3 : Int32) (b1 b2 b3 b4 b5 : Nat → Int32) (el' : Nat → Nat → Int64) (it' : Nat → Int64), loopN (p_X7_film_L27 c la (nI i) (nI q)) n (nI k, i0, i1, i2, i3, a1, a2, a3, a4, a5, el) = some (z, j0, j1, j2, j3, b1, b2, b3, b4, b5, el') ∧ loopN (p_X8_film_L47 v (nI i) (nI l) (nI q)) n (nI k, it) = some (z', it') ∧ RS em la le el' ml ms it' := by
  have h0 := hV.n
  intro d
  induction d with
  | zero =>
    intro k n i0 i1 i2 i3 a1 a2 a3 a4 a5 el it hk hS hn
    obtain ⟨n, rfl⟩ : ∃ m, n = m + 1 := ⟨n - 1, by omega⟩
    refine ⟨nI k, nI k, i0, i1, i2, i3, a1, a2, a3, a4, a5, el, it, loopN_out ?_, loopN_out ?_, hS⟩
    · rw [p_X7_film_L27, c_lines hC, bd1_s, if_pos (by rw [le_nI (by omega) (by omega)]; omega)]
    · rw [p_X8_film_L47, hM 0 (by omega), if_pos (by rw [le_nI (by omega) (by omega)]; omega)]
  | succ d ih =>
    intro k n i0 i1 i2 i3 a1 a2 a3 a4 a5 el it hk hS hn
    obtain ⟨n, rfl⟩ : ∃ m, n = m + 1 := ⟨n - 1, by omega⟩
    obtain ⟨number, cost, rows, rc, nr, rn, row, posi, eL, _, _, hrows, _⟩ := c_laidOut hV hC (show k < A 0 by omega) i0 i1 i2 i3 a1 a2 a3 a4 a5
    obtain ⟨y, p1, p2⟩ := sh_put (l := l) (el i) (q := q + k) (by omega) (Int32.toInt64 rows)
    have hle : ¬ nI (A 0) ≤ nI k := by rw [le_nI (by omega) (by omega)]; omega
    have s1 : p_X7_film_L27 c la (nI i) (nI q) (nI k, i0, i1, i2, i3, a1, a2, a3, a4, a5, el) = some (.inl (nI (k + 1), nI (ind A k), number, cost, rows, rc, nr, rn, row, posi, va_up el i (vp_updL (el i) (q + k) y))) := by
      rw [p_X7_film_L27, c_lines hC, bd1_s, if_neg hle, ib_nI hi (by omega), gd_t, eL, bd9_s, tn_nI (by omega), hla, nI_add, p1, bd1_s, nI_1]
    have s2 : p_X8_film_L47 v (nI i) (nI l) (nI q) (nI k, it) = some (.inl (nI (k + 1), vp_updL it (24 * i + (q + k)) y)) := by
      rw [p_X8_film_L47, hM 0 (by omega), if_neg hle, m_rowsOf hV hM (by omega), bd1_s, ← hrows, p2, bd1_s, show (24 : Int32) * nI i + nI q + nI k = nI (24 * i + (q + k)) by rw [show (24 : Int32) * nI i = nI (24 * i) from mul_nI 24 i, nI_add, nI_add, Nat.add_assoc], ib_nI (by omega) (by omega), gd_t, tn_nI (by omega), nI_1]
    rw [loopN_in s1, loopN_in s2]
    exact ih (k + 1) n _ _ _ _ _ _ _ _ _ _ _ (by omega) (RS_put hS hi (by omega) y) (by omega)
theorem sh_film {c v : Nat → Int32} (hP : RP c v) {em la le : Nat → Int32} {el : Nat → Nat → Int64} {ml ms : Nat → Int32} {it : Nat → Int64} (h : RS em la le el ml ms it) (i0 i1 i2 i3 : Int32) (a1 a2 a3 a4 a5 : Nat → Int32) (x1 x2 x3 : Int32) : ∃ (r j0 j1 j2 j3 : Int32) (b1 b2 b3 b4 b5 : Nat → Int32) (el' : Nat → Nat → Int64) (it' : Nat → Int64), p_X7_film i0 i1 i2 i3 c a1 a2 a3 a4 a5 em la le el x1 x2 x3 = some (r, j0, j1, j2, j3, b1, b2, b3, b4, b5, el') ∧ p_X8_film v ml ms it x1 x2 x3 = some (r, it') ∧ RS em la le el' ml ms it' := by
  have hu := fuel_ge
  obtain ⟨A, hV, hC, hM⟩ := hP
  have h0 := hV.n
  rw [p_X7_film, p_X8_film, c_lines hC, bd1_s, hM 0 (by omega)]
  rcases fnd h x1 x2 x3 (k := A 0) (by omega) with ⟨e1, e2⟩ | ⟨e1, e2, e3⟩ | ⟨er, n1, n2, e1, e2, e3, e4⟩ | ⟨i, l, q, n, hi, hl, hn, hq, rfl, rfl, rfl, h1, h2, h3, h4, h5, e1, e2, e3, e4, h6⟩
  · rw [e1, bd1_s, if_neg (by decide), e2, bd1_s, if_pos rfl]; exact ⟨_, _, _, _, _, _, _, _, _, _, _, _, rfl, rfl, h⟩
  · rw [e1, bd1_s, if_neg (by decide), e2, bd1_s, if_neg one_ne, e3, bd1_s, if_pos rfl]; exact ⟨_, _, _, _, _, _, _, _, _, _, _, _, rfl, rfl, h⟩
  · rw [e1, bd1_s, if_neg n1, e2, bd1_s, if_neg one_ne, e3, bd1_s, if_neg one_ne, e4, bd1_s, if_neg n2]; exact ⟨_, _, _, _, _, _, _, _, _, _, _, _, rfl, rfl, h⟩
  · obtain ⟨z, z', j0, j1, j2, j3, b1, b2, b3, b4, b5, el', it', w1, w2, w3⟩ := sh_film_loop hV hC hM hi (show q + A 0 ≤ 24 by omega) h2 (A 0) 0 fuel i0 i1 i2 i3 a1 a2 a3 a4 a5 el it (by omega) h (by omega)
    rw [e1, bd1_s, if_pos rfl, e2, bd1_s, if_neg one_ne, e3, bd1_s, if_neg one_ne, e4, bd1_s, if_pos (by decide), show ((0 : Int32), i0, i1, i2, i3, a1, a2, a3, a4, a5, el) = (nI 0, i0, i1, i2, i3, a1, a2, a3, a4, a5, el) from rfl, w1, bd11_s, bd1_s, show ((0 : Int32), it) = (nI 0, it) from rfl, w2, bd2_s]
    exact ⟨_, _, _, _, _, _, _, _, _, _, _, _, rfl, rfl, w3⟩
