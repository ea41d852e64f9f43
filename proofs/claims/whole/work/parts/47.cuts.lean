-- cuts
theorem toI_l {n : Nat} (h : n < 2 ^ 63) : (lN n).toInt = (n : Int) := lg_ofNat_toInt h
theorem in12 (x : Int64) : (lg_cmp x 1 < (0 : Int32) ∨ ¬ lg_cmp x 12 ≤ (0 : Int32)) ∧ p_X8_in x 1 12 = some 0 ∨ (¬ lg_cmp x 1 < (0 : Int32) ∧ lg_cmp x 12 ≤ (0 : Int32) ∧ p_X8_in x 1 12 = some 1 ∧ ∃ g, 1 ≤ g ∧ g ≤ 12 ∧ x = lN g) := by
  rw [p_X8_in]
  by_cases h1 : lg_cmp x 1 < (0 : Int32)
  · left; rw [if_pos h1]; exact ⟨Or.inl h1, rfl⟩
  · rw [if_neg h1]
    by_cases h2 : (0 : Int32) < lg_cmp x 12
    · left; rw [if_pos h2]; exact ⟨Or.inr (Int32.not_le.mpr h2), rfl⟩
    · right
      rw [if_neg h2]
      refine ⟨h1, Int32.not_lt.mp h2, rfl, x.toInt.toNat, ?_⟩
      rw [lg_lt] at h1
      rw [lg_gt] at h2
      rw [Int64.lt_iff_toInt_lt] at h1 h2
      have e1 : (1 : Int64).toInt = 1 := by decide
      have e2 : (12 : Int64).toInt = 12 := by decide
      refine ⟨by omega, by omega, ?_⟩
      apply Int64.toInt_inj.mp
      rw [toI_l (by omega)]
      omega
theorem ct_sum {el : Nat → Int64} {it : Nat → Int64} {i q k : Nat} (hi : i < 4) (hq : q + k ≤ 24) (hE : ∀ j, j < 24 → el j = it (24 * i + j)) (iS : Int32) (rw' : Nat → Int32) : ∀ (d r n : Nat) (g : Nat → Nat), r + d = k → (∀ j, j < r → el (q + j) = lN (g j) ∧ 1 ≤ g j ∧ g j ≤ 12) → d < n →
    (loopN (p_X5_addsUpTo_L6 el (nI q) (nI k)) n (lN (sm g r), nI (q + r)) = some (.inr 0) ∧ loopN (p_X8_cuts_L59 iS it rw' (nI i) (nI q) (nI k)) n (lN (sm g r), nI r) = some (.inr (-2, iS, rw'))) ∨
    ∃ (g' : Nat → Nat) (z z' : Int32), loopN (p_X5_addsUpTo_L6 el (nI q) (nI k)) n (lN (sm g r), nI (q + r)) = some (.inl (lN (sm g' k), z)) ∧ loopN (p_X8_cuts_L59 iS it rw' (nI i) (nI q) (nI k)) n (lN (sm g r), nI r) = some (.inl (lN (sm g' k), z')) ∧ ∀ j, j < k → el (q + j) = lN (g' j) ∧ 1 ≤ g' j ∧ g' j ≤ 12 := by
  intro d
  induction d with
  | zero =>
    intro r n g hr hg hn
    obtain ⟨n, rfl⟩ : ∃ m, n = m + 1 := ⟨n - 1, by omega⟩
    have : r = k := by omega
    subst this
    right
    refine ⟨g, nI (q + r), nI r, loopN_out (e := Sum.inl (lN (sm g r), nI (q + r))) ?_, loopN_out (e := Sum.inl (lN (sm g r), nI r)) ?_, hg⟩
    · rw [p_X5_addsUpTo_L6, nI_add, if_pos (by rw [le_nI (by omega) (by omega)]; omega)]
    · rw [p_X8_cuts_L59, if_pos (by rw [le_nI (by omega) (by omega)]; omega)]
  | succ d ih =>
    intro r n g hr hg hn
    obtain ⟨n, rfl⟩ : ∃ m, n = m + 1 := ⟨n - 1, by omega⟩
    have k1 : ¬ nI (q + k) ≤ nI (q + r) := by rw [le_nI (by omega) (by omega)]; omega
    have k2 : ¬ nI k ≤ nI r := by rw [le_nI (by omega) (by omega)]; omega
    have ei : (24 : Int32) * nI i + nI q + nI r = nI (24 * i + (q + r)) := by rw [show (24 : Int32) * nI i = nI (24 * i) from mul_nI 24 i, nI_add, nI_add, Nat.add_assoc]
    have hI : it (24 * i + (q + r)) = el (q + r) := (hE (q + r) (by omega)).symm
    rcases in12 (el (q + r)) with ⟨hb, hm⟩ | ⟨hb1, hb2, hm, y, hy1, hy2, hy⟩
    · left
      refine ⟨loopN_out (e := Sum.inr (0 : Int32)) ?_, loopN_out (e := Sum.inr ((-2 : Int32), iS, rw')) ?_⟩
      · rw [p_X5_addsUpTo_L6, nI_add, if_neg k1, ib_nI (by omega) (by omega), gd_t, tn_nI (by omega)]
        by_cases h1 : lg_cmp (el (q + r)) 1 < (0 : Int32)
        · rw [if_pos h1]
        · rw [if_neg h1, gd_t, if_neg (hb.resolve_left h1)]
      · rw [p_X8_cuts_L59, if_neg k2, ei, ib_nI (by omega) (by omega), gd_t, tn_nI (by omega), nm_s, hI, hm, bd1_s, if_pos rfl]
    · have hsm : sm (uA g r y) (r + 1) = sm g r + y := by
        show sm (uA g r y) r + uA g r y r = _
        rw [uA_s]
        congr 1
        have : ∀ m, m ≤ r → sm (uA g r y) m = sm g m := by
          intro m
          induction m with
          | zero => intro _; rfl
          | succ m ihm =>
            intro hm
            show sm (uA g r y) m + uA g r y m = sm g m + g m
            rw [ihm (by omega), uA_n _ _ (by omega)]
        exact this r (Nat.le_refl _)
      have s1 : p_X5_addsUpTo_L6 el (nI q) (nI k) (lN (sm g r), nI (q + r)) = some (.inl (lN (sm (uA g r y) (r + 1)), nI (q + (r + 1)))) := by
        rw [p_X5_addsUpTo_L6, nI_add, if_neg k1, ib_nI (by omega) (by omega), gd_t, tn_nI (by omega), if_neg hb1, gd_t, if_pos hb2, gd_t, nm_s, hsm, hy, lN_add, nI_1]
        rfl
      have s2 : p_X8_cuts_L59 iS it rw' (nI i) (nI q) (nI k) (lN (sm g r), nI r) = some (.inl (lN (sm (uA g r y) (r + 1)), nI (r + 1))) := by
        rw [p_X8_cuts_L59, if_neg k2, ei, ib_nI (by omega) (by omega), gd_t, tn_nI (by omega), nm_s, hI, hm, bd1_s, if_neg one_ne, nm_s, hsm, hy, lN_add, nI_1]
      rw [loopN_in s1, loopN_in s2]
      refine ih (r + 1) n (uA g r y) (by omega) (fun j hj => ?_) (by omega)
      by_cases hjr : j = r
      · subst hjr; rw [uA_s]; exact ⟨hy, hy1, hy2⟩
      · rw [uA_n _ _ hjr]; exact hg j (by omega)
theorem l_to (n : Nat) (h : n < 2 ^ 31) : Int64.toInt32 (lN n) = nI n := by rw [← nI_l h]; exact Int32.toInt32_toInt64 _
theorem al_ins {R : Nat → Int32} {A : Nat → Nat} {f t x : Nat} (h : al R A f t = some x) : x = ins A t := by
  have hi := ins_le A t
  unfold al at h
  by_cases h1 : hg R A f t ≤ nI (A 5)
  · rw [if_pos h1] at h
    by_cases h2 : ins A t = 0
    · rw [if_pos h2] at h; injection h with h; omega
    · rw [if_neg h2] at h
      by_cases h3 : A 6 ≤ t - (if f < sS A t then sS A t else f) ∧ A 6 ≤ sE A t - t
      · rw [if_pos h3] at h; injection h with h; omega
      · rw [if_neg h3] at h; cases h
  · rw [if_neg h1] at h; cases h
theorem sm_mon {g : Nat → Nat} {a b : Nat} (h : a ≤ b) : sm g a ≤ sm g b := by
  have := sm_mono g (b - a) a
  rw [show a + (b - a) = b by omega] at this
  exact this
theorem ct_cut {c v : Nat → Int32} {A : Nat → Nat} (hV : VA A) (hC : repC c A) (hM : repM v A) {RC RM : Nat → Int32} (hRC : ∀ j, j < A 0 → RC j = RR A j) (hRM : ∀ j, j < A 0 → RM j = RR A j) {el it : Nat → Int64} {i q k : Nat} (hi : i < 4) (hq : q + k ≤ 24) (hE : ∀ j, j < 24 → el j = it (24 * i + j)) {g : Nat → Nat} (hg : ∀ j, j < k → el (q + j) = lN (g j) ∧ 1 ≤ g j ∧ g j ≤ 12) (hS : sm g k = A 0) {s : Int32} (hs : ¬ s = 0) : ∀ (d r n a : Nat), r + d = k → a ≤ r → d < n →
    (loopN (p_X7_cutsOf_L22 c RC el (nI q) (nI k)) n (nI a, nI (sm g r), nI r) = some (.inr (-4)) ∧ loopN (p_X8_cuts_L139 v it (nI i) (nI q) (nI k) s RM) n (nI (sm g r), nI a, nI r) = some (.inr (-4, s, RM))) ∨
    ∃ (a' : Nat) (z1 z2 z3 z4 : Int32), loopN (p_X7_cutsOf_L22 c RC el (nI q) (nI k)) n (nI a, nI (sm g r), nI r) = some (.inl (nI a', z1, z2)) ∧ loopN (p_X8_cuts_L139 v it (nI i) (nI q) (nI k) s RM) n (nI (sm g r), nI a, nI r) = some (.inl (z3, nI a', z4)) := by
  have h0 := hV.n
  intro d
  induction d with
  | zero =>
    intro r n a hr ha hn
    obtain ⟨n, rfl⟩ : ∃ m, n = m + 1 := ⟨n - 1, by omega⟩
    have : r = k := by omega
    subst this
    right
    refine ⟨a, nI (sm g r), nI r, nI (sm g r), nI r, loopN_out (e := Sum.inl (nI a, nI (sm g r), nI r)) ?_, loopN_out (e := Sum.inl (nI (sm g r), nI a, nI r)) ?_⟩
    · rw [p_X7_cutsOf_L22, if_pos (by rw [le_nI (by omega) (by omega)]; omega)]
    · rw [p_X8_cuts_L139, if_pos (by rw [le_nI (by omega) (by omega)]; omega)]
  | succ d ih =>
    intro r n a hr ha hn
    obtain ⟨n, rfl⟩ : ∃ m, n = m + 1 := ⟨n - 1, by omega⟩
    have k2 : ¬ nI k ≤ nI r := by rw [le_nI (by omega) (by omega)]; omega
    have ei : (24 : Int32) * nI i + nI q + nI r = nI (24 * i + (q + r)) := by rw [show (24 : Int32) * nI i = nI (24 * i) from mul_nI 24 i, nI_add, nI_add, Nat.add_assoc]
    obtain ⟨gy, g1, g2⟩ := hg r (by omega)
    have hI : it (24 * i + (q + r)) = lN (g r) := by rw [← hE (q + r) (by omega)]; exact gy
    have hmon := sm_mon (g := g) (show r + 1 ≤ k by omega)
    have hsm : sm g (r + 1) = sm g r + g r := rfl
    have hlt : sm g r < sm g (r + 1) := by omega
    have hle : sm g (r + 1) ≤ A 0 := by omega
    have ex : nI (sm g r) + Int64.toInt32 (lN (g r)) = nI (sm g (r + 1)) := by rw [l_to _ (by omega), nI_add, hsm]
    have hall : al RC A (sm g r) (sm g (r + 1)) = al RM A (sm g r) (sm g (r + 1)) := al_congr (by omega) (fun j hj => by rw [hRC j (by omega), hRM j (by omega)])
    cases hal : al RM A (sm g r) (sm g (r + 1)) with
    | none =>
      left
      refine ⟨loopN_out (e := Sum.inr (-4 : Int32)) ?_, loopN_out (e := Sum.inr ((-4 : Int32), s, RM)) ?_⟩
      · rw [p_X7_cutsOf_L22, if_neg k2, nI_add, ib_nI (by omega) (by omega), gd_t, tn_nI (by omega), nm_s, gy, ex, c_isAllowed hV hC RC hlt hle, bd1_s, hall, hal, if_pos rfl, if_pos rfl]
      · rw [p_X8_cuts_L139, if_neg k2, ei, ib_nI (by omega) (by omega), gd_t, tn_nI (by omega), nm_s, hI, ex, if_neg hs, m_ends hV hM RM hlt hle, bd1_s, hal, p_X8_cuts_B186_39, enc, if_neg (by decide)]
    | some x =>
      have hx := al_ins hal
      have hil := ins_le A (sm g (r + 1))
      have s1 : p_X7_cutsOf_L22 c RC el (nI q) (nI k) (nI a, nI (sm g r), nI r) = some (.inl (nI (a + x), nI (sm g (r + 1)), nI (r + 1))) := by
        rw [p_X7_cutsOf_L22, if_neg k2, nI_add, ib_nI (by omega) (by omega), gd_t, tn_nI (by omega), nm_s, gy, ex, c_isAllowed hV hC RC hlt hle, bd1_s, hall, hal, if_neg (show ¬ (some x) = none by simp), if_neg one_ne, c_isInside hV hC hle, bd1_s, ← hx, nm_s, nm_s, nI_1]
        rcases (show x = 0 ∨ x = 1 by omega) with rfl | rfl
        · rw [if_pos (show nI 0 = 0 from rfl), show nI a + (0 : Int32) = nI (a + 0) from nI_add a 0]
        · rw [if_neg (show ¬ nI 1 = 0 by decide), nI_1]
      have s2 : p_X8_cuts_L139 v it (nI i) (nI q) (nI k) s RM (nI (sm g r), nI a, nI r) = some (.inl (nI (sm g (r + 1)), nI (a + x), nI (r + 1))) := by
        rw [p_X8_cuts_L139, if_neg k2, ei, ib_nI (by omega) (by omega), gd_t, tn_nI (by omega), nm_s, hI, ex, if_neg hs, m_ends hV hM RM hlt hle, bd1_s, hal, p_X8_cuts_B186_39, enc, if_pos (nI_nn x (by omega)), nm_s, nI_add, nI_1]
      rw [loopN_in s1, loopN_in s2]
      exact ih (r + 1) n (a + x) (by omega) (by omega) (by omega)
theorem m_in112 (x : Int32) : p_X8_in (Int32.toInt64 x) 1 12 = some (if x < 1 then 0 else if 12 < x then 0 else 1) := m_in x 1 12
theorem sh_cuts {c v : Nat → Int32} (hP : RP c v) {em la le : Nat → Int32} {el : Nat → Nat → Int64} {ml ms : Nat → Int32} {it : Nat → Int64} (h : RS em la le el ml ms it) (i0 i1 i2 i3 af : Int32) (a1 a2 a3 a4 a5 R7 : Nat → Int32) (iS : Int32) (R8 : Nat → Int32) (x1 x2 x3 x4 : Int32) : ∃ (r j0 j1 j2 j3 af' : Int32) (b1 b2 b3 b4 b5 R7' : Nat → Int32) (iS' : Int32) (R8' : Nat → Int32), p_X7_cuts i0 i1 i2 i3 af c a1 a2 a3 a4 a5 R7 em la le el x1 x2 x3 x4 = some (r, j0, j1, j2, j3, af', b1, b2, b3, b4, b5, R7') ∧ p_X8_cuts iS v ml ms it R8 x1 x2 x3 x4 = some (r, iS', R8') := by
  have hu := fuel_ge
  obtain ⟨A, hV, hC, hM⟩ := hP
  have h0 := hV.n
  rw [p_X7_cuts, p_X8_cuts, m_in112, bd1_s]
  rcases rg_cases x4 1 12 (by omega) (by omega) with hbad | ⟨k, hk1, hk, rfl⟩
  · have e7 : ∀ (α : Type) (p q : α), (if x4 < 1 then p else if x4 ≤ 12 then q else p) = p := by
      intro α p q
      rcases hbad with q' | ⟨q1, q2⟩
      · rw [if_pos (show x4 < 1 from q')]
      · rw [if_neg (show ¬ x4 < 1 from q1), if_neg (Int32.not_le.mpr (show (12 : Int32) < x4 from q2))]
    have e8 : (if x4 < 1 then (0 : Int32) else if 12 < x4 then 0 else 1) = 0 := by
      rcases hbad with q' | ⟨q1, q2⟩
      · rw [if_pos (show x4 < 1 from q')]
      · rw [if_neg (show ¬ x4 < 1 from q1), if_pos (show (12 : Int32) < x4 from q2)]
    rw [e7, e8, if_pos rfl]
    rcases sh_cases x1 with ⟨_, _, a3, _⟩ | ⟨i, hi, rfl, _, _, a3, _⟩
    · rw [a3, bd1_s, if_pos rfl]; exact ⟨_, _, _, _, _, _, _, _, _, _, _, _, _, _, rfl, rfl⟩
    rcases sh_cases x2 with ⟨_, _, _, b4⟩ | ⟨l, hl, rfl, _, _, _, b4⟩
    · rw [a3, bd1_s, if_neg one_ne, b4, bd1_s, if_pos rfl]; exact ⟨_, _, _, _, _, _, _, _, _, _, _, _, _, _, rfl, rfl⟩
    · rw [a3, bd1_s, if_neg one_ne, b4, bd1_s, if_neg one_ne]; exact ⟨_, _, _, _, _, _, _, _, _, _, _, _, _, _, rfl, rfl⟩
  have k1 : ¬ nI k < 1 := by rw [show (1 : Int32) = nI 1 from rfl, lt_nI (by omega) (by omega)]; omega
  have k2 : ¬ 12 < nI k := by rw [show (12 : Int32) = nI 12 from rfl, lt_nI (by omega) (by omega)]; omega
  rw [if_neg k1, if_pos (Int32.not_lt.mp k2), if_neg k1, if_neg k2, if_neg one_ne]
  rcases fnd h x1 x2 x3 (k := k) (by omega) with ⟨e1, e2⟩ | ⟨e1, e2, e3⟩ | ⟨er, n1, n2, e1, e2, e3, e4⟩ | ⟨i, l, q, n, hi, hl, hn, hq, rfl, rfl, rfl, h1, h2, h3, h4, h5, e1, e2, e3, e4, h6⟩
  · rw [e1, bd1_s, if_neg (by decide), e2, bd1_s, if_pos rfl]; exact ⟨_, _, _, _, _, _, _, _, _, _, _, _, _, _, rfl, rfl⟩
  · rw [e1, bd1_s, if_neg (by decide), e2, bd1_s, if_neg one_ne, e3, bd1_s, if_pos rfl]; exact ⟨_, _, _, _, _, _, _, _, _, _, _, _, _, _, rfl, rfl⟩
  · rw [e1, bd1_s, if_neg n1, e2, bd1_s, if_neg one_ne, e3, bd1_s, if_neg one_ne, e4, bd1_s, if_neg n2]; exact ⟨_, _, _, _, _, _, _, _, _, _, _, _, _, _, rfl, rfl⟩
  rw [e1, bd1_s, if_pos rfl, e2, bd1_s, if_neg one_ne, e3, bd1_s, if_neg one_ne, e4, bd1_s, if_pos (by decide), ib_nI hi (by omega), gd_t, tn_nI (by omega), c_lines hC, bd1_s, p_X5_addsUpTo, hM 0 (by omega)]
  rcases ct_sum (el := el i) hi (show q + k ≤ 24 by omega) h6 iS R8 k 0 fuel (fun _ => 0) (by omega) (fun j hj => by omega) (by omega) with ⟨w1, w2⟩ | ⟨g, z, z', w1, w2, w3⟩
  · rw [show ((0 : Int64), nI q) = (lN (sm (fun _ => 0) 0), nI (q + 0)) from rfl, w1, bdS_r, bd1_s, if_pos rfl, show ((0 : Int64), (0 : Int32)) = (lN (sm (fun _ => 0) 0), nI 0) from rfl, w2, bdS_r]
    exact ⟨_, _, _, _, _, _, _, _, _, _, _, _, _, _, rfl, rfl⟩
  · rw [show ((0 : Int64), nI q) = (lN (sm (fun _ => 0) 0), nI (q + 0)) from rfl, w1, bdS_l, bd2_s, show ((0 : Int64), (0 : Int32)) = (lN (sm (fun _ => 0) 0), nI 0) from rfl, w2, bdS_l, bd2_s, nI_l (show A 0 < 2 ^ 31 by omega)]
    have hbd : ∀ m, m ≤ k → sm g m ≤ 12 * m := by
      intro m
      induction m with
      | zero => intro _; show 0 ≤ _; omega
      | succ m ihm =>
        intro hm
        have := ihm (by omega)
        have := (w3 m (by omega)).2.2
        show sm g m + g m ≤ _
        omega
    have hbk := hbd k (Nat.le_refl _)
    have hcmp : (lg_cmp (lN (sm g k)) (lN (A 0)) = (0 : Int32)) = (sm g k = A 0) := by rw [lg_eq]; exact propext (pk_lEQ (by omega) (by omega))
    by_cases hS : sm g k = A 0
    · rw [if_pos (by rw [hcmp]; exact hS), bd1_s, if_neg one_ne, if_pos (by rw [hcmp]; exact hS)]
      obtain ⟨RF, j0, j1, j2, j3, b1, b2, b3, b4, b5, em', hRC⟩ := c_measure hV hC af R7 i0 i1 i2 i3 a1 a2 a3 a4 a5
      obtain ⟨R8', es, hRM⟩ := m_sets hV hM iS R8
      rw [em', bd11_s, es, bd2_s, p_X7_cutsOf]
      have hal := aF_le A (A 0)
      by_cases hz : aF A (A 0) = 0
      · rw [hz, if_pos (show nI 0 = 0 from rfl), bd1_s]
        have hM1 : loopN (p_X8_cuts_L139 v it (nI i) (nI q) (nI k) (nI 0) R8') fuel ((0 : Int32), (0 : Int32), (0 : Int32)) = some (.inr (-4, nI 0, R8')) := by
          refine loopN_out (n := 1999) (e := Sum.inr ((-4 : Int32), nI 0, R8')) ?_
          rw [p_X8_cuts_L139, if_neg (show ¬ nI k ≤ 0 by rw [show (0 : Int32) = nI 0 from rfl, le_nI (by omega) (by omega)]; omega), show (24 : Int32) * nI i + nI q + 0 = nI (24 * i + q + 0) by rw [show (24 : Int32) * nI i = nI (24 * i) from mul_nI 24 i, nI_add]; exact nI_add _ 0, ib_nI (by omega) (by omega), gd_t, nm_s, if_pos (show nI 0 = 0 from rfl), p_X8_cuts_B186_39, if_neg (by decide)]
        rw [hM1, bdS_r]
        exact ⟨_, _, _, _, _, _, _, _, _, _, _, _, _, _, rfl, rfl⟩
      · have hz1 : aF A (A 0) = 1 := by omega
        rw [hz1, if_neg (show ¬ nI 1 = 0 by decide)]
        rcases ct_cut hV hC hM hRC hRM (el := el i) hi (show q + k ≤ 24 by omega) h6 w3 hS (s := nI 1) (by decide) k 0 fuel 0 (by omega) (by omega) (by omega) with ⟨u1, u2⟩ | ⟨a', z1, z2, z3, z4, u1, u2⟩
        · rw [show ((0 : Int32), (0 : Int32), (0 : Int32)) = (nI 0, nI (sm g 0), nI 0) from rfl, u1, bdS_r, bd1_s, show (nI 0, nI (sm g 0), nI 0) = (nI (sm g 0), nI 0, nI 0) from rfl, u2, bdS_r]
          exact ⟨_, _, _, _, _, _, _, _, _, _, _, _, _, _, rfl, rfl⟩
        · rw [show ((0 : Int32), (0 : Int32), (0 : Int32)) = (nI 0, nI (sm g 0), nI 0) from rfl, u1, bdS_l, bd3_s, bd1_s, show (nI 0, nI (sm g 0), nI 0) = (nI (sm g 0), nI 0, nI 0) from rfl, u2, bdS_l, bd3_s]
          exact ⟨_, _, _, _, _, _, _, _, _, _, _, _, _, _, rfl, rfl⟩
    · rw [if_neg (by rw [hcmp]; exact hS), bd1_s, if_pos rfl, if_neg (by rw [hcmp]; exact hS)]
      exact ⟨_, _, _, _, _, _, _, _, _, _, _, _, _, _, rfl, rfl⟩
