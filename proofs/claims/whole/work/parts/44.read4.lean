def aRd (A B : Nat → Nat) (m : Nat) : Nat → Nat := fun j => if j = 0 then m else if 9 ≤ j ∧ j < 9 + 15 * m then B (j - 9) else A j
theorem aRd_lo {A B : Nat → Nat} {m j : Nat} (h0 : j ≠ 0) (h : j < 9 ∨ 9 + 15 * m ≤ j) : aRd A B m j = A j := by
  unfold aRd; rw [if_neg h0, if_neg (by omega)]
theorem aRd_hi {A B : Nat → Nat} {m j i : Nat} (hj : j = 9 + i) (h : i < 15 * m) : aRd A B m j = B i := by
  subst hj
  unfold aRd; rw [if_neg (by omega), if_pos (by omega), show 9 + i - 9 = i by omega]
theorem rd_RP {c v T : Nat → Int32} {A B : Nat → Nat} {m : Nat} (hV : VA A) (hC : repC c A) (hM : repM v A) (hR : LR T B m) (hB : VB B m) {c' v' : Nat → Int32} (hc1 : ∀ j, j < 8 → c' j = c j) (hc2 : ∀ j, 8 ≤ j → j < 117 → c' j = T j) (hv : ∀ j, j < 189 → v' j = if j = 0 then nI m else if 9 ≤ j ∧ j < 9 + 15 * m then nI (B (j - 9)) else v j) : VA (aRd A B m) ∧ repC c' (aRd A B m) ∧ repM v' (aRd A B m) := by
  obtain ⟨p0, p1, p2, p3, p4, p5, p6, p7, p8, p9, p10⟩ := hV
  obtain ⟨c0, c1, c2, c3⟩ := hC
  obtain ⟨b12, hB⟩ := hB
  obtain ⟨h8, hL⟩ := hR
  have o : ∀ j, 1 ≤ j → j < 9 → aRd A B m j = A j := fun j h1 h2 => aRd_lo (by omega) (by omega)
  have e0 : aRd A B m 0 = m := by unfold aRd; rw [if_pos rfl]
  refine ⟨⟨by rw [e0]; exact b12, by rw [o 1 (by omega) (by omega)]; exact p1, by rw [o 2 (by omega) (by omega)]; exact p2, by rw [o 3 (by omega) (by omega)]; exact p3, by rw [o 4 (by omega) (by omega)]; exact p4, by rw [o 5 (by omega) (by omega)]; exact p5, by rw [o 6 (by omega) (by omega)]; exact p6, by rw [o 7 (by omega) (by omega)]; exact p7, by rw [o 8 (by omega) (by omega)]; exact p8, fun k hk => ?_, fun k hk i hi => ?_⟩, ⟨fun i hi => ?_, ?_, ?_, fun k hk => ?_⟩, fun j hj => ?_⟩
  · by_cases h : k < m
    · obtain ⟨v1, v2, v3, v4⟩ := hB k h
      refine ⟨by rw [aRd_hi (i := 15 * k) (by omega) (by omega)]; exact v1, by rw [aRd_hi (i := 15 * k + 1) (by omega) (by omega)]; exact v2, by rw [aRd_hi (i := 15 * k + 2) (by omega) (by omega)]; exact v3, fun i hi => ?_⟩
      rw [aRd_hi (i := 15 * k + 3 + i) (by omega) (by omega), aRd_hi (j := 18 + 15 * k + i) (i := 15 * k + 9 + i) (by omega) (by omega)]
      exact ⟨(v4 i hi).1, (v4 i hi).2.1⟩
    · obtain ⟨q1, q2, q3, q4⟩ := p9 k hk
      refine ⟨by rw [aRd_lo (by omega) (by omega)]; exact q1, by rw [aRd_lo (by omega) (by omega)]; exact q2, by rw [aRd_lo (by omega) (by omega)]; exact q3, fun i hi => ⟨by rw [aRd_lo (by omega) (by omega)]; exact (q4 i hi).1, by rw [aRd_lo (by omega) (by omega)]; exact (q4 i hi).2⟩⟩
  · rw [e0] at hk
    obtain ⟨v1, v2, v3, v4⟩ := hB k hk
    rw [aRd_hi (i := 15 * k + 2) (by omega) (by omega)] at hi
    rw [aRd_hi (i := 15 * k + 3 + i) (by omega) (by omega)]
    exact (v4 i (by omega)).2.2 hi
  · rw [hc1 i (by omega), o _ (by omega) (by omega)]; exact c0 i hi
  · rw [hc1 7 (by omega), o _ (by omega) (by omega)]; exact c1
  · rw [hc2 8 (by omega) (by omega), e0]; exact h8
  · rw [e0] at hk
    obtain ⟨v1, v2, v3, v4⟩ := hB k hk
    obtain ⟨q1, q2, q3, q4⟩ := hL k hk
    refine ⟨by rw [hc2 _ (by omega) (by omega), aRd_hi (i := 15 * k) (by omega) (by omega)]; exact q1, ?_, by rw [hc2 _ (by omega) (by omega), aRd_hi (i := 15 * k + 2) (by omega) (by omega)]; exact q3, fun i hi => ?_⟩
    · unfold bgn
      rw [hc2 _ (by omega) (by omega), aRd_hi (i := 15 * k + 1) (by omega) (by omega)]; exact q2
    · rw [aRd_hi (i := 15 * k + 2) (by omega) (by omega)] at hi
      rw [hc2 _ (by omega) (by omega), aRd_hi (i := 15 * k + 3 + i) (by omega) (by omega), aRd_hi (j := 18 + 15 * k + i) (i := 15 * k + 9 + i) (by omega) (by omega)]; exact q4 i hi
  · rw [hv j hj]
    unfold aRd
    by_cases h : j = 0
    · rw [if_pos h, if_pos h]
    · rw [if_neg h, if_neg h]
      by_cases h2 : 9 ≤ j ∧ j < 9 + 15 * m
      · rw [if_pos h2, if_pos h2]
      · rw [if_neg h2, if_neg h2]; exact hM j hj
theorem m_rd_loop {m : Nat} (hm : m ≤ 12) (rd v0 : Nat → Int32) : ∀ (d i n : Nat) (v : Nat → Int32), i + d = 15 * m → (∀ j, v j = if 9 ≤ j ∧ j < 9 + i then rd (j - 9) else v0 j) → d < n → ∃ (z : Int32) (vF : Nat → Int32), loopN (p_X8_read_L42 (nI m) rd) n (nI i, v) = some (z, vF) ∧ ∀ j, vF j = if 9 ≤ j ∧ j < 9 + 15 * m then rd (j - 9) else v0 j := by
  intro d
  induction d with
  | zero =>
    intro i n v hi hv hn
    obtain ⟨n, rfl⟩ : ∃ m, n = m + 1 := ⟨n - 1, by omega⟩
    have : i = 15 * m := by omega
    subst this
    refine ⟨_, v, loopN_out (e := (nI (15 * m), v)) ?_, hv⟩
    rw [p_X8_read_L42, show (15 : Int32) * nI m = nI (15 * m) from mul_nI 15 m, if_pos (by rw [le_nI (by omega) (by omega)]; omega)]
  | succ d ih =>
    intro i n v hi hv hn
    obtain ⟨n, rfl⟩ : ∃ m, n = m + 1 := ⟨n - 1, by omega⟩
    have hs : p_X8_read_L42 (nI m) rd (nI i, v) = some (.inl (nI (i + 1), upd v (9 + i) (rd i))) := by
      rw [p_X8_read_L42]
      simp (disch := omega) only [ol, nI_add, mul_nI, le_nI, ib_nI, gd_t, tn_nI]
      rw [if_neg (by omega)]
    rw [loopN_in hs]
    refine ih (i + 1) n _ (by omega) (fun j => ?_) (by omega)
    rw [upd_at]
    by_cases h : j = 9 + i
    · rw [if_pos h, if_pos (by omega), h, show 9 + i - 9 = i by omega]
    · rw [if_neg h, hv j]
      by_cases h2 : 9 ≤ j ∧ j < 9 + i
      · rw [if_pos h2, if_pos (by omega)]
      · rw [if_neg h2, if_neg (by omega)]
theorem c_takeL (d s : Nat → Int32) : ∃ d', p_X4_takeLines d s = some d' ∧ (∀ j, j < 8 → d' j = d j) ∧ ∀ j, 8 ≤ j → j < 117 → d' j = s j := by
  refine ⟨_, rfl, fun j hj => ?_, fun j h1 hj => ?_⟩
  · show (if tn 8 ≤ j ∧ j < tn 8 + tn 109 then s (tn 8 + (j - tn 8)) else d j) = d j
    rw [show tn (8 : Int32) = 8 from tn_nI (n := 8) (by omega), if_neg (by omega)]
  · show (if tn 8 ≤ j ∧ j < tn 8 + tn 109 then s (tn 8 + (j - tn 8)) else d j) = s j
    rw [show tn (8 : Int32) = 8 from tn_nI (n := 8) (by omega), show tn (109 : Int32) = 109 from tn_nI (n := 109) (by omega), if_pos (by omega), show 8 + (j - 8) = j by omega]
theorem hs_read {n s : Int32} {ring : Nat → Nat → Int32} {acts : Int32} {past c v : Nat → Int32} (hP : RP c v) (hH : RH n s ring acts past) {len typed : Int32} {chars tape : Nat → Int32} (hT : RT len chars typed tape) (ab ad : Int32) (bf tx : Nat → Int32) (pl mn : Int32) (f rd : Nat → Int32) :
    ∃ (r n' s' len' ab' ad' : Int32) (c' bf' tx' : Nat → Int32) (ring' : Nat → Nat → Int32) (acts' typed' pl' mn' : Int32) (v' past' f' rd' : Nat → Int32), p_X7_read n s len ab ad c bf chars tx ring = some (r, n', s', len', ab', ad', c', bf', tx', ring') ∧ p_X8_read acts typed pl mn v past tape f rd = some (r, acts', typed', pl', mn', v', past', f', rd') ∧ RP c' v' ∧ RH n' s' ring' acts' past' ∧ RT len' chars typed' tape := by
  have hu := fuel_ge
  obtain ⟨t, ch, ht, rfl, rfl, hc⟩ := hT
  have hT0 : RT 0 chars 0 tape := ⟨0, ch, by omega, rfl, rfl, fun j hj => by omega⟩
  obtain ⟨bf', eb, hb⟩ := c_take bf c
  have h0 : LR (upd tx 8 0) (fun _ => 0) 0 := ⟨upd_same _ _ _, fun k hk => by omega⟩
  have h1 : VB (fun _ => 0) 0 := ⟨by omega, fun k hk => by omega⟩
  rw [p_X7_read, eb, bd1_s, p_X6_parse, p_X4_removeAllLines, bd1_s, p_X8_read, p_X8_readLines]
  rcases rd_main ht hc t t 0 fuel fuel 0 0 0 rd (upd tx 8 0) (fun _ => 0) (Nat.le_refl _) (by omega) (by omega) (by omega) (by omega) (by omega) h0 h1 (fun j hj => by omega) (fun h => by omega) (fun _ h => by omega) with ⟨q, m', rd', z, δ', T', B', e1, e2, e3, e4, e5⟩ | ⟨q, mm, rd', hq, e1, e2⟩
  · rw [show ((0 : Int32), (0 : Int32), (0 : Int32), upd tx 8 0) = (nI 0, nI 0, nI 0, upd tx 8 0) from rfl, e2, bdS_l, bd4_s, if_pos rfl, bd4_s, if_pos rfl, show ((0 : Int32), (0 : Int32), (0 : Int32), rd) = (nI 0, nI 0, nI 0, rd) from rfl, e1, bdS_l, bd4_s, bd4_s, if_neg one_ne]
    obtain ⟨c', ec, hc1, hc2⟩ := c_takeL c T'
    obtain ⟨fF, ef, hf⟩ := m_starts v f
    obtain ⟨n', s', ring', acts', past', g1, g2, g3⟩ := hs_rem hH (RP_to hP hb hf)
    obtain ⟨z2, vF, g4, g5⟩ := m_rd_loop e4.1 rd' (upd v 0 (nI m')) (15 * m') 0 fuel (upd v 0 (nI m')) (by omega) (fun j => by rw [if_neg (by omega)]) (by have := e4.1; omega)
    have e8 : c' 8 = nI m' := by rw [hc2 8 (by omega) (by omega)]; exact e3.1
    have hm12 := e4.1
    rw [ec, bd1_s, p_X4_lines, bd1_s, e8, p_X7_recorded, if_neg (show ¬ nI m' < 0 by rw [show (0 : Int32) = nI 0 from rfl, lt_nI (by omega) (by omega)]; omega), g1, bd3_s, bd4_s, ef, bd1_s, g2, bd2_s, show ((0 : Int32), upd v 0 (nI m')) = (nI 0, upd v 0 (nI m')) from rfl, g4, bd2_s]
    obtain ⟨A, hV, hC, hM⟩ := hP
    obtain ⟨r1, r2, r3⟩ := rd_RP (v' := vF) hV hC hM e3 e4 hc1 hc2 (fun j hj => by
      rw [g5, upd_at]
      by_cases h : j = 0
      · rw [if_neg (by omega), if_pos h, if_pos h]
      · rw [if_neg h, if_neg h]
        by_cases h2 : 9 ≤ j ∧ j < 9 + 15 * m'
        · rw [if_pos h2, if_pos h2, e5 _ (by omega)]
        · rw [if_neg h2, if_neg h2])
    exact ⟨_, _, _, _, _, _, _, _, _, _, _, _, _, _, _, _, _, _, rfl, rfl, ⟨_, r1, r2, r3⟩, g3, hT0⟩
  · have hne : ¬ nI q = -1 := by
      intro h
      have h2 : ¬ nI q < 0 := by rw [show (0 : Int32) = nI 0 from rfl, lt_nI (by omega) (by omega)]; omega
      rw [h] at h2
      exact h2 (by decide)
    rw [show ((0 : Int32), (0 : Int32), (0 : Int32), upd tx 8 0) = (nI 0, nI 0, nI 0, upd tx 8 0) from rfl, show ((0 : Int32), (0 : Int32), (0 : Int32), rd) = (nI 0, nI 0, nI 0, rd) from rfl, e1, bdS_r, bd4_s, if_pos rfl]
    rcases e2 with ⟨β, δ, T', e2⟩ | ⟨rfl, z, δ, T', e2⟩
    · rw [e2, bdS_r, bd4_s, if_neg hne]
      exact ⟨_, _, _, _, _, _, _, _, _, _, _, _, _, _, _, _, _, _, rfl, rfl, hP, hH, hT0⟩
    · rw [e2, bdS_l, bd4_s, if_neg one_ne, bd4_s, if_neg hne]
      exact ⟨_, _, _, _, _, _, _, _, _, _, _, _, _, _, _, _, _, _, rfl, rfl, hP, hH, hT0⟩
