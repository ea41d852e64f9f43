-- the turn
def rnd (n : Nat) : Nat := (n * 1103515245 + 12345) % 2147483648
theorem l_and (n : Nat) (hn : n < 2 ^ 62) : Int64.toInt32 (lN n &&& 2147483647) = nI (n % 2147483648) := by
  have h1 : lN n &&& 2147483647 = lN (n % 2147483648) := by
    apply Int64.toBitVec_inj.mp
    rw [Int64.toBitVec_and]
    apply BitVec.eq_of_toNat_eq
    rw [BitVec.toNat_and]
    have e1 : (lN n).toBitVec.toNat = n := by
      show (BitVec.ofNat 64 n).toNat = n
      rw [BitVec.toNat_ofNat]; omega
    have e2 : (lN (n % 2147483648)).toBitVec.toNat = n % 2147483648 := by
      show (BitVec.ofNat 64 (n % 2147483648)).toNat = n % 2147483648
      rw [BitVec.toNat_ofNat]; omega
    have e3 : (2147483647 : Int64).toBitVec.toNat = 2 ^ 31 - 1 := by decide
    rw [e1, e2, e3, Nat.and_two_pow_sub_one_eq_mod]
  rw [h1]
  have h2 : n % 2147483648 < 2 ^ 31 := by omega
  rw [← nI_l h2]
  exact Int32.toInt32_toInt64 _
theorem rnd_ok {n : Nat} (hn : n < 2147483648) : Int64.toInt32 ((Int32.toInt64 (nI n) * 1103515245 + 12345) &&& 2147483647) = nI (rnd n) := by
  rw [nI_l (by omega), show lN n * 1103515245 + 12345 = lN (n * 1103515245 + 12345) by rw [← lN_add, ← lN_mul]; rfl, l_and _ (by omega)]
  rfl
theorem rnd_ex {n : Nat} (hn : n < 2147483648) : ∃ q, q < 2147483648 ∧ Int64.toInt32 ((Int32.toInt64 (nI n) * 1103515245 + 12345) &&& 2147483647) = nI q := ⟨rnd n, Nat.mod_lt _ (by omega), rnd_ok hn⟩
theorem ed_seed {c v : Nat → Int32} {A : Nat → Nat} (hV : VA A) (hC : repC c A) (hM : repM v A) {x : Nat} (hx : x < 2147483648) : VA (uA A 1 x) ∧ repC (upd c 7 (nI x)) (uA A 1 x) ∧ repM (upd v 1 (nI x)) (uA A 1 x) := by
  have h0 := hV.n
  obtain ⟨p0, p1, p2, p3, p4, p5, p6, p7, p8, p9, p10⟩ := hV
  obtain ⟨c0, c1, c2, c3⟩ := hC
  have o : ∀ j, j ≠ 1 → uA A 1 x j = A j := fun j h1 => uA_n _ _ h1
  refine ⟨⟨p0, by rw [uA_s]; exact hx, p2, p3, p4, p5, p6, p7, p8, fun k hk => ?_, fun k hk l hl => ?_⟩, ⟨fun j hj => ?_, by rw [uA_s, upd_same], by rw [o 0 (by omega), upd_ne _ _ (by omega)]; exact c2, fun k hk => ?_⟩, uA_M hM 1 x⟩
  · obtain ⟨q1, q2, q3, q4⟩ := p9 k hk
    exact ⟨by rw [o _ (by omega)]; exact q1, by rw [o _ (by omega)]; exact q2, by rw [o _ (by omega)]; exact q3, fun l hl => ⟨by rw [o _ (by omega)]; exact (q4 l hl).1, by rw [o _ (by omega)]; exact (q4 l hl).2⟩⟩
  · rw [o 0 (by omega)] at hk
    rw [o _ (by omega)] at hl
    rw [o _ (by omega)]; exact p10 k hk l hl
  · rw [o _ (by omega), upd_ne _ _ (by omega)]; exact c0 j hj
  · rw [o 0 (by omega)] at hk
    obtain ⟨q1, q2, q3, q4⟩ := c3 k hk
    refine ⟨by rw [o _ (by omega), upd_ne _ _ (by omega)]; exact q1, ?_, by rw [o _ (by omega), upd_ne _ _ (by omega)]; exact q3, fun l hl => ?_⟩
    · unfold bgn at q2 ⊢
      rw [o _ (by omega), upd_ne _ _ (by omega)]; exact q2
    · rw [o _ (by omega)] at hl
      rw [o _ (by omega), o _ (by omega), upd_ne _ _ (by omega)]; exact q4 l hl
theorem ed_turn {c v : Nat → Int32} (h : RP c v) : ∃ (c' : Nat → Int32) (r : Int32) (v' : Nat → Int32), p_X4_turn c = some c' ∧ p_X8_turn (upd v 1 (Int64.toInt32 ((((Int32.toInt64 (v 1)) * (1103515245 : Int64)) + (12345 : Int64)) &&& (2147483647 : Int64)))) (((upd v 1 (Int64.toInt32 ((((Int32.toInt64 (v 1)) * (1103515245 : Int64)) + (12345 : Int64)) &&& (2147483647 : Int64)))) 1) / (65536 : Int32)) = some (r, v') ∧ RP c' v' := by
  obtain ⟨A, hV, hC, hM⟩ := h
  have h1 := hV.2.1
  obtain ⟨q, hr, hq⟩ := rnd_ex h1
  obtain ⟨rV, rC, rM⟩ := ed_seed hV hC hM hr
  have hP : RP (upd c 7 (nI (q))) (upd v 1 (nI (q))) := ⟨_, rV, rC, rM⟩
  rw [hM 1 (by omega), hq, upd_same, p_X4_turn, p_X4_randomNumber, bd1_s, hC.2.1, hq, p_X4_randomNumber, bd1_s, upd_same, p_X8_turn]
  simp only [nm_s]
  rw [show nI (q) / (65536 : Int32) = nI (q / 65536) from div_nI (d := 65536) (by omega) (by omega) (by omega), show irem (nI (q / 65536)) (8 : Int32) = nI (q / 65536 % 8) from rem_nI (d := 8) (by omega) (by omega) (by omega), show nI (q / 65536) / (8 : Int32) = nI (q / 65536 / 8) from div_nI (d := 8) (by omega) (by omega) (by omega)]
  generalize hs : q / 65536 % 8 = s
  have hs8 : s < 8 := by omega
  generalize nI (q / 65536 / 8) = y
  have L : ∃ (c' : Nat → Int32) (r : Int32) (v' : Nat → Int32), p_X4_turn_B84_6 c (nI (A 1)) y = some c' ∧ p_X8_turn_B56_1 (upd v 1 (nI (q))) y = some (r, v') ∧ RP c' v' := by
    obtain ⟨r, c', v', e1, e2, e3⟩ := ed_line hP (irem y 4) (irem (y / 4) 2)
    rw [p_X4_turn_B84_6, hq, e1, bd2_s, p_X8_turn_B56_1, e2, bd2_s]
    exact ⟨_, _, _, rfl, rfl, e3⟩
  have W : ∃ (c' : Nat → Int32) (r : Int32) (v' : Nat → Int32), p_X4_turn_B100_9 c (nI (A 1)) y = some c' ∧ p_X8_turn_B105_4 (upd v 1 (nI (q))) y = some (r, v') ∧ RP c' v' := by
    obtain ⟨r, c', v', e1, e2, e3⟩ := ed_word hP (irem y 9 + 1) (irem (y / 9) 4)
    rw [p_X4_turn_B100_9, hq, e1, bd2_s, p_X8_turn_B105_4, e2, bd2_s]
    exact ⟨_, _, _, rfl, rfl, e3⟩
  rcases (show s = 0 ∨ s = 1 ∨ s = 2 ∨ s = 3 ∨ s = 4 ∨ s = 5 ∨ s = 6 ∨ s = 7 by omega) with rfl | rfl | rfl | rfl | rfl | rfl | rfl | rfl
  · obtain ⟨c', r, v', e1, e2, e3⟩ := L
    exact ⟨c', r, v', by rw [if_pos (by decide), e1], by rw [if_pos (by decide), e2], e3⟩
  · obtain ⟨c', r, v', e1, e2, e3⟩ := L
    exact ⟨c', r, v', by rw [if_neg (by decide), if_pos (by decide), e1], by rw [if_neg (by decide), if_pos (by decide), e2], e3⟩
  · obtain ⟨c', r, v', e1, e2, e3⟩ := W
    exact ⟨c', r, v', by rw [if_neg (by decide), if_neg (by decide), if_pos (by decide), e1], by rw [if_neg (by decide), if_neg (by decide), if_pos (by decide), e2], e3⟩
  · obtain ⟨c', r, v', e1, e2, e3⟩ := W
    exact ⟨c', r, v', by rw [if_neg (by decide), if_neg (by decide), if_neg (by decide), if_pos (by decide), e1], by rw [if_neg (by decide), if_neg (by decide), if_neg (by decide), if_pos (by decide), e2], e3⟩
  · obtain ⟨c', r, v', e1, e2, e3⟩ := W
    exact ⟨c', r, v', by rw [if_neg (by decide), if_neg (by decide), if_neg (by decide), if_neg (by decide), if_pos (by decide), e1], by rw [if_neg (by decide), if_neg (by decide), if_neg (by decide), if_neg (by decide), if_pos (by decide), e2], e3⟩
  · obtain ⟨r, c', v', e1, e2, e3⟩ := ed_rhyme hP (irem (y / 4) 12) (irem y 4)
    exact ⟨c', r, v', by rw [if_neg (by decide), if_neg (by decide), if_neg (by decide), if_neg (by decide), if_neg (by decide), if_pos (by decide), e1, bd2_s], by rw [if_neg (by decide), if_neg (by decide), if_neg (by decide), if_neg (by decide), if_neg (by decide), if_pos (by decide), e2, bd2_s], e3⟩
  · obtain ⟨r, c', v', e1, e2, e3⟩ := ed_tell hP 5 (irem y 3)
    exact ⟨c', r, v', by rw [if_neg (by decide), if_neg (by decide), if_neg (by decide), if_neg (by decide), if_neg (by decide), if_neg (by decide), if_pos (by decide), e1, bd2_s], by rw [if_neg (by decide), if_neg (by decide), if_neg (by decide), if_neg (by decide), if_neg (by decide), if_neg (by decide), if_pos (by decide), e2, bd2_s], e3⟩
  · obtain ⟨r, c', v', e1, e2, e3⟩ := ed_tell hP 0 (irem y 35 + 6)
    exact ⟨c', r, v', by rw [if_neg (by decide), if_neg (by decide), if_neg (by decide), if_neg (by decide), if_neg (by decide), if_neg (by decide), if_neg (by decide), e1, bd2_s], by rw [if_neg (by decide), if_neg (by decide), if_neg (by decide), if_neg (by decide), if_neg (by decide), if_neg (by decide), if_neg (by decide), if_pos (by decide), e2, bd2_s], e3⟩
