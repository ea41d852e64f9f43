theorem m_inD (x : Int32) : p_X8_in (Int32.toInt64 x) 49 57 = some (if x < 49 then 0 else if 57 < x then 0 else 1) := m_in x 49 57
theorem m_inA (x : Int32) : p_X8_in (Int32.toInt64 x) 65 68 = some (if x < 65 then 0 else if 68 < x then 0 else 1) := m_in x 65 68
theorem iD {c : Nat} (hc : c ≤ 126) : (if nI c < 49 then (0 : Int32) else if 57 < nI c then 0 else 1) = if 49 ≤ c ∧ c ≤ 57 then 1 else 0 := by
  simp (disch := omega) only [ol, lt_nI]
  by_cases h : c < 49
  · rw [if_pos h, if_neg (by omega)]
  · rw [if_neg h]
    by_cases h2 : 57 < c
    · rw [if_pos h2, if_neg (by omega)]
    · rw [if_neg h2, if_pos (by omega)]
theorem iA {c : Nat} (hc : c ≤ 126) : (if nI c < 65 then (0 : Int32) else if 68 < nI c then 0 else 1) = if 65 ≤ c ∧ c ≤ 68 then 1 else 0 := by
  simp (disch := omega) only [ol, lt_nI]
  by_cases h : c < 65
  · rw [if_pos h, if_neg (by omega)]
  · rw [if_neg h]
    by_cases h2 : 68 < c
    · rw [if_pos h2, if_neg (by omega)]
    · rw [if_neg h2, if_pos (by omega)]
theorem cx_at {t : Nat} {ch : Nat → Nat} {i : Nat} (h : cx t ch i ≠ 0) : sk t ch i < t ∧ cx t ch i = ch (sk t ch i) := by
  unfold cx at h ⊢
  by_cases h2 : t ≤ sk t ch i
  · rw [if_pos h2] at h; exact absurd rfl h
  · rw [if_neg h2]; exact ⟨by omega, rfl⟩
-- the words of a line
theorem rd_words {t m : Nat} {ch : Nat → Nat} {chars tape : Nat → Int32} (ht : t ≤ 90) (hm : m < 12) (hc : ∀ j, j < t → chars j = nI (ch j) ∧ tape j = nI (ch j) ∧ 32 ≤ ch j ∧ ch j ≤ 126) : ∀ (d w p n e : Nat) (rd T : Nat → Int32) (B : Nat → Nat), w + d = 6 → p ≤ t → d < n → e ≤ 1 → LR T B (m + 1) → VB B (m + 1) → B (15 * m + 2) = w → (∀ j, j < 15 * m + 15 → j ≠ 15 * m + 2 → rd j = nI (B j)) → (pau (cx t ch p) ≠ 0 → e = 0) →
    ∃ (w' p' e' : Nat) (rd' T' : Nat → Int32) (B' : Nat → Nat), p ≤ p' ∧ p' ≤ t ∧ loopN (p_X8_readWords_L2 (nI t) tape (nI (15 * m))) n (nI w, nI p, rd) = some (nI w', nI p', rd') ∧ CA (p_X6_parse_L19 (nI t) chars) p (0, nI e, T) p' (0, nI e', T') ∧ e' ≤ 1 ∧ w' ≤ 6 ∧ LR T' B' (m + 1) ∧ VB B' (m + 1) ∧ B' (15 * m + 2) = w' ∧ (∀ j, j < 15 * m + 15 → j ≠ 15 * m + 2 → rd' j = nI (B' j)) ∧ (49 ≤ cx t ch p' ∧ cx t ch p' ≤ 57 → w' = 6) ∧ (pau (cx t ch p') ≠ 0 → e' = 0) := by
  have hct : ∀ j, j < t → tape j = nI (ch j) ∧ 32 ≤ ch j ∧ ch j ≤ 126 := fun j hj => (hc j hj).2
  have hcc : ∀ j, j < t → chars j = nI (ch j) ∧ 32 ≤ ch j ∧ ch j ≤ 126 := fun j hj => ⟨(hc j hj).1, (hc j hj).2.2⟩
  have hcb : ∀ j, j < t → 32 ≤ ch j ∧ ch j ≤ 126 := fun j hj => (hc j hj).2.2
  intro d
  induction d with
  | zero =>
    intro w p n e rd T B hw hp hn he hR hV hB hrd hpa
    obtain ⟨n, rfl⟩ : ∃ q, n = q + 1 := ⟨n - 1, by omega⟩
    have hw6 : w = 6 := by omega
    have hk := sk_ge ch hp
    have hcxb := cx_bnd hcb p
    refine ⟨w, sk t ch p, e, rd, T, B, hk.1, hk.2, loopN_out (e := (nI w, nI (sk t ch p), rd)) ?_, c_skip ht hcc _ (t - p) p (by omega), he, by omega, hR, hV, hB, hrd, fun _ => hw6, fun h => hpa (by rw [cx_sk hp] at h; exact h)⟩
    rw [p_X8_readWords_L2, m_here ht hct hp, bd2_s, m_inD, bd1_s, iD hcxb]
    by_cases h : 49 ≤ cx t ch p ∧ cx t ch p ≤ 57
    · rw [if_pos h, if_neg one_ne, if_pos (by rw [show (6 : Int32) = nI 6 from rfl, le_nI (by omega) (by omega)]; omega)]
    · rw [if_neg h, if_pos rfl]
  | succ d ih =>
    intro w p n e rd T B hw hp hn he hR hV hB hrd hpa
    obtain ⟨n, rfl⟩ : ∃ q, n = q + 1 := ⟨n - 1, by omega⟩
    have hk := sk_ge ch hp
    have hcxb := cx_bnd hcb p
    by_cases h : 49 ≤ cx t ch p ∧ cx t ch p ≤ 57
    · obtain ⟨hq, hcq⟩ := cx_at (show cx t ch p ≠ 0 by omega)
      have hq1 : sk t ch p + 1 ≤ t := hq
      have hk2 := sk_ge ch hq1
      have hcxb2 := cx_bnd hcb (sk t ch p + 1)
      have hpl := pau_le (cx t ch (sk t ch p + 1))
      -- the class: over the blanks, then the digit, then over the blanks
      have A1 : CA (p_X6_parse_L19 (nI t) chars) p (0, nI e, T) (sk t ch (sk t ch p + 1)) (0, 1, upd (upd T (45 + 6 * m + w) (nI (4 * (ch (sk t ch p) - 48)))) (33 + m) (nI (w + 1))) := by
        refine (c_skip ht hcc _ (t - p) p (by omega)).trans ((CA.step ?_).trans (c_skip ht hcc _ (t - (sk t ch p + 1)) (sk t ch p + 1) (by omega)))
        have ha := a_dig (δ := nI e) (c := ch (sk t ch p)) (w := w) (by omega) hm hR hB (by omega)
        rw [if_pos (by omega)] at ha
        rw [c_char ht hq (hc _ hq).1 (by omega) ha, if_neg one_ne]
      -- the model: one step
      have hst : p_X8_readWords_L2 (nI t) tape (nI (15 * m)) (nI w, nI p, rd) = some (.inl (nI (w + 1), nI (sk t ch (sk t ch p + 1) + if pau (cx t ch (sk t ch p + 1)) = 0 then 0 else 1), upd (upd rd (15 * m + 3 + w) (nI (ch (sk t ch p) - 48))) (15 * m + 9 + w) (nI (pau (cx t ch (sk t ch p + 1)))))) := by
        rw [p_X8_readWords_L2, m_here ht hct hp, bd2_s, m_inD, bd1_s, iD hcxb, if_pos h, if_neg one_ne, if_neg (by rw [show (6 : Int32) = nI 6 from rfl, le_nI (by omega) (by omega)]; omega), m_here ht hct hk.2, bd2_s, (sk_sk ch (t - p) p (by omega)).1, cx_sk hp, nI_1, m_here ht hct hq1, bd2_s, m_pauseOf hcxb2, bd1_s, hcq, show nI (ch (sk t ch p)) - (48 : Int32) = nI (ch (sk t ch p) - 48) from sub_nI (b := 48) (by omega)]
        simp (disch := omega) only [ol, nI_add, ib_nI, gd_t, tn_nI, le_nI]
        by_cases hz : pau (cx t ch (sk t ch p + 1)) = 0
        · rw [if_pos (by omega), if_pos hz]
        · rw [if_neg (by omega), if_neg hz]
      rw [loopN_in hst]
      have hrd' : ∀ y, ∀ j, j < 15 * m + 15 → j ≠ 15 * m + 2 → upd (upd rd (15 * m + 3 + w) (nI (ch (sk t ch p) - 48))) (15 * m + 9 + w) (nI y) j = nI (bW B m w (ch (sk t ch p) - 48) y j) := by
        intro y j hj hj2
        rw [upd_at, upd_at]
        by_cases h9 : j = 15 * m + 9 + w
        · rw [if_pos h9, h9, bW_y (by omega)]
        · rw [if_neg h9]
          by_cases h3 : j = 15 * m + 3 + w
          · rw [if_pos h3, h3, bW_x (by omega)]
          · rw [if_neg h3, bW_out h3 h9 hj2]; exact hrd j hj hj2
      by_cases hz : pau (cx t ch (sk t ch p + 1)) = 0
      · rw [if_pos hz, Nat.add_zero, hz]
        obtain ⟨r1, r2⟩ := RL_word (T' := upd (upd T (45 + 6 * m + w) (nI (4 * (ch (sk t ch p) - 48)))) (33 + m) (nI (w + 1))) (x := ch (sk t ch p) - 48) (y := 0) hR hV hB (by omega) (by omega) (by omega) (fun j => by rw [upd_at, upd_at]; rfl)
        obtain ⟨w', p', e', rd', T', B', z1, z2, z3, z4, z5, z6, z7, z8, z9, z10, z11, z12⟩ := ih (w + 1) (sk t ch (sk t ch p + 1)) n 1 _ _ _ (by omega) hk2.2 (by omega) (by omega) r1 r2 bW_n (hrd' 0) (fun q => by rw [cx_sk hq1, hz] at q; exact absurd rfl q)
        exact ⟨w', p', e', rd', T', B', by omega, z2, z3, A1.trans z4, z5, z6, z7, z8, z9, z10, z11, z12⟩
      · rw [if_neg hz]
        have hpc := pau_c hz
        obtain ⟨hq2, hcq2⟩ := cx_at (show cx t ch (sk t ch p + 1) ≠ 0 by omega)
        have hT1 : (upd (upd T (45 + 6 * m + w) (nI (4 * (ch (sk t ch p) - 48)))) (33 + m) (nI (w + 1))) 8 = nI (m + 1) := by rw [upd_ne _ _ (by omega), upd_ne _ _ (by omega)]; exact hR.1
        have hsp := t_pause (T := upd (upd T (45 + 6 * m + w) (nI (4 * (ch (sk t ch p) - 48)))) (33 + m) (nI (w + 1))) (m := m) (w := w) (x := ch (sk t ch p) - 48) (p := pau (ch (sk t ch (sk t ch p + 1)))) hm hT1 (upd_same _ _ _) (by omega) (by rw [upd_ne _ _ (by omega), upd_same]) (by omega)
        have A2 := A1.trans (CA.step (s' := (0, 0, upd (upd (upd T (45 + 6 * m + w) (nI (4 * (ch (sk t ch p) - 48)))) (33 + m) (nI (w + 1))) (45 + 6 * m + w) (nI (4 * (ch (sk t ch p) - 48) + pau (ch (sk t ch (sk t ch p + 1))))))) (by
          rw [hcq2] at hz hpc
          rw [c_char ht hq2 (hc _ hq2).1 (by omega) (a_pau hm hT1 hz hsp), if_neg one_ne]))
        obtain ⟨r1, r2⟩ := RL_word (T' := upd (upd (upd T (45 + 6 * m + w) (nI (4 * (ch (sk t ch p) - 48)))) (33 + m) (nI (w + 1))) (45 + 6 * m + w) (nI (4 * (ch (sk t ch p) - 48) + pau (ch (sk t ch (sk t ch p + 1)))))) (x := ch (sk t ch p) - 48) (y := pau (ch (sk t ch (sk t ch p + 1)))) hR hV hB (by omega) (by omega) (pau_le _) (fun j => by
          rw [upd_at, upd_at, upd_at]
          by_cases h1 : j = 33 + m
          · rw [if_neg (by omega), if_pos h1, if_pos h1]
          · rw [if_neg h1, if_neg h1]
            by_cases h2 : j = 45 + 6 * m + w
            · rw [if_pos h2, if_pos h2]
            · rw [if_neg h2, if_neg h2, if_neg h2])
        obtain ⟨w', p', e', rd', T', B', z1, z2, z3, z4, z5, z6, z7, z8, z9, z10, z11, z12⟩ := ih (w + 1) (sk t ch (sk t ch p + 1) + 1) n 0 _ _ _ (by omega) (by omega) (by omega) (by omega) r1 r2 bW_n (hrd' _) (fun q => rfl)
        rw [hcq2]
        exact ⟨w', p', e', rd', T', B', by omega, z2, z3, A2.trans z4, z5, z6, z7, z8, z9, z10, z11, z12⟩
    · refine ⟨w, sk t ch p, e, rd, T, B, hk.1, hk.2, loopN_out (e := (nI w, nI (sk t ch p), rd)) ?_, c_skip ht hcc _ (t - p) p (by omega), he, by omega, hR, hV, hB, hrd, fun q => by rw [cx_sk hp] at q; exact absurd q h, fun q => hpa (by rw [cx_sk hp] at q; exact q)⟩
      rw [p_X8_readWords_L2, m_here ht hct hp, bd2_s, m_inD, bd1_s, iD hcxb, if_neg h, if_pos rfl]
theorem m_zero15r {m : Nat} (hm : m < 12) (v0 : Nat → Int32) : ∀ (d i n : Nat) (v : Nat → Int32), i + d = 15 → (∀ j, v j = if 15 * m ≤ j ∧ j < 15 * m + i then 0 else v0 j) → d < n → ∃ (z : Int32) (vF : Nat → Int32), loopN (p_X8_readLines_L94 (nI (15 * m))) n (nI i, v) = some (z, vF) ∧ ∀ j, vF j = if 15 * m ≤ j ∧ j < 15 * m + 15 then 0 else v0 j := by
  intro d
  induction d with
  | zero =>
    intro i n v hi hv hn
    obtain ⟨n, rfl⟩ : ∃ m, n = m + 1 := ⟨n - 1, by omega⟩
    have : i = 15 := by omega
    subst this
    refine ⟨_, v, loopN_out (e := (nI 15, v)) ?_, hv⟩
    rw [p_X8_readLines_L94, if_pos (by decide)]
  | succ d ih =>
    intro i n v hi hv hn
    obtain ⟨n, rfl⟩ : ∃ m, n = m + 1 := ⟨n - 1, by omega⟩
    have hs : p_X8_readLines_L94 (nI (15 * m)) (nI i, v) = some (.inl (nI (i + 1), upd v (15 * m + i) 0)) := by
      rw [p_X8_readLines_L94]
      simp (disch := omega) only [ol, nI_add, le_nI, ib_nI, gd_t, tn_nI]
      rw [if_neg (by omega)]
    rw [loopN_in hs]
    refine ih (i + 1) n _ (by omega) (fun j => ?_) (by omega)
    rw [upd_at]
    by_cases h : j = 15 * m + i
    · rw [if_pos h, if_pos (by omega)]
    · rw [if_neg h, hv j]
      by_cases h2 : 15 * m ≤ j ∧ j < 15 * m + i
      · rw [if_pos h2, if_pos (by omega)]
      · rw [if_neg h2, if_neg (by omega)]
