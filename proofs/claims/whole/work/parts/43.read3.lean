-- the lines
theorem m_readWords {t m : Nat} {ch : Nat → Nat} {chars tape : Nat → Int32} (ht : t ≤ 90) (hm : m < 12) (hc : ∀ j, j < t → chars j = nI (ch j) ∧ tape j = nI (ch j) ∧ 32 ≤ ch j ∧ ch j ≤ 126) {p : Nat} {rd T : Nat → Int32} {B : Nat → Nat} (hp : p ≤ t) (hR : LR T B (m + 1)) (hV : VB B (m + 1)) (hB : B (15 * m + 2) = 0) (hrd : ∀ j, j < 15 * m + 15 → j ≠ 15 * m + 2 → rd j = nI (B j)) :
    ∃ (p' e' : Nat) (rd' T' : Nat → Int32) (B' : Nat → Nat), p ≤ p' ∧ p' ≤ t ∧ p_X8_readWords (nI t) (nI p) tape rd (nI (15 * m)) = some (nI p', rd') ∧ CA (p_X6_parse_L19 (nI t) chars) p (0, 0, T) p' (0, nI e', T') ∧ e' ≤ 1 ∧ LR T' B' (m + 1) ∧ VB B' (m + 1) ∧ (∀ j, j < 15 * m + 15 → rd' j = nI (B' j)) ∧ (49 ≤ cx t ch p' ∧ cx t ch p' ≤ 57 → B' (15 * m + 2) = 6) ∧ (pau (cx t ch p') ≠ 0 → e' = 0) := by
  have hu := fuel_ge
  obtain ⟨w', p', e', rd', T', B', z1, z2, z3, z4, z5, z6, z7, z8, z9, z10, z11, z12⟩ := rd_words ht hm hc 6 0 p fuel 0 rd T B (by omega) hp (by omega) (by omega) hR hV hB hrd (fun _ => rfl)
  refine ⟨p', e', upd rd' (15 * m + 2) (nI w'), T', B', z1, z2, ?_, z4, z5, z7, z8, fun j hj => ?_, fun h => by rw [z9]; exact z11 h, z12⟩
  · rw [p_X8_readWords, show ((0 : Int32), nI p, rd) = (nI 0, nI p, rd) from rfl, z3, bd3_s]
    simp (disch := omega) only [ol, nI_add, ib_nI, gd_t, tn_nI]
  · rw [upd_at]
    by_cases h : j = 15 * m + 2
    · rw [if_pos h, h, z9]
    · rw [if_neg h]; exact z10 j hj h
theorem bdS_l {α β γ : Type} (a : α) (k : α → Option γ) (j : β → Option γ) : bdS (some (.inl a)) k j = k a := rfl
theorem bdS_r {α β γ : Type} (b : β) (k : α → Option γ) (j : β → Option γ) : bdS (some (.inr b)) k j = j b := rfl
-- the whole of the tape
theorem rd_main {t : Nat} {ch : Nat → Nat} {chars tape : Nat → Int32} (ht : t ≤ 90) (hc : ∀ j, j < t → chars j = nI (ch j) ∧ tape j = nI (ch j) ∧ 32 ≤ ch j ∧ ch j ≤ 126) : ∀ (D d p n nc b m e : Nat) (rd T : Nat → Int32) (B : Nat → Nat), d ≤ D → p + d = t → d < n → d < nc → b ≤ 1 → e ≤ 1 → LR T B m → VB B m → (∀ j, j < 15 * m → rd j = nI (B j)) → (b = 1 → 0 < m) → (b = 0 → 0 < m → (49 ≤ cx t ch p ∧ cx t ch p ≤ 57 → B (15 * (m - 1) + 2) = 6) ∧ (pau (cx t ch p) ≠ 0 → e = 0)) →
    (∃ (q m' : Nat) (rd' : Nat → Int32) (z δ' : Int32) (T' : Nat → Int32) (B' : Nat → Nat), loopN (p_X8_readLines_L12 (nI t) tape) n (nI b, nI p, nI m, rd) = some (.inl (0, nI q, nI m', rd')) ∧ loopN (p_X6_parse_L19 (nI t) chars) nc (nI p, nI b, nI e, T) = some (.inl (z, 0, δ', T')) ∧ LR T' B' m' ∧ VB B' m' ∧ ∀ j, j < 15 * m' → rd' j = nI (B' j)) ∨
    (∃ (q : Nat) (mm : Int32) (rd' : Nat → Int32), q ≤ t ∧ loopN (p_X8_readLines_L12 (nI t) tape) n (nI b, nI p, nI m, rd) = some (.inr (0, nI q, mm, rd')) ∧ ((∃ β δ T', loopN (p_X6_parse_L19 (nI t) chars) nc (nI p, nI b, nI e, T) = some (.inr (nI q, β, δ, T'))) ∨ (q = t ∧ ∃ z δ T', loopN (p_X6_parse_L19 (nI t) chars) nc (nI p, nI b, nI e, T) = some (.inl (z, 1, δ, T'))))) := by
  have hct : ∀ j, j < t → tape j = nI (ch j) ∧ 32 ≤ ch j ∧ ch j ≤ 126 := fun j hj => (hc j hj).2
  have hcc : ∀ j, j < t → chars j = nI (ch j) ∧ 32 ≤ ch j ∧ ch j ≤ 126 := fun j hj => ⟨(hc j hj).1, (hc j hj).2.2⟩
  have hcb : ∀ j, j < t → 32 ≤ ch j ∧ ch j ≤ 126 := fun j hj => (hc j hj).2.2
  have hu := fuel_ge
  intro D
  induction D with
  | zero =>
    intro d p n nc b m e rd T B hD hp hn hnc hb he hR hV hrd hb1 hb0
    have : p = t := by omega
    subst this
    obtain ⟨n, rfl⟩ : ∃ q, n = q + 1 := ⟨n - 1, by omega⟩
    obtain ⟨nc, rfl⟩ : ∃ q, nc = q + 1 := ⟨nc - 1, by omega⟩
    have hcx : cx p ch p = 0 := by unfold cx; rw [sk_end, if_pos (Nat.le_refl _)]
    have ecl : p_X6_parse_L19 (nI p) chars (nI p, nI b, nI e, T) = some (.inr (.inl (nI p, nI b, nI e, T))) := by
      rw [p_X6_parse_L19, if_pos (by rw [le_nI (by omega) (by omega)]; omega)]
    rcases (show b = 0 ∨ b = 1 by omega) with rfl | rfl
    · left
      refine ⟨p, m, rd, _, _, T, B, ?_, loopN_out ecl, hR, hV, hrd⟩
      refine loopN_out (e := Sum.inl ((0 : Int32), nI p, nI m, rd)) ?_
      rw [p_X8_readLines_L12, m_here ht hct (Nat.le_refl _), bd2_s, hcx, sk_end, if_pos (show nI 0 = 0 from rfl), if_pos (show nI 0 = 0 from rfl)]; rfl
    · right
      refine ⟨p, nI m, rd, Nat.le_refl _, ?_, Or.inr ⟨rfl, _, _, T, loopN_out ecl⟩⟩
      refine loopN_out (e := Sum.inr ((0 : Int32), nI p, nI m, rd)) ?_
      rw [p_X8_readLines_L12, m_here ht hct (Nat.le_refl _), bd2_s, hcx, sk_end, if_pos (show nI 0 = 0 from rfl), if_neg (show ¬ nI 1 = 0 by decide), p_X8_readLines_B23_7, m_here ht hct (Nat.le_refl _), bd2_s, hcx, sk_end, if_neg (show ¬ nI 0 = 124 by decide), p_X8_readLines_B60_10, m_inA, bd1_s, iA (by omega), if_neg (show ¬ (65 ≤ 0 ∧ 0 ≤ 68) by omega), if_pos rfl]
  | succ D ih =>
    intro d p n nc b m e rd T B hD hp hn hnc hb he hR hV hrd hb1 hb0
    have hpt : p ≤ t := by omega
    have hk := sk_ge ch hpt
    have hcxb := cx_bnd hcb p
    have h12 := hV.1
    have hskk := (sk_sk (t := t) ch (t - p) p (by omega))
    obtain ⟨n, rfl⟩ : ∃ q, n = q + 1 := ⟨n - 1, by omega⟩
    have hgo := (c_skip ht hcc (nI b, nI e, T) (t - p) p (by omega)).go (n := nc) (by omega)
    obtain ⟨nc', hnc'⟩ : ∃ q, nc - (sk t ch p - p) = q + 1 := ⟨nc - (sk t ch p - p) - 1, by omega⟩
    rw [hnc'] at hgo
    by_cases h0 : cx t ch p = 0
    · -- the end
      have hqt : sk t ch p = t := by
        unfold cx at h0
        by_cases h2 : t ≤ sk t ch p
        · omega
        · rw [if_neg h2] at h0
          have := (hcb (sk t ch p) (by omega)).1
          omega
      have ecl : p_X6_parse_L19 (nI t) chars (nI (sk t ch p), nI b, nI e, T) = some (.inr (.inl (nI (sk t ch p), nI b, nI e, T))) := by
        rw [p_X6_parse_L19, if_pos (by rw [le_nI (by omega) (by omega)]; omega)]
      rcases (show b = 0 ∨ b = 1 by omega) with rfl | rfl
      · left
        refine ⟨sk t ch p, m, rd, _, _, T, B, ?_, by rw [hgo]; exact loopN_out ecl, hR, hV, hrd⟩
        refine loopN_out (e := Sum.inl ((0 : Int32), nI (sk t ch p), nI m, rd)) ?_
        rw [p_X8_readLines_L12, m_here ht hct hpt, bd2_s, h0, if_pos (show nI 0 = 0 from rfl), if_pos (show nI 0 = 0 from rfl)]; rfl
      · right
        refine ⟨sk t ch p, nI m, rd, hk.2, ?_, Or.inr ⟨hqt, _, _, T, by rw [hgo]; exact loopN_out ecl⟩⟩
        refine loopN_out (e := Sum.inr ((0 : Int32), nI (sk t ch p), nI m, rd)) ?_
        rw [p_X8_readLines_L12, m_here ht hct hpt, bd2_s, h0, if_pos (show nI 0 = 0 from rfl), if_neg (show ¬ nI 1 = 0 by decide), p_X8_readLines_B23_7, m_here ht hct hk.2, bd2_s, cx_sk hpt, hskk.1, h0, if_neg (show ¬ nI 0 = 124 by decide), p_X8_readLines_B60_10, m_inA, bd1_s, iA (by omega), if_neg (show ¬ (65 ≤ 0 ∧ 0 ≤ 68) by omega), if_pos rfl]
    · obtain ⟨hq, hcq⟩ := cx_at h0
      have hne := hskk.2 hq
      have hcbq := hcb (sk t ch p) hq
      have hM0 : p_X8_readLines_L12 (nI t) tape (nI b, nI p, nI m, rd) = if cx t ch p = 124 ∧ b = 0 ∧ 0 < m then some (.inl (1, nI (sk t ch p + 1), nI m, rd)) else p_X8_readLines_B60_10 (nI t) tape (nI b) (nI m) rd (nI (cx t ch p)) (nI (sk t ch p)) := by
        rw [p_X8_readLines_L12, m_here ht hct hpt, bd2_s, if_neg (show ¬ nI (cx t ch p) = 0 by rw [show (0 : Int32) = nI 0 from rfl, eq_nI (by omega) (by omega)]; exact h0), p_X8_readLines_B23_7, m_here ht hct hk.2, bd2_s, cx_sk hpt, hskk.1]
        simp (disch := omega) only [ol, eq_nI, le_nI, nI_add]
        by_cases q1 : cx t ch p = 124
        · rw [if_pos q1]
          by_cases q2 : b = 0
          · rw [if_pos q2]
            by_cases q3 : m ≤ 0
            · rw [if_pos q3, if_neg (by omega)]
            · rw [if_neg q3, if_pos (by omega)]
          · rw [if_neg q2, if_neg (by omega)]
        · rw [if_neg q1, if_neg (by omega)]
      by_cases hbar : cx t ch p = 124 ∧ b = 0 ∧ 0 < m
      · -- a bar
        rw [if_pos hbar] at hM0
        obtain ⟨hb124, rfl, hm0⟩ := hbar
        obtain ⟨K, rfl⟩ : ∃ K, m = K + 1 := ⟨m - 1, by omega⟩
        have hcl : p_X6_parse_L19 (nI t) chars (nI (sk t ch p), nI 0, nI e, T) = some (.inl (nI (sk t ch p + 1), nI 1, nI e, T)) := by
          have ha := a_bar (T := T) (δ := nI e) (m := K) (by omega) hR.1
          rw [← hb124, hcq] at ha
          rw [show nI 0 = (0 : Int32) from rfl, c_char ht hq (hc _ hq).1 (by omega) ha, if_neg one_ne]; rfl
        rw [loopN_in hM0, hgo, loopN_in hcl]
        exact ih (t - (sk t ch p + 1)) (sk t ch p + 1) n nc' 1 (K + 1) e rd T B (by omega) (by omega) (by omega) (by omega) (by omega) he hR hV hrd (fun _ => by omega) (fun h => by omega)
      · rw [if_neg hbar] at hM0
        by_cases hlet : (65 ≤ cx t ch p ∧ cx t ch p ≤ 68) ∧ m < 12
        · -- a letter
          obtain ⟨hl, hm⟩ := hlet
          have ha := a_line (δ := nI e) (c := ch (sk t ch p)) (b := b) (by omega) hb hR (by omega)
          rw [if_pos hm] at ha
          have hcl : p_X6_parse_L19 (nI t) chars (nI (sk t ch p), nI b, nI e, T) = some (.inl (nI (sk t ch p + 1), 0, 0, upd (upd (upd (upd T (9 + m) (nI (ch (sk t ch p) - 65))) (21 + m) (nI (if m = 0 then 1 else b))) (33 + m) 0) 8 (nI (m + 1)))) := by
            rw [c_char ht hq (hc _ hq).1 (by omega) ha, if_neg one_ne]
          obtain ⟨r1, r2⟩ := RL_line (x := ch (sk t ch p) - 65) hR hV hm (by omega) hb
          obtain ⟨z, vF, ez, qz⟩ := m_zero15r hm rd 15 0 fuel rd (by omega) (fun j => by rw [if_neg (by omega)]) (by omega)
          have hrd2 : ∀ j, j < 15 * m + 15 → j ≠ 15 * m + 2 → upd (upd vF (15 * m) (nI (ch (sk t ch p) - 65))) (15 * m + 1) (nI b) j = nI (bL B m (ch (sk t ch p) - 65) b j) := by
            intro j hj hj2
            unfold bL
            rw [upd_at, upd_at, qz]
            by_cases g1 : j = 15 * m
            · rw [if_neg (by omega), if_pos g1, if_pos g1]
            · rw [if_neg g1, if_neg g1]
              by_cases g2 : j = 15 * m + 1
              · rw [if_pos g2, if_pos g2]
              · rw [if_neg g2, if_neg g2]
                by_cases g3 : 15 * m ≤ j ∧ j < 15 * m + 15
                · rw [if_pos g3, if_pos g3]; rfl
                · rw [if_neg g3, if_neg g3]; exact hrd j (by omega)
          obtain ⟨p', e', rd', T', B', w1, w2, w3, w4, w5, w6, w7, w8, w9, w10⟩ := m_readWords ht hm hc (show sk t ch p + 1 ≤ t from hq) r1 r2 (bL_in (by omega) (by omega)) hrd2
          have hM1 : p_X8_readLines_L12 (nI t) tape (nI b, nI p, nI m, rd) = some (.inl (nI 0, nI p', nI (m + 1), rd')) := by
            have hcl : (if nI b = 0 then p_X8_readLines_B145_25 (nI t) tape (nI m) (nI (cx t ch p)) (nI (sk t ch p)) (nI (15 * m)) vF 0 else p_X8_readLines_B145_25 (nI t) tape (nI m) (nI (cx t ch p)) (nI (sk t ch p)) (nI (15 * m)) vF 1) = p_X8_readLines_B145_25 (nI t) tape (nI m) (nI (cx t ch p)) (nI (sk t ch p)) (nI (15 * m)) vF (nI b) := by
              rcases (show b = 0 ∨ b = 1 by omega) with rfl | rfl
              · rw [if_pos (show nI 0 = 0 from rfl)]; rfl
              · rw [if_neg (show ¬ nI 1 = 0 by decide)]; rfl
            rw [hM0, p_X8_readLines_B60_10, m_inA, bd1_s, iA hcxb, if_pos hl, if_neg one_ne, if_neg (by rw [show (12 : Int32) = nI 12 from rfl, le_nI (by omega) (by omega)]; omega), nm_s, show (15 : Int32) * nI m = nI (15 * m) from mul_nI 15 m, show ((0 : Int32), rd) = (nI 0, rd) from rfl, ez, bd2_s, hcl, p_X8_readLines_B145_25, hcq, show nI (ch (sk t ch p)) - (65 : Int32) = nI (ch (sk t ch p) - 65) from sub_nI (b := 65) (by omega)]
            simp (disch := omega) only [ol, nI_add, ib_nI, gd_t, tn_nI, Nat.add_zero]
            rw [w3, bd2_s]
          have hA : CA (p_X6_parse_L19 (nI t) chars) (sk t ch p) (nI b, nI e, T) p' (0, nI e', T') := (CA.step hcl).trans w4
          have hgo2 := ((c_skip ht hcc (nI b, nI e, T) (t - p) p (by omega)).trans hA).go (n := nc) (by omega)
          rw [loopN_in hM1, hgo2]
          refine ih (t - p') p' n (nc - (p' - p)) 0 (m + 1) e' rd' T' B' (by omega) (by omega) (by omega) (by omega) (by omega) w5 w6 w7 (fun j hj => w8 j (by omega)) (fun h => by omega) (fun _ _ => ?_)
          rw [show m + 1 - 1 = m by omega]
          exact ⟨w9, w10⟩
        · -- anything else
          right
          refine ⟨sk t ch p, nI m, rd, hk.2, ?_, Or.inl ?_⟩
          · refine loopN_out (e := Sum.inr ((0 : Int32), nI (sk t ch p), nI m, rd)) ?_
            rw [hM0, p_X8_readLines_B60_10, m_inA, bd1_s, iA hcxb]
            by_cases hl : 65 ≤ cx t ch p ∧ cx t ch p ≤ 68
            · rw [if_pos hl, if_neg one_ne, if_pos (by rw [show (12 : Int32) = nI 12 from rfl, le_nI (by omega) (by omega)]; omega)]
            · rw [if_neg hl, if_pos rfl]
          · obtain ⟨β, δ, T', hr⟩ := a_rej (c := ch (sk t ch p)) (e := e) (by omega) hb he hR hV (by omega) (by omega) (fun x1 x2 => by rw [← hcq]; exact hb0 x1 x2)
            refine ⟨β, δ, T', ?_⟩
            rw [hgo]
            refine loopN_out (e := Sum.inr (nI (sk t ch p), β, δ, T')) ?_
            rw [c_char ht hq (hc _ hq).1 (by omega) hr, if_pos rfl]
