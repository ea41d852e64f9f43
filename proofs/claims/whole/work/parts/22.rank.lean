/-! ===== ranks, indentation, shapes ===== -/
def pcn (m : Nat) : Nat := m % 2 + m / 2 % 2 + m / 4 % 2 + m / 8 % 2
def sb (m r : Nat) : Nat := if m / 2 ^ r % 2 = 0 then m + 2 ^ r else m
theorem sb_lt {m r : Nat} (hm : m < 16) (hr : r < 4) : sb m r < 16 := by
  have h : ∀ m, m < 16 → ∀ r, r < 4 → sb m r < 16 := by decide
  exact h m hm r hr
theorem sb_or {m r : Nat} (hm : m < 16) (hr : r < 4) : nI m ||| ((1 : Int32) <<< (nI r &&& 31)) = nI (sb m r) := by
  have h : ∀ m, m < 16 → ∀ r, r < 4 → nI m ||| ((1 : Int32) <<< (nI r &&& 31)) = nI (sb m r) := by decide
  exact h m hm r hr
theorem sb_bit {m r : Nat} (hm : m < 16) (hr : r < 4) : ((nI m >>> (nI r &&& 31)) &&& 1 = (0 : Int32)) = (m / 2 ^ r % 2 = 0) := by
  have h : ∀ m, m < 16 → ∀ r, r < 4 → (((nI m >>> (nI r &&& 31)) &&& 1 = (0 : Int32)) ↔ (m / 2 ^ r % 2 = 0)) := by decide
  exact propext (h m hm r hr)
theorem sb_pcn {m r : Nat} (hm : m < 16) (hr : r < 4) : pcn (sb m r) = pcn m + (if m / 2 ^ r % 2 = 0 then 1 else 0) := by
  have h : ∀ m, m < 16 → ∀ r, r < 4 → pcn (sb m r) = pcn m + (if m / 2 ^ r % 2 = 0 then 1 else 0) := by decide
  exact h m hm r hr
theorem pcn_le {m : Nat} (hm : m < 16) : pcn m ≤ 4 := by
  have h : ∀ m, m < 16 → pcn m ≤ 4 := by decide
  exact h m hm
theorem c_bitCount {m : Nat} (hm : m < 16) : p_J6_bitCount_0f7a4 (nI m) = some (nI (pcn m)) := by
  have h : ∀ m, m < 16 → p_J6_bitCount_0f7a4 (nI m) = some (nI (pcn m)) := by decide
  exact h m hm
theorem m_ones {m : Nat} (hm : m < 16) : p_X8_ones (nI m) = some (nI (pcn m)) := by
  have h : ∀ m, m < 16 → p_X8_ones (nI m) = some (nI (pcn m)) := by decide +kernel
  exact h m hm
/-- the rhymes that come ahead of a line's own, as bits -/
def rkm (A : Nat → Nat) (k : Nat) : Nat → Nat → Nat → Nat
  | 0, _, m => m
  | d + 1, l, m => if A (9 + 15 * l) = A (9 + 15 * k) then m else rkm A k d (l + 1) (sb m (A (9 + 15 * l)))
def rkl (A : Nat → Nat) (k : Nat) : Nat → Nat → Nat
  | 0, l => l
  | d + 1, l => if A (9 + 15 * l) = A (9 + 15 * k) then l else rkl A k d (l + 1)
def rk (A : Nat → Nat) (k : Nat) : Nat := pcn (rkm A k (k - sS A k) (sS A k) 0)
theorem rkm_lt {A : Nat → Nat} (hV : VA A) (k : Nat) : ∀ d l m, l + d ≤ 12 → m < 16 → rkm A k d l m < 16
  | 0, _, _, _, h => h
  | d + 1, l, m, hl, h => by
    unfold rkm
    split
    · exact h
    · have h1 := hV.ln (k := l) (by omega)
      exact rkm_lt hV k d (l + 1) _ (by omega) (sb_lt h (by omega))
theorem rk_le {A : Nat → Nat} (hV : VA A) {k : Nat} (hk : k < 12) : rk A k ≤ 4 := by
  have := sS_le A k
  exact pcn_le (rkm_lt hV k _ _ _ (by omega) (by omega))
theorem c_rk_loop {c : Nat → Int32} {A : Nat → Nat} (hV : VA A) (hC : repC c A) {k : Nat} (hk : k < A 0) : ∀ (d l m n : Nat), l + d = k → m < 16 → d < n → loopN (p_X4_rankOf_L8 c (nI k)) n (nI m, nI l) = some (nI (rkm A k d l m), nI (rkl A k d l)) := by
  have h0 := hV.n
  intro d
  induction d with
  | zero =>
    intro l m n he hm hn
    obtain ⟨n, rfl⟩ : ∃ m, n = m + 1 := ⟨n - 1, by omega⟩
    refine loopN_out ?_
    simp (disch := omega) only [p_X4_rankOf_L8, le_nI]
    rw [if_pos (by omega), rkm, rkl]
  | succ d ih =>
    intro l m n he hm hn
    obtain ⟨n, rfl⟩ : ∃ m, n = m + 1 := ⟨n - 1, by omega⟩
    have h1 := hV.ln (k := l) (by omega)
    have h2 := hV.ln (k := k) (by omega)
    have hs : p_X4_rankOf_L8 c (nI k) (nI m, nI l) = if A (9 + 15 * l) = A (9 + 15 * k) then some (.inr (nI m, nI l)) else some (.inl (nI (sb m (A (9 + 15 * l))), nI (l + 1))) := by
      rw [p_X4_rankOf_L8, c_rhymeOf hV hC (by omega), c_rhymeOf hV hC hk]
      simp (disch := omega) only [bd1_s, nm_s, le_nI, eq_nI, sb_or, ol 1, nI_add]
      rw [if_neg (by omega)]
      split
      · rfl
      · rw [show (nI 1 : Int32) = 1 from rfl, sb_or hm (by omega)]
    unfold rkm rkl
    by_cases h : A (9 + 15 * l) = A (9 + 15 * k)
    · rw [if_pos h] at hs
      rw [if_pos h, if_pos h]
      exact loopN_out hs
    · rw [if_neg h] at hs
      rw [if_neg h, if_neg h, loopN_in hs]
      exact ih (l + 1) _ n (by omega) (sb_lt hm (by omega)) (by omega)
theorem c_rankOf {c : Nat → Int32} {A : Nat → Nat} (hV : VA A) (hC : repC c A) {k : Nat} (hk : k < A 0) : p_X4_rankOf c (nI k) = some (nI (rk A k)) := by
  have h0 := hV.n
  have hf := fuel_ge
  have hs := sS_le A k
  rw [p_X4_rankOf, c_stanzaStart hV hC hk, bd1_s, show (0 : Int32) = nI 0 from rfl, c_rk_loop hV hC hk (k - sS A k) (sS A k) 0 fuel (by omega) (by omega) (by omega), bd2_s, c_bitCount (rkm_lt hV k _ _ _ (by omega) (by omega)), bd1_s]
  rfl
theorem m_rk_loop {v : Nat → Int32} {A : Nat → Nat} (hV : VA A) (hM : repM v A) {k : Nat} (hk : k < 12) : ∀ (d l m n : Nat), l + d = k → m < 16 → d < n → loopN (p_X8_rank_L11 v (nI k)) n (nI m, nI (pcn m), nI l) = some (nI (rkm A k d l m), nI (pcn (rkm A k d l m)), nI (rkl A k d l)) := by
  intro d
  induction d with
  | zero =>
    intro l m n he hm hn
    obtain ⟨n, rfl⟩ : ∃ m, n = m + 1 := ⟨n - 1, by omega⟩
    refine loopN_out ?_
    rw [p_X8_rank_L11, show (0 : Int32) = nI 0 from rfl, m_at hM (by omega) (by omega), m_at hM (by omega) (by omega), bd1_s, bd1_s, show l = k by omega, if_pos rfl, rkm, rkl]
  | succ d ih =>
    intro l m n he hm hn
    obtain ⟨n, rfl⟩ : ∃ m, n = m + 1 := ⟨n - 1, by omega⟩
    have h1 := hV.ln (k := l) (by omega)
    have h2 := hV.ln (k := k) (by omega)
    have hp := pcn_le hm
    have hB : ∀ w : Nat, p_X8_rank_B47_13 v (nI m) (nI (pcn m)) (nI l) (nI w) = some (.inl (nI (sb m (A (9 + 15 * l))), nI (pcn m + w), nI (l + 1))) := by
      intro w
      rw [p_X8_rank_B47_13, nm_s, show (0 : Int32) = nI 0 from rfl, m_at hM (by omega) (by omega), bd1_s, nm_s, show 9 + 15 * l + 0 = 9 + 15 * l from rfl, sb_or hm (by omega), nI_add, show nI l + (1 : Int32) = nI (l + 1) from nI_1 l]
    have hs : p_X8_rank_L11 v (nI k) (nI m, nI (pcn m), nI l) = if A (9 + 15 * l) = A (9 + 15 * k) then some (.inr (nI m, nI (pcn m), nI l)) else some (.inl (nI (sb m (A (9 + 15 * l))), nI (pcn (sb m (A (9 + 15 * l)))), nI (l + 1))) := by
      rw [p_X8_rank_L11, show p_X8_at v (nI l) 0 = _ from m_at (i := 0) hM (by omega) (by omega), show p_X8_at v (nI k) 0 = _ from m_at (i := 0) hM (by omega) (by omega), bd1_s, bd1_s, bd1_s]
      rw [show 9 + 15 * l + 0 = 9 + 15 * l from rfl, show 9 + 15 * k + 0 = 9 + 15 * k from rfl, show p_X8_rank_B47_13 v (nI m) (nI (pcn m)) (nI l) 1 = _ from hB 1, show p_X8_rank_B47_13 v (nI m) (nI (pcn m)) (nI l) 0 = _ from hB 0, sb_pcn hm (by omega)]
      simp (disch := omega) only [eq_nI, sb_bit hm (show A (9 + 15 * l) < 4 by omega)]
      by_cases h : A (9 + 15 * l) = A (9 + 15 * k)
      · rw [if_pos h, if_pos h]
      · rw [if_neg h, if_neg h]
        by_cases h3 : m / 2 ^ A (9 + 15 * l) % 2 = 0
        · rw [if_pos h3, if_pos h3]
        · rw [if_neg h3, if_neg h3]
    unfold rkm rkl
    by_cases h : A (9 + 15 * l) = A (9 + 15 * k)
    · rw [if_pos h] at hs
      rw [if_pos h, if_pos h]
      exact loopN_out hs
    · rw [if_neg h] at hs
      rw [if_neg h, if_neg h, loopN_in hs]
      exact ih (l + 1) _ n (by omega) (sb_lt hm (by omega)) (by omega)
theorem m_rank {v : Nat → Int32} {A : Nat → Nat} (hV : VA A) (hM : repM v A) {k : Nat} (hk : k < 12) : p_X8_rank v (nI k) = some (nI (rk A k)) := by
  have hf := fuel_ge
  have hs := sS_le A k
  rw [p_X8_rank, m_startOf hV hM hk, bd1_s, show ((0 : Int32), (0 : Int32), nI (sS A k)) = (nI 0, nI (pcn 0), nI (sS A k)) from rfl, m_rk_loop hV hM hk (k - sS A k) (sS A k) 0 fuel (by omega) (by omega) (by omega), bd3_s]
  rfl
-- the indentation
theorem c_s0 {c : Nat → Int32} {A : Nat → Nat} (hC : repC c A) : p_X4_setting c 0 = some (nI (A 2)) := c_setting (k := 0) hC (by omega)
theorem c_s1 {c : Nat → Int32} {A : Nat → Nat} (hC : repC c A) : p_X4_setting c 1 = some (nI (A 3)) := c_setting (k := 1) hC (by omega)
theorem c_s2 {c : Nat → Int32} {A : Nat → Nat} (hC : repC c A) : p_X4_setting c 2 = some (nI (A 4)) := c_setting (k := 2) hC (by omega)
theorem c_s3 {c : Nat → Int32} {A : Nat → Nat} (hC : repC c A) : p_X4_setting c 3 = some (nI (A 5)) := c_setting (k := 3) hC (by omega)
theorem c_s4 {c : Nat → Int32} {A : Nat → Nat} (hC : repC c A) : p_X4_setting c 4 = some (nI (A 6)) := c_setting (k := 4) hC (by omega)
theorem c_s5 {c : Nat → Int32} {A : Nat → Nat} (hC : repC c A) : p_X4_setting c 5 = some (nI (A 7)) := c_setting (k := 5) hC (by omega)
theorem c_s6 {c : Nat → Int32} {A : Nat → Nat} (hC : repC c A) : p_X4_setting c 6 = some (nI (A 8)) := c_setting (k := 6) hC (by omega)
def ind (A : Nat → Nat) (k : Nat) : Nat := if A 8 = 0 then 0 else if A 8 = 1 then A 3 * rk A k else A 3 * ((k - sS A k) % 2)
theorem VA.st {A : Nat → Nat} (h : VA A) : (6 ≤ A 2 ∧ A 2 ≤ 40) ∧ A 3 ≤ 4 ∧ A 4 ≤ 9 ∧ (2 ≤ A 5 ∧ A 5 ≤ 20) ∧ (1 ≤ A 6 ∧ A 6 ≤ 3) ∧ A 7 ≤ 2 ∧ A 8 ≤ 2 := ⟨h.2.2.1, h.2.2.2.1, h.2.2.2.2.1, h.2.2.2.2.2.1, h.2.2.2.2.2.2.1, h.2.2.2.2.2.2.2.1, h.2.2.2.2.2.2.2.2.1⟩
theorem ind_le {A : Nat → Nat} (hV : VA A) {k : Nat} (hk : k < 12) : ind A k ≤ 16 := by
  have h1 := hV.st
  have h2 := rk_le hV hk
  unfold ind
  split
  · omega
  · split
    · exact Nat.le_trans (Nat.mul_le_mul h1.2.1 h2) (by decide)
    · exact Nat.le_trans (Nat.mul_le_mul h1.2.1 (show (k - sS A k) % 2 ≤ 1 by omega)) (by decide)
theorem c_indentationOf {c : Nat → Int32} {A : Nat → Nat} (hV : VA A) (hC : repC c A) {k : Nat} (hk : k < A 0) : p_X4_indentationOf c (nI k) = some (nI (ind A k)) := by
  have h0 := hV.n
  have h1 := hV.st
  have hs := sS_le A k
  rw [p_X4_indentationOf, c_s6 hC, bd1_s, c_s1 hC, bd1_s, bd1_s, c_rankOf hV hC hk, bd1_s, c_stanzaStart hV hC hk, bd1_s, sub_nI hs]
  simp (disch := omega) only [ol, eq_nI, rem_nI, mul_nI]
  unfold ind
  rcases (show A 8 = 0 ∨ A 8 = 1 ∨ A 8 = 2 by omega) with h | h | h <;> simp [h]
theorem m_indent {v : Nat → Int32} {A : Nat → Nat} (hV : VA A) (hM : repM v A) {k : Nat} (hk : k < 12) : p_X8_indent v (nI k) = some (nI (ind A k)) := by
  have h1 := hV.st
  have hs := sS_le A k
  rw [p_X8_indent, hM 8 (by omega), hM 3 (by omega), m_rank hV hM hk, bd1_s, m_startOf hV hM hk, bd1_s, sub_nI hs]
  simp (disch := omega) only [ol, eq_nI, rem_nI, mul_nI]
  unfold ind
  rcases (show A 8 = 0 ∨ A 8 = 1 ∨ A 8 = 2 by omega) with h | h | h <;> simp [h]
