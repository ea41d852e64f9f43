/-! ===== stanzas: starts, ends, numbers, ranks ===== -/
def sS (A : Nat → Nat) : Nat → Nat
  | 0 => 0
  | k + 1 => if bgn A (k + 1) = 0 then sS A k else k + 1
def sEf (A : Nat → Nat) : Nat → Nat → Nat
  | 0, e => e
  | d + 1, e => if bgn A e = 0 then sEf A d (e + 1) else e
def sE (A : Nat → Nat) (k : Nat) : Nat := sEf A (A 0 - (k + 1)) (k + 1)
def sO (A : Nat → Nat) : Nat → Nat
  | 0 => 0
  | k + 1 => sO A k + bgn A (k + 1)
theorem sS_le (A : Nat → Nat) : ∀ k, sS A k ≤ k
  | 0 => Nat.le_refl _
  | k + 1 => by
    unfold sS
    split
    · exact Nat.le_succ_of_le (sS_le A k)
    · exact Nat.le_refl _
theorem sEf_le (A : Nat → Nat) : ∀ d e, sEf A d e ≤ e + d
  | 0, e => Nat.le_refl _
  | d + 1, e => by
    unfold sEf
    split
    · have := sEf_le A d (e + 1); omega
    · omega
theorem sEf_ge (A : Nat → Nat) : ∀ d e, e ≤ sEf A d e
  | 0, e => Nat.le_refl _
  | d + 1, e => by
    unfold sEf
    split
    · have := sEf_ge A d (e + 1); omega
    · omega
theorem sE_gt (A : Nat → Nat) (k : Nat) : k < sE A k := sEf_ge A _ _
theorem sE_le {A : Nat → Nat} {k : Nat} (hk : k < A 0) : sE A k ≤ A 0 := by
  have := sEf_le A (A 0 - (k + 1)) (k + 1)
  unfold sE; omega
-- starts
theorem c_sS_loop {c : Nat → Int32} {A : Nat → Nat} (hV : VA A) (hC : repC c A) : ∀ (k n : Nat), k < A 0 → k < n → loopN (p_X4_stanzaStart_L2 c) n (nI k) = some (nI (sS A k)) := by
  have h0 := hV.n
  intro k
  induction k with
  | zero =>
    intro n hk hn
    obtain ⟨n, rfl⟩ : ∃ m, n = m + 1 := ⟨n - 1, by omega⟩
    refine loopN_out ?_
    simp (disch := omega) only [p_X4_stanzaStart_L2, ol, le_nI]
    rfl
  | succ k ih =>
    intro n hk hn
    obtain ⟨n, rfl⟩ : ∃ m, n = m + 1 := ⟨n - 1, by omega⟩
    have hb : bgn A (k + 1) ≤ 1 := bgn_le hV (by omega)
    have hs : p_X4_stanzaStart_L2 c (nI (k + 1)) = if bgn A (k + 1) = 0 then some (.inl (nI k)) else some (.inr (nI (k + 1))) := by
      simp (disch := omega) only [p_X4_stanzaStart_L2, ol, le_nI, nI_add, ib_nI, gd_t, tn_nI, (hC.2.2.2 (k + 1) hk).2.1, eq_nI]
      rw [if_neg (by omega), show nI (k + 1) + -nI 1 = nI k from pk_m1 k]
    unfold sS
    by_cases h : bgn A (k + 1) = 0
    · rw [if_pos h] at hs ⊢
      rw [loopN_in hs]
      exact ih n (by omega) (by omega)
    · rw [if_neg h] at hs ⊢
      exact loopN_out hs
theorem c_stanzaStart {c : Nat → Int32} {A : Nat → Nat} (hV : VA A) (hC : repC c A) {k : Nat} (hk : k < A 0) : p_X4_stanzaStart c (nI k) = some (nI (sS A k)) := by
  have h0 := hV.n
  have hf := fuel_ge
  rw [p_X4_stanzaStart, c_sS_loop hV hC k fuel hk (by omega), bd1_s]
theorem m_sS_loop {m : Nat → Int32} {A : Nat → Nat} (hV : VA A) (hM : repM m A) : ∀ (k n : Nat), k < 12 → k < n → loopN (p_X8_startOf_L2 m) n (nI k) = some (nI (sS A k)) := by
  intro k
  induction k with
  | zero =>
    intro n hk hn
    obtain ⟨n, rfl⟩ : ∃ m, n = m + 1 := ⟨n - 1, by omega⟩
    refine loopN_out ?_
    rw [p_X8_startOf_L2, m_begins hV hM hk, bd1_s]
    rfl
  | succ k ih =>
    intro n hk hn
    obtain ⟨n, rfl⟩ : ∃ m, n = m + 1 := ⟨n - 1, by omega⟩
    have hb : bgn A (k + 1) ≤ 1 := bgn_le hV (by omega)
    have hs : p_X8_startOf_L2 m (nI (k + 1)) = if bgn A (k + 1) = 0 then some (.inl (nI k)) else some (.inr (nI (k + 1))) := by
      rw [p_X8_startOf_L2, m_begins hV hM hk, bd1_s]
      simp (disch := omega) only [ol, eq_nI]
      rw [show nI (k + 1) + -nI 1 = nI k from pk_m1 k]
    unfold sS
    by_cases h : bgn A (k + 1) = 0
    · rw [if_pos h] at hs ⊢
      rw [loopN_in hs]
      exact ih n (by omega) (by omega)
    · rw [if_neg h] at hs ⊢
      exact loopN_out hs
theorem m_startOf {m : Nat → Int32} {A : Nat → Nat} (hV : VA A) (hM : repM m A) {k : Nat} (hk : k < 12) : p_X8_startOf m (nI k) = some (nI (sS A k)) := by
  have hf := fuel_ge
  rw [p_X8_startOf, m_sS_loop hV hM k fuel hk (by omega), bd1_s]
-- ends
theorem c_sE_loop {c : Nat → Int32} {A : Nat → Nat} (hV : VA A) (hC : repC c A) : ∀ (d e n : Nat), e + d = A 0 → d < n → loopN (p_X4_stanzaEnd_L4 c) n (nI e) = some (nI (sEf A d e)) := by
  have h0 := hV.n
  intro d
  induction d with
  | zero =>
    intro e n he hn
    obtain ⟨n, rfl⟩ : ∃ m, n = m + 1 := ⟨n - 1, by omega⟩
    refine loopN_out ?_
    simp (disch := omega) only [p_X4_stanzaEnd_L4, hC.2.2.1, le_nI]
    rw [if_pos (by omega), sEf]
  | succ d ih =>
    intro e n he hn
    obtain ⟨n, rfl⟩ : ∃ m, n = m + 1 := ⟨n - 1, by omega⟩
    have hb : bgn A e ≤ 1 := bgn_le hV (by omega)
    have hs : p_X4_stanzaEnd_L4 c (nI e) = if bgn A e = 0 then some (.inl (nI (e + 1))) else some (.inr (nI e)) := by
      simp (disch := omega) only [p_X4_stanzaEnd_L4, ol, hC.2.2.1, le_nI, nI_add, ib_nI, gd_t, tn_nI, (hC.2.2.2 e (by omega)).2.1, eq_nI]
      rw [if_neg (by omega)]
    unfold sEf
    by_cases h : bgn A e = 0
    · rw [if_pos h] at hs ⊢
      rw [loopN_in hs]
      exact ih (e + 1) n (by omega) (by omega)
    · rw [if_neg h] at hs ⊢
      exact loopN_out hs
theorem c_stanzaEnd {c : Nat → Int32} {A : Nat → Nat} (hV : VA A) (hC : repC c A) {k : Nat} (hk : k < A 0) : p_X4_stanzaEnd c (nI k) = some (nI (sE A k)) := by
  have h0 := hV.n
  have hf := fuel_ge
  rw [p_X4_stanzaEnd, nm_s, show nI k + (1 : Int32) = nI (k + 1) from nI_1 k, c_sE_loop hV hC (A 0 - (k + 1)) (k + 1) fuel (by omega) (by omega), bd1_s]
  rfl
theorem m_sE_loop {m : Nat → Int32} {A : Nat → Nat} (hV : VA A) (hM : repM m A) : ∀ (d e n : Nat), e + d = A 0 → d < n → loopN (p_X8_endOf_L4 m) n (nI e) = some (nI (sEf A d e)) := by
  have h0 := hV.n
  intro d
  induction d with
  | zero =>
    intro e n he hn
    obtain ⟨n, rfl⟩ : ∃ m, n = m + 1 := ⟨n - 1, by omega⟩
    refine loopN_out ?_
    simp (disch := omega) only [p_X8_endOf_L4, hM 0 (by omega), le_nI]
    rw [if_pos (by omega), sEf]
  | succ d ih =>
    intro e n he hn
    obtain ⟨n, rfl⟩ : ∃ m, n = m + 1 := ⟨n - 1, by omega⟩
    have hb : bgn A e ≤ 1 := bgn_le hV (by omega)
    have hs : p_X8_endOf_L4 m (nI e) = if bgn A e = 0 then some (.inl (nI (e + 1))) else some (.inr (nI e)) := by
      rw [p_X8_endOf_L4, m_begins hV hM (by omega), bd1_s]
      simp (disch := omega) only [ol, hM 0 (by omega), le_nI, eq_nI, nI_add]
      rw [if_neg (by omega)]
    unfold sEf
    by_cases h : bgn A e = 0
    · rw [if_pos h] at hs ⊢
      rw [loopN_in hs]
      exact ih (e + 1) n (by omega) (by omega)
    · rw [if_neg h] at hs ⊢
      exact loopN_out hs
theorem m_endOf {m : Nat → Int32} {A : Nat → Nat} (hV : VA A) (hM : repM m A) {k : Nat} (hk : k < A 0) : p_X8_endOf m (nI k) = some (nI (sE A k)) := by
  have h0 := hV.n
  have hf := fuel_ge
  rw [p_X8_endOf, nm_s, show nI k + (1 : Int32) = nI (k + 1) from nI_1 k, m_sE_loop hV hM (A 0 - (k + 1)) (k + 1) fuel (by omega) (by omega), bd1_s]
  rfl
-- numbers of stanzas
theorem sO_le {A : Nat → Nat} (hV : VA A) : ∀ k, k < 12 → sO A k ≤ k
  | 0, _ => Nat.le_refl _
  | k + 1, h => by
    have h1 := sO_le hV k (by omega)
    have h2 : bgn A (k + 1) ≤ 1 := bgn_le hV h
    unfold sO; omega
theorem sO_mono {A : Nat → Nat} : ∀ (d k : Nat), sO A k ≤ sO A (k + d)
  | 0, _ => Nat.le_refl _
  | d + 1, k => by
    have := sO_mono (A := A) d k
    show sO A k ≤ sO A (k + d) + bgn A (k + d + 1)
    omega
theorem c_sO_loop {c : Nat → Int32} {A : Nat → Nat} (hV : VA A) (hC : repC c A) {k : Nat} (hk : k < A 0) : ∀ (d l n : Nat), l + d = k → d + 1 < n → loopN (p_X4_stanzaOf_L4 c (nI k)) n (nI (sO A l), nI (l + 1)) = some (nI (sO A k), nI (k + 1)) := by
  have h0 := hV.n
  intro d
  induction d with
  | zero =>
    intro l n he hn
    obtain ⟨n, rfl⟩ : ∃ m, n = m + 1 := ⟨n - 1, by omega⟩
    refine loopN_out ?_
    simp (disch := omega) only [p_X4_stanzaOf_L4, lt_nI]
    rw [if_pos (by omega), show l = k by omega]
  | succ d ih =>
    intro l n he hn
    obtain ⟨n, rfl⟩ : ∃ m, n = m + 1 := ⟨n - 1, by omega⟩
    have hb : bgn A (l + 1) ≤ 1 := bgn_le hV (by omega)
    have hs : p_X4_stanzaOf_L4 c (nI k) (nI (sO A l), nI (l + 1)) = some (.inl (nI (sO A (l + 1)), nI (l + 1 + 1))) := by
      rw [p_X4_stanzaOf_L4, c_beginsStanza hV hC (by omega), bd1_s]
      simp (disch := omega) only [ol, lt_nI, eq_nI, nI_add, nm_s]
      rw [if_neg (by omega)]
      show _ = some (Sum.inl (nI (sO A l + bgn A (l + 1)), _))
      rcases (show bgn A (l + 1) = 0 ∨ bgn A (l + 1) = 1 by omega) with h | h <;> simp [h]
    rw [loopN_in hs]
    exact ih (l + 1) n (by omega) (by omega)
theorem c_stanzaOf {c : Nat → Int32} {A : Nat → Nat} (hV : VA A) (hC : repC c A) {k : Nat} (hk : k < A 0) : p_X4_stanzaOf c (nI k) = some (nI (sO A k)) := by
  have h0 := hV.n
  have hf := fuel_ge
  rw [p_X4_stanzaOf, show ((0 : Int32), (1 : Int32)) = (nI (sO A 0), nI (0 + 1)) from rfl, c_sO_loop hV hC hk k 0 fuel (by omega) (by omega), bd2_s]
theorem m_sO_loop {m : Nat → Int32} {A : Nat → Nat} (hV : VA A) (hM : repM m A) {k : Nat} (hk : k < 12) : ∀ (d l n : Nat), l + d = k → d + 1 < n → loopN (p_X8_stanzaOf_L4 m (nI k)) n (nI (sO A l), nI (l + 1)) = some (nI (sO A k), nI (k + 1)) := by
  intro d
  induction d with
  | zero =>
    intro l n he hn
    obtain ⟨n, rfl⟩ : ∃ m, n = m + 1 := ⟨n - 1, by omega⟩
    refine loopN_out ?_
    simp (disch := omega) only [p_X8_stanzaOf_L4, lt_nI]
    rw [if_pos (by omega), show l = k by omega]
  | succ d ih =>
    intro l n he hn
    obtain ⟨n, rfl⟩ : ∃ m, n = m + 1 := ⟨n - 1, by omega⟩
    have hb : bgn A (l + 1) ≤ 1 := bgn_le hV (by omega)
    have hs : p_X8_stanzaOf_L4 m (nI k) (nI (sO A l), nI (l + 1)) = some (.inl (nI (sO A (l + 1)), nI (l + 1 + 1))) := by
      rw [p_X8_stanzaOf_L4, m_begins hV hM (by omega), bd1_s]
      simp (disch := omega) only [ol, lt_nI, eq_nI, nI_add, nm_s]
      rw [if_neg (by omega)]
      show _ = some (Sum.inl (nI (sO A l + bgn A (l + 1)), _))
      rcases (show bgn A (l + 1) = 0 ∨ bgn A (l + 1) = 1 by omega) with h | h <;> simp [h]
    rw [loopN_in hs]
    exact ih (l + 1) n (by omega) (by omega)
theorem m_stanzaOf {m : Nat → Int32} {A : Nat → Nat} (hV : VA A) (hM : repM m A) {k : Nat} (hk : k < 12) : p_X8_stanzaOf m (nI k) = some (nI (sO A k)) := by
  have hf := fuel_ge
  rw [p_X8_stanzaOf, show ((0 : Int32), (1 : Int32)) = (nI (sO A 0), nI (0 + 1)) from rfl, m_sO_loop hV hM hk k 0 fuel (by omega) (by omega), bd2_s]
def sN (A : Nat → Nat) : Nat := if A 0 = 0 then 0 else sO A (A 0 - 1) + 1
theorem sN_le {A : Nat → Nat} (hV : VA A) : sN A ≤ A 0 := by
  have h0 := hV.n
  unfold sN
  split
  · omega
  · have := sO_le hV (A 0 - 1) (by omega); omega
theorem c_stanzas {c : Nat → Int32} {A : Nat → Nat} (hV : VA A) (hC : repC c A) : p_X4_stanzas c = some (nI (sN A)) := by
  have h0 := hV.n
  rw [p_X4_stanzas, c_lines hC, bd1_s, sN]
  simp (disch := omega) only [ol, eq_nI, bd1_s]
  by_cases h : A 0 = 0
  · rw [if_pos h, if_pos h]
  · rw [if_neg h, if_neg h, sub_nI (by omega), c_stanzaOf hV hC (by omega), bd1_s, nI_add]
theorem m_stanzas {m : Nat → Int32} {A : Nat → Nat} (hV : VA A) (hM : repM m A) : p_X8_stanzas m = some (nI (sN A)) := by
  have h0 := hV.n
  rw [p_X8_stanzas, hM 0 (by omega), sN]
  simp (disch := omega) only [ol, eq_nI]
  by_cases h : A 0 = 0
  · rw [if_pos h, if_pos h]
  · rw [if_neg h, if_neg h, sub_nI (by omega), m_stanzaOf hV hM (by omega), bd1_s, nI_add, Nat.add_comm]
-- the first line of a stanza
def fLf (A : Nat → Nat) (z : Nat) : Nat → Nat → Nat
  | 0, k => k
  | d + 1, k => if z ≤ sO A k then k else fLf A z d (k + 1)
def fL (A : Nat → Nat) (z : Nat) : Nat := fLf A z (A 0 - 1) 0
theorem fLf_lt (A : Nat → Nat) (z : Nat) : ∀ d k, fLf A z d k ≤ k + d
  | 0, k => Nat.le_refl _
  | d + 1, k => by
    unfold fLf
    split
    · omega
    · have := fLf_lt A z d (k + 1); omega
theorem fL_lt {A : Nat → Nat} {z : Nat} (hz : z < sN A) : fL A z < A 0 := by
  have := fLf_lt A z (A 0 - 1) 0
  unfold sN at hz
  unfold fL
  split at hz <;> omega
theorem c_fL_loop {c : Nat → Int32} {A : Nat → Nat} (hV : VA A) (hC : repC c A) {z : Nat} (hz : z < sN A) : ∀ (d k n : Nat), k + d + 1 = A 0 → d + 1 < n → loopN (p_X4_firstLineOf_L2 c (nI z)) n (nI k) = some (nI (fLf A z d k)) := by
  have h0 := hV.n
  have hs0 := sN_le hV
  intro d
  induction d with
  | zero =>
    intro k n he hn
    obtain ⟨n, rfl⟩ : ∃ m, n = m + 1 := ⟨n - 1, by omega⟩
    have hb := sO_le hV k (by omega)
    refine loopN_out ?_
    rw [p_X4_firstLineOf_L2, c_lines hC, bd1_s, c_stanzaOf hV hC (by omega), bd1_s]
    simp (disch := omega) only [le_nI]
    unfold sN at hz
    rw [if_neg (by omega)] at hz
    rw [show A 0 - 1 = k by omega] at hz
    rw [if_neg (by omega), if_pos (by omega), fLf]
  | succ d ih =>
    intro k n he hn
    obtain ⟨n, rfl⟩ : ∃ m, n = m + 1 := ⟨n - 1, by omega⟩
    have hb := sO_le hV k (by omega)
    have hs : p_X4_firstLineOf_L2 c (nI z) (nI k) = if z ≤ sO A k then some (.inr (nI k)) else some (.inl (nI (k + 1))) := by
      rw [p_X4_firstLineOf_L2, c_lines hC, bd1_s, c_stanzaOf hV hC (by omega), bd1_s]
      simp (disch := omega) only [ol, le_nI, nI_add]
      rw [if_neg (by omega)]
    unfold fLf
    by_cases h : z ≤ sO A k
    · rw [if_pos h] at hs ⊢
      exact loopN_out hs
    · rw [if_neg h] at hs ⊢
      rw [loopN_in hs]
      exact ih (k + 1) n (by omega) (by omega)
theorem c_firstLineOf {c : Nat → Int32} {A : Nat → Nat} (hV : VA A) (hC : repC c A) {z : Nat} (hz : z < sN A) : p_X4_firstLineOf c (nI z) = some (nI (fL A z)) := by
  have h0 := hV.n
  have hs0 := sN_le hV
  have hf := fuel_ge
  rw [p_X4_firstLineOf, show (0 : Int32) = nI 0 from rfl, c_fL_loop hV hC hz (A 0 - 1) 0 fuel (by omega) (by omega), bd1_s]
  rfl
theorem m_fL_loop {m : Nat → Int32} {A : Nat → Nat} (hV : VA A) (hM : repM m A) {z : Nat} (hz : z < sN A) : ∀ (d k n : Nat), k + d + 1 = A 0 → d + 1 < n → loopN (p_X8_firstLine_L2 m (nI z)) n (nI k) = some (nI (fLf A z d k)) := by
  have h0 := hV.n
  have hs0 := sN_le hV
  intro d
  induction d with
  | zero =>
    intro k n he hn
    obtain ⟨n, rfl⟩ : ∃ m, n = m + 1 := ⟨n - 1, by omega⟩
    have hb := sO_le hV k (by omega)
    refine loopN_out ?_
    rw [p_X8_firstLine_L2, m_stanzaOf hV hM (by omega), bd1_s]
    simp (disch := omega) only [le_nI]
    unfold sN at hz
    rw [if_neg (by omega)] at hz
    rw [show A 0 - 1 = k by omega] at hz
    rw [if_pos (by omega), fLf]
  | succ d ih =>
    intro k n he hn
    obtain ⟨n, rfl⟩ : ∃ m, n = m + 1 := ⟨n - 1, by omega⟩
    have hb := sO_le hV k (by omega)
    have hs : p_X8_firstLine_L2 m (nI z) (nI k) = if z ≤ sO A k then some (.inr (nI k)) else some (.inl (nI (k + 1))) := by
      rw [p_X8_firstLine_L2, m_stanzaOf hV hM (by omega), bd1_s]
      simp (disch := omega) only [ol, le_nI, nI_add]
    unfold fLf
    by_cases h : z ≤ sO A k
    · rw [if_pos h] at hs ⊢
      exact loopN_out hs
    · rw [if_neg h] at hs ⊢
      rw [loopN_in hs]
      exact ih (k + 1) n (by omega) (by omega)
theorem m_firstLine {m : Nat → Int32} {A : Nat → Nat} (hV : VA A) (hM : repM m A) {z : Nat} (hz : z < sN A) : p_X8_firstLine m (nI z) = some (nI (fL A z)) := by
  have h0 := hV.n
  have hs0 := sN_le hV
  have hf := fuel_ge
  rw [p_X8_firstLine, show (0 : Int32) = nI 0 from rfl, m_fL_loop hV hM hz (A 0 - 1) 0 fuel (by omega) (by omega), bd1_s]
  rfl
