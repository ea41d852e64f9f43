/-! ===== numbers: the pure functions on small numbers ===== -/
theorem gd_t {β : Type} (k : Option β) : gd true k = k := rfl
theorem nm_s {α β : Type} (e : α) (k : α → Option β) : nm e k = k e := rfl
theorem bd1_s {α β : Type} (a : α) (k : α → Option β) : bd1 (some a) k = k a := rfl
theorem bd2_s {α1 α2 β : Type} (a1 : α1) (a2 : α2) (k : α1 → α2 → Option β) : bd2 (some (a1, a2)) k = k a1 a2 := rfl
theorem bd3_s {α1 α2 α3 β : Type} (a1 : α1) (a2 : α2) (a3 : α3) (k : α1 → α2 → α3 → Option β) : bd3 (some (a1, a2, a3)) k = k a1 a2 a3 := rfl
theorem bd4_s {α1 α2 α3 α4 β : Type} (a1 : α1) (a2 : α2) (a3 : α3) (a4 : α4) (k : α1 → α2 → α3 → α4 → Option β) : bd4 (some (a1, a2, a3, a4)) k = k a1 a2 a3 a4 := rfl
theorem bd5_s {α1 α2 α3 α4 α5 β : Type} (a1 : α1) (a2 : α2) (a3 : α3) (a4 : α4) (a5 : α5) (k : α1 → α2 → α3 → α4 → α5 → Option β) : bd5 (some (a1, a2, a3, a4, a5)) k = k a1 a2 a3 a4 a5 := rfl
theorem ol (n : Nat) : (OfNat.ofNat n : Int32) = nI n := rfl
theorem tn_nI {n : Nat} (h : n < 2147483648) : tn (nI n) = n := nI_clamp h
theorem ib_nI {i n : Nat} (hi : i < n) (hn : n < 2147483648) : ib (nI i) n = true := by
  have h : vp_in (nI i) n := vp_in_nI hi hn
  exact decide_eq_true h
theorem le_nI {a b : Nat} (ha : a < 2147483648) (hb : b < 2147483648) : (nI a ≤ nI b) = (a ≤ b) := propext (nI_leI ha hb)
theorem lt_nI {a b : Nat} (ha : a < 2147483648) (hb : b < 2147483648) : (nI a < nI b) = (a < b) := propext (nI_ltI ha hb)
theorem eq_nI {a b : Nat} (ha : a < 2147483648) (hb : b < 2147483648) : (nI a = nI b) = (a = b) := propext (nI_eq ha hb)
theorem sub_nI {a b : Nat} (h : b ≤ a) : nI a - nI b = nI (a - b) := pk_sub h
theorem mul_nI (a b : Nat) : nI a * nI b = nI (a * b) := pk_mul a b
theorem div_nI {a d : Nat} (ha : a < 2147483648) (h0 : 0 < d) (hd : d < 2147483648) : nI a / nI d = nI (a / d) := pk_div ha h0 hd
theorem rem_nI {a d : Nat} (ha : a < 2147483648) (h0 : 0 < d) (hd : d < 2147483648) : irem (nI a) (nI d) = nI (a % d) := pk_rem ha h0 hd
theorem dec_nI {a : Nat} (h : 0 < a) : nI a + (-1) = nI (a - 1) := by
  obtain ⟨b, rfl⟩ : ∃ b, a = b + 1 := ⟨a - 1, by omega⟩
  exact pk_m1 b
/-- a loop with a measure -/
theorem loopN_run {σ ε : Type} {step : σ → Option (σ ⊕ ε)} (μ : σ → Nat) (I : σ → Prop) (P : σ → ε → Prop)
    (h : ∀ s, I s → (∃ s', step s = some (.inl s') ∧ I s' ∧ μ s' < μ s ∧ ∀ e, P s' e → P s e) ∨ (∃ e, step s = some (.inr e) ∧ P s e)) : ∀ (n : Nat) (s : σ), I s → μ s < n → ∃ e, loopN step n s = some e ∧ P s e := by
  intro n
  induction n with
  | zero => intro s _ h2; omega
  | succ n ih =>
    intro s hI hm
    rcases h s hI with ⟨s', h1, h2, h3, h4⟩ | ⟨e, h1, h2⟩
    · obtain ⟨e, h5, h6⟩ := ih s' h2 (by omega)
      refine ⟨e, ?_, h4 e h6⟩
      unfold loopN
      rw [h1]
      exact h5
    · refine ⟨e, ?_, h2⟩
      unfold loopN
      rw [h1]
theorem loopN_in {σ ε : Type} {step : σ → Option (σ ⊕ ε)} {n : Nat} {s s' : σ} (h : step s = some (.inl s')) : loopN step (n + 1) s = loopN step n s' := by
  rw [loopN, h]
theorem loopN_out {σ ε : Type} {step : σ → Option (σ ⊕ ε)} {n : Nat} {s : σ} {e : ε} (h : step s = some (.inr e)) : loopN step (n + 1) s = some e := by
  rw [loopN, h]
theorem fuel_ge : 2000 ≤ fuel := Nat.le_refl _
/-! ===== the abstract poem: in the reference's layout, as small numbers ===== -/
def VA (A : Nat → Nat) : Prop := A 0 ≤ 12 ∧ A 1 < 2147483648 ∧ (6 ≤ A 2 ∧ A 2 ≤ 40) ∧ A 3 ≤ 4 ∧ A 4 ≤ 9 ∧ (2 ≤ A 5 ∧ A 5 ≤ 20) ∧ (1 ≤ A 6 ∧ A 6 ≤ 3) ∧ A 7 ≤ 2 ∧ A 8 ≤ 2 ∧
  (∀ k, k < 12 → A (9 + 15 * k) ≤ 3 ∧ A (10 + 15 * k) ≤ 1 ∧ A (11 + 15 * k) ≤ 6 ∧ ∀ i, i < 6 → A (12 + 15 * k + i) ≤ 9 ∧ A (18 + 15 * k + i) ≤ 3) ∧
  ∀ k, k < A 0 → ∀ i, i < A (11 + 15 * k) → 1 ≤ A (12 + 15 * k + i)
def repM (n : Nat → Int32) (A : Nat → Nat) : Prop := ∀ j, j < 189 → n j = nI (A j)
def bgn (A : Nat → Nat) (k : Nat) : Nat := if k = 0 then 1 else A (10 + 15 * k)
def repC (c : Nat → Int32) (A : Nat → Nat) : Prop := (∀ i, i < 7 → c i = nI (A (2 + i))) ∧ c 7 = nI (A 1) ∧ c 8 = nI (A 0) ∧
  ∀ k, k < A 0 → c (9 + k) = nI (A (9 + 15 * k)) ∧ c (21 + k) = nI (bgn A k) ∧ c (33 + k) = nI (A (11 + 15 * k)) ∧ ∀ i, i < A (11 + 15 * k) → c (45 + 6 * k + i) = nI (4 * A (12 + 15 * k + i) + A (18 + 15 * k + i))
theorem VA.n {A : Nat → Nat} (h : VA A) : A 0 ≤ 12 := h.1
theorem VA.ln {A : Nat → Nat} (h : VA A) {k : Nat} (hk : k < 12) : A (9 + 15 * k) ≤ 3 ∧ A (10 + 15 * k) ≤ 1 ∧ A (11 + 15 * k) ≤ 6 ∧ ∀ i, i < 6 → A (12 + 15 * k + i) ≤ 9 ∧ A (18 + 15 * k + i) ≤ 3 := h.2.2.2.2.2.2.2.2.2.1 k hk
theorem VA.one {A : Nat → Nat} (h : VA A) {k i : Nat} (hk : k < A 0) (hi : i < A (11 + 15 * k)) : 1 ≤ A (12 + 15 * k + i) := h.2.2.2.2.2.2.2.2.2.2 k hk i hi
theorem bgn_le {A : Nat → Nat} (h : VA A) {k : Nat} (hk : k < 12) : bgn A k ≤ 1 := by
  unfold bgn
  split
  · exact Nat.le_refl _
  · exact (h.ln hk).2.1
-- the class's reads
theorem c_lines {c : Nat → Int32} {A : Nat → Nat} (hC : repC c A) : p_X4_lines c = some (nI (A 0)) := by rw [p_X4_lines, hC.2.2.1]
theorem c_setting {c : Nat → Int32} {A : Nat → Nat} (hC : repC c A) {k : Nat} (hk : k < 7) : p_X4_setting c (nI k) = some (nI (A (2 + k))) := by
  simp (disch := omega) only [p_X4_setting, ib_nI, gd_t, tn_nI, hC.1 k hk]
theorem c_rhymeOf {c : Nat → Int32} {A : Nat → Nat} (hV : VA A) (hC : repC c A) {k : Nat} (hk : k < A 0) : p_X4_rhymeOf c (nI k) = some (nI (A (9 + 15 * k))) := by
  have h0 := hV.n
  simp (disch := omega) only [p_X4_rhymeOf, ol, nI_add, ib_nI, gd_t, tn_nI, (hC.2.2.2 k hk).1]
theorem c_wordsOf {c : Nat → Int32} {A : Nat → Nat} (hV : VA A) (hC : repC c A) {k : Nat} (hk : k < A 0) : p_X4_wordsOf c (nI k) = some (nI (A (11 + 15 * k))) := by
  have h0 := hV.n
  simp (disch := omega) only [p_X4_wordsOf, ol, nI_add, ib_nI, gd_t, tn_nI, (hC.2.2.2 k hk).2.2.1]
theorem c_beginsStanza {c : Nat → Int32} {A : Nat → Nat} (hV : VA A) (hC : repC c A) {k : Nat} (hk : k < A 0) : p_X4_beginsStanza c (nI k) = some (nI (bgn A k)) := by
  have h0 := hV.n
  have h1 : bgn A k ≤ 1 := bgn_le hV (by omega)
  simp (disch := omega) only [p_X4_beginsStanza, ol, nI_add, ib_nI, gd_t, tn_nI, (hC.2.2.2 k hk).2.1, eq_nI]
  rcases (show bgn A k = 0 ∨ bgn A k = 1 by omega) with h | h <;> simp [h]
theorem c_lettersOf {c : Nat → Int32} {A : Nat → Nat} (hV : VA A) (hC : repC c A) {k i : Nat} (hk : k < A 0) (hi : i < A (11 + 15 * k)) : p_X4_lettersOf c (nI k) (nI i) = some (nI (A (12 + 15 * k + i))) := by
  have h0 := hV.n
  have h1 := hV.ln (k := k) (by omega)
  have h2 := h1.2.2.2 i (by omega)
  simp (disch := omega) only [p_X4_lettersOf, ol, nI_add, mul_nI, ib_nI, gd_t, tn_nI]
  rw [show 45 + k * 6 + i = 45 + 6 * k + i by omega, (hC.2.2.2 k hk).2.2.2 i hi]
  simp (disch := omega) only [div_nI]
  rw [show (4 * A (12 + 15 * k + i) + A (18 + 15 * k + i)) / 4 = A (12 + 15 * k + i) by omega]
theorem c_pauseOf {c : Nat → Int32} {A : Nat → Nat} (hV : VA A) (hC : repC c A) {k i : Nat} (hk : k < A 0) (hi : i < A (11 + 15 * k)) : p_X4_pauseOf c (nI k) (nI i) = some (nI (A (18 + 15 * k + i))) := by
  have h0 := hV.n
  have h1 := hV.ln (k := k) (by omega)
  have h2 := h1.2.2.2 i (by omega)
  simp (disch := omega) only [p_X4_pauseOf, ol, nI_add, mul_nI, ib_nI, gd_t, tn_nI]
  rw [show 45 + k * 6 + i = 45 + 6 * k + i by omega, (hC.2.2.2 k hk).2.2.2 i hi]
  simp (disch := omega) only [rem_nI]
  rw [show (4 * A (12 + 15 * k + i) + A (18 + 15 * k + i)) % 4 = A (18 + 15 * k + i) by omega]
-- the reference's reads
theorem m_at {n : Nat → Int32} {A : Nat → Nat} (hM : repM n A) {k i : Nat} (hk : k < 12) (hi : i < 15) : p_X8_at n (nI k) (nI i) = some (nI (A (9 + 15 * k + i))) := by
  simp (disch := omega) only [p_X8_at, ol, nI_add, mul_nI, ib_nI, gd_t, tn_nI]
  rw [hM _ (by omega)]
theorem m_words {n : Nat → Int32} {A : Nat → Nat} (hM : repM n A) {k : Nat} (hk : k < 12) : p_X8_words n (nI k) = some (nI (A (11 + 15 * k))) := by
  rw [p_X8_words, show (2 : Int32) = nI 2 from rfl, m_at hM hk (by omega), bd1_s, show 9 + 15 * k + 2 = 11 + 15 * k by omega]
theorem m_begins {n : Nat → Int32} {A : Nat → Nat} (hV : VA A) (hM : repM n A) {k : Nat} (hk : k < 12) : p_X8_begins n (nI k) = some (nI (bgn A k)) := by
  have h1 := (hV.ln hk).2.1
  rw [p_X8_begins]
  simp (disch := omega) only [ol, eq_nI]
  by_cases h : k = 0
  · rw [if_pos h, bgn, if_pos h]
  · rw [if_neg h, m_at hM hk (by omega), bd1_s, bgn, if_neg h, show 9 + 15 * k + 1 = 10 + 15 * k by omega]
    simp (disch := omega) only [eq_nI]
    rcases (show A (10 + 15 * k) = 0 ∨ A (10 + 15 * k) = 1 by omega) with h | h <;> simp [h]
