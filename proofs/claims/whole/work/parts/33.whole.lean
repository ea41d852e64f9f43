-- the chance of the whole poem: products, and the fraction in lowest terms
def pC (A : Nat → Nat) (c : Nat) : Nat → Nat
  | 0 => 1
  | k + 1 => if bgn A k = 0 then pC A c k else pC A c k * fN A c k
def pZ (A : Nat → Nat) (c : Nat) : Nat → Nat
  | 0 => 1
  | z + 1 => pZ A c z * fN A c (fL A z)
theorem fLf_eq {A : Nat → Nat} {z k : Nat} (hk : z ≤ sO A k) (hl : ∀ j, j < k → sO A j < z) : ∀ (d i : Nat), i ≤ k → k ≤ i + d → fLf A z d i = k
  | 0, i, h1, h2 => by show i = k; omega
  | d + 1, i, h1, h2 => by
    show (if z ≤ sO A i then i else fLf A z d (i + 1)) = k
    by_cases h : i = k
    · subst h; rw [if_pos hk]
    · rw [if_neg (by have := hl i (by omega); omega)]
      exact fLf_eq hk hl d (i + 1) (by omega) (by omega)
theorem sO_lt {A : Nat → Nat} {j k : Nat} (h : j ≤ k) : sO A j ≤ sO A k := by
  have := sO_mono (A := A) (k - j) j
  rw [show j + (k - j) = k by omega] at this
  exact this
theorem pC_pZ {A : Nat → Nat} (hV : VA A) (c : Nat) : ∀ k, k < A 0 → pC A c (k + 1) = pZ A c (sO A k + 1)
  | 0, hk => by
    show (if bgn A 0 = 0 then pC A c 0 else pC A c 0 * fN A c 0) = pZ A c 0 * fN A c (fL A 0)
    have : fL A 0 = 0 := fLf_eq (A := A) (k := 0) (Nat.zero_le _) (fun j hj => by omega) _ _ (by omega) (by omega)
    rw [this]; rfl
  | k + 1, hk => by
    have h0 := hV.n
    have hb := bgn_le hV (show k + 1 < 12 by omega)
    have ih := pC_pZ hV c k (by omega)
    show (if bgn A (k + 1) = 0 then pC A c (k + 1) else pC A c (k + 1) * fN A c (k + 1)) = pZ A c (sO A k + bgn A (k + 1) + 1)
    by_cases h : bgn A (k + 1) = 0
    · rw [if_pos h, ih, h]
    · have h1 : bgn A (k + 1) = 1 := by omega
      rw [if_neg h, h1, ih]
      show _ = pZ A c (sO A k + 1) * fN A c (fL A (sO A k + 1))
      have e : fL A (sO A k + 1) = k + 1 := fLf_eq (A := A) (k := k + 1) (by show _ ≤ sO A k + bgn A (k + 1); omega) (fun j hj => by have := sO_lt (A := A) (show j ≤ k by omega); omega) _ _ (by omega) (by omega)
      rw [e]
theorem pC_end {A : Nat → Nat} (hV : VA A) (c : Nat) : pC A c (A 0) = pZ A c (sN A) := by
  unfold sN
  by_cases h : A 0 = 0
  · rw [if_pos h, h]; rfl
  · rw [if_neg h]
    have := pC_pZ hV c (A 0 - 1) (by omega)
    rw [show A 0 - 1 + 1 = A 0 by omega] at this
    exact this
theorem pC_le {A : Nat → Nat} {c : Nat} (hc : c ≤ 10) : ∀ k, k < A 0 → pC A c (k + 1) ≤ 10 ^ (sE A k)
  | 0, hk => by
    have h := fN_le (A := A) hc 0
    show (if bgn A 0 = 0 then pC A c 0 else pC A c 0 * fN A c 0) ≤ _
    rw [if_neg (show ¬ bgn A 0 = 0 by rw [show bgn A 0 = 1 from rfl]; omega)]
    show 1 * _ ≤ _
    rw [Nat.one_mul]; exact h
  | k + 1, hk => by
    have ih := pC_le (A := A) hc k (by omega)
    show (if bgn A (k + 1) = 0 then pC A c (k + 1) else pC A c (k + 1) * fN A c (k + 1)) ≤ _
    have e : sE A k = if bgn A (k + 1) = 0 then sE A (k + 1) else k + 1 := by
      unfold sE
      rw [show A 0 - (k + 1) = (A 0 - (k + 1 + 1)) + 1 by omega]
      rfl
    by_cases h : bgn A (k + 1) = 0
    · rw [if_pos h] at e ⊢
      rw [← e]; exact ih
    · rw [if_neg h] at e ⊢
      rw [e] at ih
      have h1 := fN_le (A := A) hc (k + 1)
      have h2 := Nat.mul_le_mul ih h1
      rw [← Nat.pow_add, show k + 1 + (sE A (k + 1) - (k + 1)) = sE A (k + 1) by have := sE_gt A (k + 1); omega] at h2
      exact h2
theorem pC_bnd {A : Nat → Nat} (hV : VA A) {c : Nat} (hc : c ≤ 10) : pC A c (A 0) ≤ 10 ^ 12 := by
  have h0 := hV.n
  by_cases h : A 0 = 0
  · rw [h]; show 1 ≤ _; decide
  · have h1 := pC_le (A := A) hc (A 0 - 1) (by omega)
    rw [show A 0 - 1 + 1 = A 0 by omega] at h1
    have h2 := sE_le (A := A) (k := A 0 - 1) (by omega)
    exact Nat.le_trans h1 (Nat.pow_le_pow_right (by omega) (by omega))
-- the class's product
theorem c_prod {k : Nat → Int32} {A : Nat → Nat} (hV : VA A) (hC : repC k A) {c : Nat} (hc : c ≤ 10) {R : Nat → Int32} (hR : ∀ j, j < A 0 → R j = nI (rwv A j)) (hp : ∀ j, j < A 0 → rwv A j ≤ 6) : ∀ (d i n : Nat) (T : Nat → Int64), i + d = A 0 → d < n → ∃ (z : Int32) (TF : Nat → Int64), loopN (p_X2_compute_L32 k R (nI c)) n (nI i, lN (pC A c i), lN (10 ^ i), T) = some (z, lN (pC A c (A 0)), lN (10 ^ A 0), TF) := by
  have h0 := hV.n
  intro d
  induction d with
  | zero =>
    intro i n T hi hn
    obtain ⟨n, rfl⟩ : ∃ m, n = m + 1 := ⟨n - 1, by omega⟩
    have e : i = A 0 := by omega
    subst e
    refine ⟨_, T, loopN_out (e := (nI (A 0), lN (pC A c (A 0)), lN (10 ^ A 0), T)) ?_⟩
    rw [p_X2_compute_L32, c_lines hC, bd1_s, if_pos (by rw [le_nI (by omega) (by omega)]; omega)]
  | succ d ih =>
    intro i n T hi hn
    obtain ⟨n, rfl⟩ : ∃ m, n = m + 1 := ⟨n - 1, by omega⟩
    have hb := bgn_le hV (show i < 12 by omega)
    obtain ⟨TF, eF⟩ := c_fitting hV hc (show i < A 0 by omega) hR hp T
    have h10 : lN (10 ^ i) * 10 = lN (10 ^ (i + 1)) := lN_mul (10 ^ i) 10
    have e1 : nI i + (1 : Int32) = nI (i + 1) := nI_add i 1
    have hs : ∃ T', p_X2_compute_L32 k R (nI c) (nI i, lN (pC A c i), lN (10 ^ i), T) = some (.inl (nI (i + 1), lN (pC A c (i + 1)), lN (10 ^ (i + 1)), T')) := by
      rw [p_X2_compute_L32, c_lines hC, bd1_s, if_neg (by rw [le_nI (by omega) (by omega)]; omega), c_beginsStanza hV hC (by omega), bd1_s]
      simp only [pC]
      by_cases h : bgn A i = 0
      · rw [if_pos (by rw [h]; rfl), if_pos h, h10, e1]; exact ⟨_, rfl⟩
      · rw [if_neg (by rw [show (0 : Int32) = nI 0 from rfl, eq_nI (by omega) (by omega)]; exact h), if_neg h, show (3 : Int32) = nI 3 from rfl, c_setting hC (by omega), bd1_s, c_stanzaEnd hV hC (by omega), bd1_s, eF, bd2_s, lN_mul, h10, e1]
        exact ⟨_, rfl⟩
    obtain ⟨T', hs⟩ := hs
    rw [loopN_in hs]
    exact ih (i + 1) n T' (by omega) (by omega)
-- the model's product
theorem m_prod {v : Nat → Int32} {A : Nat → Nat} (hV : VA A) (hM : repM v A) {c : Nat} (hc : c ≤ 10) {R : Nat → Int32} (hR : ∀ j, j < A 0 → R j = nI (rwv A j)) (hp : ∀ j, j < A 0 → rwv A j ≤ 6) : ∀ (d i n : Nat) (T : Nat → Int64), i + d = sN A → d < n → ∃ (z : Int32) (TF : Nat → Int64), loopN (p_X8_whole_L49 v (nI c) 1 R) n (lN (pZ A c i), nI i, T) = some (lN (pZ A c (sN A)), z, TF) := by
  have h0 := hV.n
  have hsn := sN_le hV
  intro d
  induction d with
  | zero =>
    intro i n T hi hn
    obtain ⟨n, rfl⟩ : ∃ m, n = m + 1 := ⟨n - 1, by omega⟩
    have e : i = sN A := by omega
    subst e
    refine ⟨_, T, loopN_out (e := (lN (pZ A c (sN A)), nI (sN A), T)) ?_⟩
    rw [p_X8_whole_L49, m_stanzas hV hM, bd1_s, if_pos (by rw [le_nI (by omega) (by omega)]; omega)]
  | succ d ih =>
    intro i n T hi hn
    obtain ⟨n, rfl⟩ : ∃ m, n = m + 1 := ⟨n - 1, by omega⟩
    obtain ⟨TF, eF⟩ := m_wholeBy hV hM hc (show i < sN A by omega) hR hp T
    have hs : p_X8_whole_L49 v (nI c) 1 R (lN (pZ A c i), nI i, T) = some (.inl (lN (pZ A c (i + 1)), nI (i + 1), TF)) := by
      rw [p_X8_whole_L49, m_stanzas hV hM, bd1_s, if_neg (by rw [le_nI (by omega) (by omega)]; omega), if_neg (by decide), eF, bd2_s, nm_s, lN_mul, show nI i + (1 : Int32) = nI (i + 1) from nI_add i 1]
      rfl
    rw [loopN_in hs]
    exact ih (i + 1) n TF (by omega) (by omega)
theorem m_tens {v : Nat → Int32} {A : Nat → Nat} (hV : VA A) (hM : repM v A) : ∀ (d i n : Nat), i + d = A 0 → d < n → ∃ z : Int32, loopN (p_X8_whole_L84 v) n (lN (10 ^ i), nI i) = some (lN (10 ^ A 0), z) := by
  have h0 := hV.n
  intro d
  induction d with
  | zero =>
    intro i n hi hn
    obtain ⟨n, rfl⟩ : ∃ m, n = m + 1 := ⟨n - 1, by omega⟩
    have e : i = A 0 := by omega
    subst e
    refine ⟨_, loopN_out (e := (lN (10 ^ A 0), nI (A 0))) ?_⟩
    rw [p_X8_whole_L84, hM 0 (by omega), if_pos (by rw [le_nI (by omega) (by omega)]; omega)]
  | succ d ih =>
    intro i n hi hn
    obtain ⟨n, rfl⟩ : ∃ m, n = m + 1 := ⟨n - 1, by omega⟩
    have h10 : lN (10 ^ i) * 10 = lN (10 ^ (i + 1)) := lN_mul (10 ^ i) 10
    have e1 : nI i + (1 : Int32) = nI (i + 1) := nI_add i 1
    have hs : p_X8_whole_L84 v (lN (10 ^ i), nI i) = some (.inl (lN (10 ^ (i + 1)), nI (i + 1))) := by
      rw [p_X8_whole_L84, hM 0 (by omega), if_neg (by rw [le_nI (by omega) (by omega)]; omega), nm_s, h10, e1]
    rw [loopN_in hs]
    exact ih (i + 1) n (by omega) (by omega)
-- Euclid
theorem l_z {a : Nat} (ha : a < 2 ^ 63) : (lg_cmp (lN a) 0 = (0 : Int32)) = (a = 0) := by
  rw [lg_eq, show (0 : Int64) = lN 0 from rfl]
  exact propext (pk_lEQ ha (by decide))
theorem nzl_p {a : Nat} (ha : a < 2 ^ 63) (h : 0 < a) : nzl (lN a) = true := by
  unfold nzl
  rw [decide_eq_true_eq, show (0 : Int64) = lN 0 from rfl, pk_lEQ ha (by decide)]
  omega
theorem m_gcd : ∀ (k n a b : Nat), a < 2 ^ 63 → b < 2 ^ 63 → b < 2 ^ k → 2 * k < n → ∃ z : Int64, loopN p_X8_whole_L116 n (lN a, lN b) = some (lN (Nat.gcd a b), z) := by
  have st : ∀ a b : Nat, a < 2 ^ 63 → b < 2 ^ 63 → 0 < b → p_X8_whole_L116 (lN a, lN b) = some (.inl (lN b, lN (a % b))) := by
    intro a b ha hb h
    rw [p_X8_whole_L116, if_neg (by rw [l_z hb]; omega), nzl_p hb h, gd_t, nm_s]
    rw [show lrem (lN a) (lN b) = lN (a % b) from pk_lRem ha h hb]
  have en : ∀ (n a : Nat), 0 < n → ∃ z : Int64, loopN p_X8_whole_L116 n (lN a, lN 0) = some (lN (Nat.gcd a 0), z) := by
    intro n a hn
    obtain ⟨n, rfl⟩ : ∃ m, n = m + 1 := ⟨n - 1, by omega⟩
    refine ⟨_, loopN_out (e := (lN (Nat.gcd a 0), lN 0)) ?_⟩
    rw [p_X8_whole_L116, if_pos (by rw [l_z (by decide)]), Nat.gcd_zero_right]
  intro k
  induction k with
  | zero =>
    intro n a b ha hb hk hn
    have : b = 0 := by omega
    subst this
    exact en n a (by omega)
  | succ k ih =>
    intro n a b ha hb hk hn
    by_cases h0 : b = 0
    · subst h0; exact en n a (by omega)
    obtain ⟨n, rfl⟩ : ∃ m, n = m + 2 := ⟨n - 2, by omega⟩
    have hr : a % b < b := Nat.mod_lt _ (by omega)
    rw [loopN_in (st a b ha hb (by omega)), show Nat.gcd a b = Nat.gcd b (a % b) by rw [Nat.gcd_comm, Nat.gcd_rec, Nat.gcd_comm]]
    by_cases h1 : a % b = 0
    · rw [h1]; exact en (n + 1) b (by omega)
    rw [loopN_in (st b (a % b) hb (by omega) (by omega)), show Nat.gcd b (a % b) = Nat.gcd (a % b) (b % (a % b)) by rw [Nat.gcd_comm, Nat.gcd_rec, Nat.gcd_comm]]
    have hr2 : b % (a % b) < a % b := Nat.mod_lt _ (by omega)
    have hr3 : b % (a % b) < 2 ^ k := by
      rw [Nat.pow_succ] at hk
      by_cases h2 : a % b ≤ 2 ^ k
      · omega
      · rw [Nat.mod_eq_sub_mod (by omega), Nat.mod_eq_of_lt (by omega)]; omega
    exact ih n (a % b) (b % (a % b)) (by omega) (by omega) hr3 (by omega)
-- the class's reduction
theorem cop_25 {x y e : Nat} (h : e ∣ 2 ^ x * 5 ^ y) (h2 : ¬ 2 ∣ e) (h5 : ¬ 5 ∣ e) : e = 1 := by
  have g2 : Nat.Coprime e 2 := by
    have a := Nat.gcd_dvd_right e 2
    have b := Nat.gcd_dvd_left e 2
    have c := Nat.le_of_dvd (by omega) a
    show Nat.gcd e 2 = 1
    generalize Nat.gcd e 2 = g at a b c
    have : g = 0 ∨ g = 1 ∨ g = 2 := by omega
    rcases this with r | r | r
    · subst r; omega
    · exact r
    · subst r; exact absurd b h2
  have g5 : Nat.Coprime e 5 := by
    have a := Nat.gcd_dvd_right e 5
    have b := Nat.gcd_dvd_left e 5
    have c := Nat.le_of_dvd (by omega) a
    show Nat.gcd e 5 = 1
    generalize Nat.gcd e 5 = g at a b c
    have : g = 0 ∨ g = 1 ∨ g = 2 ∨ g = 3 ∨ g = 4 ∨ g = 5 := by omega
    rcases this with r | r | r | r | r | r
    · subst r; omega
    · exact r
    · subst r; omega
    · subst r; omega
    · subst r; omega
    · subst r; exact absurd b h5
  have k2 : Nat.Coprime e (2 ^ x) := by have := Nat.Coprime.pow 1 x g2; rwa [Nat.pow_one] at this
  have k5 : Nat.Coprime e (5 ^ y) := by have := Nat.Coprime.pow 1 y g5; rwa [Nat.pow_one] at this
  have m := k2.dvd_of_dvd_mul_left h
  have q : Nat.gcd e (5 ^ y) = 1 := k5
  have : e ∣ 1 := by rw [← q]; exact Nat.dvd_gcd (Nat.dvd_refl e) m
  exact Nat.dvd_one.mp this
def RdI (n x y a b : Nat) : Prop := b = 2 ^ x * 5 ^ y ∧ (x ≤ n ∨ ¬ (2 ∣ a ∧ 2 ∣ b)) ∧ (y ≤ n ∨ ¬ (5 ∣ a ∧ 5 ∣ b))
theorem c_div {p a b : Nat} (hp : 1 ≤ p ∧ p < 100) (ha : a < 2 ^ 63) (hb : b < 2 ^ 63) : p_X2_divideBoth (lN a) (lN b) (nI p) = if p ∣ a ∧ p ∣ b then some (lN (a / p), lN (b / p)) else some (lN a, lN b) := by
  have hl : Int32.toInt64 (nI p) = lN p := nI_l (by omega)
  have hpl : p < 2 ^ 63 := by omega
  have ea : lrem (lN a) (lN p) = lN (a % p) := pk_lRem ha (by omega) hpl
  have eb : lrem (lN b) (lN p) = lN (b % p) := pk_lRem hb (by omega) hpl
  have ma : a % p < 2 ^ 63 := Nat.lt_trans (Nat.mod_lt _ (by omega)) hpl
  have mb : b % p < 2 ^ 63 := Nat.lt_trans (Nat.mod_lt _ (by omega)) hpl
  rw [p_X2_divideBoth, if_neg (by rw [show (0 : Int32) = nI 0 from rfl, le_nI (by omega) (by omega)]; omega), hl, nzl_p hpl (by omega), ea, eb, pk_lDiv ha (by omega) hpl, pk_lDiv hb (by omega) hpl]
  simp only [gd_t]
  by_cases h1 : a % p = 0
  · rw [if_pos (by rw [l_z ma]; exact h1)]
    by_cases h2 : b % p = 0
    · rw [if_pos (by rw [l_z mb]; exact h2), if_pos ⟨Nat.dvd_of_mod_eq_zero h1, Nat.dvd_of_mod_eq_zero h2⟩]
    · rw [if_neg (by rw [l_z mb]; exact h2), if_neg (fun h => h2 (Nat.mod_eq_zero_of_dvd h.2))]
  · rw [if_neg (by rw [l_z ma]; exact h1), if_neg (fun h => h1 (Nat.mod_eq_zero_of_dvd h.1))]
-- one round
theorem c_red1 {n x y a b : Nat} (ha : a < 2 ^ 63) (hb : b < 2 ^ 63) (hI : RdI (n + 1) x y a b) : ∃ x' y' a' b' g : Nat, a = g * a' ∧ b = g * b' ∧ RdI n x' y' a' b' ∧ a' ≤ a ∧ b' ≤ b ∧ (bd2 (p_X2_divideBoth (lN a) (lN b) (2 : Int32)) fun u w => (bd2 (p_X2_divideBoth u w (5 : Int32)) fun u' w' => some (u', w'))) = some (lN a', lN b') := by
  obtain ⟨e, i2, i5⟩ := hI
  -- by two
  have s2 : ∃ x' a' b' g : Nat, a = g * a' ∧ b = g * b' ∧ b' = 2 ^ x' * 5 ^ y ∧ (x' ≤ n ∨ ¬ (2 ∣ a' ∧ 2 ∣ b')) ∧ (y ≤ n + 1 ∨ ¬ (5 ∣ a' ∧ 5 ∣ b')) ∧ a' ≤ a ∧ b' ≤ b ∧ p_X2_divideBoth (lN a) (lN b) (nI 2) = some (lN a', lN b') := by
    rw [c_div (by omega) ha hb]
    by_cases h : 2 ∣ a ∧ 2 ∣ b
    · rw [if_pos h]
      obtain ⟨u, hu⟩ := h.1
      obtain ⟨w, hw⟩ := h.2
      have hx : 1 ≤ x := by
        refine Nat.pos_of_ne_zero fun h0 => ?_
        subst h0
        have h52 : 5 ^ y % 2 = 1 := by rw [Nat.pow_mod]; simp
        omega
      obtain ⟨x, rfl⟩ : ∃ z, x = z + 1 := ⟨x - 1, by omega⟩
      refine ⟨x, u, w, 2, hu, hw, ?_, ?_, ?_, by omega, by omega, ?_⟩
      · rw [Nat.pow_succ, Nat.mul_comm (2 ^ x) 2, Nat.mul_assoc] at e; omega
      · exact Or.inl (by have := i2.resolve_right (fun q => q h); omega)
      · rcases i5 with q | q
        · exact Or.inl q
        · refine Or.inr fun r => q ⟨?_, ?_⟩
          · rw [hu]; exact Nat.dvd_mul_left_of_dvd r.1 2
          · rw [hw]; exact Nat.dvd_mul_left_of_dvd r.2 2
      · rw [hu, hw, Nat.mul_div_cancel_left _ (by omega), Nat.mul_div_cancel_left _ (by omega)]
    · rw [if_neg h]
      exact ⟨x, a, b, 1, by omega, by omega, e, Or.inr h, i5, by omega, by omega, rfl⟩
  obtain ⟨x', u, w, g, hu, hw, ew, j2, j5, lu, lw, es⟩ := s2
  have s5 : ∃ y' a' b' f : Nat, u = f * a' ∧ w = f * b' ∧ b' = 2 ^ x' * 5 ^ y' ∧ (x' ≤ n ∨ ¬ (2 ∣ a' ∧ 2 ∣ b')) ∧ (y' ≤ n ∨ ¬ (5 ∣ a' ∧ 5 ∣ b')) ∧ a' ≤ u ∧ b' ≤ w ∧ p_X2_divideBoth (lN u) (lN w) (nI 5) = some (lN a', lN b') := by
    rw [c_div (by omega) (by omega) (by omega)]
    by_cases h : 5 ∣ u ∧ 5 ∣ w
    · rw [if_pos h]
      obtain ⟨u1, hu1⟩ := h.1
      obtain ⟨w1, hw1⟩ := h.2
      have hy : 1 ≤ y := by
        refine Nat.pos_of_ne_zero fun h0 => ?_
        subst h0
        have h25 : ∀ m, 2 ^ m % 5 ≠ 0 := by
          intro m
          induction m with
          | zero => decide
          | succ m ih => rw [Nat.pow_succ]; omega
        have := h25 x'
        omega
      obtain ⟨y, rfl⟩ : ∃ z, y = z + 1 := ⟨y - 1, by omega⟩
      refine ⟨y, u1, w1, 5, hu1, hw1, ?_, ?_, ?_, by omega, by omega, ?_⟩
      · rw [Nat.pow_succ, ← Nat.mul_assoc] at ew; omega
      · rcases j2 with q | q
        · exact Or.inl q
        · refine Or.inr fun r => q ⟨?_, ?_⟩
          · rw [hu1]; exact Nat.dvd_mul_left_of_dvd r.1 5
          · rw [hw1]; exact Nat.dvd_mul_left_of_dvd r.2 5
      · exact Or.inl (by have := j5.resolve_right (fun q => q h); omega)
      · rw [hu1, hw1, Nat.mul_div_cancel_left _ (by omega), Nat.mul_div_cancel_left _ (by omega)]
    · rw [if_neg h]
      exact ⟨y, u, w, 1, by omega, by omega, ew, j2, Or.inr h, by omega, by omega, rfl⟩
  obtain ⟨y', a', b', f, ha', hb', eb', k2, k5, la, lb, et⟩ := s5
  refine ⟨x', y', a', b', g * f, by rw [hu, ha', Nat.mul_assoc], by rw [hw, hb', Nat.mul_assoc], ⟨eb', k2, k5⟩, by omega, by omega, ?_⟩
  rw [show (2 : Int32) = nI 2 from rfl, show (5 : Int32) = nI 5 from rfl, es, bd2_s, et, bd2_s]
theorem c_red : ∀ (d n x y a b : Nat), d ≤ 12 → a < 2 ^ 63 → b < 2 ^ 63 → RdI d x y a b → d < n → ∃ (z : Int32) (x' y' a' b' g : Nat), a = g * a' ∧ b = g * b' ∧ RdI 0 x' y' a' b' ∧ loopN p_X2_reduce_L2 n (nI (12 - d), lN a, lN b) = some (z, lN a', lN b') := by
  intro d
  induction d with
  | zero =>
    intro n x y a b hd ha hb hI hn
    obtain ⟨n, rfl⟩ : ∃ m, n = m + 1 := ⟨n - 1, by omega⟩
    refine ⟨_, x, y, a, b, 1, by omega, by omega, hI, loopN_out (e := (nI (12 - 0), lN a, lN b)) ?_⟩
    rw [p_X2_reduce_L2, if_pos (by rw [show (12 : Int32) = nI 12 from rfl, le_nI (by omega) (by omega)]; omega)]
  | succ d ih =>
    intro n x y a b hd ha hb hI hn
    obtain ⟨n, rfl⟩ : ∃ m, n = m + 1 := ⟨n - 1, by omega⟩
    obtain ⟨x1, y1, a1, b1, g1, q1, q2, q3, q4, q5, q6⟩ := c_red1 ha hb hI
    have hs : p_X2_reduce_L2 (nI (12 - (d + 1)), lN a, lN b) = some (.inl (nI (12 - d), lN a1, lN b1)) := by
      rw [p_X2_reduce_L2, if_neg (by rw [show (12 : Int32) = nI 12 from rfl, le_nI (by omega) (by omega)]; omega)]
      obtain ⟨u, w, e1, e2⟩ := bd2_el q6
      obtain ⟨u', w', e3, e4⟩ := bd2_el e2
      rw [e1, bd2_s, e3, bd2_s]
      injection e4 with e4
      injection e4 with e5 e6
      rw [e5, e6, show nI (12 - (d + 1)) + (1 : Int32) = nI (12 - (d + 1) + 1) from nI_add _ 1, show 12 - (d + 1) + 1 = 12 - d by omega]
    rw [loopN_in hs]
    obtain ⟨z, x', y', a', b', g, r1, r2, r3, r4⟩ := ih n x1 y1 a1 b1 (by omega) (by omega) (by omega) q3 (by omega)
    exact ⟨z, x', y', a', b', g1 * g, by rw [q1, r1, Nat.mul_assoc], by rw [q2, r2, Nat.mul_assoc], r3, r4⟩
theorem c_reduce {a N : Nat} (ha : a < 2 ^ 63) (hN : N ≤ 12) : p_X2_reduce (lN a) (lN (10 ^ N)) = some (lN (a / Nat.gcd a (10 ^ N)), lN (10 ^ N / Nat.gcd a (10 ^ N))) := by
  have hb : 10 ^ N < 2 ^ 63 := Nat.lt_of_le_of_lt (Nat.pow_le_pow_right (by omega) hN) (by decide)
  have hp : 0 < 10 ^ N := Nat.pow_pos (by omega)
  have hI : RdI 12 N N a (10 ^ N) := ⟨by rw [← Nat.mul_pow], Or.inl hN, Or.inl hN⟩
  have hu := fuel_ge
  obtain ⟨z, x, y, a', b', g, e1, e2, ⟨eb, i2, i5⟩, eL⟩ := c_red 12 fuel N N a (10 ^ N) (by omega) ha hb hI (by omega)
  have hg : 0 < g := Nat.pos_of_ne_zero fun h => by subst h; omega
  have hc : Nat.gcd a' b' = 1 := by
    refine cop_25 (x := x) (y := y) (by rw [← eb]; exact Nat.gcd_dvd_right _ _) (fun h => ?_) (fun h => ?_)
    · have h1 := Nat.dvd_trans h (Nat.gcd_dvd_left a' b')
      have h2 := Nat.dvd_trans h (Nat.gcd_dvd_right a' b')
      rcases i2 with q | q
      · have : x = 0 := by omega
        subst this
        have h52 : 5 ^ y % 2 = 1 := by rw [Nat.pow_mod]; simp
        omega
      · exact q ⟨h1, h2⟩
    · have h1 := Nat.dvd_trans h (Nat.gcd_dvd_left a' b')
      have h2 := Nat.dvd_trans h (Nat.gcd_dvd_right a' b')
      rcases i5 with q | q
      · have : y = 0 := by omega
        subst this
        have h25 : ∀ m, 2 ^ m % 5 ≠ 0 := by
          intro m
          induction m with
          | zero => decide
          | succ m ih => rw [Nat.pow_succ]; omega
        have := h25 x
        omega
      · exact q ⟨h1, h2⟩
  have hgc : Nat.gcd a (10 ^ N) = g := by rw [e2, e1, Nat.gcd_mul_left, hc, Nat.mul_one]
  rw [p_X2_reduce, show ((0 : Int32), lN a, lN (10 ^ N)) = (nI (12 - 12), lN a, lN (10 ^ N)) from rfl, eL, bd3_s, hgc]
  have d1 : a / g = a' := by rw [e1, Nat.mul_div_cancel_left _ hg]
  have d2 : 10 ^ N / g = b' := by rw [e2, Nat.mul_div_cancel_left _ hg]
  rw [d1, d2]
theorem m_in10 (x : Int32) : p_X8_in (Int32.toInt64 x) 0 10 = some (if x < 0 then 0 else if 10 < x then 0 else 1) := m_in x 0 10
theorem m_in1 (x : Int32) : p_X8_in (Int32.toInt64 x) 0 1 = some (if x < 0 then 0 else if 1 < x then 0 else 1) := m_in x 0 1
theorem aF_all {A : Nat → Nat} : ∀ k, aF A k = 1 → ∀ j, j < k → ∃ x, rwN A j = some x
  | 0, _, j, hj => by omega
  | k + 1, h, j, hj => by
    have h : (if aF A k = 0 then 0 else if rwN A k = none then 0 else 1) = 1 := h
    have hl := aF_le A k
    by_cases h1 : aF A k = 0
    · rw [if_pos h1] at h; omega
    · rw [if_neg h1] at h
      by_cases h2 : rwN A k = none
      · rw [if_pos h2] at h; omega
      · by_cases hjk : j = k
        · subst hjk
          cases hx : rwN A j with
          | none => exact absurd hx h2
          | some x => exact ⟨x, rfl⟩
        · exact aF_all k (by omega) j (by omega)
theorem RR_rwv {A : Nat → Nat} (hV : VA A) (h : aF A (A 0) = 1) {R : Nat → Int32} (hR : ∀ j, j < A 0 → R j = RR A j) : (∀ j, j < A 0 → R j = nI (rwv A j)) ∧ ∀ j, j < A 0 → rwv A j ≤ 6 := by
  have h0 := hV.n
  refine ⟨fun j hj => ?_, fun j hj => ?_⟩ <;> obtain ⟨x, hx⟩ := aF_all (A 0) h j hj
  · rw [hR j hj, RR, rwv, hx]; rfl
  · rw [rwv, hx]; exact (rwN_bnd hV (by omega) hx).2
-- the answer
def wNum (A : Nat → Nat) (c : Nat) : Nat := if aF A (A 0) = 0 then 0 else pC A c (A 0)
theorem m_whole_B {v : Nat → Int32} {A : Nat → Nat} (hV : VA A) (hM : repM v A) {c : Nat} (hc : c ≤ 10) (x2 : Int32) {R : Nat → Int32} (hR : ∀ j, j < A 0 → R j = RR A j) (T : Nat → Int64) : ∃ o, p_X8_whole_B42_10 v T (nI c) x2 (nI (aF A (A 0))) R (if aF A (A 0) = 0 then 0 else 1) = some ((if x2 = 0 then lN (wNum A c / Nat.gcd (wNum A c) (10 ^ A 0)) else lN (10 ^ A 0 / Nat.gcd (wNum A c) (10 ^ A 0))), o) := by
  have h0 := hV.n
  have hu := fuel_ge
  have hb : 10 ^ A 0 < 2 ^ 63 := Nat.lt_of_le_of_lt (Nat.pow_le_pow_right (by omega) h0) (by decide)
  have hb2 : 10 ^ A 0 < 2 ^ 60 := Nat.lt_of_le_of_lt (Nat.pow_le_pow_right (by omega) h0) (by decide)
  have hp : 0 < 10 ^ A 0 := Nat.pow_pos (by omega)
  have hw : wNum A c < 2 ^ 63 := by
    have := pC_bnd hV hc
    unfold wNum
    by_cases h : aF A (A 0) = 0
    · rw [if_pos h]; decide
    · rw [if_neg h]; omega
  have hg : 0 < Nat.gcd (wNum A c) (10 ^ A 0) := Nat.gcd_pos_of_pos_right _ hp
  have hgl : Nat.gcd (wNum A c) (10 ^ A 0) < 2 ^ 63 := Nat.lt_of_le_of_lt (Nat.le_of_dvd hp (Nat.gcd_dvd_right _ _)) hb
  obtain ⟨zt, et⟩ := m_tens hV hM (A 0) 0 fuel (by omega) (by omega)
  obtain ⟨zg, eg⟩ := m_gcd 60 fuel (wNum A c) (10 ^ A 0) hw hb hb2 (by omega)
  have key : ∃ (z : Int32) (TF : Nat → Int64), loopN (p_X8_whole_L49 v (nI c) (nI (aF A (A 0))) R) fuel ((if aF A (A 0) = 0 then (0 : Int64) else 1), 0, T) = some (lN (wNum A c), z, TF) := by
    have hl := aF_le A (A 0)
    by_cases h : aF A (A 0) = 0
    · rw [if_pos h, wNum, if_pos h, h]
      refine ⟨0, T, loopN_out (n := 1999) (e := ((0 : Int64), (0 : Int32), T)) ?_⟩
      rw [p_X8_whole_L49, m_stanzas hV hM, bd1_s]
      by_cases q : nI (sN A) ≤ 0
      · rw [if_pos q]
      · rw [if_neg q, if_pos (show nI 0 = 0 from rfl)]
    · have h1 : aF A (A 0) = 1 := by omega
      obtain ⟨r1, r2⟩ := RR_rwv hV h1 hR
      obtain ⟨z, TF, e⟩ := m_prod hV hM hc r1 r2 (sN A) 0 fuel T (by omega) (by have := sN_le hV; omega)
      rw [if_neg h, wNum, if_neg h, h1, pC_end hV]
      exact ⟨z, TF, e⟩
  obtain ⟨z, TF, ek⟩ := key
  rw [p_X8_whole_B42_10, ek, bd3_s, show ((1 : Int64), (0 : Int32)) = (lN (10 ^ 0), nI 0) from rfl, et, bd2_s, eg, bd2_s, nzl_p hgl hg, gd_t, gd_t, pk_lDiv hw hg hgl, pk_lDiv hb hg hgl]
  by_cases h : x2 = 0
  · rw [if_pos h, if_pos h]; exact ⟨_, rfl⟩
  · rw [if_neg h, if_neg h]; exact ⟨_, rfl⟩
theorem c_computeO {k : Nat → Int32} {A : Nat → Nat} (hV : VA A) (hC : repC k A) {c : Nat} (hc : c ≤ 10) {R : Nat → Int32} (hR : ∀ j, j < A 0 → R j = RR A j) (n0 d0 : Int64) (T : Nat → Int64) : ∃ TF, p_X2_compute n0 d0 T k (nI (aF A (A 0))) R (nI c) = some (lN (wNum A c / Nat.gcd (wNum A c) (10 ^ A 0)), lN (10 ^ A 0 / Nat.gcd (wNum A c) (10 ^ A 0)), TF) := by
  have h0 := hV.n
  have hu := fuel_ge
  have hp : 0 < 10 ^ A 0 := Nat.pow_pos (by omega)
  have hl := aF_le A (A 0)
  by_cases h : aF A (A 0) = 0
  · rw [p_X2_compute, wNum, if_pos h, h, if_pos (show nI 0 = 0 from rfl), p_X2_compute_B13_1, if_pos (show nI 0 = 0 from rfl), Nat.gcd_zero_left, Nat.zero_div, Nat.div_self hp]
    exact ⟨_, rfl⟩
  · have h1 : aF A (A 0) = 1 := by omega
    obtain ⟨r1, r2⟩ := RR_rwv hV h1 hR
    obtain ⟨z, TF, e⟩ := c_prod hV hC hc r1 r2 (A 0) 0 fuel T (by omega) (by omega)
    have hw : pC A c (A 0) < 2 ^ 63 := by have := pC_bnd hV hc; omega
    rw [p_X2_compute, wNum, if_neg h, h1, if_neg (by decide), p_X2_compute_B13_1, if_neg (by decide), show ((0 : Int32), (1 : Int64), (1 : Int64), T) = (nI 0, lN (pC A c 0), lN (10 ^ 0), T) from rfl, e, bd4_s, c_reduce hw h0, bd2_s]
    exact ⟨_, rfl⟩
theorem pr_whole {k v : Nat → Int32} {A : Nat → Nat} (hV : VA A) (hC : repC k A) (hM : repM v A) (i0 i1 i2 i3 z : Int32) (n0 d0 : Int64) (a1 a2 a3 a4 a5 R7 : Nat → Int32) (T7 : Nat → Int64) (z1 : Int32) (R : Nat → Int32) (T8 : Nat → Int64) (x1 x2 : Int32) :
    ∃ r : Int64, (∃ o, p_X7_whole i0 i1 i2 i3 z n0 d0 k a1 a2 a3 a4 a5 R7 T7 x1 x2 = some (r, o)) ∧ ∃ o, p_X8_whole z1 v R T8 x1 x2 = some (r, o) := by
  have h0 := hV.n
  rw [p_X7_whole, p_X8_whole, m_in10, bd1_s, m_in1, bd1_s]
  by_cases h1 : x1 < 0
  · rw [if_pos h1, if_pos h1, if_pos rfl]; exact ⟨_, ⟨_, rfl⟩, _, rfl⟩
  rw [if_neg h1, if_neg h1]
  by_cases h2 : (10 : Int32) < x1
  · rw [if_pos h2, if_pos h2, if_pos rfl]; exact ⟨_, ⟨_, rfl⟩, _, rfl⟩
  rw [if_neg h2, if_neg h2, if_neg (show ¬ (1 : Int32) = 0 by decide)]
  by_cases h3 : x2 < 0
  · rw [if_pos h3, if_pos h3, if_pos rfl]; exact ⟨_, ⟨_, rfl⟩, _, rfl⟩
  rw [if_neg h3, if_neg h3]
  by_cases h4 : (1 : Int32) < x2
  · rw [if_pos h4, if_neg (Int32.not_le.mpr h4), if_pos rfl]; exact ⟨_, ⟨_, rfl⟩, _, rfl⟩
  rw [if_neg h4, if_pos (Int32.not_lt.mp h4), if_neg (show ¬ (1 : Int32) = 0 by decide)]
  obtain ⟨c, hc, rfl⟩ := (sm_cases x1 (N := 10) (by omega)).resolve_left (fun q => q.elim h1 h2)
  obtain ⟨RF, j0, j1, j2, j3, b1, b2, b3, b4, b5, em, hR⟩ := c_measure hV hC z R7 i0 i1 i2 i3 a1 a2 a3 a4 a5
  obtain ⟨TF, eo⟩ := c_computeO hV hC hc hR n0 d0 T7
  obtain ⟨R8, es, hR8⟩ := m_sets hV hM z1 R
  obtain ⟨o, eb⟩ := m_whole_B hV hM hc x2 hR8 T8
  rw [em, bd11_s, eo, bd3_s, es, bd2_s]
  have hl := aF_le A (A 0)
  have e8 : ∀ (q : Nat → Int64), (if nI (aF A (A 0)) = 0 then p_X8_whole_B42_10 v q (nI c) x2 (nI (aF A (A 0))) R8 0 else p_X8_whole_B42_10 v q (nI c) x2 (nI (aF A (A 0))) R8 1) = p_X8_whole_B42_10 v q (nI c) x2 (nI (aF A (A 0))) R8 (if aF A (A 0) = 0 then 0 else 1) := by
    intro q
    by_cases h : aF A (A 0) = 0
    · rw [if_pos h, if_pos (by rw [h]; rfl)]
    · rw [if_neg h, if_neg (by rw [show (0 : Int32) = nI 0 from rfl, eq_nI (by omega) (by omega)]; exact h)]
  rw [e8, eb]
  by_cases h : x2 = 0
  · rw [if_pos h, if_pos h]; exact ⟨_, ⟨_, rfl⟩, _, rfl⟩
  · rw [if_neg h, if_neg h]; exact ⟨_, ⟨_, rfl⟩, _, rfl⟩
