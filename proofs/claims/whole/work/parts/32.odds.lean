/-! ===== the odds: ways by rows, product, lowest terms ===== -/
def wst (c p : Nat) (w : Nat → Nat) : Nat → Nat := fun r => c * w r + (if p ≤ r then (10 - c) * w (r - p) else 0)
def sm (w : Nat → Nat) : Nat → Nat
  | 0 => 0
  | n + 1 => sm w n + w n
def rwv (A : Nat → Nat) (k : Nat) : Nat := (rwN A k).getD 0
def wys (A : Nat → Nat) (c : Nat) : Nat → Nat → (Nat → Nat) → (Nat → Nat)
  | 0, _, w => w
  | d + 1, k, w => wys A c d (k + 1) (wst c (rwv A k) w)
def w00 : Nat → Nat := fun r => if r = 0 then 1 else 0
/-- the ways of the stanza that begins with line f -/
def fN (A : Nat → Nat) (c f : Nat) : Nat := sm (wys A c (sE A f - f) f w00) (A 5 + 1)
theorem vL_same (f : Nat → Int64) (k : Nat) (x : Int64) : vp_updL f k x k = x := pk_uLs
theorem vL_ne (f : Nat → Int64) {k j : Nat} (x : Int64) (h : j ≠ k) : vp_updL f k x j = f j := pk_uLn h
theorem c10 {c : Nat} (hc : c ≤ 10) : Int32.toInt64 ((10 : Int32) - nI c) = lN (10 - c) := by
  rw [show (10 : Int32) - nI c = nI (10 - c) from sub_nI (a := 10) hc, nI_l (by omega)]
theorem c_fit_r {c p H : Nat} (hc : c ≤ 10) (hp : p ≤ 6) (hH : H ≤ 20) {w : Nat → Nat} : ∀ (t n : Nat) (T : Nat → Int64), t ≤ H + 1 → (∀ r, r < t → T r = lN (w r)) → t < n → ∃ (z : Int32) (TF : Nat → Int64), loopN (p_X2_fitting_L37 (nI c) (nI p)) n (nI t - 1, T) = some (z, TF) ∧ (∀ r, r < t → TF r = lN (wst c p w r)) ∧ ∀ r, t ≤ r → TF r = T r := by
  intro t
  induction t with
  | zero =>
    intro n T ht hT hn
    obtain ⟨n, rfl⟩ : ∃ m, n = m + 1 := ⟨n - 1, by omega⟩
    refine ⟨_, T, loopN_out (e := (nI 0 - 1, T)) ?_, fun r hr => by omega, fun _ _ => rfl⟩
    rw [p_X2_fitting_L37, if_pos (by decide)]
  | succ t ih =>
    intro n T ht hT hn
    obtain ⟨n, rfl⟩ : ∃ m, n = m + 1 := ⟨n - 1, by omega⟩
    have hB : ∀ u : Nat, p_X2_fitting_B63_11 (nI c) (nI t) T (lN u) = some (.inl (nI t - 1, vp_updL T t (lN (w t * c + u * (10 - c))))) := by
      intro u
      rw [p_X2_fitting_B63_11]
      simp (disch := omega) only [ib_nI, gd_t, tn_nI, hT t (by omega)]
      rw [c10 hc, nI_l (show c < 2 ^ 31 by omega), lN_mul, lN_mul, lN_add, Int32.sub_eq_add_neg]
    have hs : p_X2_fitting_L37 (nI c) (nI p) (nI (t + 1) - 1, T) = some (.inl (nI t - 1, vp_updL T t (lN (wst c p w t)))) := by
      rw [p_X2_fitting_L37, show nI (t + 1) - (1 : Int32) = nI t from nI_pred t, if_neg (nI_pos (by omega))]
      simp (disch := omega) only [lt_nI]
      unfold wst
      by_cases h : p ≤ t
      · rw [if_neg (by omega), if_pos h, sub_nI h]
        simp (disch := omega) only [ib_nI, gd_t, tn_nI, hT (t - p) (by omega)]
        rw [hB, Nat.mul_comm (w t) c, Nat.mul_comm (w (t - p))]
      · rw [if_pos (by omega), if_neg h, show (0 : Int64) = lN 0 from rfl, hB, Nat.mul_comm (w t) c, Nat.zero_mul]
    rw [loopN_in hs]
    obtain ⟨z, TF, e, q1, q2⟩ := ih n (vp_updL T t (lN (wst c p w t))) (by omega) (fun r hr => by rw [vL_ne _ _ (by omega)]; exact hT r (by omega)) (by omega)
    refine ⟨z, TF, e, fun r hr => ?_, fun r hr => ?_⟩
    · by_cases hrt : r = t
      · subst hrt; rw [q2 r (by omega), vL_same]
      · exact q1 r (by omega)
    · rw [q2 r (by omega), vL_ne _ _ (by omega)]
theorem c_fit_k {A : Nat → Nat} (hV : VA A) {c f : Nat} (hc : c ≤ 10) (hf : f < A 0) {R : Nat → Int32} (hR : ∀ j, j < A 0 → R j = nI (rwv A j)) (hp : ∀ j, j < A 0 → rwv A j ≤ 6) : ∀ (d k n : Nat) (w : Nat → Nat) (T : Nat → Int64), k + d = sE A f → (∀ r, r ≤ A 5 → T r = lN (w r)) → d < n → ∃ TF : Nat → Int64, loopN (p_X2_fitting_L18 R (nI (A 5)) (nI (sE A f)) (nI c)) n (nI k, T) = some (nI (sE A f), TF) ∧ ∀ r, r ≤ A 5 → TF r = lN (wys A c d k w r) := by
  have h0 := hV.n
  have h2 := hV.st
  have hu := fuel_ge
  have he := sE_le hf
  intro d
  induction d with
  | zero =>
    intro k n w T hk hT hn
    obtain ⟨n, rfl⟩ : ∃ m, n = m + 1 := ⟨n - 1, by omega⟩
    refine ⟨T, ?_, hT⟩
    rw [← show k = sE A f by omega]
    refine loopN_out ?_
    rw [p_X2_fitting_L18]
    simp (disch := omega) only [le_nI]
    rw [if_pos (by omega)]
  | succ d ih =>
    intro k n w T hk hT hn
    obtain ⟨n, rfl⟩ : ∃ m, n = m + 1 := ⟨n - 1, by omega⟩
    obtain ⟨z, TF, e, q1, q2⟩ := c_fit_r (H := A 5) hc (hp k (by omega)) (by omega) (w := w) (A 5 + 1) fuel T (by omega) (fun r hr => hT r (by omega)) (by omega)
    rw [show nI (A 5 + 1) - (1 : Int32) = nI (A 5) from nI_pred _] at e
    have hs : p_X2_fitting_L18 R (nI (A 5)) (nI (sE A f)) (nI c) (nI k, T) = some (.inl (nI (k + 1), TF)) := by
      rw [p_X2_fitting_L18]
      simp (disch := omega) only [le_nI, ib_nI, gd_t, tn_nI, nm_s, hR k (by omega)]
      rw [if_neg (by omega), e, bd2_s, show nI k + (1 : Int32) = nI (k + 1) from nI_1 k]
    rw [loopN_in hs]
    exact ih (k + 1) n _ TF (by omega) (fun r hr => q1 r (by omega)) (by omega)
theorem c_fit_s {A : Nat → Nat} (hV : VA A) {w : Nat → Nat} {T : Nat → Int64} (hT : ∀ r, r ≤ A 5 → T r = lN (w r)) : ∀ (d r n : Nat), r + d = A 5 + 1 → d < n → ∃ z : Int32, loopN (p_X2_fitting_L111 (nI (A 5)) T) n (lN (sm w r), nI r) = some (lN (sm w (A 5 + 1)), z) := by
  have h2 := hV.st
  intro d
  induction d with
  | zero =>
    intro r n hr hn
    obtain ⟨n, rfl⟩ : ∃ m, n = m + 1 := ⟨n - 1, by omega⟩
    refine ⟨nI r, ?_⟩
    rw [← show r = A 5 + 1 by omega]
    refine loopN_out ?_
    rw [p_X2_fitting_L111]
    simp (disch := omega) only [lt_nI]
    rw [if_pos (by omega)]
  | succ d ih =>
    intro r n hr hn
    obtain ⟨n, rfl⟩ : ∃ m, n = m + 1 := ⟨n - 1, by omega⟩
    have hs : p_X2_fitting_L111 (nI (A 5)) T (lN (sm w r), nI r) = some (.inl (lN (sm w (r + 1)), nI (r + 1))) := by
      rw [p_X2_fitting_L111]
      simp (disch := omega) only [lt_nI, ib_nI, gd_t, tn_nI, nm_s, hT r (by omega)]
      rw [if_neg (by omega), lN_add, show nI r + (1 : Int32) = nI (r + 1) from nI_1 r]
      rfl
    rw [loopN_in hs]
    exact ih (r + 1) n (by omega) (by omega)
theorem c_fill : ∀ (d i n : Nat) (T : Nat → Int64), i + d = 21 → (∀ r, r < i → T r = 0) → d < n → ∃ (z : Int32) (TF : Nat → Int64), loopN (p_J7_fill_d0a16_L6 21 0 (nI 21)) n (nI i, T) = some (z, TF) ∧ ∀ r, r < 21 → TF r = 0 := by
  intro d
  induction d with
  | zero =>
    intro i n T hi hT hn
    obtain ⟨n, rfl⟩ : ∃ m, n = m + 1 := ⟨n - 1, by omega⟩
    refine ⟨nI i, T, loopN_out ?_, fun r hr => hT r (by omega)⟩
    rw [p_J7_fill_d0a16_L6]
    simp (disch := omega) only [le_nI]
    rw [if_pos (by omega)]
  | succ d ih =>
    intro i n T hi hT hn
    obtain ⟨n, rfl⟩ : ∃ m, n = m + 1 := ⟨n - 1, by omega⟩
    have hs : p_J7_fill_d0a16_L6 21 0 (nI 21) (nI i, T) = some (.inl (nI (i + 1), vp_updL T i 0)) := by
      rw [p_J7_fill_d0a16_L6]
      simp (disch := omega) only [le_nI, ib_nI, gd_t, tn_nI]
      rw [if_neg (by omega), show nI i + (1 : Int32) = nI (i + 1) from nI_1 i]
    rw [loopN_in hs]
    refine ih (i + 1) n _ (by omega) (fun r hr => ?_) (by omega)
    by_cases h : r = i
    · subst h; rw [vL_same]
    · rw [vL_ne _ _ h]; exact hT r (by omega)
theorem c_fitting {A : Nat → Nat} (hV : VA A) {c f : Nat} (hc : c ≤ 10) (hf : f < A 0) {R : Nat → Int32} (hR : ∀ j, j < A 0 → R j = nI (rwv A j)) (hp : ∀ j, j < A 0 → rwv A j ≤ 6) (T : Nat → Int64) : ∃ TF : Nat → Int64, p_X2_fitting T R (nI (A 5)) (nI f) (nI (sE A f)) (nI c) = some (lN (fN A c f), TF) := by
  have h0 := hV.n
  have h2 := hV.st
  have hu := fuel_ge
  have he := sE_gt A f
  have he2 := sE_le hf
  obtain ⟨z, T1, e1, q1⟩ := c_fill 21 0 fuel T (by omega) (fun r hr => by omega) (by omega)
  have hw0 : ∀ r, r ≤ A 5 → vp_updL T1 0 1 r = lN (w00 r) := by
    intro r hr
    unfold w00
    by_cases h : r = 0
    · subst h; rw [vL_same]; rfl
    · rw [vL_ne _ _ h, if_neg h, q1 r (by omega)]; rfl
  obtain ⟨T2, e2, q2⟩ := c_fit_k hV hc hf hR hp (sE A f - f) f fuel w00 (vp_updL T1 0 1) (by omega) hw0 (by omega)
  obtain ⟨z3, e3⟩ := c_fit_s hV q2 (A 5 + 1) 0 fuel (by omega) (by omega)
  refine ⟨T2, ?_⟩
  rw [p_X2_fitting, p_J7_fill_d0a16, nm_s, show Int32.ofNat 21 = nI 21 from rfl, show ((0 : Int32), T) = (nI 0, T) from rfl, e1, bd2_s, bd1_s, e2, bd2_s, show ((0 : Int64), (0 : Int32)) = (lN (sm (wys A c (sE A f - f) f w00) 0), nI 0) from rfl, e3, bd2_s]
  rfl
-- the reference's ways
theorem m_way_r {A : Nat → Nat} {c k : Nat} (hc : c ≤ 10) (hk : k < 12) {R : Nat → Int32} (hR : R k = nI (rwv A k)) (hp : rwv A k ≤ 6) {w : Nat → Nat} : ∀ (t n : Nat) (T : Nat → Int64), t ≤ 80 → (∀ r, r < t → T r = lN (w r)) → t < n → ∃ (z : Int32) (TF : Nat → Int64), loopN (p_X8_wholeBy_L52 R (nI c) (nI k)) n (nI t - 1, T) = some (z, TF) ∧ (∀ r, r < t → TF r = lN (wst c (rwv A k) w r)) ∧ ∀ r, t ≤ r → TF r = T r := by
  intro t
  induction t with
  | zero =>
    intro n T ht hT hn
    obtain ⟨n, rfl⟩ : ∃ m, n = m + 1 := ⟨n - 1, by omega⟩
    refine ⟨_, T, loopN_out (e := (nI 0 - 1, T)) ?_, fun r hr => by omega, fun _ _ => rfl⟩
    rw [p_X8_wholeBy_L52, if_pos (by decide)]
  | succ t ih =>
    intro n T ht hT hn
    obtain ⟨n, rfl⟩ : ∃ m, n = m + 1 := ⟨n - 1, by omega⟩
    have hs : p_X8_wholeBy_L52 R (nI c) (nI k) (nI (t + 1) - 1, T) = some (.inl (nI t - 1, vp_updL T t (lN (wst c (rwv A k) w t)))) := by
      rw [p_X8_wholeBy_L52, show nI (t + 1) - (1 : Int32) = nI t from nI_pred t, if_neg (nI_pos (by omega))]
      simp (disch := omega) only [ib_nI, gd_t, tn_nI, hR, le_nI]
      rw [c10 hc, nI_l (show c < 2 ^ 31 by omega), hT t (by omega), show nI t + (-1 : Int32) = nI t - 1 from (Int32.sub_eq_add_neg ..).symm]
      unfold wst
      by_cases h : rwv A k ≤ t
      · rw [if_pos h, if_pos h, sub_nI h]
        simp (disch := omega) only [ib_nI, gd_t, tn_nI, hT (t - rwv A k) (by omega), nm_s]
        rw [lN_mul, lN_mul, lN_add]
      · rw [if_neg h, if_neg h, show (0 : Int64) = lN 0 from rfl, lN_mul, lN_add]
    rw [loopN_in hs]
    obtain ⟨z, TF, e, q1, q2⟩ := ih n (vp_updL T t (lN (wst c (rwv A k) w t))) (by omega) (fun r hr => by rw [vL_ne _ _ (by omega)]; exact hT r (by omega)) (by omega)
    refine ⟨z, TF, e, fun r hr => ?_, fun r hr => ?_⟩
    · by_cases hrt : r = t
      · subst hrt; rw [q2 r (by omega), vL_same]
      · exact q1 r (by omega)
    · rw [q2 r (by omega), vL_ne _ _ (by omega)]
theorem m_way_k {v : Nat → Int32} {A : Nat → Nat} (hV : VA A) (hM : repM v A) {c f : Nat} (hc : c ≤ 10) (hf : f < A 0) {R : Nat → Int32} (hR : ∀ j, j < A 0 → R j = nI (rwv A j)) (hp : ∀ j, j < A 0 → rwv A j ≤ 6) : ∀ (d k n : Nat) (w : Nat → Nat) (T : Nat → Int64), k + d = sE A f → (∀ r, r < 80 → T r = lN (w r)) → d < n → ∃ TF : Nat → Int64, loopN (p_X8_wholeBy_L38 v R (nI c) (nI f)) n (nI k, T) = some (nI (sE A f), TF) ∧ ∀ r, r < 80 → TF r = lN (wys A c d k w r) := by
  have h0 := hV.n
  have hu := fuel_ge
  have he := sE_le hf
  intro d
  induction d with
  | zero =>
    intro k n w T hk hT hn
    obtain ⟨n, rfl⟩ : ∃ m, n = m + 1 := ⟨n - 1, by omega⟩
    refine ⟨T, ?_, hT⟩
    rw [← show k = sE A f by omega]
    refine loopN_out ?_
    rw [p_X8_wholeBy_L38, m_endOf hV hM hf, bd1_s]
    simp (disch := omega) only [le_nI]
    rw [if_pos (by omega)]
  | succ d ih =>
    intro k n w T hk hT hn
    obtain ⟨n, rfl⟩ : ∃ m, n = m + 1 := ⟨n - 1, by omega⟩
    obtain ⟨z, TF, e, q1, q2⟩ := m_way_r (A := A) hc (k := k) (by omega) (hR k (by omega)) (hp k (by omega)) (w := w) 80 fuel T (by omega) hT (by omega)
    rw [show nI 80 - (1 : Int32) = nI 79 from nI_pred 79] at e
    have hs : p_X8_wholeBy_L38 v R (nI c) (nI f) (nI k, T) = some (.inl (nI (k + 1), TF)) := by
      rw [p_X8_wholeBy_L38, m_endOf hV hM hf, bd1_s]
      simp (disch := omega) only [le_nI]
      rw [if_neg (by omega), show ((79 : Int32), T) = (nI 79, T) from rfl, e, bd2_s, show nI k + (1 : Int32) = nI (k + 1) from nI_1 k]
    rw [loopN_in hs]
    exact ih (k + 1) n _ TF (by omega) q1 (by omega)
theorem m_way_s {v : Nat → Int32} {A : Nat → Nat} (hV : VA A) (hM : repM v A) {w : Nat → Nat} {T : Nat → Int64} (hT : ∀ r, r < 80 → T r = lN (w r)) : ∀ (d r n : Nat), r + d = A 5 + 1 → d < n → ∃ z : Int32, loopN (p_X8_wholeBy_L130 v T) n (lN (sm w r), nI r) = some (lN (sm w (A 5 + 1)), z) := by
  have h2 := hV.st
  intro d
  induction d with
  | zero =>
    intro r n hr hn
    obtain ⟨n, rfl⟩ : ∃ m, n = m + 1 := ⟨n - 1, by omega⟩
    refine ⟨nI r, ?_⟩
    rw [← show r = A 5 + 1 by omega]
    refine loopN_out ?_
    rw [p_X8_wholeBy_L130, hM 5 (by omega)]
    simp (disch := omega) only [lt_nI]
    rw [if_pos (by omega)]
  | succ d ih =>
    intro r n hr hn
    obtain ⟨n, rfl⟩ : ∃ m, n = m + 1 := ⟨n - 1, by omega⟩
    have hs : p_X8_wholeBy_L130 v T (lN (sm w r), nI r) = some (.inl (lN (sm w (r + 1)), nI (r + 1))) := by
      rw [p_X8_wholeBy_L130, hM 5 (by omega)]
      simp (disch := omega) only [lt_nI, ib_nI, gd_t, tn_nI, nm_s, hT r (by omega)]
      rw [if_neg (by omega), lN_add, show nI r + (1 : Int32) = nI (r + 1) from nI_1 r]
      rfl
    rw [loopN_in hs]
    exact ih (r + 1) n (by omega) (by omega)
theorem m_way_0 : ∀ (d i n : Nat) (T : Nat → Int64), i + d = 80 → (∀ r, r < i → T r = lN (w00 r)) → d < n → ∃ (z : Int32) (TF : Nat → Int64), loopN p_X8_wholeBy_L2 n (nI i, T) = some (z, TF) ∧ ∀ r, r < 80 → TF r = lN (w00 r) := by
  intro d
  induction d with
  | zero =>
    intro i n T hi hT hn
    obtain ⟨n, rfl⟩ : ∃ m, n = m + 1 := ⟨n - 1, by omega⟩
    refine ⟨nI i, T, loopN_out ?_, fun r hr => hT r (by omega)⟩
    have e : ((80 : Int32) ≤ nI i) = (80 ≤ i) := le_nI (a := 80) (by omega) (by omega)
    rw [p_X8_wholeBy_L2]
    simp only [e]
    rw [if_pos (by omega)]
  | succ d ih =>
    intro i n T hi hT hn
    obtain ⟨n, rfl⟩ : ∃ m, n = m + 1 := ⟨n - 1, by omega⟩
    have hs : p_X8_wholeBy_L2 (nI i, T) = some (.inl (nI (i + 1), vp_updL T i (lN (w00 i)))) := by
      have e : ((80 : Int32) ≤ nI i) = (80 ≤ i) := le_nI (a := 80) (by omega) (by omega)
      have e2 : (nI i = (0 : Int32)) = (i = 0) := eq_nI (b := 0) (by omega) (by omega)
      rw [p_X8_wholeBy_L2]
      simp (disch := omega) only [e, e2, ib_nI, gd_t, tn_nI]
      rw [if_neg (by omega), show nI i + (1 : Int32) = nI (i + 1) from nI_1 i]
      unfold w00
      split <;> rfl
    rw [loopN_in hs]
    refine ih (i + 1) n _ (by omega) (fun r hr => ?_) (by omega)
    by_cases h : r = i
    · subst h; rw [vL_same]
    · rw [vL_ne _ _ h]; exact hT r (by omega)
theorem m_wholeBy {v : Nat → Int32} {A : Nat → Nat} (hV : VA A) (hM : repM v A) {c z : Nat} (hc : c ≤ 10) (hz : z < sN A) {R : Nat → Int32} (hR : ∀ j, j < A 0 → R j = nI (rwv A j)) (hp : ∀ j, j < A 0 → rwv A j ≤ 6) (T : Nat → Int64) : ∃ TF : Nat → Int64, p_X8_wholeBy v R T (nI z) (nI c) = some (lN (fN A c (fL A z)), TF) := by
  have h0 := hV.n
  have h2 := hV.st
  have hu := fuel_ge
  have hf := fL_lt hz
  have he := sE_gt A (fL A z)
  have he2 := sE_le hf
  obtain ⟨z1, T1, e1, q1⟩ := m_way_0 80 0 fuel T (by omega) (fun r hr => by omega) (by omega)
  obtain ⟨T2, e2, q2⟩ := m_way_k hV hM hc hf hR hp (sE A (fL A z) - fL A z) (fL A z) fuel w00 T1 (by omega) q1 (by omega)
  obtain ⟨z3, e3⟩ := m_way_s hV hM q2 (A 5 + 1) 0 fuel (by omega) (by omega)
  refine ⟨T2, ?_⟩
  rw [p_X8_wholeBy, show ((0 : Int32), T) = (nI 0, T) from rfl, e1, bd2_s, m_firstLine hV hM hz, bd1_s, e2, bd2_s, show ((0 : Int64), (0 : Int32)) = (lN (sm (wys A c (sE A (fL A z) - fL A z) (fL A z) w00) 0), nI 0) from rfl, e3, bd2_s]
  rfl
-- bounds
theorem sm_sh (p : Nat) (w : Nat → Nat) : ∀ n, sm (fun r => if p ≤ r then w (r - p) else 0) n = sm w (n - p)
  | 0 => by rw [Nat.zero_sub]; rfl
  | n + 1 => by
    show sm _ n + (if p ≤ n then w (n - p) else 0) = _
    rw [sm_sh p w n]
    by_cases h : p ≤ n
    · rw [if_pos h, show n + 1 - p = (n - p) + 1 by omega]; rfl
    · rw [if_neg h, show n + 1 - p = 0 by omega, show n - p = 0 by omega, Nat.add_zero]
theorem sm_mono (w : Nat → Nat) : ∀ (d n : Nat), sm w n ≤ sm w (n + d)
  | 0, n => Nat.le_refl _
  | d + 1, n => Nat.le_trans (sm_mono w d n) (Nat.le_add_right _ _)
theorem sm_wst {c p : Nat} (hc : c ≤ 10) (w : Nat → Nat) (n : Nat) : sm (wst c p w) n ≤ 10 * sm w n := by
  have h : ∀ n, sm (wst c p w) n = c * sm w n + (10 - c) * sm (fun r => if p ≤ r then w (r - p) else 0) n := by
    intro n
    induction n with
    | zero => rfl
    | succ n ih =>
      show sm (wst c p w) n + wst c p w n = c * (sm w n + w n) + (10 - c) * (sm _ n + (if p ≤ n then w (n - p) else 0))
      rw [ih, Nat.mul_add, Nat.mul_add]
      unfold wst
      by_cases h : p ≤ n
      · rw [if_pos h, if_pos h]; omega
      · rw [if_neg h, if_neg h]; omega
  rw [h, sm_sh]
  have h1 : sm w (n - p) ≤ sm w n := by
    have := sm_mono w (n - (n - p)) (n - p)
    rw [show n - p + (n - (n - p)) = n by omega] at this
    exact this
  have h2 : (10 - c) * sm w (n - p) ≤ (10 - c) * sm w n := Nat.mul_le_mul_left _ h1
  have h3 : c * sm w n + (10 - c) * sm w n = 10 * sm w n := by rw [← Nat.add_mul]; congr 1; omega
  omega
theorem sm_wys {A : Nat → Nat} {c : Nat} (hc : c ≤ 10) (n : Nat) : ∀ (d k : Nat) (w : Nat → Nat), sm (wys A c d k w) n ≤ 10 ^ d * sm w n
  | 0, _, w => by show sm w n ≤ _; omega
  | d + 1, k, w => by
    have h1 := sm_wys (A := A) hc n d (k + 1) (wst c (rwv A k) w)
    have h2 := sm_wst (p := rwv A k) hc w n
    have h3 : 10 ^ d * sm (wst c (rwv A k) w) n ≤ 10 ^ d * (10 * sm w n) := Nat.mul_le_mul_left _ h2
    show sm (wys A c d (k + 1) (wst c (rwv A k) w)) n ≤ _
    rw [Nat.pow_succ, Nat.mul_assoc]
    omega
theorem sm_w00 : ∀ n, sm w00 n ≤ 1
  | 0 => by decide
  | 1 => by decide
  | n + 2 => by
    have := sm_w00 (n + 1)
    show sm w00 (n + 1) + w00 (n + 1) ≤ 1
    rw [show w00 (n + 1) = 0 from rfl]; omega
theorem fN_le {A : Nat → Nat} {c : Nat} (hc : c ≤ 10) (f : Nat) : fN A c f ≤ 10 ^ (sE A f - f) := by
  have h1 := sm_wys (A := A) hc (A 5 + 1) (sE A f - f) f w00
  have h2 : 10 ^ (sE A f - f) * sm w00 (A 5 + 1) ≤ 10 ^ (sE A f - f) * 1 := Nat.mul_le_mul_left _ (sm_w00 _)
  unfold fN
  omega
