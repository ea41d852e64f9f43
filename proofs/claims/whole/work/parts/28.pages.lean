/-! ===== pages: heights, what is allowed, the table of the best distributions ===== -/
def hgt (R : Nat → Int32) (A : Nat → Nat) (f : Nat) : Nat → Nat → Int32 → Int32
  | 0, _, a => a
  | d + 1, k, a => hgt R A f d (k + 1) (if k ≤ f then a + R k else if bgn A k = 0 then a + R k else a + R k + 1)
def hg (R : Nat → Int32) (A : Nat → Nat) (f t : Nat) : Int32 := hgt R A f (t - f) f 0
theorem c_hgt_loop {c : Nat → Int32} {A : Nat → Nat} (hV : VA A) (hC : repC c A) (R : Nat → Int32) {f t : Nat} (hf : f ≤ 12) (ht : t ≤ A 0) : ∀ (d k n : Nat) (a : Int32), k + d = t → d < n → loopN (p_X3_heightOf_L6 R c (nI f) (nI t)) n (a, nI k) = some (hgt R A f d k a, nI t) := by
  have h0 := hV.n
  intro d
  induction d with
  | zero =>
    intro k n a hk hn
    obtain ⟨n, rfl⟩ : ∃ m, n = m + 1 := ⟨n - 1, by omega⟩
    refine loopN_out ?_
    rw [p_X3_heightOf_L6]
    simp (disch := omega) only [le_nI]
    rw [if_pos (by omega), hgt, show k = t by omega]
  | succ d ih =>
    intro k n a hk hn
    obtain ⟨n, rfl⟩ : ∃ m, n = m + 1 := ⟨n - 1, by omega⟩
    have hb : bgn A k ≤ 1 := bgn_le hV (by omega)
    have hs : p_X3_heightOf_L6 R c (nI f) (nI t) (a, nI k) = some (.inl (if k ≤ f then a + R k else if bgn A k = 0 then a + R k else a + R k + 1, nI (k + 1))) := by
      rw [p_X3_heightOf_L6, c_beginsStanza hV hC (by omega)]
      simp (disch := omega) only [le_nI, ib_nI, gd_t, tn_nI, nm_s, bd1_s]
      have e0 : (nI (bgn A k) = (0 : Int32)) = (bgn A k = 0) := eq_nI (b := 0) (by omega) (by omega)
      simp only [e0]
      rw [if_neg (by omega), show nI k + (1 : Int32) = nI (k + 1) from nI_1 k]
      split
      · rfl
      · split <;> rfl
    rw [loopN_in hs, hgt]
    exact ih (k + 1) n _ (by omega) (by omega)
theorem c_heightOf {c : Nat → Int32} {A : Nat → Nat} (hV : VA A) (hC : repC c A) (R : Nat → Int32) {f t : Nat} (hft : f ≤ t) (ht : t ≤ A 0) : p_X3_heightOf R c (nI f) (nI t) = some (hg R A f t) := by
  have h0 := hV.n
  have hu := fuel_ge
  rw [p_X3_heightOf, c_hgt_loop hV hC R (by omega) ht (t - f) f fuel 0 (by omega) (by omega), bd2_s]
  rfl
theorem m_hgt_loop {v : Nat → Int32} {A : Nat → Nat} (hV : VA A) (hM : repM v A) (R : Nat → Int32) {f t : Nat} (hf : f ≤ 12) (ht : t ≤ A 0) : ∀ (d k n : Nat) (a : Int32), k + d = t → d < n → loopN (p_X8_rowsFrom_L5 v R (nI f) (nI t)) n (a, nI k) = some (hgt R A f d k a, nI t) := by
  have h0 := hV.n
  intro d
  induction d with
  | zero =>
    intro k n a hk hn
    obtain ⟨n, rfl⟩ : ∃ m, n = m + 1 := ⟨n - 1, by omega⟩
    refine loopN_out ?_
    rw [p_X8_rowsFrom_L5]
    simp (disch := omega) only [le_nI]
    rw [if_pos (by omega), hgt, show k = t by omega]
  | succ d ih =>
    intro k n a hk hn
    obtain ⟨n, rfl⟩ : ∃ m, n = m + 1 := ⟨n - 1, by omega⟩
    have hb : bgn A k ≤ 1 := bgn_le hV (by omega)
    have hs : p_X8_rowsFrom_L5 v R (nI f) (nI t) (a, nI k) = some (.inl (if k ≤ f then a + R k else if bgn A k = 0 then a + R k else a + R k + 1, nI (k + 1))) := by
      rw [p_X8_rowsFrom_L5, m_begins hV hM (by omega)]
      simp (disch := omega) only [le_nI, ib_nI, gd_t, tn_nI, nm_s, bd1_s]
      have e0 : (nI (bgn A k) = (0 : Int32)) = (bgn A k = 0) := eq_nI (b := 0) (by omega) (by omega)
      simp only [e0, Int32.add_zero, ← Int32.add_assoc]
      rw [if_neg (by omega), show nI k + (1 : Int32) = nI (k + 1) from nI_1 k]
      split
      · rfl
      · split <;> rfl
    rw [loopN_in hs, hgt]
    exact ih (k + 1) n _ (by omega) (by omega)
theorem m_rowsFrom {v : Nat → Int32} {A : Nat → Nat} (hV : VA A) (hM : repM v A) (R : Nat → Int32) {f t : Nat} (hft : f ≤ t) (ht : t ≤ A 0) : p_X8_rowsFrom v R (nI f) (nI t) = some (hg R A f t) := by
  have h0 := hV.n
  have hu := fuel_ge
  rw [p_X8_rowsFrom, m_hgt_loop hV hM R (by omega) ht (t - f) f fuel 0 (by omega) (by omega), bd2_s]
  rfl
-- what is allowed
def ins (A : Nat → Nat) (t : Nat) : Nat := if t = A 0 then 0 else if bgn A t = 0 then 1 else 0
def al (R : Nat → Int32) (A : Nat → Nat) (f t : Nat) : Option Nat := if hg R A f t ≤ nI (A 5) then
    (if ins A t = 0 then some 0 else if A 6 ≤ t - (if f < sS A t then sS A t else f) ∧ A 6 ≤ sE A t - t then some 1 else none)
  else none
theorem c_isInside {c : Nat → Int32} {A : Nat → Nat} (hV : VA A) (hC : repC c A) {t : Nat} (ht : t ≤ A 0) : p_X4_isInsideStanza c (nI t) = some (nI (ins A t)) := by
  have h0 := hV.n
  rw [p_X4_isInsideStanza, hC.2.2.1]
  simp (disch := omega) only [le_nI]
  unfold ins
  by_cases h : t = A 0
  · rw [if_pos (by omega), if_pos h]; rfl
  · have hb : bgn A t ≤ 1 := bgn_le hV (by omega)
    rw [if_neg (by omega), if_neg h]
    simp (disch := omega) only [ol, nI_add, ib_nI, gd_t, tn_nI, (hC.2.2.2 t (by omega)).2.1, eq_nI]
    split <;> rfl
theorem ins_le (A : Nat → Nat) (t : Nat) : ins A t ≤ 1 := by unfold ins; split <;> (try split) <;> omega
theorem c_isAllowed {c : Nat → Int32} {A : Nat → Nat} (hV : VA A) (hC : repC c A) (R : Nat → Int32) {f t : Nat} (hft : f < t) (ht : t ≤ A 0) : p_X3_isAllowed R c (nI f) (nI t) = some (if al R A f t = none then 0 else 1) := by
  have h0 := hV.n
  have h2 := hV.st
  rw [p_X3_isAllowed, c_heightOf hV hC R (by omega) ht, bd1_s, c_s3 hC, bd1_s, c_isInside hV hC ht, bd1_s, c_s4 hC]
  unfold al
  by_cases h : hg R A f t ≤ nI (A 5)
  · rw [if_pos h, if_pos h]
    by_cases hi : ins A t = 0
    · rw [hi, if_pos (show nI 0 = (0 : Int32) from rfl), if_pos rfl]; rfl
    · have hi1 : ins A t = 1 := by have := ins_le A t; omega
      have htN : t < A 0 := by
        unfold ins at hi
        split at hi
        · exact absurd rfl hi
        · omega
      have hs := sS_le A t
      have he := sE_gt A t
      have he2 := sE_le htN
      rw [hi1, if_neg (show ¬ nI 1 = (0 : Int32) by decide), if_neg (show ¬ (1 : Nat) = 0 by decide), c_stanzaStart hV hC htN, bd1_s, c_stanzaEnd hV hC htN]
      simp only [nm_s, bd1_s]
      have e1 : (nI f < nI (sS A t)) = (f < sS A t) := lt_nI (by omega) (by omega)
      have e2 : (if nI f < nI (sS A t) then nI (sS A t) else nI f) = nI (if f < sS A t then sS A t else f) := by
        simp only [e1]; split <;> rfl
      have hm : (if f < sS A t then sS A t else f) ≤ t := by split <;> omega
      rw [e2, sub_nI hm, sub_nI (show t ≤ sE A t by omega)]
      generalize hx : t - (if f < sS A t then sS A t else f) = x
      have hx12 : x ≤ 12 := by omega
      have e3 : (if nI (sE A t - t) < nI x then nI (sE A t - t) else nI x) = nI (if sE A t - t < x then sE A t - t else x) := by
        have e4 : (nI (sE A t - t) < nI x) = (sE A t - t < x) := lt_nI (by omega) (by omega)
        simp only [e4]; split <;> rfl
      have e5 : (nI (if sE A t - t < x then sE A t - t else x) < nI (A 6)) = ((if sE A t - t < x then sE A t - t else x) < A 6) := lt_nI (by split <;> omega) (by omega)
      simp only [e3, e5]
      by_cases hq : A 6 ≤ x ∧ A 6 ≤ sE A t - t
      · rw [if_neg (by split <;> omega), if_pos hq]; rfl
      · rw [if_pos (by split <;> omega), if_neg hq]; rfl
  · rw [if_neg h, if_neg h]; rfl
theorem m_ends {v : Nat → Int32} {A : Nat → Nat} (hV : VA A) (hM : repM v A) (R : Nat → Int32) {f t : Nat} (hft : f < t) (ht : t ≤ A 0) : p_X8_ends v R (nI f) (nI t) = some (enc (al R A f t)) := by
  have h0 := hV.n
  have h2 := hV.st
  rw [p_X8_ends, m_rowsFrom hV hM R (by omega) ht, bd1_s, hM 5 (by omega), hM 0 (by omega)]
  unfold al
  by_cases h : hg R A f t ≤ nI (A 5)
  · rw [if_pos h, if_pos h]
    have e0 : (nI t = nI (A 0)) = (t = A 0) := eq_nI (by omega) (by omega)
    simp only [e0]
    by_cases hN : t = A 0
    · rw [if_pos hN, if_pos (by unfold ins; rw [if_pos hN])]; rfl
    · have hb : bgn A t ≤ 1 := bgn_le hV (by omega)
      have hs := sS_le A t
      have he := sE_gt A t
      have he2 := sE_le (show t < A 0 by omega)
      rw [if_neg hN, m_begins hV hM (by omega), bd1_s]
      by_cases hbt : bgn A t = 0
      · rw [hbt, if_pos (show nI 0 = (0 : Int32) from rfl), m_startOf hV hM (by omega), bd1_s, bd1_s, if_neg (show ¬ ins A t = 0 by unfold ins; rw [if_neg hN, if_pos hbt]; decide)]
        have hB : ∀ z : Nat, z ≤ t → p_X8_ends_B56_10 v (nI t) (nI z) = some (enc (if A 6 ≤ t - z ∧ A 6 ≤ sE A t - t then some 1 else none)) := by
          intro z hz
          rw [p_X8_ends_B56_10, hM 6 (by omega), m_endOf hV hM (by omega), bd1_s, sub_nI hz, sub_nI (show t ≤ sE A t by omega)]
          simp (disch := omega) only [lt_nI]
          by_cases q1 : t - z < A 6
          · rw [if_pos q1, if_neg (by omega)]; rfl
          · rw [if_neg q1]
            by_cases q2 : sE A t - t < A 6
            · rw [if_pos q2, if_neg (by omega)]; rfl
            · rw [if_neg q2, if_pos (by omega)]; rfl
        have e1 : (nI (sS A t) ≤ nI f) = (sS A t ≤ f) := le_nI (by omega) (by omega)
        simp only [e1]
        by_cases hq : sS A t ≤ f
        · rw [if_pos hq, if_neg (show ¬ f < sS A t by omega)]; exact hB f (by omega)
        · rw [if_neg hq, if_pos (show f < sS A t by omega)]; exact hB (sS A t) hs
      · rw [if_neg (show ¬ nI (bgn A t) = (0 : Int32) from fun z => hbt ((nI_eq (b := 0) (by omega) (by omega)).mp z)), if_pos (show ins A t = 0 by unfold ins; rw [if_neg hN, if_neg hbt])]; rfl
  · rw [if_neg h, if_neg h]; rfl
theorem al_cut {R : Nat → Int32} {A : Nat → Nat} {f t x : Nat} (h : al R A f t = some x) : x = ins A t := by
  unfold al at h
  split at h
  · split at h
    · cases h; omega
    · by_cases hq : A 6 ≤ t - (if f < sS A t then sS A t else f) ∧ A 6 ≤ sE A t - t
      · rw [if_pos hq] at h
        have := ins_le A t
        cases h; omega
      · rw [if_neg hq] at h
        cases h
  · cases h
-- the table
def cnd (R : Nat → Int32) (A : Nat → Nat) (tb : Nat → Option (Nat × Nat)) (k t : Nat) : Option (Nat × Nat) := match al R A k t, tb t with
  | some cut, some x => some (x.1 + 1 + 100 * cut, t)
  | _, _ => none
def pgf (R : Nat → Int32) (A : Nat → Nat) (tb : Nat → Option (Nat × Nat)) (k : Nat) : Nat → Nat → Option (Nat × Nat) → Option (Nat × Nat)
  | 0, _, acc => acc
  | n + 1, t, acc => pgf R A tb k n (t + 1) (pick acc (cnd R A tb k t))
def pgt (R : Nat → Int32) (A : Nat → Nat) : Nat → Nat → Option (Nat × Nat)
  | 0 => fun j => if j = A 0 then some (0, A 0) else none
  | d + 1 => fun j => if j = A 0 - (d + 1) then pgf R A (pgt R A d) j (A 0 - j) (j + 1) none else pgt R A d j
/-- what the table says: the weights are small, the chain goes on -/
def TB (A : Nat → Nat) (tb : Nat → Option (Nat × Nat)) (lo : Nat) : Prop := ∀ j, lo ≤ j → j ≤ A 0 → ∀ x, tb j = some x → x.1 % 100 ≤ A 0 - j ∧ x.1 / 100 ≤ A 0 - j ∧ (j = A 0 → x.1 = 0) ∧ (j < A 0 → j < x.2 ∧ x.2 ≤ A 0 ∧ ∃ y, tb x.2 = some y ∧ x.1 % 100 = y.1 % 100 + 1)
/-- a found acc of line k over the table of the lines behind it -/
def OKa (A : Nat → Nat) (tb : Nat → Option (Nat × Nat)) (k : Nat) (acc : Option (Nat × Nat)) : Prop := ∀ x, acc = some x → x.1 % 100 ≤ A 0 - k ∧ x.1 / 100 ≤ A 0 - k ∧ k < x.2 ∧ x.2 ≤ A 0 ∧ ∃ y, tb x.2 = some y ∧ x.1 % 100 = y.1 % 100 + 1
theorem OKa_cnd {R : Nat → Int32} {A : Nat → Nat} (hV : VA A) {tb : Nat → Option (Nat × Nat)} {k t : Nat} (hT : TB A tb (k + 1)) (hk : k < t) (ht : t ≤ A 0) : OKa A tb k (cnd R A tb k t) := by
  intro x hx
  have h0 := hV.n
  unfold cnd at hx
  split at hx
  · rename_i cut y ha hy
    have hc := al_cut ha
    have hi := ins_le A t
    obtain ⟨b1, b2, -, -⟩ := hT t (by omega) ht y hy
    have hcut : cut ≤ 1 := by omega
    cases hx
    have e1 : (y.1 + 1 + 100 * cut) % 100 = y.1 % 100 + 1 := by omega
    have e2 : (y.1 + 1 + 100 * cut) / 100 = y.1 / 100 + cut := by omega
    exact ⟨by show (y.1 + 1 + 100 * cut) % 100 ≤ _; omega, by show (y.1 + 1 + 100 * cut) / 100 ≤ _; omega, hk, ht, y, hy, e1⟩
  · cases hx
theorem OKa_pick {A : Nat → Nat} {tb : Nat → Option (Nat × Nat)} {k : Nat} {a b : Option (Nat × Nat)} (ha : OKa A tb k a) (hb : OKa A tb k b) : OKa A tb k (pick a b) := by
  cases a with
  | none => rw [pick_nl]; exact hb
  | some x =>
    cases b with
    | none => rw [pick_nr]; exact ha
    | some y =>
      intro z hz
      simp only [pick] at hz
      split at hz
      · exact hb z hz
      · exact ha z hz
theorem OKa_pgf {R : Nat → Int32} {A : Nat → Nat} (hV : VA A) {tb : Nat → Option (Nat × Nat)} {k : Nat} (hT : TB A tb (k + 1)) : ∀ (n t : Nat) (acc : Option (Nat × Nat)), k < t → t + n = A 0 + 1 → OKa A tb k acc → OKa A tb k (pgf R A tb k n t acc)
  | 0, _, _, _, _, h => h
  | n + 1, t, acc, hk, hn, h => OKa_pgf hV hT n (t + 1) _ (by omega) (by omega) (OKa_pick h (OKa_cnd hV hT hk (by omega)))
theorem TB_pgt {R : Nat → Int32} {A : Nat → Nat} (hV : VA A) : ∀ d, d ≤ A 0 → TB A (pgt R A d) (A 0 - d)
  | 0, _ => by
    intro j h1 h2 x hx
    have e : j = A 0 := by omega
    subst e
    simp only [pgt, if_pos] at hx
    cases hx
    exact ⟨by show 0 % 100 ≤ _; omega, by show 0 / 100 ≤ _; omega, fun _ => rfl, fun h => absurd h (by omega)⟩
  | d + 1, hd => by
    have ih := TB_pgt (R := R) hV d (by omega)
    intro j h1 h2 x hx
    have keep : ∀ i, A 0 - d ≤ i → pgt R A (d + 1) i = pgt R A d i := by
      intro i hi
      show (if i = A 0 - (d + 1) then _ else _) = _
      rw [if_neg (by omega)]
    by_cases hj : j = A 0 - (d + 1)
    · have hx2 : pgf R A (pgt R A d) j (A 0 - j) (j + 1) none = some x := by
        rw [← hx]
        show _ = (if j = A 0 - (d + 1) then _ else _)
        rw [if_pos hj]
      have hO := OKa_pgf hV (k := j) (tb := pgt R A d) (by rw [show j + 1 = A 0 - d by omega]; exact ih) (A 0 - j) (j + 1) none (by omega) (by omega) (fun _ h => by cases h) x hx2
      obtain ⟨o1, o2, o3, o4, y, o5, o6⟩ := hO
      exact ⟨o1, o2, fun h => by omega, fun _ => ⟨o3, o4, y, by rw [keep x.2 (by omega)]; exact o5, o6⟩⟩
    · rw [keep j (by omega)] at hx
      obtain ⟨o1, o2, o3, o4⟩ := ih j (by omega) h2 x hx
      refine ⟨o1, o2, o3, fun h => ?_⟩
      obtain ⟨q1, q2, y, q3, q4⟩ := o4 h
      exact ⟨q1, q2, y, by rw [keep x.2 (by omega)]; exact q3, q4⟩
-- the class's table
def CW (A : Nat → Nat) (tb : Nat → Option (Nat × Nat)) (rw_ np : Nat → Int32) (lo : Nat) : Prop := ∀ j, lo ≤ j → j ≤ A 0 → rw_ j = enc ((tb j).map (fun x => x.1)) ∧ (j < A 0 → ∀ x, tb j = some x → np j = nI x.2)
theorem c_bP_loop {c : Nat → Int32} {A : Nat → Nat} (hV : VA A) (hC : repC c A) (R : Nat → Int32) {tb : Nat → Option (Nat × Nat)} {k : Nat} (hk : k < A 0) (hT : TB A tb (k + 1)) :
    ∀ (n t m : Nat) (acc : Option (Nat × Nat)) (w np : Nat → Int32), k < t → t + n = A 0 + 1 → n < m → OKa A tb k acc → CW A tb w np (k + 1) → w k = enc (acc.map (fun x => x.1)) → (∀ x, acc = some x → np k = nI x.2) →
    ∃ (z : Int32) (wF npF : Nat → Int32), loopN (p_X3_beginPage_L12 R c (nI k)) m (nI t, w, np) = some (z, wF, npF) ∧ CW A tb wF npF (k + 1) ∧ wF k = enc ((pgf R A tb k n t acc).map (fun x => x.1)) ∧ (∀ x, pgf R A tb k n t acc = some x → npF k = nI x.2) := by
  have h0 := hV.n
  intro n
  induction n with
  | zero =>
    intro t m acc w np hkt htn hm hO hCW hw hnp
    obtain ⟨m, rfl⟩ : ∃ q, m = q + 1 := ⟨m - 1, by omega⟩
    refine ⟨nI t, w, np, loopN_out ?_, hCW, hw, hnp⟩
    rw [p_X3_beginPage_L12, c_lines hC, bd1_s]
    simp (disch := omega) only [lt_nI]
    rw [if_pos (by omega)]
  | succ n ih =>
    intro t m acc w np hkt htn hm hO hCW hw hnp
    obtain ⟨m, rfl⟩ : ∃ q, m = q + 1 := ⟨m - 1, by omega⟩
    have htN : t ≤ A 0 := by omega
    have hct := hCW t (by omega) htN
    have hi := ins_le A t
    have cont : ∀ (w2 np2 : Nat → Int32), p_X3_beginPage_L12 R c (nI k) (nI t, w, np) = some (.inl (nI (t + 1), w2, np2)) → CW A tb w2 np2 (k + 1) → w2 k = enc ((pick acc (cnd R A tb k t)).map (fun x => x.1)) → (∀ x, pick acc (cnd R A tb k t) = some x → np2 k = nI x.2) →
        ∃ (z : Int32) (wF npF : Nat → Int32), loopN (p_X3_beginPage_L12 R c (nI k)) (m + 1) (nI t, w, np) = some (z, wF, npF) ∧ CW A tb wF npF (k + 1) ∧ wF k = enc ((pgf R A tb k (n + 1) t acc).map (fun x => x.1)) ∧ (∀ x, pgf R A tb k (n + 1) t acc = some x → npF k = nI x.2) := by
      intro w2 np2 hs q1 q2 q3
      rw [loopN_in hs]
      exact ih (t + 1) m _ w2 np2 (by omega) (by omega) (by omega) (OKa_pick hO (OKa_cnd hV hT hkt htN)) q1 q2 q3
    have hs0 : p_X3_beginPage_L12 R c (nI k) (nI t, w, np) = if w t = -4 then some (.inl (nI (t + 1), w, np)) else if al R A k t = none then some (.inl (nI (t + 1), w, np)) else p_X3_beginPage_B66_17 (nI k) (nI t) w np (nI (100 * ins A t)) := by
      rw [p_X3_beginPage_L12, c_lines hC, bd1_s, c_isAllowed hV hC R hkt htN, bd1_s, c_isInside hV hC htN, bd1_s]
      simp (disch := omega) only [lt_nI, ib_nI, gd_t, tn_nI]
      rw [if_neg (by omega), show nI t + (1 : Int32) = nI (t + 1) from nI_1 t]
      by_cases q1 : w t = -4
      · rw [if_pos q1, if_pos q1]
      · rw [if_neg q1, if_neg q1]
        by_cases q2 : al R A k t = none
        · rw [if_pos q2, if_pos q2, if_pos (show (0 : Int32) = 0 from rfl)]
        · rw [if_neg q2, if_neg q2, if_neg (show ¬ (1 : Int32) = 0 by decide)]
          rcases (show ins A t = 0 ∨ ins A t = 1 by omega) with z | z
          · rw [z, if_pos (show nI 0 = (0 : Int32) from rfl)]; rfl
          · rw [z, if_neg (show ¬ nI 1 = (0 : Int32) by decide)]; rfl
    cases hy : tb t with
    | none =>
      have e1 : w t = -4 := by rw [hct.1, hy]; rfl
      have e2 : cnd R A tb k t = none := by unfold cnd; rw [hy]; cases al R A k t <;> rfl
      rw [if_pos e1] at hs0
      exact cont w np hs0 hCW (by rw [e2, pick_nr]; exact hw) (by rw [e2, pick_nr]; exact hnp)
    | some y =>
      obtain ⟨b1, b2, -, -⟩ := hT t (by omega) htN y hy
      have e1 : w t = nI y.1 := by rw [hct.1, hy]; rfl
      rw [if_neg (by rw [e1]; exact enc_ne (by omega))] at hs0
      cases ha : al R A k t with
      | none =>
        have e2 : cnd R A tb k t = none := by unfold cnd; rw [ha]
        rw [if_pos ha] at hs0
        exact cont w np hs0 hCW (by rw [e2, pick_nr]; exact hw) (by rw [e2, pick_nr]; exact hnp)
      | some cut =>
        have hcut := al_cut ha
        have e2 : cnd R A tb k t = some (y.1 + 1 + 100 * ins A t, t) := by unfold cnd; rw [ha, hy, hcut]
        rw [if_neg (by rw [ha]; simp), p_X3_beginPage_B66_17, nm_s] at hs0
        simp (disch := omega) only [tn_nI, e1] at hs0
        rw [show (1 : Int32) = nI 1 from rfl, nI_add, nI_add] at hs0
        have hB : ∀ x : Int32, p_X3_beginPage_B91_19 (nI k) (nI t) w np x = some (.inl (nI (t + 1), upd w k x, upd np k (nI t))) := by
          intro x
          rw [p_X3_beginPage_B91_19]
          simp (disch := omega) only [ib_nI, gd_t, tn_nI]
          rw [show nI t + (1 : Int32) = nI (t + 1) from nI_1 t]
        simp (disch := omega) only [ib_nI, gd_t, tn_nI, hw, hB] at hs0
        rw [show nI t + nI 1 = nI (t + 1) from nI_add t 1] at hs0
        have hup : CW A tb (upd w k (nI (y.1 + 1 + 100 * ins A t))) (upd np k (nI t)) (k + 1) := by
          intro j j1 j2
          rw [upd_ne _ _ (by omega), upd_ne _ _ (by omega)]
          exact hCW j j1 j2
        have take : pick acc (cnd R A tb k t) = some (y.1 + 1 + 100 * ins A t, t) → p_X3_beginPage_L12 R c (nI k) (nI t, w, np) = some (.inl (nI (t + 1), upd w k (nI (y.1 + 1 + 100 * ins A t)), upd np k (nI t))) →
            ∃ (z : Int32) (wF npF : Nat → Int32), loopN (p_X3_beginPage_L12 R c (nI k)) (m + 1) (nI t, w, np) = some (z, wF, npF) ∧ CW A tb wF npF (k + 1) ∧ wF k = enc ((pgf R A tb k (n + 1) t acc).map (fun x => x.1)) ∧ (∀ x, pgf R A tb k (n + 1) t acc = some x → npF k = nI x.2) := by
          intro q1 q2
          refine cont _ _ q2 hup ?_ ?_
          · rw [q1, upd_same]; rfl
          · intro x hx; rw [q1] at hx; cases hx; rw [upd_same]
        cases acc with
        | none =>
          rw [if_pos (show enc (Option.map (fun x : Nat × Nat => x.1) none) = (-4 : Int32) from rfl)] at hs0
          exact take (by rw [e2]; rfl) hs0
        | some x =>
          obtain ⟨o1, o2, -⟩ := hO x rfl
          rw [if_neg (show ¬ enc (Option.map (fun x : Nat × Nat => x.1) (some x)) = (-4 : Int32) from enc_ne (x := x.1) (by omega))] at hs0
          have elt : (enc (Option.map (fun x : Nat × Nat => x.1) (some x)) < nI (y.1 + 1 + 100 * ins A t)) = (x.1 < y.1 + 1 + 100 * ins A t) := lt_nI (a := x.1) (by omega) (by omega)
          simp only [elt] at hs0
          by_cases hlt : x.1 < y.1 + 1 + 100 * ins A t
          · rw [if_pos hlt] at hs0
            have ep : pick (some x) (cnd R A tb k t) = some x := by rw [e2]; simp only [pick]; rw [if_neg (by omega)]
            exact cont w np hs0 hCW (by rw [ep]; exact hw) (by rw [ep]; exact hnp)
          · rw [if_neg hlt] at hs0
            exact take (by rw [e2]; simp only [pick]; rw [if_pos (by omega)]) hs0
theorem c_beginPage {c : Nat → Int32} {A : Nat → Nat} (hV : VA A) (hC : repC c A) (R : Nat → Int32) {d : Nat} (hd : d < A 0) {w np : Nat → Int32} (hCW : CW A (pgt R A d) w np (A 0 - d)) :
    ∃ wF npF : Nat → Int32, p_X3_beginPage R w np c (nI (A 0 - (d + 1))) = some (wF, npF) ∧ CW A (pgt R A (d + 1)) wF npF (A 0 - (d + 1)) := by
  have h0 := hV.n
  have hu := fuel_ge
  have hT := TB_pgt (R := R) hV d (by omega)
  obtain ⟨z, wF, npF, e, q1, q2, q3⟩ := c_bP_loop hV hC R (k := A 0 - (d + 1)) (tb := pgt R A d) (by omega) (by rw [show A 0 - (d + 1) + 1 = A 0 - d by omega]; exact hT) (A 0 - (A 0 - (d + 1))) (A 0 - (d + 1) + 1) fuel none (upd w (A 0 - (d + 1)) (-4)) np (by omega) (by omega) (by omega) (fun _ h => by cases h)
    (by intro j j1 j2; rw [upd_ne _ _ (by omega)]; exact hCW j (by omega) j2) (by rw [upd_same]; rfl) (fun _ h => by cases h)
  refine ⟨wF, npF, ?_, ?_⟩
  · rw [p_X3_beginPage, nm_s, show nI (A 0 - (d + 1)) + (1 : Int32) = nI (A 0 - (d + 1) + 1) from nI_1 _]
    simp (disch := omega) only [ib_nI, gd_t, tn_nI]
    rw [e, bd3_s]
  · intro j j1 j2
    by_cases hj : j = A 0 - (d + 1)
    · have et : pgt R A (d + 1) j = pgf R A (pgt R A d) j (A 0 - j) (j + 1) none := by
        show (if j = A 0 - (d + 1) then _ else _) = _
        rw [if_pos hj]
      rw [et]
      subst hj
      exact ⟨q2, fun _ => q3⟩
    · have et : pgt R A (d + 1) j = pgt R A d j := by
        show (if j = A 0 - (d + 1) then _ else _) = _
        rw [if_neg hj]
      rw [et]
      exact q1 j (by omega) j2
theorem c_dist_loop {c : Nat → Int32} {A : Nat → Nat} (hV : VA A) (hC : repC c A) (R : Nat → Int32) : ∀ (t n : Nat) (w np : Nat → Int32), t ≤ A 0 → CW A (pgt R A (A 0 - t)) w np t → t < n →
    ∃ (z : Int32) (wF npF : Nat → Int32), loopN (p_X3_distribute_L16 R c) n (nI t - 1, w, np) = some (z, wF, npF) ∧ CW A (pgt R A (A 0)) wF npF 0 := by
  have h0 := hV.n
  intro t
  induction t with
  | zero =>
    intro n w np ht hCW hn
    obtain ⟨n, rfl⟩ : ∃ m, n = m + 1 := ⟨n - 1, by omega⟩
    refine ⟨_, w, np, loopN_out (e := (nI 0 - 1, w, np)) ?_, hCW⟩
    rw [p_X3_distribute_L16]
    rw [if_pos (by decide)]
  | succ t ih =>
    intro n w np ht hCW hn
    obtain ⟨n, rfl⟩ : ∃ m, n = m + 1 := ⟨n - 1, by omega⟩
    obtain ⟨w2, np2, e, q⟩ := c_beginPage hV hC R (d := A 0 - (t + 1)) (by omega) (w := w) (np := np) (by rw [show A 0 - (A 0 - (t + 1)) = t + 1 by omega]; exact hCW)
    rw [show A 0 - (t + 1) + 1 = A 0 - t by omega, show A 0 - (A 0 - t) = t by omega] at e q
    have hs : p_X3_distribute_L16 R c (nI (t + 1) - 1, w, np) = some (.inl (nI t - 1, w2, np2)) := by
      rw [p_X3_distribute_L16]
      rw [show nI (t + 1) - (1 : Int32) = nI t from nI_pred t, e, bd2_s, if_neg (nI_pos (by omega)), Int32.sub_eq_add_neg]
    rw [loopN_in hs]
    exact ih n w2 np2 (by omega) q (by omega)
theorem c_distribute {c : Nat → Int32} {A : Nat → Nat} (hV : VA A) (hC : repC c A) (R : Nat → Int32) (fit : Int32) (w np : Nat → Int32) :
    ∃ wF npF : Nat → Int32, p_X3_distribute fit R w np c = some (if fit = 0 then upd wF 0 (-4) else wF, npF) ∧ CW A (pgt R A (A 0)) wF npF 0 := by
  have h0 := hV.n
  have hu := fuel_ge
  obtain ⟨z, wF, npF, e, q⟩ := c_dist_loop hV hC R (A 0) fuel (upd w (A 0) (nI 0)) np (by omega) (by
    intro j j1 j2
    have ej : j = A 0 := by omega
    subst ej
    rw [upd_same, Nat.sub_self]
    refine ⟨?_, fun h => by omega⟩
    show _ = enc ((if A 0 = A 0 then some (0, A 0) else none : Option (Nat × Nat)).map (fun x => x.1))
    rw [if_pos rfl]; rfl) (by omega)
  refine ⟨wF, npF, ?_, q⟩
  rw [p_X3_distribute, c_lines hC, bd1_s, nm_s]
  simp (disch := omega) only [ib_nI, gd_t, tn_nI]
  rw [show (0 : Int32) = nI 0 from rfl, e, bd3_s]
  by_cases h : fit = nI 0
  · rw [if_pos h, if_pos h]
  · rw [if_neg h, if_neg h]
