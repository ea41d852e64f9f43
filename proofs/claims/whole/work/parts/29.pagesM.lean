/-! ===== the rows of all lines; the reference's pages ===== -/
def RR (A : Nat → Nat) : Nat → Int32 := fun j => enc (rwN A j)
def aF (A : Nat → Nat) : Nat → Nat
  | 0 => 1
  | k + 1 => if aF A k = 0 then 0 else if rwN A k = none then 0 else 1
theorem aF_le (A : Nat → Nat) : ∀ k, aF A k ≤ 1
  | 0 => Nat.le_refl _
  | k + 1 => by unfold aF; split <;> (try split) <;> omega
theorem rwN_bnd {A : Nat → Nat} (hV : VA A) {k x : Nat} (hk : k < 12) (h : rwN A k = some x) : 1 ≤ x ∧ x ≤ 6 := by
  unfold rwN at h
  cases hb : bst A k with
  | none => rw [hb] at h; cases h
  | some y =>
    rw [hb] at h
    simp only [Option.map_some, Option.some.injEq] at h
    unfold pc5 at h
    omega
theorem m_sets_loop {v : Nat → Int32} {A : Nat → Nat} (hV : VA A) (hM : repM v A) : ∀ (d k n : Nat) (R : Nat → Int32), k + d = A 0 → (∀ j, j < k → R j = RR A j) → d < n → ∃ (z : Int32) (RF : Nat → Int32), loopN (p_X8_sets_L7 v) n (nI k, nI (aF A k), R) = some (z, nI (aF A (A 0)), RF) ∧ ∀ j, j < A 0 → RF j = RR A j := by
  have h0 := hV.n
  intro d
  induction d with
  | zero =>
    intro k n R hk hR hn
    obtain ⟨n, rfl⟩ : ∃ m, n = m + 1 := ⟨n - 1, by omega⟩
    have ek : k = A 0 := by omega
    refine ⟨nI k, R, ?_, fun j hj => hR j (by omega)⟩
    rw [← ek]
    refine loopN_out ?_
    rw [p_X8_sets_L7, hM 0 (by omega)]
    simp (disch := omega) only [le_nI]
    rw [if_pos (by omega)]
  | succ d ih =>
    intro k n R hk hR hn
    obtain ⟨n, rfl⟩ : ∃ m, n = m + 1 := ⟨n - 1, by omega⟩
    have ha := aF_le A k
    have hs : p_X8_sets_L7 v (nI k, nI (aF A k), R) = some (.inl (nI (k + 1), nI (aF A (k + 1)), upd R k (RR A k))) := by
      rw [p_X8_sets_L7, hM 0 (by omega), m_rowsOf hV hM (by omega), bd1_s]
      simp (disch := omega) only [le_nI, ib_nI, gd_t, tn_nI, upd_same]
      rw [if_neg (by omega), show nI k + (1 : Int32) = nI (k + 1) from nI_1 k]
      have e0 : (nI (aF A k) = (0 : Int32)) = (aF A k = 0) := eq_nI (b := 0) (by omega) (by omega)
      simp only [e0]
      show _ = some (Sum.inl (nI (k + 1), nI (if aF A k = 0 then 0 else if rwN A k = none then 0 else 1), _))
      by_cases q : aF A k = 0
      · rw [if_pos q, if_pos q]; rfl
      · rw [if_neg q, if_neg q]
        cases hr : rwN A k with
        | none => rw [if_pos (show enc none ≤ (0 : Int32) by decide), if_pos rfl]; unfold RR; rw [hr]; rfl
        | some x =>
          have hx := rwN_bnd hV (by omega) hr
          rw [if_neg (show ¬ enc (some x) ≤ (0 : Int32) from nI_nle (by omega) (by omega)), if_neg (by simp)]; unfold RR; rw [hr]; rfl
    rw [loopN_in hs]
    refine ih (k + 1) n _ (by omega) (fun j hj => ?_) (by omega)
    by_cases hjk : j = k
    · subst hjk; rw [upd_same]
    · rw [upd_ne _ _ hjk]; exact hR j (by omega)
theorem m_sets {v : Nat → Int32} {A : Nat → Nat} (hV : VA A) (hM : repM v A) (z : Int32) (R : Nat → Int32) : ∃ RF : Nat → Int32, p_X8_sets z v R = some (nI (aF A (A 0)), RF) ∧ ∀ j, j < A 0 → RF j = RR A j := by
  have h0 := hV.n
  have hu := fuel_ge
  obtain ⟨y, RF, e, h⟩ := m_sets_loop hV hM (A 0) 0 fuel R (by omega) (fun j hj => by omega) (by omega)
  refine ⟨RF, ?_, h⟩
  rw [p_X8_sets, show ((0 : Int32), (1 : Int32), R) = (nI 0, nI (aF A 0), R) from rfl, e, bd3_s]
theorem bd11_s {α1 α2 α3 α4 α5 α6 α7 α8 α9 α10 α11 β : Type} (a1 : α1) (a2 : α2) (a3 : α3) (a4 : α4) (a5 : α5) (a6 : α6) (a7 : α7) (a8 : α8) (a9 : α9) (a10 : α10) (a11 : α11) (k : α1 → α2 → α3 → α4 → α5 → α6 → α7 → α8 → α9 → α10 → α11 → Option β) : bd11 (some (a1, a2, a3, a4, a5, a6, a7, a8, a9, a10, a11)) k = k a1 a2 a3 a4 a5 a6 a7 a8 a9 a10 a11 := rfl
theorem bd12_s {α1 α2 α3 α4 α5 α6 α7 α8 α9 α10 α11 α12 β : Type} (a1 : α1) (a2 : α2) (a3 : α3) (a4 : α4) (a5 : α5) (a6 : α6) (a7 : α7) (a8 : α8) (a9 : α9) (a10 : α10) (a11 : α11) (a12 : α12) (k : α1 → α2 → α3 → α4 → α5 → α6 → α7 → α8 → α9 → α10 → α11 → α12 → Option β) : bd12 (some (a1, a2, a3, a4, a5, a6, a7, a8, a9, a10, a11, a12)) k = k a1 a2 a3 a4 a5 a6 a7 a8 a9 a10 a11 a12 := rfl
theorem c_meas_loop {c : Nat → Int32} {A : Nat → Nat} (hV : VA A) (hC : repC c A) : ∀ (d k n : Nat) (R : Nat → Int32) (i0 i1 i2 i3 : Int32) (a1 a2 a3 a4 a5 : Nat → Int32), k + d = A 0 → (∀ j, j < k → R j = RR A j) → d < n → ∃ (z : Int32) (RF : Nat → Int32) (j0 j1 j2 j3 : Int32) (b1 b2 b3 b4 b5 : Nat → Int32), loopN (p_X3_measure_L7 c) n (nI k, nI (aF A k), R, i0, i1, i2, i3, a1, a2, a3, a4, a5) = some (z, nI (aF A (A 0)), RF, j0, j1, j2, j3, b1, b2, b3, b4, b5) ∧ ∀ j, j < A 0 → RF j = RR A j := by
  have h0 := hV.n
  intro d
  induction d with
  | zero =>
    intro k n R i0 i1 i2 i3 a1 a2 a3 a4 a5 hk hR hn
    obtain ⟨n, rfl⟩ : ∃ m, n = m + 1 := ⟨n - 1, by omega⟩
    have ek : k = A 0 := by omega
    refine ⟨nI k, R, i0, i1, i2, i3, a1, a2, a3, a4, a5, ?_, fun j hj => hR j (by omega)⟩
    rw [← ek]
    refine loopN_out ?_
    rw [p_X3_measure_L7, c_lines hC, bd1_s]
    simp (disch := omega) only [le_nI]
    rw [if_pos (by omega)]
  | succ d ih =>
    intro k n R i0 i1 i2 i3 a1 a2 a3 a4 a5 hk hR hn
    obtain ⟨n, rfl⟩ : ∃ m, n = m + 1 := ⟨n - 1, by omega⟩
    have ha := aF_le A k
    obtain ⟨number, cost, rows, rc, nr, rn, row, posi, e, hL⟩ := c_compute hV hC (k := k) (by omega) i0 i1 i2 i3 a1 a2 a3 a4 a5
    have er : rows = RR A k := hL.2.2.1
    have hs : p_X3_measure_L7 c (nI k, nI (aF A k), R, i0, i1, i2, i3, a1, a2, a3, a4, a5) = some (.inl (nI (k + 1), nI (aF A (k + 1)), upd R k (RR A k), nI (ind A k), number, cost, rows, rc, nr, rn, row, posi)) := by
      rw [p_X3_measure_L7, c_lines hC, bd1_s, e, bd9_s]
      simp (disch := omega) only [le_nI, ib_nI, gd_t, tn_nI]
      rw [if_neg (by omega), show nI k + (1 : Int32) = nI (k + 1) from nI_1 k, er]
      have e0 : (nI (aF A k) = (0 : Int32)) = (aF A k = 0) := eq_nI (b := 0) (by omega) (by omega)
      simp only [e0]
      show _ = some (Sum.inl (nI (k + 1), nI (if aF A k = 0 then 0 else if rwN A k = none then 0 else 1), _))
      by_cases q : aF A k = 0
      · rw [if_pos q, if_pos q]; rfl
      · rw [if_neg q, if_neg q]
        unfold RR
        cases hr : rwN A k with
        | none => rw [if_pos (show enc none = (-4 : Int32) from rfl), if_pos rfl]; rfl
        | some x =>
          have hx := rwN_bnd hV (by omega) hr
          rw [if_neg (show ¬ enc (some x) = (-4 : Int32) from enc_ne (by omega)), if_neg (by simp)]; rfl
    rw [loopN_in hs]
    refine ih (k + 1) n _ _ _ _ _ _ _ _ _ _ (by omega) (fun j hj => ?_) (by omega)
    by_cases hjk : j = k
    · subst hjk; rw [upd_same]
    · rw [upd_ne _ _ hjk]; exact hR j (by omega)
theorem c_measure {c : Nat → Int32} {A : Nat → Nat} (hV : VA A) (hC : repC c A) (z : Int32) (R : Nat → Int32) (i0 i1 i2 i3 : Int32) (a1 a2 a3 a4 a5 : Nat → Int32) : ∃ (RF : Nat → Int32) (j0 j1 j2 j3 : Int32) (b1 b2 b3 b4 b5 : Nat → Int32), p_X3_measure z R c i0 i1 i2 i3 a1 a2 a3 a4 a5 = some (nI (aF A (A 0)), RF, j0, j1, j2, j3, b1, b2, b3, b4, b5) ∧ ∀ j, j < A 0 → RF j = RR A j := by
  have h0 := hV.n
  have hu := fuel_ge
  obtain ⟨y, RF, j0, j1, j2, j3, b1, b2, b3, b4, b5, e, h⟩ := c_meas_loop hV hC (A 0) 0 fuel R i0 i1 i2 i3 a1 a2 a3 a4 a5 (by omega) (fun j hj => by omega) (by omega)
  refine ⟨RF, j0, j1, j2, j3, b1, b2, b3, b4, b5, ?_, h⟩
  rw [p_X3_measure, show ((0 : Int32), (1 : Int32), R, i0, i1, i2, i3, a1, a2, a3, a4, a5) = (nI 0, nI (aF A 0), R, i0, i1, i2, i3, a1, a2, a3, a4, a5) from rfl, e, bd12_s]
-- rows that agree give the same tables
theorem hgt_congr {R S : Nat → Int32} {A : Nat → Nat} {f : Nat} : ∀ (d k : Nat) (a : Int32), (∀ j, j < k + d → R j = S j) → hgt R A f d k a = hgt S A f d k a
  | 0, _, _, _ => rfl
  | d + 1, k, a, h => by
    unfold hgt
    rw [h k (by omega)]
    exact hgt_congr d (k + 1) _ (fun j hj => h j (by omega))
theorem hg_congr {R S : Nat → Int32} {A : Nat → Nat} {f t : Nat} (hft : f ≤ t) (h : ∀ j, j < t → R j = S j) : hg R A f t = hg S A f t := hgt_congr _ _ _ (fun j hj => h j (by omega))
theorem al_congr {R S : Nat → Int32} {A : Nat → Nat} {f t : Nat} (hft : f ≤ t) (h : ∀ j, j < t → R j = S j) : al R A f t = al S A f t := by
  unfold al; rw [hg_congr hft h]
theorem pgf_congr {R S : Nat → Int32} {A : Nat → Nat} {tb : Nat → Option (Nat × Nat)} {k : Nat} (h : ∀ j, j < A 0 → R j = S j) : ∀ (n t : Nat) (acc : Option (Nat × Nat)), k ≤ t → t + n ≤ A 0 + 1 → pgf R A tb k n t acc = pgf S A tb k n t acc
  | 0, _, _, _, _ => rfl
  | n + 1, t, acc, hk, hn => by
    unfold pgf
    have e : cnd R A tb k t = cnd S A tb k t := by unfold cnd; rw [al_congr hk (fun j hj => h j (by omega))]
    rw [e]
    exact pgf_congr h n (t + 1) _ (by omega) (by omega)
theorem pgt_congr {R S : Nat → Int32} {A : Nat → Nat} (h : ∀ j, j < A 0 → R j = S j) : ∀ d, d ≤ A 0 → ∀ j, pgt R A d j = pgt S A d j
  | 0, _, _ => rfl
  | d + 1, hd, j => by
    have ih : pgt R A d = pgt S A d := funext (pgt_congr h d (by omega))
    show (if j = A 0 - (d + 1) then _ else _) = (if j = A 0 - (d + 1) then _ else _)
    rw [ih]
    by_cases q : j = A 0 - (d + 1)
    · rw [if_pos q, if_pos q]; exact pgf_congr h _ _ _ (by omega) (by omega)
    · rw [if_neg q, if_neg q]
-- the reference's tables
def mC (o : Option (Nat × Nat)) : Int32 := match o with
  | none => 1000000
  | some x => nI (x.1 / 100)
def mP (o : Option (Nat × Nat)) : Int32 := match o with
  | none => 0
  | some x => nI (x.1 % 100)
def MW (A : Nat → Nat) (tb : Nat → Option (Nat × Nat)) (cu pa nx : Nat → Int32) (lo : Nat) : Prop := ∀ j, lo ≤ j → j ≤ A 0 → cu j = mC (tb j) ∧ pa j = mP (tb j) ∧ (j < A 0 → ∀ x, tb j = some x → nx j = nI x.2)
theorem m_bP_loop {v : Nat → Int32} {A : Nat → Nat} (hV : VA A) (hM : repM v A) (R : Nat → Int32) {tb : Nat → Option (Nat × Nat)} {k : Nat} (hk : k < A 0) (hT : TB A tb (k + 1)) :
    ∀ (n t m : Nat) (acc : Option (Nat × Nat)) (cu pa nx : Nat → Int32), k < t → t + n = A 0 + 1 → n < m → OKa A tb k acc → MW A tb cu pa nx (k + 1) → cu k = mC acc → pa k = mP acc → (∀ x, acc = some x → nx k = nI x.2) →
    ∃ (z : Int32) (cF pF xF : Nat → Int32), loopN (p_X8_lays_L52 v (nI 1) R (nI (A 0)) (nI k)) m (nI t, cu, pa, nx) = some (z, cF, pF, xF) ∧ MW A tb cF pF xF (k + 1) ∧ cF k = mC (pgf R A tb k n t acc) ∧ pF k = mP (pgf R A tb k n t acc) ∧ (∀ x, pgf R A tb k n t acc = some x → xF k = nI x.2) := by
  have h0 := hV.n
  intro n
  induction n with
  | zero =>
    intro t m acc cu pa nx hkt htn hm hO hMW hc hp hx
    obtain ⟨m, rfl⟩ : ∃ q, m = q + 1 := ⟨m - 1, by omega⟩
    refine ⟨nI t, cu, pa, nx, loopN_out ?_, hMW, hc, hp, hx⟩
    rw [p_X8_lays_L52]
    simp (disch := omega) only [lt_nI]
    rw [if_pos (by omega)]
  | succ n ih =>
    intro t m acc cu pa nx hkt htn hm hO hMW hc hp hx
    obtain ⟨m, rfl⟩ : ∃ q, m = q + 1 := ⟨m - 1, by omega⟩
    have htN : t ≤ A 0 := by omega
    have hct := hMW t (by omega) htN
    have hi := ins_le A t
    have cont : ∀ (c2 p2 x2 : Nat → Int32), p_X8_lays_L52 v (nI 1) R (nI (A 0)) (nI k) (nI t, cu, pa, nx) = some (.inl (nI (t + 1), c2, p2, x2)) → MW A tb c2 p2 x2 (k + 1) → c2 k = mC (pick acc (cnd R A tb k t)) → p2 k = mP (pick acc (cnd R A tb k t)) → (∀ x, pick acc (cnd R A tb k t) = some x → x2 k = nI x.2) →
        ∃ (z : Int32) (cF pF xF : Nat → Int32), loopN (p_X8_lays_L52 v (nI 1) R (nI (A 0)) (nI k)) (m + 1) (nI t, cu, pa, nx) = some (z, cF, pF, xF) ∧ MW A tb cF pF xF (k + 1) ∧ cF k = mC (pgf R A tb k (n + 1) t acc) ∧ pF k = mP (pgf R A tb k (n + 1) t acc) ∧ (∀ x, pgf R A tb k (n + 1) t acc = some x → xF k = nI x.2) := by
      intro c2 p2 x2 hs q1 q2 q3 q4
      rw [loopN_in hs]
      exact ih (t + 1) m _ c2 p2 x2 (by omega) (by omega) (by omega) (OKa_pick hO (OKa_cnd hV hT hkt htN)) q1 q2 q3 q4
    have same : p_X8_lays_L52 v (nI 1) R (nI (A 0)) (nI k) (nI t, cu, pa, nx) = some (.inl (nI (t + 1), cu, pa, nx)) → pick acc (cnd R A tb k t) = acc →
        ∃ (z : Int32) (cF pF xF : Nat → Int32), loopN (p_X8_lays_L52 v (nI 1) R (nI (A 0)) (nI k)) (m + 1) (nI t, cu, pa, nx) = some (z, cF, pF, xF) ∧ MW A tb cF pF xF (k + 1) ∧ cF k = mC (pgf R A tb k (n + 1) t acc) ∧ pF k = mP (pgf R A tb k (n + 1) t acc) ∧ (∀ x, pgf R A tb k (n + 1) t acc = some x → xF k = nI x.2) :=
      fun q1 q2 => cont cu pa nx q1 hMW (by rw [q2]; exact hc) (by rw [q2]; exact hp) (by rw [q2]; exact hx)
    have hs0 : p_X8_lays_L52 v (nI 1) R (nI (A 0)) (nI k) (nI t, cu, pa, nx) = (if enc (al R A k t) + cu t < cu k then p_X8_lays_B127_27 (nI k) (nI t) cu pa nx (enc (al R A k t)) (enc (al R A k t) + cu t) 1 else if enc (al R A k t) + cu t = cu k then (if pa k < pa t + 1 then p_X8_lays_B127_27 (nI k) (nI t) cu pa nx (enc (al R A k t)) (enc (al R A k t) + cu t) 0 else p_X8_lays_B127_27 (nI k) (nI t) cu pa nx (enc (al R A k t)) (enc (al R A k t) + cu t) 1) else p_X8_lays_B127_27 (nI k) (nI t) cu pa nx (enc (al R A k t)) (enc (al R A k t) + cu t) 0) := by
      rw [p_X8_lays_L52, m_ends hV hM R hkt htN, bd1_s, nm_s]
      simp (disch := omega) only [lt_nI, ib_nI, gd_t, tn_nI, p_X8_lays_B122_34, p_X8_lays_B126_36]
      rw [if_neg (by omega), if_neg (show ¬ nI 1 = (0 : Int32) by decide)]
    cases ha : al R A k t with
    | none =>
      have e2 : cnd R A tb k t = none := by unfold cnd; rw [ha]
      have hB : ∀ (o w : Int32), p_X8_lays_B127_27 (nI k) (nI t) cu pa nx (enc none) o w = some (.inl (nI (t + 1), cu, pa, nx)) := by
        intro o w
        rw [p_X8_lays_B127_27, if_pos (show enc none < (0 : Int32) by decide), show nI t + (1 : Int32) = nI (t + 1) from nI_1 t]
      rw [ha] at hs0
      simp only [hB, ite_self] at hs0
      exact same hs0 (by rw [e2, pick_nr])
    | some cut =>
      have hcut := al_cut ha
      rw [ha] at hs0
      cases hy : tb t with
      | none =>
        have e2 : cnd R A tb k t = none := by unfold cnd; rw [ha, hy]
        have e1 : cu t = nI 1000000 := by rw [hct.1, hy]; rfl
        have eo : enc (some cut) + cu t = nI (cut + 1000000) := by rw [e1]; exact nI_add _ _
        have hB : ∀ (w : Int32), p_X8_lays_B127_27 (nI k) (nI t) cu pa nx (enc (some cut)) (nI (cut + 1000000)) w = some (.inl (nI (t + 1), cu, pa, nx)) := by
          intro w
          have e3 : ((1000000 : Int32) ≤ nI (cut + 1000000)) = (1000000 ≤ cut + 1000000) := le_nI (a := 1000000) (by omega) (by omega)
          rw [p_X8_lays_B127_27, if_neg (show ¬ enc (some cut) < (0 : Int32) from nI_pos (n := cut) (by omega)), if_pos (by rw [e3]; omega), show nI t + (1 : Int32) = nI (t + 1) from nI_1 t]
        rw [eo] at hs0
        simp only [hB, ite_self] at hs0
        exact same hs0 (by rw [e2, pick_nr])
      | some y =>
        obtain ⟨b1, b2, -, -⟩ := hT t (by omega) htN y hy
        have e2 : cnd R A tb k t = some (y.1 + 1 + 100 * cut, t) := by unfold cnd; rw [ha, hy]
        have e1 : cu t = nI (y.1 / 100) := by rw [hct.1, hy]; rfl
        have ep : pa t = nI (y.1 % 100) := by rw [hct.2.1, hy]; rfl
        have eo : enc (some cut) + cu t = nI (cut + y.1 / 100) := by rw [e1]; exact nI_add _ _
        have hcut1 : cut ≤ 1 := by omega
        have e3 : ¬ ((1000000 : Int32) ≤ nI (cut + y.1 / 100)) := by
          show ¬ (nI 1000000 ≤ nI (cut + y.1 / 100))
          rw [le_nI (by omega) (by omega)]; omega
        have hB0 : p_X8_lays_B127_27 (nI k) (nI t) cu pa nx (enc (some cut)) (nI (cut + y.1 / 100)) 0 = some (.inl (nI (t + 1), cu, pa, nx)) := by
          rw [p_X8_lays_B127_27, if_neg (show ¬ enc (some cut) < (0 : Int32) from nI_pos (n := cut) (by omega)), if_neg e3, if_pos (show (0 : Int32) = 0 from rfl), show nI t + (1 : Int32) = nI (t + 1) from nI_1 t]
        have hB1 : p_X8_lays_B127_27 (nI k) (nI t) cu pa nx (enc (some cut)) (nI (cut + y.1 / 100)) 1 = some (.inl (nI (t + 1), upd cu k (nI (cut + y.1 / 100)), upd pa k (nI (y.1 % 100 + 1)), upd nx k (nI t))) := by
          rw [p_X8_lays_B127_27, if_neg (show ¬ enc (some cut) < (0 : Int32) from nI_pos (n := cut) (by omega)), if_neg e3, if_neg (show ¬ (1 : Int32) = 0 by decide), show nI t + (1 : Int32) = nI (t + 1) from nI_1 t]
          simp (disch := omega) only [ib_nI, gd_t, tn_nI, ep]
          rw [show nI (y.1 % 100) + (1 : Int32) = nI (y.1 % 100 + 1) from nI_1 _]
        rw [eo, hB0, hB1, ep, show nI (y.1 % 100) + (1 : Int32) = nI (y.1 % 100 + 1) from nI_1 _] at hs0
        have take : p_X8_lays_L52 v (nI 1) R (nI (A 0)) (nI k) (nI t, cu, pa, nx) = some (.inl (nI (t + 1), upd cu k (nI (cut + y.1 / 100)), upd pa k (nI (y.1 % 100 + 1)), upd nx k (nI t))) → pick acc (cnd R A tb k t) = some (y.1 + 1 + 100 * cut, t) →
            ∃ (z : Int32) (cF pF xF : Nat → Int32), loopN (p_X8_lays_L52 v (nI 1) R (nI (A 0)) (nI k)) (m + 1) (nI t, cu, pa, nx) = some (z, cF, pF, xF) ∧ MW A tb cF pF xF (k + 1) ∧ cF k = mC (pgf R A tb k (n + 1) t acc) ∧ pF k = mP (pgf R A tb k (n + 1) t acc) ∧ (∀ x, pgf R A tb k (n + 1) t acc = some x → xF k = nI x.2) := by
          intro q1 q2
          refine cont _ _ _ q1 ?_ ?_ ?_ ?_
          · intro j j1 j2
            rw [upd_ne _ _ (by omega), upd_ne _ _ (by omega), upd_ne _ _ (by omega)]
            exact hMW j j1 j2
          · rw [q2, upd_same]; show _ = nI ((y.1 + 1 + 100 * cut) / 100); congr 1; omega
          · rw [q2, upd_same]; show _ = nI ((y.1 + 1 + 100 * cut) % 100); congr 1; omega
          · intro x hx; rw [q2] at hx; cases hx; rw [upd_same]
        cases acc with
        | none =>
          have e4 : nI (cut + y.1 / 100) < cu k := by
            rw [hc]; show nI (cut + y.1 / 100) < nI 1000000
            rw [lt_nI (by omega) (by omega)]; omega
          rw [if_pos e4] at hs0
          exact take hs0 (by rw [e2]; rfl)
        | some x =>
          obtain ⟨o1, o2, -⟩ := hO x rfl
          have ec : cu k = nI (x.1 / 100) := hc
          have epk : pa k = nI (x.1 % 100) := hp
          rw [ec, epk] at hs0
          simp (disch := omega) only [lt_nI, eq_nI] at hs0
          by_cases q1 : cut + y.1 / 100 < x.1 / 100
          · rw [if_pos q1] at hs0
            exact take hs0 (by rw [e2]; simp only [pick]; rw [if_pos (by omega)])
          · rw [if_neg q1] at hs0
            by_cases q2 : cut + y.1 / 100 = x.1 / 100
            · rw [if_pos q2] at hs0
              by_cases q3 : x.1 % 100 < y.1 % 100 + 1
              · rw [if_pos q3] at hs0
                exact same hs0 (by rw [e2]; simp only [pick]; rw [if_neg (by omega)])
              · rw [if_neg q3] at hs0
                exact take hs0 (by rw [e2]; simp only [pick]; rw [if_pos (by omega)])
            · rw [if_neg q2] at hs0
              exact same hs0 (by rw [e2]; simp only [pick]; rw [if_neg (by omega)])
theorem m_lays_loop {v : Nat → Int32} {A : Nat → Nat} (hV : VA A) (hM : repM v A) (R : Nat → Int32) : ∀ (t n : Nat) (cu pa nx : Nat → Int32), t ≤ A 0 → MW A (pgt R A (A 0 - t)) cu pa nx t → t < n →
    ∃ (z : Int32) (cF pF xF : Nat → Int32), loopN (p_X8_lays_L29 v (nI 1) R (nI (A 0))) n (nI t - 1, cu, pa, nx) = some (z, cF, pF, xF) ∧ MW A (pgt R A (A 0)) cF pF xF 0 := by
  have h0 := hV.n
  have hu := fuel_ge
  intro t
  induction t with
  | zero =>
    intro n cu pa nx ht hMW hn
    obtain ⟨n, rfl⟩ : ∃ m, n = m + 1 := ⟨n - 1, by omega⟩
    refine ⟨_, cu, pa, nx, loopN_out (e := (nI 0 - 1, cu, pa, nx)) ?_, hMW⟩
    rw [p_X8_lays_L29]
    rw [if_pos (by decide)]
  | succ t ih =>
    intro n cu pa nx ht hMW hn
    obtain ⟨n, rfl⟩ : ∃ m, n = m + 1 := ⟨n - 1, by omega⟩
    have hT := TB_pgt (R := R) hV (A 0 - (t + 1)) (by omega)
    rw [show A 0 - (A 0 - (t + 1)) = t + 1 by omega] at hT
    obtain ⟨z, cF, pF, xF, e, q1, q2, q3, q4⟩ := m_bP_loop hV hM R (k := t) (tb := pgt R A (A 0 - (t + 1))) (by omega) hT (A 0 - t) (t + 1) fuel none (upd cu t 1000000) (upd pa t 0) nx (by omega) (by omega) (by omega) (fun _ h => by cases h)
      (by intro j j1 j2; rw [upd_ne _ _ (by omega), upd_ne _ _ (by omega)]; exact hMW j (by omega) j2) (by rw [upd_same]; rfl) (by rw [upd_same]; rfl) (fun _ h => by cases h)
    have hs : p_X8_lays_L29 v (nI 1) R (nI (A 0)) (nI (t + 1) - 1, cu, pa, nx) = some (.inl (nI t - 1, cF, pF, xF)) := by
      rw [p_X8_lays_L29]
      rw [show nI (t + 1) - (1 : Int32) = nI t from nI_pred t, if_neg (nI_pos (by omega)), nm_s, show nI t + (1 : Int32) = nI (t + 1) from nI_1 t]
      simp (disch := omega) only [ib_nI, gd_t, tn_nI]
      rw [e, bd4_s, Int32.sub_eq_add_neg]
    rw [loopN_in hs]
    refine ih n cF pF xF (by omega) ?_ (by omega)
    intro j j1 j2
    have ed : A 0 - t = A 0 - (t + 1) + 1 := by omega
    by_cases hj : j = t
    · have et : pgt R A (A 0 - t) j = pgf R A (pgt R A (A 0 - (t + 1))) j (A 0 - j) (j + 1) none := by
        rw [ed]
        show (if j = A 0 - (A 0 - (t + 1) + 1) then _ else _) = _
        rw [if_pos (by omega)]
      rw [et]
      subst hj
      exact ⟨q2, q3, fun _ => q4⟩
    · have et : pgt R A (A 0 - t) j = pgt R A (A 0 - (t + 1)) j := by
        rw [ed]
        show (if j = A 0 - (A 0 - (t + 1) + 1) then _ else _) = _
        rw [if_neg (by omega)]
      rw [et]
      exact q1 j (by omega) j2
theorem m_lays0_loop {v : Nat → Int32} {A : Nat → Nat} (hV : VA A) (R : Nat → Int32) : ∀ (t n : Nat) (cu pa nx : Nat → Int32), t ≤ A 0 → t < n →
    ∃ (z : Int32) (cF pF xF : Nat → Int32), loopN (p_X8_lays_L29 v (nI 0) R (nI (A 0))) n (nI t - 1, cu, pa, nx) = some (z, cF, pF, xF) := by
  have h0 := hV.n
  have hu := fuel_ge
  intro t
  induction t with
  | zero =>
    intro n cu pa nx ht hn
    obtain ⟨n, rfl⟩ : ∃ m, n = m + 1 := ⟨n - 1, by omega⟩
    refine ⟨_, cu, pa, nx, loopN_out (e := (nI 0 - 1, cu, pa, nx)) ?_⟩
    rw [p_X8_lays_L29]
    rw [if_pos (by decide)]
  | succ t ih =>
    intro n cu pa nx ht hn
    obtain ⟨n, rfl⟩ : ∃ m, n = m + 1 := ⟨n - 1, by omega⟩
    obtain ⟨f, ef⟩ : ∃ f, fuel = f + 1 := ⟨fuel - 1, by omega⟩
    have hi : ∀ (c2 p2 x2 : Nat → Int32), loopN (p_X8_lays_L52 v (nI 0) R (nI (A 0)) (nI t)) fuel (nI (t + 1), c2, p2, x2) = some (nI (t + 1), c2, p2, x2) := by
      intro c2 p2 x2
      rw [ef]
      refine loopN_out ?_
      rw [p_X8_lays_L52]
      simp only [show (nI 0 = (0 : Int32)) = True from propext ⟨fun _ => trivial, fun _ => rfl⟩, if_true, ite_self]
    have hs : p_X8_lays_L29 v (nI 0) R (nI (A 0)) (nI (t + 1) - 1, cu, pa, nx) = some (.inl (nI t - 1, upd cu t 1000000, upd pa t 0, nx)) := by
      rw [p_X8_lays_L29]
      rw [show nI (t + 1) - (1 : Int32) = nI t from nI_pred t, if_neg (nI_pos (by omega)), nm_s, show nI t + (1 : Int32) = nI (t + 1) from nI_1 t]
      simp (disch := omega) only [ib_nI, gd_t, tn_nI]
      rw [hi, bd4_s, Int32.sub_eq_add_neg]
    rw [loopN_in hs]
    exact ih n _ _ _ (by omega) (by omega)
/-- the table of the poem -/
def pgA (A : Nat → Nat) : Nat → Option (Nat × Nat) := pgt (RR A) A (A 0)
def dst (A : Nat → Nat) : Option (Nat × Nat) := if aF A (A 0) = 0 then none else pgA A 0
theorem m_lays {v : Nat → Int32} {A : Nat → Nat} (hV : VA A) (hM : repM v A) (z1 z2 : Int32) (R cu pa nx : Nat → Int32) : ∃ (RF cF pF xF : Nat → Int32), p_X8_lays z1 z2 v R cu pa nx = some (nI (aF A (A 0)), if dst A = none then 0 else 1, RF, cF, pF, xF) ∧ (∀ j, j < A 0 → RF j = RR A j) ∧ (dst A ≠ none → MW A (pgA A) cF pF xF 0) := by
  have h0 := hV.n
  have hu := fuel_ge
  obtain ⟨RF, e1, hR⟩ := m_sets hV hM z1 R
  have hfit := aF_le A (A 0)
  have base : p_X8_lays z1 z2 v R cu pa nx = bd4 (loopN (p_X8_lays_L29 v (nI (aF A (A 0))) RF (nI (A 0))) fuel (nI (A 0) - 1, upd cu (A 0) 0, upd pa (A 0) 0, nx)) fun f2_53 v_cuts_54 v_pages_55 v_next_56 => if nI (aF A (A 0)) = 0 then some (nI (aF A (A 0)), 0, RF, v_cuts_54, v_pages_55, v_next_56) else if 1000000 ≤ v_cuts_54 0 then some (nI (aF A (A 0)), 0, RF, v_cuts_54, v_pages_55, v_next_56) else some (nI (aF A (A 0)), 1, RF, v_cuts_54, v_pages_55, v_next_56) := by
    rw [p_X8_lays, e1, bd2_s, nm_s, nm_s, hM 0 (by omega)]
    simp (disch := omega) only [ib_nI, gd_t, tn_nI]
  rw [base]
  unfold dst
  rcases (show aF A (A 0) = 0 ∨ aF A (A 0) = 1 by omega) with hz | hz
  · rw [hz]
    obtain ⟨z, cF, pF, xF, e⟩ := m_lays0_loop (v := v) hV RF (A 0) fuel (upd cu (A 0) 0) (upd pa (A 0) 0) nx (by omega) (by omega)
    refine ⟨RF, cF, pF, xF, ?_, hR, fun h => absurd rfl h⟩
    rw [e, bd4_s, if_pos (show nI 0 = (0 : Int32) from rfl)]; rfl
  · rw [hz]
    obtain ⟨z, cF, pF, xF, e, hMW⟩ := m_lays_loop hV hM RF (A 0) fuel (upd cu (A 0) 0) (upd pa (A 0) 0) nx (by omega) (by
      intro j j1 j2
      have ej : j = A 0 := by omega
      subst ej
      rw [upd_same, upd_same, Nat.sub_self]
      have ez : pgt RF A 0 (A 0) = some (0, A 0) := by show (if A 0 = A 0 then _ else _) = _; rw [if_pos rfl]
      rw [ez]
      exact ⟨show (0 : Int32) = nI (0 / 100) by decide, show (0 : Int32) = nI (0 % 100) by decide, fun h => absurd h (by omega)⟩) (by omega)
    have eq : pgt RF A (A 0) = pgA A := funext (pgt_congr hR (A 0) (Nat.le_refl _))
    rw [eq] at hMW
    have hT := TB_pgt (R := RR A) hV (A 0) (Nat.le_refl _)
    refine ⟨RF, cF, pF, xF, ?_, hR, fun _ => hMW⟩
    rw [e, bd4_s, if_neg (show ¬ nI 1 = (0 : Int32) by decide), if_neg (show ¬ (1 : Nat) = 0 by decide), (hMW 0 (by omega) (by omega)).1]
    cases hp : pgA A 0 with
    | none => rw [if_pos (show (1000000 : Int32) ≤ mC none by decide), if_pos rfl]
    | some x =>
      have hx := hT 0 (by omega) (by omega) x hp
      have e3 : ¬ ((1000000 : Int32) ≤ mC (some x)) := by
        show ¬ (nI 1000000 ≤ nI (x.1 / 100))
        rw [le_nI (by omega) (by omega)]; omega
      rw [if_neg e3, if_neg (by simp)]
