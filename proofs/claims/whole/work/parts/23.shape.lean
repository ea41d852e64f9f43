/-! ===== ranges of arguments; shapes, stanza() ===== -/
theorem lg_lt (x y : Int64) : (lg_cmp x y < (0 : Int32)) = (x < y) := by
  unfold lg_cmp
  apply propext
  by_cases h : x > y
  · rw [if_pos h]
    exact ⟨fun z => absurd z (by decide), fun z => absurd h (Int64.not_lt.mpr (Int64.le_of_lt z))⟩
  · rw [if_neg h]
    by_cases h2 : x = y
    · rw [if_pos h2]
      subst h2
      exact ⟨fun z => absurd z (by decide), fun z => absurd z (Int64.lt_irrefl)⟩
    · rw [if_neg h2]
      refine ⟨fun _ => ?_, fun _ => by decide⟩
      rcases Int64.lt_or_eq_of_le (Int64.not_lt.mp h) with z | z
      · exact z
      · exact absurd z h2
theorem lg_gt (x y : Int64) : ((0 : Int32) < lg_cmp x y) = (y < x) := by
  unfold lg_cmp
  apply propext
  by_cases h : x > y
  · rw [if_pos h]
    exact ⟨fun _ => h, fun _ => by decide⟩
  · rw [if_neg h]
    refine ⟨fun z => ?_, fun z => absurd z h⟩
    split at z <;> exact absurd z (by decide)
theorem lg_eq (x y : Int64) : (lg_cmp x y = (0 : Int32)) = (x = y) := by
  unfold lg_cmp
  apply propext
  by_cases h : x > y
  · rw [if_pos h]
    exact ⟨fun z => absurd z (by decide), fun z => absurd h (by rw [z]; exact Int64.lt_irrefl)⟩
  · rw [if_neg h]
    by_cases h2 : x = y
    · rw [if_pos h2]; exact ⟨fun _ => h2, fun _ => rfl⟩
    · rw [if_neg h2]; exact ⟨fun z => absurd z (by decide), fun z => absurd z h2⟩
theorem i64_lt (x y : Int32) : (Int32.toInt64 x < Int32.toInt64 y) = (x < y) := by
  apply propext
  rw [Int64.lt_iff_toInt_lt, Int32.lt_iff_toInt_lt, Int32.toInt_toInt64, Int32.toInt_toInt64]
theorem m_in (x a b : Int32) : p_X8_in (Int32.toInt64 x) (Int32.toInt64 a) (Int32.toInt64 b) = some (if x < a then 0 else if b < x then 0 else 1) := by
  rw [p_X8_in]
  simp only [lg_lt, lg_gt, i64_lt]
  by_cases h1 : x < a
  · rw [if_pos h1, if_pos h1]
  · rw [if_neg h1, if_neg h1]
    by_cases h2 : b < x
    · rw [if_pos h2, if_pos h2]
    · rw [if_neg h2, if_neg h2]
/-- an argument below a small number: not, or a small number itself -/
theorem ix_cases (x : Int32) {N : Nat} (hN : N < 1000000) : (¬ x < 0 → ¬ x < nI N) ∧ (x < 0 ∨ nI N - 1 < x) ∧ (x < 0 ∨ nI N ≤ x) ∨ ∃ k, k < N ∧ x = nI k ∧ ¬ x < 0 ∧ x < nI N ∧ ¬ nI N - 1 < x ∧ ¬ nI N ≤ x := by
  have e1 : (nI N - nI 1).toInt = (N : Int) - (1 : Nat) := pk_sub_toInt (by omega) (by omega)
  have e1 : (nI N - 1).toInt = (N : Int) - 1 := e1
  have e2 : (nI N).toInt = (N : Int) := nI_toInt (by omega)
  by_cases h : x < 0
  · left
    exact ⟨fun z => absurd h z, Or.inl h, Or.inl h⟩
  · obtain ⟨j, hj, rfl⟩ := nI_of h
    have e3 : (nI j).toInt = (j : Int) := nI_toInt hj
    by_cases h2 : j < N
    · right
      refine ⟨j, h2, rfl, h, ?_, ?_, ?_⟩
      · rw [Int32.lt_iff_toInt_lt, e2, e3]; omega
      · rw [Int32.lt_iff_toInt_lt, e1, e3]; omega
      · rw [Int32.le_iff_toInt_le, e2, e3]; omega
    · left
      refine ⟨fun _ => ?_, Or.inr ?_, Or.inr ?_⟩
      · rw [Int32.lt_iff_toInt_lt, e2, e3]; omega
      · rw [Int32.lt_iff_toInt_lt, e1, e3]; omega
      · rw [Int32.le_iff_toInt_le, e2, e3]; omega
theorem m_inN (x : Int32) (N : Nat) : p_X8_in (Int32.toInt64 x) 0 (Int32.toInt64 (nI N - 1)) = some (if x < 0 then 0 else if nI N - 1 < x then 0 else 1) := m_in x 0 (nI N - 1)
theorem cm_line {c m : Nat → Int32} {A : Nat → Nat} (hV : VA A) (hC : repC c A) (hM : repM m A) (x : Int32) : (p_X4_hasLine c x = some 0 ∧ p_X8_isLine m x = some 0) ∨ ∃ k, k < A 0 ∧ x = nI k ∧ p_X4_hasLine c x = some 1 ∧ p_X8_isLine m x = some 1 := by
  have h0 := hV.n
  rw [p_X4_hasLine, p_X8_isLine, c_lines hC, bd1_s, hM 0 (by omega), m_inN, bd1_s]
  rcases ix_cases x (N := A 0) (by omega) with ⟨h1, h2, h3⟩ | ⟨k, hk, hx, h1, h2, h3, h4⟩
  · left
    by_cases h : x < 0
    · rw [if_pos h, if_pos h]; exact ⟨rfl, rfl⟩
    · rw [if_neg h, if_neg h, if_pos (h2.resolve_left h), if_pos (h3.resolve_left h)]; exact ⟨rfl, rfl⟩
  · right
    refine ⟨k, hk, hx, ?_, ?_⟩
    · rw [if_neg h1, if_neg h4]
    · rw [if_neg h1, if_neg h3]; rfl
-- shapes
def shp (A : Nat → Nat) : Nat → Nat → Int64 → Int64
  | 0, _, v => v
  | d + 1, l, v => shp A d (l + 1) (10 * v + Int32.toInt64 (nI (rk A l)))
def sh (A : Nat → Nat) (f : Nat) : Int64 := shp A (sE A f - f) f 0
theorem c_shp_loop {c : Nat → Int32} {A : Nat → Nat} (hV : VA A) (hC : repC c A) {e : Nat} (he : e ≤ A 0) : ∀ (d l n : Nat) (v : Int64), l + d = e → d < n → loopN (p_X4_shapeOf_L12 c (nI e)) n (v, nI l) = some (shp A d l v, nI e) := by
  have h0 := hV.n
  intro d
  induction d with
  | zero =>
    intro l n v hl hn
    obtain ⟨n, rfl⟩ : ∃ m, n = m + 1 := ⟨n - 1, by omega⟩
    refine loopN_out ?_
    simp (disch := omega) only [p_X4_shapeOf_L12, le_nI]
    rw [if_pos (by omega), shp, show l = e by omega]
  | succ d ih =>
    intro l n v hl hn
    obtain ⟨n, rfl⟩ : ∃ m, n = m + 1 := ⟨n - 1, by omega⟩
    have hs : p_X4_shapeOf_L12 c (nI e) (v, nI l) = some (.inl (10 * v + Int32.toInt64 (nI (rk A l)), nI (l + 1))) := by
      rw [p_X4_shapeOf_L12, c_rankOf hV hC (by omega)]
      simp (disch := omega) only [le_nI, bd1_s, nm_s]
      rw [if_neg (by omega), show nI l + (1 : Int32) = nI (l + 1) from nI_1 l]
    rw [loopN_in hs, shp]
    exact ih (l + 1) n _ (by omega) (by omega)
theorem c_shapeOf {c : Nat → Int32} {A : Nat → Nat} (hV : VA A) (hC : repC c A) {f : Nat} (hf : f < A 0) : p_X4_shapeOf c (nI f) = some (sh A f) := by
  have h0 := hV.n
  have h1 := sE_gt A f
  have h2 := sE_le hf
  have hu := fuel_ge
  rw [p_X4_shapeOf, c_stanzaEnd hV hC hf, bd1_s, c_shp_loop hV hC h2 (sE A f - f) f fuel 0 (by omega) (by omega), bd2_s]
  rfl
theorem m_shp_loop {m : Nat → Int32} {A : Nat → Nat} (hV : VA A) (hM : repM m A) {f : Nat} (hf : f < A 0) : ∀ (d l n : Nat) (v : Int64), l + d = sE A f → d < n → loopN (p_X8_shapeOf_L11 m (nI f)) n (v, nI l) = some (shp A d l v, nI (sE A f)) := by
  have h0 := hV.n
  have he := sE_le hf
  intro d
  induction d with
  | zero =>
    intro l n v hl hn
    obtain ⟨n, rfl⟩ : ∃ m, n = m + 1 := ⟨n - 1, by omega⟩
    refine loopN_out ?_
    rw [p_X8_shapeOf_L11, m_endOf hV hM hf, bd1_s]
    simp (disch := omega) only [le_nI]
    rw [if_pos (by omega), shp, show l = sE A f by omega]
  | succ d ih =>
    intro l n v hl hn
    obtain ⟨n, rfl⟩ : ∃ m, n = m + 1 := ⟨n - 1, by omega⟩
    have hs : p_X8_shapeOf_L11 m (nI f) (v, nI l) = some (.inl (10 * v + Int32.toInt64 (nI (rk A l)), nI (l + 1))) := by
      rw [p_X8_shapeOf_L11, m_endOf hV hM hf, bd1_s, m_rank hV hM (by omega)]
      simp (disch := omega) only [le_nI, bd1_s, nm_s]
      rw [if_neg (by omega), show nI l + (1 : Int32) = nI (l + 1) from nI_1 l]
    rw [loopN_in hs, shp]
    exact ih (l + 1) n _ (by omega) (by omega)
theorem m_shapeOf {m : Nat → Int32} {A : Nat → Nat} (hV : VA A) (hM : repM m A) {z : Nat} (hz : z < sN A) : p_X8_shapeOf m (nI z) = some (sh A (fL A z)) := by
  have h0 := hV.n
  have hf := fL_lt hz
  have h1 := sE_gt A (fL A z)
  have h2 := sE_le hf
  have hu := fuel_ge
  rw [p_X8_shapeOf, m_firstLine hV hM hz, bd1_s, m_shp_loop hV hM hf (sE A (fL A z) - fL A z) (fL A z) fuel 0 (by omega) (by omega), bd2_s]
  rfl
-- lines and rhymes of a stanza
theorem m_linesOf {m : Nat → Int32} {A : Nat → Nat} (hV : VA A) (hM : repM m A) {z : Nat} (hz : z < sN A) : p_X8_linesOf m (nI z) = some (nI (sE A (fL A z) - fL A z)) := by
  have hf := fL_lt hz
  have h1 := sE_gt A (fL A z)
  rw [p_X8_linesOf, m_firstLine hV hM hz, bd1_s, m_endOf hV hM hf, bd1_s, sub_nI (by omega)]
def rhm (A : Nat → Nat) : Nat → Nat → Nat → Nat
  | 0, _, m => m
  | d + 1, l, m => rhm A d (l + 1) (sb m (A (9 + 15 * l)))
theorem rhm_lt {A : Nat → Nat} (hV : VA A) : ∀ d l m, l + d ≤ 12 → m < 16 → rhm A d l m < 16
  | 0, _, _, _, h => h
  | d + 1, l, m, hl, h => by
    have h1 := hV.ln (k := l) (by omega)
    exact rhm_lt hV d (l + 1) _ (by omega) (sb_lt h (by omega))
theorem c_rhm_loop {c : Nat → Int32} {A : Nat → Nat} (hV : VA A) (hC : repC c A) {e : Nat} (he : e ≤ A 0) : ∀ (d l n m : Nat), l + d = e → m < 16 → d < n → loopN (p_X4_rhymesIn_L11 c (nI e)) n (nI m, nI l) = some (nI (rhm A d l m), nI e) := by
  have h0 := hV.n
  intro d
  induction d with
  | zero =>
    intro l n m hl hm hn
    obtain ⟨n, rfl⟩ : ∃ m, n = m + 1 := ⟨n - 1, by omega⟩
    refine loopN_out ?_
    simp (disch := omega) only [p_X4_rhymesIn_L11, le_nI]
    rw [if_pos (by omega), rhm, show l = e by omega]
  | succ d ih =>
    intro l n m hl hm hn
    obtain ⟨n, rfl⟩ : ∃ m, n = m + 1 := ⟨n - 1, by omega⟩
    have h1 := hV.ln (k := l) (by omega)
    have hs : p_X4_rhymesIn_L11 c (nI e) (nI m, nI l) = some (.inl (nI (sb m (A (9 + 15 * l))), nI (l + 1))) := by
      rw [p_X4_rhymesIn_L11, c_rhymeOf hV hC (by omega)]
      simp (disch := omega) only [le_nI, bd1_s, nm_s]
      rw [if_neg (by omega), show nI l + (1 : Int32) = nI (l + 1) from nI_1 l, sb_or hm (by omega)]
    rw [loopN_in hs, rhm]
    exact ih (l + 1) n _ (by omega) (sb_lt hm (by omega)) (by omega)
theorem c_rhymesIn {c : Nat → Int32} {A : Nat → Nat} (hV : VA A) (hC : repC c A) {f : Nat} (hf : f < A 0) : p_X4_rhymesIn c (nI f) = some (nI (pcn (rhm A (sE A f - f) f 0))) := by
  have h0 := hV.n
  have h1 := sE_gt A f
  have h2 := sE_le hf
  have hu := fuel_ge
  rw [p_X4_rhymesIn, c_stanzaEnd hV hC hf, bd1_s, show (0 : Int32) = nI 0 from rfl, c_rhm_loop hV hC h2 (sE A f - f) f fuel 0 (by omega) (by omega) (by omega), bd2_s, c_bitCount (rhm_lt hV _ _ _ (by omega) (by omega)), bd1_s]
theorem m_rhm_loop {v : Nat → Int32} {A : Nat → Nat} (hV : VA A) (hM : repM v A) {f : Nat} (hf : f < A 0) : ∀ (d l n m : Nat), l + d = sE A f → m < 16 → d < n → loopN (p_X8_rhymesOf_L11 v (nI f)) n (nI m, nI l) = some (nI (rhm A d l m), nI (sE A f)) := by
  have h0 := hV.n
  have he := sE_le hf
  intro d
  induction d with
  | zero =>
    intro l n m hl hm hn
    obtain ⟨n, rfl⟩ : ∃ m, n = m + 1 := ⟨n - 1, by omega⟩
    refine loopN_out ?_
    rw [p_X8_rhymesOf_L11, m_endOf hV hM hf, bd1_s]
    simp (disch := omega) only [le_nI]
    rw [if_pos (by omega), rhm, show l = sE A f by omega]
  | succ d ih =>
    intro l n m hl hm hn
    obtain ⟨n, rfl⟩ : ∃ m, n = m + 1 := ⟨n - 1, by omega⟩
    have h1 := hV.ln (k := l) (by omega)
    have hs : p_X8_rhymesOf_L11 v (nI f) (nI m, nI l) = some (.inl (nI (sb m (A (9 + 15 * l))), nI (l + 1))) := by
      rw [p_X8_rhymesOf_L11, m_endOf hV hM hf, bd1_s, show p_X8_at v (nI l) 0 = _ from m_at (i := 0) hM (by omega) (by omega)]
      simp (disch := omega) only [le_nI, bd1_s, nm_s]
      rw [if_neg (by omega), show nI l + (1 : Int32) = nI (l + 1) from nI_1 l, show 9 + 15 * l + 0 = 9 + 15 * l from rfl, sb_or hm (by omega)]
    rw [loopN_in hs, rhm]
    exact ih (l + 1) n _ (by omega) (sb_lt hm (by omega)) (by omega)
theorem m_rhymesOf {v : Nat → Int32} {A : Nat → Nat} (hV : VA A) (hM : repM v A) {z : Nat} (hz : z < sN A) : p_X8_rhymesOf v (nI z) = some (nI (pcn (rhm A (sE A (fL A z) - fL A z) (fL A z) 0))) := by
  have h0 := hV.n
  have hf := fL_lt hz
  have h1 := sE_gt A (fL A z)
  have h2 := sE_le hf
  have hu := fuel_ge
  rw [p_X8_rhymesOf, m_firstLine hV hM hz, bd1_s, show (0 : Int32) = nI 0 from rfl, m_rhm_loop hV hM hf (sE A (fL A z) - fL A z) (fL A z) fuel 0 (by omega) (by omega) (by omega), bd2_s, m_ones (rhm_lt hV _ _ _ (by omega) (by omega)), bd1_s]
-- the first stanza alike
def lk (A : Nat → Nat) (z y : Nat) : Prop := sE A (fL A y) - fL A y = sE A (fL A z) - fL A z ∧ sh A (fL A y) = sh A (fL A z)
theorem cm_alike {c m : Nat → Int32} {A : Nat → Nat} (hV : VA A) (hC : repC c A) (hM : repM m A) {z : Nat} (hz : z < sN A) : ∃ r : Int32, p_X7_firstLike c (nI z) = some r ∧ p_X8_alike m (nI z) = some r := by
  have h0 := hV.n
  have hn := sN_le hV
  have hu := fuel_ge
  have hf := fL_lt hz
  have h1 := sE_gt A (fL A z)
  have h2 := sE_le hf
  have key : ∀ (d y n : Nat), y + d = z → d < n →
      (∃ w : Nat, loopN (p_X7_firstLike_L33 c (nI z) (nI (sE A (fL A z) - fL A z)) (sh A (fL A z))) n (nI y) = some (.inr (nI w)) ∧ loopN (p_X8_alike_L2 m (nI z)) n (nI y) = some (nI w)) ∨
      (loopN (p_X7_firstLike_L33 c (nI z) (nI (sE A (fL A z) - fL A z)) (sh A (fL A z))) n (nI y) = some (.inl (nI z)) ∧ loopN (p_X8_alike_L2 m (nI z)) n (nI y) = some (nI z)) := by
    intro d
    induction d with
    | zero =>
      intro y n hy hn
      obtain ⟨n, rfl⟩ : ∃ m, n = m + 1 := ⟨n - 1, by omega⟩
      right
      have e : y = z := by omega
      subst e
      constructor
      · refine loopN_out ?_
        simp (disch := omega) only [p_X7_firstLike_L33, le_nI]
        rw [if_pos (by omega)]
      · refine loopN_out ?_
        rw [p_X8_alike_L2, m_linesOf hV hM hz, bd1_s, bd1_s, if_pos rfl, m_shapeOf hV hM hz, bd1_s, bd1_s]
        simp only [lg_eq, if_true]
    | succ d ih =>
      intro y n hy hn
      obtain ⟨n, rfl⟩ : ∃ m, n = m + 1 := ⟨n - 1, by omega⟩
      have hy1 : y < sN A := by omega
      have gf := fL_lt hy1
      have g1 := sE_gt A (fL A y)
      have g2 := sE_le gf
      have hs7 : p_X7_firstLike_L33 c (nI z) (nI (sE A (fL A z) - fL A z)) (sh A (fL A z)) (nI y) = if sE A (fL A y) - fL A y = sE A (fL A z) - fL A z then (if sh A (fL A y) = sh A (fL A z) then some (.inr (.inr (nI y))) else some (.inl (nI (y + 1)))) else some (.inl (nI (y + 1))) := by
        rw [p_X7_firstLike_L33, c_firstLineOf hV hC hy1, bd1_s, c_stanzaEnd hV hC gf, bd1_s, c_shapeOf hV hC gf, bd1_s, sub_nI (by omega), show nI y + (1 : Int32) = nI (y + 1) from nI_1 y]
        simp (disch := omega) only [le_nI, eq_nI, lg_eq]
        rw [if_neg (by omega)]
      have hs8 : p_X8_alike_L2 m (nI z) (nI y) = if sE A (fL A y) - fL A y = sE A (fL A z) - fL A z then (if sh A (fL A y) = sh A (fL A z) then some (.inr (nI y)) else some (.inl (nI (y + 1)))) else some (.inl (nI (y + 1))) := by
        rw [p_X8_alike_L2, m_linesOf hV hM hz, m_linesOf hV hM hy1, bd1_s, bd1_s, m_shapeOf hV hM hz, m_shapeOf hV hM hy1, bd1_s, bd1_s, show nI y + (1 : Int32) = nI (y + 1) from nI_1 y]
        simp (disch := omega) only [eq_nI, lg_eq]
      by_cases q1 : sE A (fL A y) - fL A y = sE A (fL A z) - fL A z
      · rw [if_pos q1] at hs7 hs8
        by_cases q2 : sh A (fL A y) = sh A (fL A z)
        · rw [if_pos q2] at hs7 hs8
          left
          exact ⟨y, loopN_out hs7, loopN_out hs8⟩
        · rw [if_neg q2] at hs7 hs8
          rw [loopN_in hs7, loopN_in hs8]
          exact ih (y + 1) n (by omega) (by omega)
      · rw [if_neg q1] at hs7 hs8
        rw [loopN_in hs7, loopN_in hs8]
        exact ih (y + 1) n (by omega) (by omega)
  rw [p_X7_firstLike, p_X8_alike, c_firstLineOf hV hC hz, bd1_s, c_stanzaEnd hV hC hf, bd1_s, nm_s, c_shapeOf hV hC hf, bd1_s, sub_nI (by omega), show (0 : Int32) = nI 0 from rfl]
  rcases key z 0 fuel (by omega) (by omega) with ⟨w, k1, k2⟩ | ⟨k1, k2⟩
  · rw [k1, k2]; exact ⟨nI w, rfl, rfl⟩
  · rw [k1, k2]; exact ⟨nI z, rfl, rfl⟩
theorem pr_stanza {c m : Nat → Int32} {A : Nat → Nat} (hV : VA A) (hC : repC c A) (hM : repM m A) (x1 x2 : Int32) : ∃ r : Int64, p_X7_stanza c x1 x2 = some r ∧ p_X8_stanza m x1 x2 = some r := by
  have h0 := hV.n
  have hn := sN_le hV
  rw [p_X7_stanza, p_X8_stanza, c_stanzas hV hC, m_stanzas hV hM, bd1_s, bd1_s, m_inN, bd1_s]
  rcases ix_cases x1 (N := sN A) (by omega) with ⟨h1, h2, h3⟩ | ⟨k, hk, hx, h1, h2, h3, h4⟩
  · refine ⟨-1, ?_, ?_⟩
    · by_cases h : x1 < 0
      · rw [if_pos h]
      · rw [if_neg h, if_neg (h1 h)]
    · by_cases h : x1 < 0
      · rw [if_pos h]; rfl
      · rw [if_neg h, if_pos (h2.resolve_left h)]; rfl
  · subst hx
    have hf := fL_lt hk
    have g1 := sE_gt A (fL A k)
    obtain ⟨r4, e1, e2⟩ := cm_alike hV hC hM hk
    rw [if_neg h1, if_pos h2, if_neg h1, if_neg h3, if_neg (show ¬ (1 : Int32) = 0 by decide), c_firstLineOf hV hC hk, bd1_s, m_firstLine hV hM hk, bd1_s, c_stanzaEnd hV hC hf, bd1_s, m_linesOf hV hM hk, bd1_s, c_rhymesIn hV hC hf, bd1_s, m_rhymesOf hV hM hk, bd1_s, c_shapeOf hV hC hf, bd1_s, m_shapeOf hV hM hk, bd1_s, e1, e2, bd1_s, sub_nI (by omega)]
    by_cases q0 : x2 = 0
    · rw [if_pos q0]; exact ⟨_, rfl, rfl⟩
    rw [if_neg q0]
    by_cases q1 : x2 = 1
    · rw [if_pos q1]; exact ⟨_, rfl, rfl⟩
    rw [if_neg q1]
    by_cases q2 : x2 = 2
    · rw [if_pos q2]; exact ⟨_, rfl, rfl⟩
    rw [if_neg q2]
    by_cases q3 : x2 = 3
    · rw [if_pos q3]; exact ⟨_, rfl, rfl⟩
    rw [if_neg q3]
    by_cases q4 : x2 = 4
    · rw [if_pos q4]; exact ⟨_, rfl, rfl⟩
    rw [if_neg q4]
    exact ⟨_, rfl, rfl⟩
