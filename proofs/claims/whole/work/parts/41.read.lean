-- reading: the lines that are read
def LR (T : Nat → Int32) (B : Nat → Nat) (m : Nat) : Prop := T 8 = nI m ∧ ∀ k, k < m → T (9 + k) = nI (B (15 * k)) ∧ T (21 + k) = nI (if k = 0 then 1 else B (15 * k + 1)) ∧ T (33 + k) = nI (B (15 * k + 2)) ∧ ∀ i, i < B (15 * k + 2) → T (45 + 6 * k + i) = nI (4 * B (15 * k + 3 + i) + B (15 * k + 9 + i))
def VB (B : Nat → Nat) (m : Nat) : Prop := m ≤ 12 ∧ ∀ k, k < m → B (15 * k) ≤ 3 ∧ B (15 * k + 1) ≤ 1 ∧ B (15 * k + 2) ≤ 6 ∧ ∀ i, i < 6 → B (15 * k + 3 + i) ≤ 9 ∧ B (15 * k + 9 + i) ≤ 3 ∧ (i < B (15 * k + 2) → 1 ≤ B (15 * k + 3 + i))
def bW (B : Nat → Nat) (m w x y : Nat) : Nat → Nat := uA (uA (uA B (15 * m + 3 + w) x) (15 * m + 9 + w) y) (15 * m + 2) (w + 1)
theorem bW_out {B : Nat → Nat} {m w x y j : Nat} (h1 : j ≠ 15 * m + 3 + w) (h2 : j ≠ 15 * m + 9 + w) (h3 : j ≠ 15 * m + 2) : bW B m w x y j = B j := by
  unfold bW
  rw [uA_n _ _ h3, uA_n _ _ h2, uA_n _ _ h1]
theorem bW_n {B : Nat → Nat} {m w x y : Nat} : bW B m w x y (15 * m + 2) = w + 1 := uA_s _ _ _
theorem bW_x {B : Nat → Nat} {m w x y : Nat} (hw : w < 6) : bW B m w x y (15 * m + 3 + w) = x := by
  unfold bW
  rw [uA_n _ _ (by omega), uA_n _ _ (by omega), uA_s]
theorem bW_y {B : Nat → Nat} {m w x y : Nat} (hw : w < 6) : bW B m w x y (15 * m + 9 + w) = y := by
  unfold bW
  rw [uA_n _ _ (by omega), uA_s]
theorem RL_word {T T' : Nat → Int32} {B : Nat → Nat} {m w x y : Nat} (hR : LR T B (m + 1)) (hV : VB B (m + 1)) (hw : B (15 * m + 2) = w) (hw6 : w < 6) (hx : 1 ≤ x ∧ x ≤ 9) (hy : y ≤ 3) (hT : ∀ j, T' j = if j = 33 + m then nI (w + 1) else if j = 45 + 6 * m + w then nI (4 * x + y) else T j) : LR T' (bW B m w x y) (m + 1) ∧ VB (bW B m w x y) (m + 1) := by
  obtain ⟨h12, hB⟩ := hV
  obtain ⟨h8, hL⟩ := hR
  refine ⟨⟨by rw [hT, if_neg (by omega), if_neg (by omega)]; exact h8, fun k hk => ?_⟩, h12, fun k hk => ?_⟩
  · obtain ⟨q1, q2, q3, q4⟩ := hL k hk
    obtain ⟨v1, v2, v3, v4⟩ := hB k hk
    refine ⟨?_, ?_, ?_, fun i hi => ?_⟩
    · rw [hT, if_neg (by omega), if_neg (by omega), bW_out (by omega) (by omega) (by omega)]; exact q1
    · rw [hT, if_neg (by omega), if_neg (by omega), bW_out (by omega) (by omega) (by omega)]; exact q2
    · by_cases h : k = m
      · subst h; rw [hT, if_pos rfl, bW_n]
      · rw [hT, if_neg (by omega), if_neg (by omega), bW_out (by omega) (by omega) (by omega)]; exact q3
    · by_cases h : k = m
      · subst h
        rw [bW_n] at hi
        rw [hT, if_neg (by omega)]
        by_cases h2 : i = w
        · subst h2; rw [if_pos rfl, bW_x hw6, bW_y hw6]
        · rw [if_neg (by omega), bW_out (by omega) (by omega) (by omega), bW_out (by omega) (by omega) (by omega)]; exact q4 i (by omega)
      · rw [bW_out (by omega) (by omega) (by omega)] at hi
        rw [hT, if_neg (by omega), if_neg (by omega), bW_out (by omega) (by omega) (by omega), bW_out (by omega) (by omega) (by omega)]; exact q4 i hi
  · obtain ⟨v1, v2, v3, v4⟩ := hB k hk
    refine ⟨by rw [bW_out (by omega) (by omega) (by omega)]; exact v1, by rw [bW_out (by omega) (by omega) (by omega)]; exact v2, ?_, fun i hi => ?_⟩
    · by_cases h : k = m
      · subst h; rw [bW_n]; omega
      · rw [bW_out (by omega) (by omega) (by omega)]; exact v3
    · obtain ⟨u1, u2, u3⟩ := v4 i hi
      by_cases h : k = m ∧ i = w
      · obtain ⟨rfl, rfl⟩ := h
        rw [bW_x hw6, bW_y hw6]; exact ⟨hx.2, hy, fun _ => hx.1⟩
      · rw [bW_out (by omega) (by omega) (by omega), bW_out (j := 15 * k + 9 + i) (by omega) (by omega) (by omega)]
        refine ⟨u1, u2, fun hl => u3 ?_⟩
        by_cases hk2 : k = m
        · subst hk2; rw [bW_n] at hl; omega
        · rw [bW_out (by omega) (by omega) (by omega)] at hl; exact hl
def bL (B : Nat → Nat) (m x b : Nat) : Nat → Nat := fun j => if j = 15 * m then x else if j = 15 * m + 1 then b else if 15 * m ≤ j ∧ j < 15 * m + 15 then 0 else B j
theorem bL_out {B : Nat → Nat} {m x b j : Nat} (h : j < 15 * m ∨ 15 * m + 15 ≤ j) : bL B m x b j = B j := by
  unfold bL
  rw [if_neg (by omega), if_neg (by omega), if_neg (by omega)]
theorem bL_in {B : Nat → Nat} {m x b j : Nat} (h : 15 * m + 2 ≤ j) (h2 : j < 15 * m + 15) : bL B m x b j = 0 := by
  unfold bL
  rw [if_neg (by omega), if_neg (by omega), if_pos (by omega)]
theorem bL_r {B : Nat → Nat} {m x b : Nat} : bL B m x b (15 * m) = x := by unfold bL; rw [if_pos rfl]
theorem bL_b {B : Nat → Nat} {m x b : Nat} : bL B m x b (15 * m + 1) = b := by unfold bL; rw [if_neg (by omega), if_pos rfl]
theorem RL_line {T : Nat → Int32} {B : Nat → Nat} {m x b : Nat} (hR : LR T B m) (hV : VB B m) (hm : m < 12) (hx : x ≤ 3) (hb : b ≤ 1) : LR (upd (upd (upd (upd T (9 + m) (nI x)) (21 + m) (nI (if m = 0 then 1 else b))) (33 + m) 0) 8 (nI (m + 1))) (bL B m x b) (m + 1) ∧ VB (bL B m x b) (m + 1) := by
  obtain ⟨h12, hB⟩ := hV
  obtain ⟨h8, hL⟩ := hR
  refine ⟨⟨upd_same _ _ _, fun k hk => ?_⟩, by omega, fun k hk => ?_⟩
  · by_cases h : k = m
    · subst h
      refine ⟨?_, ?_, ?_, fun i hi => ?_⟩
      · rw [bL_r, upd_ne _ _ (by omega), upd_ne _ _ (by omega), upd_ne _ _ (by omega), upd_same]
      · rw [bL_b, upd_ne _ _ (by omega), upd_ne _ _ (by omega), upd_same]
      · rw [bL_in (by omega) (by omega), upd_ne _ _ (by omega), upd_same]; rfl
      · rw [bL_in (by omega) (by omega)] at hi; omega
    · obtain ⟨q1, q2, q3, q4⟩ := hL k (by omega)
      obtain ⟨v1, v2, v3, v4⟩ := hB k (by omega)
      refine ⟨?_, ?_, ?_, fun i hi => ?_⟩
      · rw [bL_out (by omega)]; simp (disch := omega) only [upd_ne]; exact q1
      · rw [bL_out (by omega)]; simp (disch := omega) only [upd_ne]; exact q2
      · rw [bL_out (by omega)]; simp (disch := omega) only [upd_ne]; exact q3
      · rw [bL_out (by omega)] at hi
        rw [bL_out (by omega), bL_out (by omega)]; simp (disch := omega) only [upd_ne]; exact q4 i hi
  · by_cases h : k = m
    · subst h
      refine ⟨by rw [bL_r]; exact hx, by rw [bL_b]; exact hb, by rw [bL_in (by omega) (by omega)]; omega, fun i hi => ?_⟩
      rw [bL_in (by omega) (by omega), bL_in (j := 15 * k + 9 + i) (by omega) (by omega), bL_in (j := 15 * k + 2) (by omega) (by omega)]
      exact ⟨by omega, by omega, fun h => by omega⟩
    · obtain ⟨v1, v2, v3, v4⟩ := hB k (by omega)
      refine ⟨by rw [bL_out (by omega)]; exact v1, by rw [bL_out (by omega)]; exact v2, by rw [bL_out (by omega)]; exact v3, fun i hi => ?_⟩
      rw [bL_out (by omega), bL_out (j := 15 * k + 9 + i) (by omega), bL_out (j := 15 * k + 2) (by omega)]
      exact v4 i hi
-- the class's automaton
def CA (L : Int32 × Int32 × Int32 × (Nat → Int32) → Option ((Int32 × Int32 × Int32 × (Nat → Int32)) ⊕ ((Int32 × Int32 × Int32 × (Nat → Int32)) ⊕ (Int32 × Int32 × Int32 × (Nat → Int32))))) (i : Nat) (s : Int32 × Int32 × (Nat → Int32)) (i' : Nat) (s' : Int32 × Int32 × (Nat → Int32)) : Prop := i ≤ i' ∧ ∀ n, loopN L (n + (i' - i)) (nI i, s) = loopN L n (nI i', s')
theorem CA.refl {L} {i : Nat} {s : Int32 × Int32 × (Nat → Int32)} : CA L i s i s := ⟨Nat.le_refl _, fun n => by rw [Nat.sub_self, Nat.add_zero]⟩
theorem CA.trans {L} {i j k : Nat} {s1 s2 s3 : Int32 × Int32 × (Nat → Int32)} (h1 : CA L i s1 j s2) (h2 : CA L j s2 k s3) : CA L i s1 k s3 := by
  obtain ⟨a, b⟩ := h1
  obtain ⟨c, d⟩ := h2
  refine ⟨by omega, fun n => ?_⟩
  rw [show n + (k - i) = (n + (k - j)) + (j - i) by omega, b, d]
theorem CA.step {L : Int32 × Int32 × Int32 × (Nat → Int32) → Option ((Int32 × Int32 × Int32 × (Nat → Int32)) ⊕ ((Int32 × Int32 × Int32 × (Nat → Int32)) ⊕ (Int32 × Int32 × Int32 × (Nat → Int32))))} {i : Nat} {s s' : Int32 × Int32 × (Nat → Int32)} (h : L (nI i, s) = some (.inl (nI (i + 1), s'))) : CA L i s (i + 1) s' := by
  refine ⟨by omega, fun n => ?_⟩
  rw [show n + (i + 1 - i) = n + 1 by omega, loopN_in h]
theorem CA.go {L} {i i' n : Nat} {s s' : Int32 × Int32 × (Nat → Int32)} (h : CA L i s i' s') (hn : i' - i ≤ n) : loopN L n (nI i, s) = loopN L (n - (i' - i)) (nI i', s') := by
  have := h.2 (n - (i' - i))
  rw [show n - (i' - i) + (i' - i) = n by omega] at this
  exact this
theorem c_char {t : Nat} {ch : Nat → Nat} {chars : Nat → Int32} (ht : t ≤ 90) {i : Nat} (hi : i < t) (hc : chars i = nI (ch i)) (hb : 32 < ch i ∧ ch i ≤ 126) {r : Int32} {β δ β' δ' : Int32} {T T' : Nat → Int32} (h : p_X6_accepts β δ T (nI (ch i)) = some (r, β', δ', T')) : p_X6_parse_L19 (nI t) chars (nI i, β, δ, T) = if r = 0 then some (.inr (.inr (nI i, β', δ', T'))) else some (.inl (nI (i + 1), β', δ', T')) := by
  rw [p_X6_parse_L19, if_neg (by rw [le_nI (by omega) (by omega)]; omega), ib_nI (by omega) (by omega), gd_t, gd_t, tn_nI (by omega), hc, if_neg (by rw [show (32 : Int32) = nI 32 from rfl, eq_nI (by omega) (by omega)]; omega), h, bd4_s, nI_1]
theorem c_skip {t : Nat} {ch : Nat → Nat} {chars : Nat → Int32} (ht : t ≤ 90) (hc : ∀ j, j < t → chars j = nI (ch j) ∧ 32 ≤ ch j ∧ ch j ≤ 126) (s : Int32 × Int32 × (Nat → Int32)) : ∀ (d i : Nat), i + d = t → CA (p_X6_parse_L19 (nI t) chars) i s (sk t ch i) s := by
  intro d
  induction d with
  | zero =>
    intro i hi
    have : i = t := by omega
    subst this
    rw [sk_end]; exact CA.refl
  | succ d ih =>
    intro i hi
    by_cases hb : ch i = 32
    · rw [sk_bl (by omega) hb]
      refine CA.trans (CA.step ?_) (ih (i + 1) (by omega))
      obtain ⟨β, δ, T⟩ := s
      rw [p_X6_parse_L19, if_neg (by rw [le_nI (by omega) (by omega)]; omega), ib_nI (by omega) (by omega), gd_t, tn_nI (by omega), (hc i (by omega)).1, hb, if_pos (show nI 32 = 32 from rfl), nI_1]
    · rw [sk_nb (by omega) hb]; exact CA.refl
def pau (c : Nat) : Nat := if c = 44 then 1 else if c = 46 then 2 else if c = 33 then 3 else 0
theorem pau_le (c : Nat) : pau c ≤ 3 := by
  unfold pau
  by_cases h1 : c = 44
  · rw [if_pos h1]; omega
  · rw [if_neg h1]
    by_cases h2 : c = 46
    · rw [if_pos h2]; omega
    · rw [if_neg h2]
      by_cases h3 : c = 33
      · rw [if_pos h3]; omega
      · rw [if_neg h3]; omega
theorem m_pauseOf {c : Nat} (hc : c ≤ 126) : p_X8_pauseOf (nI c) = some (nI (pau c)) := by
  rw [p_X8_pauseOf]
  simp (disch := omega) only [ol, eq_nI, pau]
  by_cases h1 : c = 44
  · rw [if_pos h1, if_pos h1]
  · rw [if_neg h1, if_neg h1]
    by_cases h2 : c = 46
    · rw [if_pos h2, if_pos h2]
    · rw [if_neg h2, if_neg h2]
      by_cases h3 : c = 33
      · rw [if_pos h3, if_pos h3]
      · rw [if_neg h3, if_neg h3]
theorem c_pauseOfT {c : Nat} (hc : c ≤ 126) : p_X6_pauseOf (nI c) = some (nI (pau c)) := by
  rw [p_X6_pauseOf]
  simp (disch := omega) only [ol, eq_nI, pau]
  by_cases h1 : c = 44
  · rw [if_pos h1, if_neg (by omega), if_pos h1]
  · rw [if_neg h1, if_neg h1]
    by_cases h2 : c = 46
    · rw [if_pos h2, if_neg (by omega), if_pos h2]
    · rw [if_neg h2, if_neg h2]
      by_cases h3 : c = 33
      · rw [if_pos h3, if_pos h3]
      · rw [if_neg h3, if_neg h3]
-- what the automaton accepts
theorem a_nl {β δ : Int32} {T : Nat → Int32} {c : Nat} (hc : c ≤ 126) (hl : c < 65 ∨ 68 < c) : p_X6_accepts β δ T (nI c) = p_X6_accepts_B21_0 β δ T (nI c) := by
  rw [p_X6_accepts]
  simp (disch := omega) only [ol, lt_nI]
  by_cases h : c < 65
  · rw [if_pos h]
  · rw [if_neg h, if_pos (by omega)]
theorem a_line {δ : Int32} {T : Nat → Int32} {B : Nat → Nat} {c m b : Nat} (hc : 65 ≤ c ∧ c ≤ 68) (hb : b ≤ 1) (hR : LR T B m) (hm : m ≤ 12) : p_X6_accepts (nI b) δ T (nI c) = if m < 12 then some (1, 0, 0, upd (upd (upd (upd T (9 + m) (nI (c - 65))) (21 + m) (nI (if m = 0 then 1 else b))) (33 + m) 0) 8 (nI (m + 1))) else some (0, 0, 0, T) := by
  rw [p_X6_accepts, if_neg (show ¬ nI c < 65 by rw [show (65 : Int32) = nI 65 from rfl, lt_nI (by omega) (by omega)]; omega), if_neg (show ¬ 68 < nI c by rw [show (68 : Int32) = nI 68 from rfl, lt_nI (by omega) (by omega)]; omega), show nI c - (65 : Int32) = nI (c - 65) from sub_nI (b := 65) (by omega), p_X6_acceptsLine]
  have hcl : (if nI b = 0 then p_X6_acceptsLine_B12_1 T (nI (c - 65)) 0 else p_X6_acceptsLine_B12_1 T (nI (c - 65)) 1) = p_X6_acceptsLine_B12_1 T (nI (c - 65)) (nI b) := by
    rcases (show b = 0 ∨ b = 1 by omega) with rfl | rfl
    · rw [if_pos (show nI 0 = 0 from rfl)]; rfl
    · rw [if_neg (show ¬ nI 1 = 0 by decide)]; rfl
  rw [hcl, p_X6_acceptsLine_B12_1]
  by_cases h : m < 12
  · rw [t_addL h hR.1 (by omega) hb, bd2_s, if_neg (show ¬ nI m < 0 by rw [show (0 : Int32) = nI 0 from rfl, lt_nI (by omega) (by omega)]; omega), bd4_s, if_pos h]; rfl
  · have : m = 12 := by omega
    subst this
    rw [t_addL12 hR.1 (by omega) hb, bd2_s, if_pos (by decide), bd4_s, if_neg h]; rfl
theorem a_dig {δ : Int32} {T : Nat → Int32} {B : Nat → Nat} {c m w : Nat} (hc : 49 ≤ c ∧ c ≤ 57) (hm : m < 12) (hR : LR T B (m + 1)) (hw : B (15 * m + 2) = w) (hw6 : w ≤ 6) : p_X6_accepts 0 δ T (nI c) = if w < 6 then some (1, 0, 1, upd (upd T (45 + 6 * m + w) (nI (4 * (c - 48)))) (33 + m) (nI (w + 1))) else some (0, 0, 1, T) := by
  rw [a_nl (by omega) (by omega), p_X6_accepts_B21_0, if_pos rfl, p_X4_lines, bd1_s, hR.1, if_neg (show ¬ nI (m + 1) = 0 by rw [show (0 : Int32) = nI 0 from rfl, eq_nI (by omega) (by omega)]; omega), if_neg (show ¬ nI c < 49 by rw [show (49 : Int32) = nI 49 from rfl, lt_nI (by omega) (by omega)]; omega), if_neg (show ¬ 57 < nI c by rw [show (57 : Int32) = nI 57 from rfl, lt_nI (by omega) (by omega)]; omega), show nI c - (48 : Int32) = nI (c - 48) from sub_nI (b := 48) (by omega), t_addW hm hR.1 (by rw [(hR.2 m (by omega)).2.2.1, hw]) hw6 (by omega)]
  by_cases h : w < 6
  · rw [if_pos h, if_pos h, bd2_s, if_neg (show ¬ nI (w + 1) ≤ 0 by rw [show (0 : Int32) = nI 0 from rfl, le_nI (by omega) (by omega)]; omega)]
  · rw [if_neg h, if_neg h, bd2_s, if_pos (by decide)]
theorem a_B78 {T : Nat → Int32} {β δ : Int32} {c m : Nat} (hm : m < 12) (h8 : T 8 = nI (m + 1)) (hc : c ≤ 126) (hd : c < 49 ∨ 57 < c) (hl : c < 65 ∨ 68 < c) (hb : β = 0) : p_X6_accepts β δ T (nI c) = p_X6_accepts_B78_4 β δ T (nI c) := by
  rw [a_nl hc hl, p_X6_accepts_B21_0, if_pos hb, p_X4_lines, bd1_s, h8, if_neg (show ¬ nI (m + 1) = 0 by rw [show (0 : Int32) = nI 0 from rfl, eq_nI (by omega) (by omega)]; omega)]
  simp (disch := omega) only [ol, lt_nI]
  by_cases h : c < 49
  · rw [if_pos h]
  · rw [if_neg h, if_pos (by omega)]
theorem a_bar {T : Nat → Int32} {δ : Int32} {m : Nat} (hm : m < 12) (h8 : T 8 = nI (m + 1)) : p_X6_accepts 0 δ T (nI 124) = some (1, 1, δ, T) := by
  rw [a_B78 hm h8 (by omega) (by omega) (by omega) rfl, p_X6_accepts_B78_4, if_pos (show nI 124 = 124 from rfl)]
theorem pau_c {c : Nat} (h : pau c ≠ 0) : c = 44 ∨ c = 46 ∨ c = 33 := by
  unfold pau at h
  by_cases h1 : c = 44
  · exact Or.inl h1
  · by_cases h2 : c = 46
    · exact Or.inr (Or.inl h2)
    · by_cases h3 : c = 33
      · exact Or.inr (Or.inr h3)
      · rw [if_neg h1, if_neg h2, if_neg h3] at h; exact absurd rfl h
theorem a_pau {T T' : Nat → Int32} {m c : Nat} (hm : m < 12) (h8 : T 8 = nI (m + 1)) (hp : pau c ≠ 0) (hT : p_X4_setLastPause T (nI (pau c)) = some T') : p_X6_accepts 0 1 T (nI c) = some (1, 0, 0, T') := by
  have hcc := pau_c hp
  have hl := pau_le c
  rw [a_B78 hm h8 (by omega) (by omega) (by omega) rfl, p_X6_accepts_B78_4, if_neg (show ¬ nI c = 124 by rw [show (124 : Int32) = nI 124 from rfl, eq_nI (by omega) (by omega)]; omega), p_X6_acceptsPause, c_pauseOfT (by omega), bd1_s, if_neg (show ¬ nI (pau c) = 0 by rw [show (0 : Int32) = nI 0 from rfl, eq_nI (by omega) (by omega)]; exact hp), if_neg one_ne, hT, bd1_s, bd3_s]
  rfl
theorem a_rej {T : Nat → Int32} {B : Nat → Nat} {c m b e : Nat} (hc : c ≤ 126) (hb : b ≤ 1) (he : e ≤ 1) (hR : LR T B m) (hV : VB B m) (h1 : (c < 65 ∨ 68 < c) ∨ m = 12) (h2 : c = 124 → b = 1 ∨ m = 0) (h3 : b = 0 → 0 < m → (49 ≤ c ∧ c ≤ 57 → B (15 * (m - 1) + 2) = 6) ∧ (pau c ≠ 0 → e = 0)) : ∃ β' δ' T', p_X6_accepts (nI b) (nI e) T (nI c) = some (0, β', δ', T') := by
  have h12 := hV.1
  by_cases hl : 65 ≤ c ∧ c ≤ 68
  · have : m = 12 := by omega
    rw [a_line hl hb hR (by omega), if_neg (by omega)]; exact ⟨_, _, _, rfl⟩
  by_cases hb1 : b = 1
  · subst hb1
    rw [a_nl hc (by omega), p_X6_accepts_B21_0, if_neg (show ¬ nI 1 = 0 by decide)]; exact ⟨_, _, _, rfl⟩
  have hb0 : b = 0 := by omega
  subst hb0
  by_cases hm0 : m = 0
  · subst hm0
    rw [a_nl hc (by omega), p_X6_accepts_B21_0, if_pos (show nI 0 = 0 from rfl), p_X4_lines, bd1_s, hR.1, if_pos (show nI 0 = 0 from rfl)]; exact ⟨_, _, _, rfl⟩
  obtain ⟨K, rfl⟩ : ∃ K, m = K + 1 := ⟨m - 1, by omega⟩
  obtain ⟨h4, h5⟩ := h3 rfl (by omega)
  rw [show K + 1 - 1 = K by omega] at h4
  by_cases hd : 49 ≤ c ∧ c ≤ 57
  · rw [show nI 0 = 0 from rfl, a_dig hd (by omega) hR (h4 hd) (by omega), if_neg (by omega)]; exact ⟨_, _, _, rfl⟩
  rw [a_B78 (m := K) (by omega) hR.1 hc (by omega) (by omega) (show nI 0 = 0 from rfl), p_X6_accepts_B78_4, if_neg (show ¬ nI c = 124 by rw [show (124 : Int32) = nI 124 from rfl, eq_nI (by omega) (by omega)]; intro q; have := h2 q; omega), p_X6_acceptsPause, c_pauseOfT hc, bd1_s]
  have hl := pau_le c
  by_cases hp : pau c = 0
  · rw [if_pos (show nI (pau c) = 0 by rw [hp]; rfl), bd3_s]; exact ⟨_, _, _, rfl⟩
  · have := h5 hp
    subst this
    rw [if_neg (show ¬ nI (pau c) = 0 by rw [show (0 : Int32) = nI 0 from rfl, eq_nI (by omega) (by omega)]; exact hp), if_pos (show nI 0 = 0 from rfl), bd3_s]; exact ⟨_, _, _, rfl⟩
