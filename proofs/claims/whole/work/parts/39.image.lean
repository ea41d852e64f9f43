-- image and restore
theorem RH_to {n s : Int32} {ring ring' : Nat → Nat → Int32} {acts : Int32} {past past' : Nat → Int32} (h : RH n s ring acts past) (e : ∀ i j, i < 6 → j < 117 → ring' i j = ring i j) (f : ∀ j, j < 1134 → past' j = past j) : RH n s ring' acts past' := by
  obtain ⟨a, b, ha, hb, rfl, rfl, rfl, hr⟩ := h
  exact ⟨a, b, ha, hb, rfl, rfl, rfl, fun r hr2 => RP_to (hr r hr2) (fun j hj => e _ _ (Nat.mod_lt _ (by omega)) hj) (fun j hj => f _ (by omega))⟩
theorem c_hist_loop (src : Nat → Nat → Int32) : ∀ (d i n : Nat) (g : Nat → Nat → Int32), i + d = 6 → (∀ q j, q < i → j < 117 → g q j = src q j) → d < n → ∃ (z : Int32) (gF : Nat → Nat → Int32), loopN (p_X0_takeOver_L2 src) n (nI i, g) = some (z, gF) ∧ ∀ q j, q < 6 → j < 117 → gF q j = src q j := by
  intro d
  induction d with
  | zero =>
    intro i n g hi hg hn
    obtain ⟨n, rfl⟩ : ∃ m, n = m + 1 := ⟨n - 1, by omega⟩
    refine ⟨_, g, loopN_out (e := (nI i, g)) ?_, fun q j hq hj => hg q j (by omega) hj⟩
    rw [p_X0_takeOver_L2, if_pos (by rw [show (6 : Int32) = nI 6 from rfl, le_nI (by omega) (by omega)]; omega)]
  | succ d ih =>
    intro i n g hi hg hn
    obtain ⟨n, rfl⟩ : ∃ m, n = m + 1 := ⟨n - 1, by omega⟩
    obtain ⟨d', et, hd⟩ := c_take (g i) (src i)
    have hs : p_X0_takeOver_L2 src (nI i, g) = some (.inl (nI (i + 1), va_up g i d')) := by
      rw [p_X0_takeOver_L2]
      simp (disch := omega) only [ol, nI_add, le_nI, ib_nI, gd_t, tn_nI]
      rw [if_neg (by omega), et, bd1_s]
    rw [loopN_in hs]
    refine ih (i + 1) n _ (by omega) (fun q j hq hj => ?_) (by omega)
    show (if q = i then d' else g q) j = src q j
    by_cases h : q = i
    · rw [if_pos h, h]; exact hd j hj
    · rw [if_neg h]; exact hg q j (by omega) hj
theorem c_hist (n s : Int32) (g : Nat → Nat → Int32) (n1 s1 : Int32) (src : Nat → Nat → Int32) : ∃ gF, p_X0_takeOver n s g n1 s1 src = some (n1, s1, gF) ∧ ∀ q j, q < 6 → j < 117 → gF q j = src q j := by
  have hu := fuel_ge
  obtain ⟨z, gF, e, q⟩ := c_hist_loop src 6 0 fuel g (by omega) (fun q j hq => by omega) (by omega)
  exact ⟨gF, by rw [p_X0_takeOver, show ((0 : Int32), g) = (nI 0, g) from rfl, e, bd2_s], q⟩
-- four copying loops of the model, of one shape
theorem cp_loop (N : Nat) (hN : N < 1990) (L : Int32 × (Nat → Int32) → Option ((Int32 × (Nat → Int32)) ⊕ (Int32 × (Nat → Int32)))) (src : Nat → Int32) (h1 : ∀ f, L (nI N, f) = some (.inr (nI N, f))) (h2 : ∀ i f, i < N → L (nI i, f) = some (.inl (nI (i + 1), upd f i (src i)))) : ∀ (d i n : Nat) (f : Nat → Int32), i + d = N → (∀ j, j < i → f j = src j) → d < n → ∃ (z : Int32) (fF : Nat → Int32), loopN L n (nI i, f) = some (z, fF) ∧ ∀ j, j < N → fF j = src j := by
  intro d
  induction d with
  | zero =>
    intro i n f hi hf hn
    obtain ⟨n, rfl⟩ : ∃ m, n = m + 1 := ⟨n - 1, by omega⟩
    have : i = N := by omega
    subst this
    exact ⟨_, f, loopN_out (e := (nI i, f)) (h1 f), hf⟩
  | succ d ih =>
    intro i n f hi hf hn
    obtain ⟨n, rfl⟩ : ∃ m, n = m + 1 := ⟨n - 1, by omega⟩
    rw [loopN_in (h2 i f (by omega))]
    refine ih (i + 1) n _ (by omega) (fun j hj => ?_) (by omega)
    rw [upd_at]
    by_cases h : j = i
    · rw [if_pos h, h]
    · rw [if_neg h]; exact hf j (by omega)
theorem cp_all (N : Nat) (hN : N < 1990) (L : Int32 × (Nat → Int32) → Option ((Int32 × (Nat → Int32)) ⊕ (Int32 × (Nat → Int32)))) (src : Nat → Int32) (h1 : ∀ f, L (nI N, f) = some (.inr (nI N, f))) (h2 : ∀ i f, i < N → L (nI i, f) = some (.inl (nI (i + 1), upd f i (src i)))) (f : Nat → Int32) : ∃ (z : Int32) (fF : Nat → Int32), loopN L fuel (0, f) = some (z, fF) ∧ ∀ j, j < N → fF j = src j := by
  have hu := fuel_ge
  exact cp_loop N hN L src h1 h2 N 0 fuel f (by omega) (fun j hj => by omega) (by omega)
theorem m_im1 (v f : Nat → Int32) : ∃ (z : Int32) (fF : Nat → Int32), loopN (p_X8_image_L2 v) fuel (0, f) = some (z, fF) ∧ ∀ j, j < 189 → fF j = v j := by
  refine cp_all 189 (by omega) _ v (fun f => ?_) (fun i f hi => ?_) f
  · rw [p_X8_image_L2, if_pos (by decide)]
  · rw [p_X8_image_L2]
    simp (disch := omega) only [ol, nI_add, le_nI, ib_nI, gd_t, tn_nI]
    rw [if_neg (by omega)]
theorem m_im2 (v f : Nat → Int32) : ∃ (z : Int32) (fF : Nat → Int32), loopN (p_X8_image_L29 v) fuel (0, f) = some (z, fF) ∧ ∀ j, j < 1134 → fF j = v j := by
  refine cp_all 1134 (by omega) _ v (fun f => ?_) (fun i f hi => ?_) f
  · rw [p_X8_image_L29, if_pos (by decide)]
  · rw [p_X8_image_L29]
    simp (disch := omega) only [ol, nI_add, le_nI, ib_nI, gd_t, tn_nI]
    rw [if_neg (by omega)]
theorem m_re1 (v f : Nat → Int32) : ∃ (z : Int32) (fF : Nat → Int32), loopN (p_X8_restore_L12 v) fuel (0, f) = some (z, fF) ∧ ∀ j, j < 189 → fF j = v j := by
  refine cp_all 189 (by omega) _ v (fun f => ?_) (fun i f hi => ?_) f
  · rw [p_X8_restore_L12, if_pos (by decide)]
  · rw [p_X8_restore_L12]
    simp (disch := omega) only [ol, nI_add, le_nI, ib_nI, gd_t, tn_nI]
    rw [if_neg (by omega)]
theorem m_re2 (v f : Nat → Int32) : ∃ (z : Int32) (fF : Nat → Int32), loopN (p_X8_restore_L39 v) fuel (0, f) = some (z, fF) ∧ ∀ j, j < 1134 → fF j = v j := by
  refine cp_all 1134 (by omega) _ v (fun f => ?_) (fun i f hi => ?_) f
  · rw [p_X8_restore_L39, if_pos (by decide)]
  · rw [p_X8_restore_L39]
    simp (disch := omega) only [ol, nI_add, le_nI, ib_nI, gd_t, tn_nI]
    rw [if_neg (by omega)]
def RI (has : Int32) (ip : Nat → Int32) (n s : Int32) (ring : Nat → Nat → Int32) (ka : Int32) (kept kp : Nat → Int32) : Prop := (has = 0 ∧ ka = -1) ∨ (has = 1 ∧ RP ip kept ∧ RH n s ring ka kp)
theorem hs_image {c v : Nat → Int32} {n s : Int32} {ring : Nat → Nat → Int32} {acts : Int32} {past : Nat → Int32} (hP : RP c v) (hH : RH n s ring acts past) (has : Int32) (ip : Nat → Int32) (n1 s1 : Int32) (ring1 : Nat → Nat → Int32) (ka : Int32) (kept kp : Nat → Int32) : ∃ (r has' n' s' : Int32) (ip' : Nat → Int32) (ring' : Nat → Nat → Int32) (ka' : Int32) (kept' kp' : Nat → Int32), p_X7_image has n s n1 s1 c ip ring ring1 = some (r, has', n', s', ip', ring') ∧ p_X8_image acts ka v past kept kp = some (r, ka', kept', kp') ∧ RI has' ip' n' s' ring' ka' kept' kp' := by
  obtain ⟨d', et, hd⟩ := c_take ip c
  obtain ⟨gF, eg, hg⟩ := c_hist n1 s1 ring1 n s ring
  obtain ⟨z1, f1, e1, q1⟩ := m_im1 v kept
  obtain ⟨z2, f2, e2, q2⟩ := m_im2 past kp
  rw [p_X7_image, et, bd1_s, eg, bd3_s, p_X8_image, e1, bd2_s, e2, bd2_s]
  exact ⟨_, _, _, _, _, _, _, _, _, rfl, rfl, Or.inr ⟨rfl, RP_to hP hd q1, RH_to hH hg q2⟩⟩
theorem hs_restore {c v : Nat → Int32} {n s : Int32} {ring : Nat → Nat → Int32} {acts : Int32} {past : Nat → Int32} (hP : RP c v) (hH : RH n s ring acts past) {has : Int32} {ip : Nat → Int32} {n1 s1 : Int32} {ring1 : Nat → Nat → Int32} {ka : Int32} {kept kp : Nat → Int32} (hI : RI has ip n1 s1 ring1 ka kept kp) : ∃ (r n' s' : Int32) (c' : Nat → Int32) (ring' : Nat → Nat → Int32) (acts' : Int32) (v' past' : Nat → Int32), p_X7_restore has n s n1 s1 c ip ring ring1 = some (r, n', s', c', ring') ∧ p_X8_restore acts ka v past kept kp = some (r, acts', v', past') ∧ RP c' v' ∧ RH n' s' ring' acts' past' := by
  rw [p_X7_restore, p_X8_restore]
  rcases hI with ⟨rfl, rfl⟩ | ⟨rfl, iP, iH⟩
  · rw [if_pos rfl, if_neg (by decide)]; exact ⟨_, _, _, _, _, _, _, _, rfl, rfl, hP, hH⟩
  · obtain ⟨d', et, hd⟩ := c_take c ip
    obtain ⟨gF, eg, hg⟩ := c_hist n s ring n1 s1 ring1
    obtain ⟨z1, f1, e1, q1⟩ := m_re1 kept v
    obtain ⟨z2, f2, e2, q2⟩ := m_re2 kp past
    have hk : (0 : Int32) ≤ ka := by
      obtain ⟨a, b, ha, hb, h1, h2, h3, _⟩ := iH
      rw [h3, show (0 : Int32) = nI 0 from rfl, le_nI (by omega) (by omega)]; omega
    rw [if_neg one_ne, et, bd1_s, eg, bd3_s, if_pos hk, e1, bd2_s, e2, bd2_s]
    exact ⟨_, _, _, _, _, _, _, _, rfl, rfl, RP_to iP hd q1, RH_to iH hg q2⟩
-- seed
theorem hs_seed {c v : Nat → Int32} (hP : RP c v) (x : Int32) : ∃ (r : Int32) (c' v' : Nat → Int32), p_X7_seed c x = some (r, c') ∧ p_X8_seed v x = some (r, v') ∧ RP c' v' := by
  have hh := hP
  obtain ⟨A, hV, hC, hM⟩ := hP
  rw [p_X7_seed, p_X8_seed]
  by_cases h : (0 : Int32) ≤ x
  · obtain ⟨y, hy, rfl⟩ := nI_of (Int32.not_lt.mpr h)
    rw [if_pos h, if_pos h, p_X4_randomNumber, bd1_s, p_X4_setRandomNumber, bd1_s, nm_s, hC.2.1, hM 1 (by omega)]
    obtain ⟨r1, r2, r3⟩ := ed_seed hV hC hM (x := y) hy
    exact ⟨_, _, _, rfl, rfl, _, r1, r2, r3⟩
  · rw [if_neg h, if_neg h]; exact ⟨_, _, _, rfl, rfl, hh⟩
-- drift
theorem hs_drift_loop {x : Nat} (hx : x ≤ 40) : ∀ (d i n : Nat) (nx sz : Int32) (c : Nat → Int32) (ring : Nat → Nat → Int32) (acts : Int32) (v past f : Nat → Int32), i + d = x → RP c v → RH nx sz ring acts past → d < n → ∃ (z1 z2 nx' sz' : Int32) (c' : Nat → Int32) (ring' : Nat → Nat → Int32) (acts' : Int32) (v' past' f' : Nat → Int32), loopN (p_X7_drift_L15 (nI x)) n (nI i, nx, sz, c, ring) = some (z1, nx', sz', c', ring') ∧ loopN (p_X8_drift_L16 (nI x)) n (nI i, acts, v, past, f) = some (z2, acts', v', past', f') ∧ RP c' v' ∧ RH nx' sz' ring' acts' past' := by
  intro d
  induction d with
  | zero =>
    intro i n nx sz c ring acts v past f hi hP hH hn
    obtain ⟨n, rfl⟩ : ∃ m, n = m + 1 := ⟨n - 1, by omega⟩
    have e : i = x := by omega
    subst e
    refine ⟨_, _, nx, sz, c, ring, acts, v, past, f, loopN_out (e := (nI i, nx, sz, c, ring)) ?_, loopN_out (e := (nI i, acts, v, past, f)) ?_, hP, hH⟩
    · rw [p_X7_drift_L15, if_pos (by rw [le_nI (by omega) (by omega)]; omega)]
    · rw [p_X8_drift_L16, if_pos (by rw [le_nI (by omega) (by omega)]; omega)]
  | succ d ih =>
    intro i n nx sz c ring acts v past f hi hP hH hn
    obtain ⟨n, rfl⟩ : ∃ m, n = m + 1 := ⟨n - 1, by omega⟩
    obtain ⟨fF, ef, hf⟩ := m_starts v f
    obtain ⟨n', s', ring', acts', past', e1, e2, e3⟩ := hs_rem hH (RP_to hP (fun j _ => rfl) hf)
    obtain ⟨c', r, v', t1, t2, t3⟩ := ed_turn hP
    have hle : ¬ nI x ≤ nI i := by rw [le_nI (by omega) (by omega)]; omega
    have s1 : p_X7_drift_L15 (nI x) (nI i, nx, sz, c, ring) = some (.inl (nI (i + 1), n', s', c', ring')) := by
      rw [p_X7_drift_L15, if_neg hle, e1, bd3_s, t1, bd1_s, nI_1]
    have s2 : p_X8_drift_L16 (nI x) (nI i, acts, v, past, f) = some (.inl (nI (i + 1), acts', v', past', fF)) := by
      rw [p_X8_drift_L16, if_neg hle, ef, bd1_s, e2, bd2_s, t2, bd2_s, nI_1]
    rw [loopN_in s1, loopN_in s2]
    exact ih (i + 1) n n' s' c' ring' acts' v' past' fF (by omega) t3 e3 (by omega)
theorem m_in140 (x : Int32) : p_X8_in (Int32.toInt64 x) 1 40 = some (if x < 1 then 0 else if 40 < x then 0 else 1) := m_in x 1 40
theorem hs_drift {n s : Int32} {ring : Nat → Nat → Int32} {acts : Int32} {past c v : Nat → Int32} (hP : RP c v) (hH : RH n s ring acts past) (f : Nat → Int32) (x1 : Int32) : ∃ (r n' s' : Int32) (c' : Nat → Int32) (ring' : Nat → Nat → Int32) (acts' : Int32) (v' past' f' : Nat → Int32), p_X7_drift n s c ring x1 = some (r, n', s', c', ring') ∧ p_X8_drift acts v past f x1 = some (r, acts', v', past', f') ∧ RP c' v' ∧ RH n' s' ring' acts' past' := by
  have hu := fuel_ge
  rw [p_X7_drift, p_X8_drift, m_in140, bd1_s]
  rcases rg_cases x1 1 40 (by omega) (by omega) with (q | ⟨q, q'⟩) | ⟨x, hx1, hx, rfl⟩
  · rw [if_pos (show x1 < 1 from q), if_pos (show x1 < 1 from q), if_pos rfl]; exact ⟨_, _, _, _, _, _, _, _, _, rfl, rfl, hP, hH⟩
  · rw [if_neg (show ¬ x1 < 1 from q), if_neg (show ¬ x1 < 1 from q), if_neg (Int32.not_le.mpr (show (40 : Int32) < x1 from q')), if_pos (show (40 : Int32) < x1 from q'), if_pos rfl]; exact ⟨_, _, _, _, _, _, _, _, _, rfl, rfl, hP, hH⟩
  have a1 : ¬ nI x < 1 := by rw [show (1 : Int32) = nI 1 from rfl, lt_nI (by omega) (by omega)]; omega
  have a2 : ¬ 40 < nI x := by rw [show (40 : Int32) = nI 40 from rfl, lt_nI (by omega) (by omega)]; omega
  rw [if_neg a1, if_neg a1, if_neg a2, if_neg one_ne, if_pos (Int32.not_lt.mp a2)]
  obtain ⟨z1, z2, nx', sz', c', ring', acts', v', past', f', e1, e2, e3, e4⟩ := hs_drift_loop hx x 0 fuel n s c ring acts v past f (by omega) hP hH (by omega)
  rw [show ((0 : Int32), n, s, c, ring) = (nI 0, n, s, c, ring) from rfl, e1, bd5_s, show ((0 : Int32), acts, v, past, f) = (nI 0, acts, v, past, f) from rfl, e2, bd5_s]
  have e3' := e3
  obtain ⟨A, hV, hC, hM⟩ := e3
  rw [c_lines hC, bd1_s, hM 0 (by omega)]
  exact ⟨_, _, _, _, _, _, _, _, _, rfl, rfl, e3', e4⟩
