/-! ===== the queries: of, said, count, page, settings ===== -/
theorem bd7_s {α1 α2 α3 α4 α5 α6 α7 β : Type} (a1 : α1) (a2 : α2) (a3 : α3) (a4 : α4) (a5 : α5) (a6 : α6) (a7 : α7) (k : α1 → α2 → α3 → α4 → α5 → α6 → α7 → Option β) : bd7 (some (a1, a2, a3, a4, a5, a6, a7)) k = k a1 a2 a3 a4 a5 a6 a7 := rfl
theorem bd10_s {α1 α2 α3 α4 α5 α6 α7 α8 α9 α10 β : Type} (a1 : α1) (a2 : α2) (a3 : α3) (a4 : α4) (a5 : α5) (a6 : α6) (a7 : α7) (a8 : α8) (a9 : α9) (a10 : α10) (k : α1 → α2 → α3 → α4 → α5 → α6 → α7 → α8 → α9 → α10 → Option β) : bd10 (some (a1, a2, a3, a4, a5, a6, a7, a8, a9, a10)) k = k a1 a2 a3 a4 a5 a6 a7 a8 a9 a10 := rfl
theorem bd13_s {α1 α2 α3 α4 α5 α6 α7 α8 α9 α10 α11 α12 α13 β : Type} (a1 : α1) (a2 : α2) (a3 : α3) (a4 : α4) (a5 : α5) (a6 : α6) (a7 : α7) (a8 : α8) (a9 : α9) (a10 : α10) (a11 : α11) (a12 : α12) (a13 : α13) (k : α1 → α2 → α3 → α4 → α5 → α6 → α7 → α8 → α9 → α10 → α11 → α12 → α13 → Option β) : bd13 (some (a1, a2, a3, a4, a5, a6, a7, a8, a9, a10, a11, a12, a13)) k = k a1 a2 a3 a4 a5 a6 a7 a8 a9 a10 a11 a12 a13 := rfl
theorem c_distributed {c : Nat → Int32} {A : Nat → Nat} (hV : VA A) (hC : repC c A) (i0 i1 i2 i3 z : Int32) (a1 a2 a3 a4 a5 R w np : Nat → Int32) :
    ∃ (j0 j1 j2 j3 j4 : Int32) (b1 b2 b3 b4 b5 RF wF npF : Nat → Int32), p_X7_distributed i0 i1 i2 i3 z c a1 a2 a3 a4 a5 R w np = some (j0, j1, j2, j3, j4, b1, b2, b3, b4, b5, RF, wF, npF) ∧ (∀ j, j < A 0 → RF j = RR A j) ∧ wF 0 = enc ((dst A).map (fun x => x.1)) ∧ (dst A ≠ none → CW A (pgA A) wF npF 0) := by
  have h0 := hV.n
  have ha := aF_le A (A 0)
  obtain ⟨RF, j0, j1, j2, j3, b1, b2, b3, b4, b5, e1, hR⟩ := c_measure hV hC z R i0 i1 i2 i3 a1 a2 a3 a4 a5
  obtain ⟨wF, npF, e2, hCW⟩ := c_distribute hV hC RF (nI (aF A (A 0))) w np
  have eq : pgt RF A (A 0) = pgA A := funext (pgt_congr hR (A 0) (Nat.le_refl _))
  rw [eq] at hCW
  refine ⟨j0, j1, j2, j3, nI (aF A (A 0)), b1, b2, b3, b4, b5, RF, _, npF, by rw [p_X7_distributed, e1, bd11_s, e2, bd2_s], hR, ?_, ?_⟩
  · unfold dst
    rcases (show aF A (A 0) = 0 ∨ aF A (A 0) = 1 by omega) with hz | hz
    · rw [hz, if_pos (show nI 0 = (0 : Int32) from rfl), upd_same]; rfl
    · rw [hz, if_neg (show ¬ nI 1 = (0 : Int32) by decide), if_neg (show ¬ (1 : Nat) = 0 by decide)]
      exact (hCW 0 (by omega) (by omega)).1
  · intro h
    unfold dst at h
    rcases (show aF A (A 0) = 0 ∨ aF A (A 0) = 1 by omega) with hz | hz
    · rw [if_pos hz] at h; exact absurd rfl h
    · rw [hz, if_neg (show ¬ nI 1 = (0 : Int32) by decide)]; exact hCW
-- the chain of the pages
def nxt (A : Nat → Nat) (j : Nat) : Nat := ((pgA A j).map (fun x => x.2)).getD 0
def chn (A : Nat → Nat) : Nat → Nat
  | 0 => 0
  | q + 1 => nxt A (chn A q)
theorem dst_some {A : Nat → Nat} {x : Nat × Nat} (h : dst A = some x) : pgA A 0 = some x := by
  unfold dst at h
  split at h
  · cases h
  · exact h
theorem chn_ok {A : Nat → Nat} (hV : VA A) {x : Nat × Nat} (h : dst A = some x) : ∀ q, q ≤ x.1 % 100 → ∃ y, pgA A (chn A q) = some y ∧ y.1 % 100 + q = x.1 % 100 ∧ chn A q ≤ A 0
  | 0, _ => ⟨x, dst_some h, rfl, Nat.zero_le _⟩
  | q + 1, hq => by
    obtain ⟨y, h1, h2, h3⟩ := chn_ok hV h q (by omega)
    have hT := TB_pgt (R := RR A) hV (A 0) (Nat.le_refl _)
    obtain ⟨t1, t2, t3, t4⟩ := hT (chn A q) (by omega) h3 y h1
    have hlt : chn A q < A 0 := by
      rcases Nat.lt_or_ge (chn A q) (A 0) with z | z
      · exact z
      · have := t3 (by omega); omega
    obtain ⟨u1, u2, y2, u3, u4⟩ := t4 hlt
    have en : chn A (q + 1) = y.2 := by show nxt A (chn A q) = _; unfold nxt; rw [h1]; rfl
    rw [en]
    exact ⟨y2, u3, by omega, u2⟩
theorem chn_lt {A : Nat → Nat} (hV : VA A) {x : Nat × Nat} (h : dst A = some x) {q : Nat} (hq : q < x.1 % 100) : chn A q < A 0 ∧ chn A q < chn A (q + 1) ∧ chn A (q + 1) ≤ A 0 ∧ ∃ y, pgA A (chn A q) = some y ∧ y.2 = chn A (q + 1) := by
  obtain ⟨y, h1, h2, h3⟩ := chn_ok hV h q (by omega)
  have hT := TB_pgt (R := RR A) hV (A 0) (Nat.le_refl _)
  obtain ⟨t1, t2, t3, t4⟩ := hT (chn A q) (by omega) h3 y h1
  have hlt : chn A q < A 0 := by
    rcases Nat.lt_or_ge (chn A q) (A 0) with z | z
    · exact z
    · have := t3 (by omega); omega
  obtain ⟨u1, u2, y2, u3, u4⟩ := t4 hlt
  have en : chn A (q + 1) = y.2 := by show nxt A (chn A q) = _; unfold nxt; rw [h1]; rfl
  rw [en]
  exact ⟨hlt, u1, u2, y, h1, rfl⟩
theorem chn_end {A : Nat → Nat} (hV : VA A) {x : Nat × Nat} (h : dst A = some x) : chn A (x.1 % 100) = A 0 := by
  obtain ⟨y, h1, h2, h3⟩ := chn_ok hV h (x.1 % 100) (Nat.le_refl _)
  have hT := TB_pgt (R := RR A) hV (A 0) (Nat.le_refl _)
  obtain ⟨t1, t2, t3, t4⟩ := hT (chn A (x.1 % 100)) (by omega) h3 y h1
  rcases Nat.lt_or_ge (chn A (x.1 % 100)) (A 0) with z | z
  · obtain ⟨u1, u2, y2, u3, u4⟩ := t4 z; omega
  · omega
theorem dst_bnd {A : Nat → Nat} (hV : VA A) {x : Nat × Nat} (h : dst A = some x) : x.1 % 100 ≤ 12 ∧ x.1 / 100 ≤ 12 := by
  have h0 := hV.n
  have hT := TB_pgt (R := RR A) hV (A 0) (Nat.le_refl _)
  obtain ⟨t1, t2, -⟩ := hT 0 (by omega) (by omega) x (dst_some h)
  omega
theorem c_fl_loop {A : Nat → Nat} (hV : VA A) {x : Nat × Nat} (h : dst A = some x) {w np : Nat → Int32} (hCW : CW A (pgA A) w np 0) {q : Nat} (hq : q ≤ x.1 % 100) : ∀ (d i n : Nat), i + d = q → d < n → loopN (p_X3_firstLineOf_L4 np (nI q)) n (nI (chn A i), nI i) = some (nI (chn A q), nI q) := by
  have h0 := hV.n
  have hb := dst_bnd hV h
  intro d
  induction d with
  | zero =>
    intro i n hi hn
    obtain ⟨n, rfl⟩ : ∃ m, n = m + 1 := ⟨n - 1, by omega⟩
    refine loopN_out ?_
    rw [p_X3_firstLineOf_L4]
    simp (disch := omega) only [le_nI]
    rw [if_pos (by omega), show i = q by omega]
  | succ d ih =>
    intro i n hi hn
    obtain ⟨n, rfl⟩ : ∃ m, n = m + 1 := ⟨n - 1, by omega⟩
    obtain ⟨c1, c2, c3, y, c4, c5⟩ := chn_lt hV h (q := i) (by omega)
    have en : np (chn A i) = nI (chn A (i + 1)) := by rw [(hCW (chn A i) (by omega) (by omega)).2 c1 y c4, c5]
    have hs : p_X3_firstLineOf_L4 np (nI q) (nI (chn A i), nI i) = some (.inl (nI (chn A (i + 1)), nI (i + 1))) := by
      rw [p_X3_firstLineOf_L4]
      simp (disch := omega) only [le_nI, ib_nI, gd_t, tn_nI, nm_s, en]
      rw [if_neg (by omega), show nI i + (1 : Int32) = nI (i + 1) from nI_1 i]
    rw [loopN_in hs]
    exact ih (i + 1) n (by omega) (by omega)
theorem c_firstL {A : Nat → Nat} (hV : VA A) {x : Nat × Nat} (h : dst A = some x) {w np : Nat → Int32} (hCW : CW A (pgA A) w np 0) {q : Nat} (hq : q ≤ x.1 % 100) : p_X3_firstLineOf np (nI q) = some (nI (chn A q)) := by
  have hb := dst_bnd hV h
  have hu := fuel_ge
  rw [p_X3_firstLineOf, show ((0 : Int32), (0 : Int32)) = (nI (chn A 0), nI 0) from rfl, c_fl_loop hV h hCW hq q 0 fuel (by omega) (by omega), bd2_s]
theorem m_fo_loop {A : Nat → Nat} (hV : VA A) {x : Nat × Nat} (h : dst A = some x) {cu pa nx : Nat → Int32} (hMW : MW A (pgA A) cu pa nx 0) {q : Nat} (hq : q ≤ x.1 % 100) : ∀ (d i n : Nat), i + d = q → d < n → loopN (p_X8_firstOf_L4 nx (nI q)) n (nI (chn A i), nI i) = some (nI (chn A q), nI q) := by
  have h0 := hV.n
  have hb := dst_bnd hV h
  intro d
  induction d with
  | zero =>
    intro i n hi hn
    obtain ⟨n, rfl⟩ : ∃ m, n = m + 1 := ⟨n - 1, by omega⟩
    refine loopN_out ?_
    rw [p_X8_firstOf_L4]
    simp (disch := omega) only [le_nI]
    rw [if_pos (by omega), show i = q by omega]
  | succ d ih =>
    intro i n hi hn
    obtain ⟨n, rfl⟩ : ∃ m, n = m + 1 := ⟨n - 1, by omega⟩
    obtain ⟨c1, c2, c3, y, c4, c5⟩ := chn_lt hV h (q := i) (by omega)
    have en : nx (chn A i) = nI (chn A (i + 1)) := by rw [(hMW (chn A i) (by omega) (by omega)).2.2 c1 y c4, c5]
    have hs : p_X8_firstOf_L4 nx (nI q) (nI (chn A i), nI i) = some (.inl (nI (chn A (i + 1)), nI (i + 1))) := by
      rw [p_X8_firstOf_L4]
      simp (disch := omega) only [le_nI, ib_nI, gd_t, tn_nI, nm_s, en]
      rw [if_neg (by omega), show nI i + (1 : Int32) = nI (i + 1) from nI_1 i]
    rw [loopN_in hs]
    exact ih (i + 1) n (by omega) (by omega)
theorem m_firstOf {A : Nat → Nat} (hV : VA A) {x : Nat × Nat} (h : dst A = some x) {cu pa nx : Nat → Int32} (hMW : MW A (pgA A) cu pa nx 0) {q : Nat} (hq : q ≤ x.1 % 100) : p_X8_firstOf nx (nI q) = some (nI (chn A q)) := by
  have hb := dst_bnd hV h
  have hu := fuel_ge
  rw [p_X8_firstOf, show ((0 : Int32), (0 : Int32)) = (nI (chn A 0), nI 0) from rfl, m_fo_loop hV h hMW hq q 0 fuel (by omega) (by omega), bd2_s]
theorem cm_pageOf {A : Nat → Nat} (hV : VA A) {x : Nat × Nat} (h : dst A = some x) {w np cu pa nx : Nat → Int32} (hCW : CW A (pgA A) w np 0) (hMW : MW A (pgA A) cu pa nx 0) {l : Nat} (hl : l < A 0) :
    ∀ (d p n : Nat), p + d = x.1 % 100 → p < x.1 % 100 → chn A p ≤ l → d < n → ∃ (r z : Int32), loopN (p_X3_pageOf_L16 np (nI l)) n (nI p) = some r ∧ loopN (p_X8_pageOf_L23 (nI l) nx) n (nI p, nI (chn A (p + 1))) = some (r, z) := by
  have h0 := hV.n
  have hb := dst_bnd hV h
  have hend := chn_end hV h
  intro d
  induction d with
  | zero => intro p n hp hp2; omega
  | succ d ih =>
    intro p n hp hp2 hc hn
    obtain ⟨n, rfl⟩ : ∃ m, n = m + 1 := ⟨n - 1, by omega⟩
    obtain ⟨c1, c2, c3, -⟩ := chn_lt hV h (q := p) hp2
    have hs7 : p_X3_pageOf_L16 np (nI l) (nI p) = if l < chn A (p + 1) then some (.inr (nI p)) else some (.inl (nI (p + 1))) := by
      rw [p_X3_pageOf_L16, show nI p + (1 : Int32) = nI (p + 1) from nI_1 p, c_firstL hV h hCW (show p + 1 ≤ x.1 % 100 by omega), bd1_s]
      have e12 : ((12 : Int32) ≤ nI p) = (12 ≤ p) := le_nI (a := 12) (by omega) (by omega)
      simp (disch := omega) only [e12, lt_nI]
      rw [if_neg (by omega)]
    by_cases hq : l < chn A (p + 1)
    · rw [if_pos hq] at hs7
      refine ⟨nI p, nI (chn A (p + 1)), loopN_out hs7, loopN_out ?_⟩
      rw [p_X8_pageOf_L23]
      simp (disch := omega) only [lt_nI]
      rw [if_pos hq]
    · rw [if_neg hq] at hs7
      have hp3 : p + 1 < x.1 % 100 := by
        rcases Nat.lt_or_ge (p + 1) (x.1 % 100) with z | z
        · exact z
        · rw [show p + 1 = x.1 % 100 by omega, hend] at hq; omega
      obtain ⟨f1, f2, f3, y, f4, f5⟩ := chn_lt hV h (q := p + 1) hp3
      have en : nx (chn A (p + 1)) = nI (chn A (p + 1 + 1)) := by rw [(hMW (chn A (p + 1)) (by omega) (by omega)).2.2 f1 y f4, f5]
      have hs8 : p_X8_pageOf_L23 (nI l) nx (nI p, nI (chn A (p + 1))) = some (.inl (nI (p + 1), nI (chn A (p + 1 + 1)))) := by
        rw [p_X8_pageOf_L23]
        simp (disch := omega) only [lt_nI, ib_nI, gd_t, tn_nI, nm_s, en]
        rw [if_neg hq, show nI p + (1 : Int32) = nI (p + 1) from nI_1 p]
      rw [loopN_in hs7, loopN_in hs8]
      exact ih (p + 1) n (by omega) hp3 (by omega) (by omega)
theorem dst_pos {A : Nat → Nat} (hV : VA A) {x : Nat × Nat} (h : dst A = some x) (hN : 0 < A 0) : 0 < x.1 % 100 := by
  have := chn_end hV h
  rcases Nat.eq_zero_or_pos (x.1 % 100) with z | z
  · rw [z] at this; have : (0 : Nat) = A 0 := this; omega
  · exact z
theorem pr_pageOf {c v : Nat → Int32} {A : Nat → Nat} (hV : VA A) (hM : repM v A) {l : Nat} (hl : l < A 0) {wF npF : Nat → Int32} (hw : wF 0 = enc ((dst A).map (fun x => x.1))) (hCW : dst A ≠ none → CW A (pgA A) wF npF 0) (z1 z2 : Int32) (R cu pa nx : Nat → Int32) :
    ∃ r : Int32, p_X3_pageOf wF npF (nI l) = some r ∧ ∃ o, p_X8_pageOf z1 z2 v R cu pa nx (nI l) = some (r, o) := by
  have hu := fuel_ge
  obtain ⟨RF, cF, pF, xF, e, hR, hMW⟩ := m_lays hV hM z1 z2 R cu pa nx
  rw [p_X3_pageOf, p_X8_pageOf, e, bd6_s, hw]
  cases hd : dst A with
  | none => exact ⟨-4, rfl, _, rfl⟩
  | some x =>
    have hb := dst_bnd hV hd
    have hMW := hMW (by rw [hd]; simp)
    have hCW := hCW (by rw [hd]; simp)
    have hp := dst_pos hV hd (by omega)
    obtain ⟨f1, f2, f3, y, f4, f5⟩ := chn_lt hV hd (q := 0) hp
    have en : xF 0 = nI (chn A 1) := by rw [(hMW 0 (by omega) (by omega)).2.2 f1 y f4, f5]
    obtain ⟨r, z, e1, e2⟩ := cm_pageOf hV hd hCW hMW hl (x.1 % 100) 0 fuel (by omega) hp (Nat.zero_le _) (by omega)
    rw [if_neg (show ¬ enc (Option.map (fun x : Nat × Nat => x.1) (some x)) = (-4 : Int32) from enc_ne (x := x.1) (by omega)), if_neg (show ¬ (some x) = none by simp), if_neg (show ¬ (1 : Int32) = 0 by decide), nm_s, en, show (0 : Int32) = nI 0 from rfl, e1, bd1_s, show chn A 1 = chn A (0 + 1) from rfl, e2, bd2_s]
    exact ⟨r, rfl, _, rfl⟩
-- of
theorem pr_of {c v : Nat → Int32} {A : Nat → Nat} (hV : VA A) (hC : repC c A) (hM : repM v A) (i0 i1 i2 i3 z : Int32) (a1 a2 a3 a4 a5 R7 w np : Nat → Int32) (z1 z2 : Int32) (R cu pa nx : Nat → Int32) (x1 x2 : Int32) :
    ∃ r : Int32, (∃ o, p_X7_of i0 i1 i2 i3 z c a1 a2 a3 a4 a5 R7 w np x1 x2 = some (r, o)) ∧ ∃ o, p_X8_of z1 z2 v R cu pa nx x1 x2 = some (r, o) := by
  have h0 := hV.n
  rw [p_X7_of, p_X8_of]
  rcases cm_line hV hC hM x1 with ⟨e1, e2⟩ | ⟨k, hk, rfl, e1, e2⟩
  · rw [e1, e2, bd1_s, bd1_s, if_pos (show (0 : Int32) = 0 from rfl)]
    exact ⟨-1, ⟨_, rfl⟩, _, rfl⟩
  · rw [e1, e2, bd1_s, bd1_s, if_neg (show ¬ (1 : Int32) = 0 by decide), if_neg (show ¬ (1 : Int32) = 0 by decide)]
    by_cases q0 : x2 = 0
    · rw [if_pos q0, if_pos q0, c_rhymeOf hV hC hk, bd1_s, show p_X8_at v (nI k) 0 = _ from m_at (i := 0) hM (by omega) (by omega), bd1_s]
      exact ⟨_, ⟨_, rfl⟩, _, rfl⟩
    rw [if_neg q0, if_neg q0]
    by_cases q1 : x2 = 1
    · rw [if_pos q1, if_pos q1, c_beginsStanza hV hC hk, bd1_s, m_begins hV hM (by omega), bd1_s]
      by_cases hb : nI (bgn A k) = (0 : Int32)
      · rw [if_pos hb, if_pos hb]; exact ⟨_, ⟨_, rfl⟩, _, rfl⟩
      · rw [if_neg hb, if_neg hb]; exact ⟨_, ⟨_, rfl⟩, _, rfl⟩
    rw [if_neg q1, if_neg q1]
    by_cases q2 : x2 = 2
    · rw [if_pos q2, if_pos q2, c_wordsOf hV hC hk, bd1_s, m_words hM (by omega), bd1_s]
      exact ⟨_, ⟨_, rfl⟩, _, rfl⟩
    rw [if_neg q2, if_neg q2]
    by_cases q3 : x2 = 3
    · rw [if_pos q3, if_pos q3, c_stanzaOf hV hC hk, bd1_s, m_stanzaOf hV hM (by omega), bd1_s]
      exact ⟨_, ⟨_, rfl⟩, _, rfl⟩
    rw [if_neg q3, if_neg q3]
    by_cases q4 : x2 = 4
    · rw [if_pos q4, if_pos q4, c_indentationOf hV hC hk, bd1_s, m_indent hV hM (by omega), bd1_s]
      exact ⟨_, ⟨_, rfl⟩, _, rfl⟩
    rw [if_neg q4, if_neg q4]
    obtain ⟨number, cost, rows, rc, nr, rn, row, posi, e, hL⟩ := c_laidOut hV hC hk i0 i1 i2 i3 a1 a2 a3 a4 a5
    by_cases q5 : x2 = 5
    · rw [if_pos q5, if_pos q5, e, bd9_s, m_rowsOf hV hM (by omega), bd1_s, hL.2.2.1]
      exact ⟨_, ⟨_, rfl⟩, _, rfl⟩
    rw [if_neg q5, if_neg q5]
    by_cases q6 : x2 = 6
    · rw [if_pos q6, if_pos q6, e, bd9_s, m_costOf hV hM (by omega), bd1_s, hL.2.1]
      exact ⟨_, ⟨_, rfl⟩, _, rfl⟩
    rw [if_neg q6, if_neg q6]
    by_cases q7 : x2 = 7
    · obtain ⟨j0, j1, j2, j3, j4, b1, b2, b3, b4, b5, RF, wF, npF, ed, hR, hw, hCW⟩ := c_distributed hV hC i0 i1 i2 i3 z a1 a2 a3 a4 a5 R7 w np
      obtain ⟨r, e7, ⟨o1, o2, o3, o4, o5, o6⟩, e8⟩ := pr_pageOf (c := c) hV hM hk hw hCW z1 z2 R cu pa nx
      rw [if_pos q7, if_pos q7, ed, bd13_s, e7, bd1_s, e8, bd7_s]
      exact ⟨_, ⟨_, rfl⟩, _, rfl⟩
    rw [if_neg q7, if_neg q7]
    exact ⟨-1, ⟨_, rfl⟩, _, rfl⟩
-- settings
theorem pr_settings {c v : Nat → Int32} {A : Nat → Nat} (hV : VA A) (hC : repC c A) (hM : repM v A) (i0 i1 i2 i3 : Int32) (a1 a2 a3 a4 a5 : Nat → Int32) (x1 : Int32) :
    ∃ r : Int32, (∃ o, p_X7_settings i0 i1 i2 i3 c a1 a2 a3 a4 a5 x1 = some (r, o)) ∧ p_X8_settings v x1 = some r := by
  have h0 := hV.n
  rw [p_X7_settings, p_X8_settings]
  rcases cm_line hV hC hM x1 with ⟨e1, e2⟩ | ⟨k, hk, rfl, e1, e2⟩
  · rw [e1, e2, bd1_s, bd1_s, if_pos (show (0 : Int32) = 0 from rfl)]
    exact ⟨-1, ⟨_, rfl⟩, rfl⟩
  · obtain ⟨number, cost, rows, rc, nr, rn, row, posi, e, hL⟩ := c_laidOut hV hC hk i0 i1 i2 i3 a1 a2 a3 a4 a5
    rw [e1, e2, bd1_s, bd1_s, if_neg (show ¬ (1 : Int32) = 0 by decide), if_neg (show ¬ (1 : Int32) = 0 by decide), e, bd9_s, m_many hV hM (by omega), bd1_s, hL.1]
    exact ⟨_, ⟨_, rfl⟩, rfl⟩
