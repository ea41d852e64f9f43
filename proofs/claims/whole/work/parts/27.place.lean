/-! ===== the words of a layout: rows and positions; compute, said, settings ===== -/
def nbs (W code : Nat) : Nat → Nat
  | 0 => 0
  | i + 1 => nbs W code i + brk W code i
def pos (A : Nat → Nat) (k code : Nat) : Nat → Nat
  | 0 => ind A k
  | i + 1 => if brk (A (11 + 15 * k)) code i = 1 then ind A k + A 4 else pos A k code i + A (12 + 15 * k + i) + 1
theorem brk_le (W code i : Nat) : brk W code i ≤ 1 := by unfold brk; split <;> omega
theorem nbs_le (W code : Nat) : ∀ i, nbs W code i ≤ i
  | 0 => Nat.le_refl _
  | i + 1 => by
    have h1 := nbs_le W code i
    have h2 := brk_le W code i
    unfold nbs; omega
theorem all_r {p : Nat → Bool} {n : Nat} (h : (List.range n).all p = true) {x : Nat} (hx : x < n) : p x = true := List.all_eq_true.mp h x (List.mem_range.mpr hx)
def brAb : Bool := (List.range 7).all fun W => (List.range 7).all fun s => (List.range 32).all fun code => (List.range 6).all fun j => decide (s < W ∧ code % 2 ^ (W - 1 - s) = 0 ∧ s ≤ j → brk W code j = 0)
theorem brAb_t : brAb = true := by decide +kernel
def brBb : Bool := (List.range 7).all fun W => (List.range 7).all fun e => (List.range 7).all fun s => (List.range 32).all fun code => (List.range 6).all fun j => decide (e < W ∧ s < e ∧ code % 2 ^ (W - 1 - s) = 2 ^ (W - 1 - e) + code % 2 ^ (W - 1 - e) → (s ≤ j ∧ j + 1 < e → brk W code j = 0) ∧ brk W code (e - 1) = 1)
theorem brBb_t : brBb = true := by decide +kernel
theorem brA {W s code j : Nat} (hW : W < 7) (hs : s < W) (hc : code < 32) (h : code % 2 ^ (W - 1 - s) = 0) (hj : j < 6) (hsj : s ≤ j) : brk W code j = 0 := by
  have H : ∀ W, W < 7 → ∀ s, s < 7 → ∀ code, code < 32 → ∀ j, j < 6 → (s < W ∧ code % 2 ^ (W - 1 - s) = 0 ∧ s ≤ j → brk W code j = 0) := fun W h1 s h2 code h3 j h4 => of_decide_eq_true (all_r (all_r (all_r (all_r brAb_t h1) h2) h3) h4)
  exact H W hW s (by omega) code hc j hj ⟨hs, h, hsj⟩
theorem brB {W e s code t : Nat} (hW : W < 7) (he : e < W) (hs : s < e) (hc : code < 32) (h : code % 2 ^ (W - 1 - s) = 2 ^ (W - 1 - e) + t) (ht : t < 2 ^ (W - 1 - e)) : (∀ j, j < 6 → s ≤ j → j + 1 < e → brk W code j = 0) ∧ brk W code (e - 1) = 1 ∧ code % 2 ^ (W - 1 - e) = t := by
  have et : code % 2 ^ (W - 1 - e) = t := by
    rw [← Nat.mod_mod_of_dvd code (Nat.pow_dvd_pow 2 (show W - 1 - e ≤ W - 1 - s by omega)), h, Nat.add_mod_left, Nat.mod_eq_of_lt ht]
  rw [← et] at h
  have H : ∀ W, W < 7 → ∀ e, e < 7 → ∀ s, s < 7 → ∀ code, code < 32 → ∀ j, j < 6 → (e < W ∧ s < e ∧ code % 2 ^ (W - 1 - s) = 2 ^ (W - 1 - e) + code % 2 ^ (W - 1 - e) → (s ≤ j ∧ j + 1 < e → brk W code j = 0) ∧ brk W code (e - 1) = 1) := fun W h1 e h2 s h3 code h4 j h5 => of_decide_eq_true (all_r (all_r (all_r (all_r (all_r brBb_t h1) h2) h3) h4) h5)
  exact ⟨fun j j1 j2 j3 => (H W hW e (by omega) s (by omega) code hc j j1 ⟨he, hs, h⟩).1 ⟨j2, j3⟩, (H W hW e (by omega) s (by omega) code hc 0 (by omega) ⟨he, hs, h⟩).2, et⟩
theorem nbs_pc {W code : Nat} (hW : W < 7) (h0 : 0 < W) (hc : code < 2 ^ (W - 1)) : nbs W code W = pc5 code := by
  have h32 : code < 32 := Nat.lt_of_lt_of_le hc (pow_le32 (by omega))
  have H : ∀ W, W < 7 → ∀ code, code < 32 → (0 < W ∧ code < 2 ^ (W - 1) → nbs W code W = pc5 code) := by decide +kernel
  exact H W hW code h32 ⟨h0, hc⟩
theorem bf_code {A : Nat → Nat} {k : Nat} : ∀ (d i f w : Nat) (x : Nat × Nat), bf A k (d + 1) i f w = some x → x.2 < 2 ^ d
  | 0, i, f, w, x, h => by
    unfold bf at h
    split at h
    · rw [if_pos rfl] at h; cases h; decide
    · cases h
  | d + 1, i, f, w, x, h => by
    rw [bf] at h
    split at h
    · rw [if_neg (by omega)] at h
      have hp : 2 ^ (d + 1) = 2 ^ d + 2 ^ d := by rw [Nat.pow_succ]; omega
      cases h1 : bf A k (d + 1) (i + 1) (ind A k + A 4) 0 with
      | none =>
        rw [h1] at h
        have h2 : bf A k (d + 1) (i + 1) f (adw w (A (12 + 15 * k + i))) = some x := by rw [← h]; show _ = pick none _; rw [pick_nl]
        have := bf_code d _ _ _ x h2
        omega
      | some y =>
        have hy := bf_code d _ _ _ y h1
        rw [h1] at h
        cases h2 : bf A k (d + 1) (i + 1) f (adw w (A (12 + 15 * k + i))) with
        | none => rw [h2, pick_nr] at h; simp only [shf, Option.map_some, Option.some.injEq] at h; rw [← h]; show y.2 + 2 ^ d < _; omega
        | some z =>
          have hz := bf_code d _ _ _ z h2
          rw [h2] at h
          simp only [shf, Option.map_some, pick] at h
          split at h
          · cases h; omega
          · cases h; show y.2 + 2 ^ d < _; omega
    · cases h
theorem rst_code {A : Nat → Nat} {k e : Nat} {y : Nat × Nat} (he : e < A (11 + 15 * k)) (h : rst A k e = some y) : y.2 < 2 ^ (A (11 + 15 * k) - 1 - e) := by
  unfold rst at h
  rw [show A (11 + 15 * k) - e = A (11 + 15 * k) - 1 - e + 1 by omega] at h
  exact bf_code _ _ _ _ y h
theorem rst_0 (A : Nat → Nat) (k : Nat) : rst A k 0 = bst A k := rfl
theorem pos_le {A : Nat → Nat} (hV : VA A) {k code : Nat} (hk : k < 12) : ∀ i, i ≤ 6 → pos A k code i ≤ 25 + 10 * i
  | 0, _ => by have := ind_le hV hk; show ind A k ≤ _; omega
  | i + 1, h => by
    have h1 := pos_le hV (k := k) (code := code) hk i (by omega)
    have h2 := ind_le hV hk
    have h3 := hV.st
    have h4 := (hV.ln hk).2.2.2 i (by omega)
    unfold pos
    split <;> omega
theorem c_place_loop {c : Nat → Int32} {A : Nat → Nat} (hV : VA A) (hC : repC c A) {k code : Nat} (hk : k < A 0) (hc : code < 32) {rc nr rn : Nat → Int32} (hR : ∀ j, j ≤ A (11 + 15 * k) → RW A k rc nr rn j) :
    ∀ (d i s g col n : Nat) (row posi : Nat → Int32), i + d = A (11 + 15 * k) → 0 < A (11 + 15 * k) → i ≤ s → s ≤ A (11 + 15 * k) → (s < A (11 + 15 * k) → ∃ y, rst A k s = some y ∧ code % 2 ^ (A (11 + 15 * k) - 1 - s) = y.2) → (∀ j, j < 6 → i ≤ j + 1 → j + 1 < s → brk (A (11 + 15 * k)) code j = 0) → (0 < s → s < A (11 + 15 * k) → brk (A (11 + 15 * k)) code (s - 1) = 1) →
      (i < s ∨ s = A (11 + 15 * k) → g = 1 + nbs (A (11 + 15 * k)) code i ∧ col = pos A k code i) → (i = s → s < A (11 + 15 * k) → g = nbs (A (11 + 15 * k)) code i) → col ≤ 25 + 10 * i → d < n → (∀ j, j < i → row j = nI (nbs (A (11 + 15 * k)) code j) ∧ posi j = nI (pos A k code j)) →
      ∃ (z1 z2 z3 : Int32) (rowF posF : Nat → Int32), loopN (p_X1_placeWords_L18 (nI (ind A k)) nr c (nI k) (nI (A (11 + 15 * k)))) n (nI g, nI s, nI col, nI i, row, posi) = some (nI (1 + nbs (A (11 + 15 * k)) code (A (11 + 15 * k))), z1, z2, z3, rowF, posF) ∧ ∀ j, j < A (11 + 15 * k) → rowF j = nI (nbs (A (11 + 15 * k)) code j) ∧ posF j = nI (pos A k code j) := by
  have h0 := hV.n
  have h1 := hV.ln (k := k) (by omega)
  have h3 := ind_le hV (k := k) (by omega)
  have h2 := hV.st
  intro d
  induction d with
  | zero =>
    intro i s g col n row posi hi hW his hsW hy hz hb hg1 hg2 hcol hn hrow
    obtain ⟨n, rfl⟩ : ∃ m, n = m + 1 := ⟨n - 1, by omega⟩
    have es : s = A (11 + 15 * k) := by omega
    obtain ⟨eg, -⟩ := hg1 (Or.inr es)
    have ei : i = A (11 + 15 * k) := by omega
    refine ⟨nI s, nI col, nI i, row, posi, ?_, fun j hj => hrow j (by omega)⟩
    rw [eg, ← ei]
    refine loopN_out ?_
    rw [p_X1_placeWords_L18]
    simp (disch := omega) only [le_nI]
    rw [if_pos (by omega)]
  | succ d ih =>
    intro i s g col n row posi hi hW his hsW hy hz hb hg1 hg2 hcol hn hrow
    obtain ⟨n, rfl⟩ : ∃ m, n = m + 1 := ⟨n - 1, by omega⟩
    have h4 := h1.2.2.2 i (by omega)
    have hnb := nbs_le (A (11 + 15 * k)) code i
    have hB : ∀ (g2 s2 c2 : Nat), g2 = 1 + nbs (A (11 + 15 * k)) code i → c2 = pos A k code i → p_X1_placeWords_B52_12 c (nI k) (nI i) row posi (nI g2) (nI s2) (nI c2) = some (.inl (nI g2, nI s2, nI (pos A k code i + A (12 + 15 * k + i) + 1), nI (i + 1), upd row i (nI (nbs (A (11 + 15 * k)) code i)), upd posi i (nI (pos A k code i)))) := by
      intro g2 s2 c2 eg ec
      rw [p_X1_placeWords_B52_12, c_lettersOf hV hC hk (by omega), bd1_s, nm_s, eg, ec]
      simp (disch := omega) only [ib_nI, gd_t, tn_nI]
      rw [show nI (A (12 + 15 * k + i)) + (1 : Int32) = nI (A (12 + 15 * k + i) + 1) from nI_1 _, nI_add, show nI i + (1 : Int32) = nI (i + 1) from nI_1 i, show nI (1 + nbs (A (11 + 15 * k)) code i) - (1 : Int32) = nI (nbs (A (11 + 15 * k)) code i) by rw [Nat.add_comm]; exact nI_pred _]
      rfl
    have hcl : pos A k code i ≤ 25 + 10 * i := pos_le hV (by omega) i (by omega)
    -- what holds at the next word, with the next row's beginning s2 behind this one
    have next : ∀ s2 : Nat, i < s2 → s2 ≤ A (11 + 15 * k) → (s2 < A (11 + 15 * k) → ∃ y, rst A k s2 = some y ∧ code % 2 ^ (A (11 + 15 * k) - 1 - s2) = y.2) → (∀ j, j < 6 → i ≤ j → j + 1 < s2 → brk (A (11 + 15 * k)) code j = 0) → (s2 < A (11 + 15 * k) → brk (A (11 + 15 * k)) code (s2 - 1) = 1) →
        ∃ (z1 z2 z3 : Int32) (rowF posF : Nat → Int32), loopN (p_X1_placeWords_L18 (nI (ind A k)) nr c (nI k) (nI (A (11 + 15 * k)))) n (nI (1 + nbs (A (11 + 15 * k)) code i), nI s2, nI (pos A k code i + A (12 + 15 * k + i) + 1), nI (i + 1), upd row i (nI (nbs (A (11 + 15 * k)) code i)), upd posi i (nI (pos A k code i))) = some (nI (1 + nbs (A (11 + 15 * k)) code (A (11 + 15 * k))), z1, z2, z3, rowF, posF) ∧ ∀ j, j < A (11 + 15 * k) → rowF j = nI (nbs (A (11 + 15 * k)) code j) ∧ posF j = nI (pos A k code j) := by
      intro s2 q1 q2 q3 q4 q5
      have hlast : i + 1 = A (11 + 15 * k) → brk (A (11 + 15 * k)) code i = 0 := by
        intro e; unfold brk; rw [if_neg (fun z => by omega)]
      refine ih (i + 1) s2 _ _ n _ _ (by omega) hW (by omega) q2 q3 (fun j j1 j2 j3 => q4 j j1 (by omega) j3) (fun _ z => q5 z) (fun h => ?_) (fun e1 e2 => ?_) (by omega) (by omega) (fun j hj => ?_)
      · have hb0 : brk (A (11 + 15 * k)) code i = 0 := by
          by_cases hl : i + 1 = A (11 + 15 * k)
          · exact hlast hl
          · exact q4 i (by omega) (by omega) (by omega)
        show _ = 1 + (nbs (A (11 + 15 * k)) code i + brk (A (11 + 15 * k)) code i) ∧ _ = if brk (A (11 + 15 * k)) code i = 1 then ind A k + A 4 else pos A k code i + A (12 + 15 * k + i) + 1
        rw [hb0, if_neg (by omega)]
        exact ⟨rfl, rfl⟩
      · have hb1 : brk (A (11 + 15 * k)) code i = 1 := by
          have := q5 e2
          rw [← e1] at this
          exact this
        show _ = nbs (A (11 + 15 * k)) code i + brk (A (11 + 15 * k)) code i
        rw [hb1]; omega
      · by_cases hji : j = i
        · subst hji; rw [upd_same, upd_same]; exact ⟨rfl, rfl⟩
        · rw [upd_ne _ _ hji, upd_ne _ _ hji]; exact hrow j (by omega)
    by_cases hc0 : i = s
    · -- a row begins
      subst hc0
      have hiW : i < A (11 + 15 * k) := by omega
      obtain ⟨y, hy1, hy2⟩ := hy hiW
      obtain ⟨e, e1, e2, e3, e4, y2, hy3⟩ := (hR i (by omega)).2.2 hiW y hy1
      have eg := hg2 rfl hiW
      have ebeg : beg A k i = pos A k code i := by
        unfold beg
        cases i with
        | zero => rfl
        | succ i' =>
          have this : brk (A (11 + 15 * k)) code i' = 1 := hb (by omega) hiW
          show _ = if brk (A (11 + 15 * k)) code i' = 1 then ind A k + A 4 else _
          rw [if_neg (by omega), if_pos this]
      have hs : p_X1_placeWords_L18 (nI (ind A k)) nr c (nI k) (nI (A (11 + 15 * k))) (nI g, nI i, nI col, nI i, row, posi) = some (.inl (nI (1 + nbs (A (11 + 15 * k)) code i), nI e, nI (pos A k code i + A (12 + 15 * k + i) + 1), nI (i + 1), upd row i (nI (nbs (A (11 + 15 * k)) code i)), upd posi i (nI (pos A k code i)))) := by
        rw [p_X1_placeWords_L18]
        simp (disch := omega) only [le_nI, ib_nI, gd_t, tn_nI, nm_s, e1]
        rw [if_neg (by omega), if_pos trivial, c_beginningOf hC k (by omega), bd1_s, show nI g + (1 : Int32) = nI (g + 1) from nI_1 g, hB (g + 1) e (beg A k i) (by omega) ebeg, show g + 1 = 1 + nbs (A (11 + 15 * k)) code i by omega]
      rw [loopN_in hs]
      rw [e4] at hy2
      by_cases heW : e = A (11 + 15 * k)
      · have hz0 : code % 2 ^ (A (11 + 15 * k) - 1 - i) = 0 := by rw [hy2]; unfold cdo; rw [if_pos heW]
        exact next e e2 e3 (fun z => by omega) (fun j j1 j2 j3 => brA (by omega) hiW hc hz0 j1 j2) (fun z => by omega)
      · have heW2 : e < A (11 + 15 * k) := by omega
        have hq := hy2
        unfold cdo at hq
        rw [if_neg heW, hy3] at hq
        have hbB := brB (by omega) heW2 e2 hc (t := y2.2) hq (rst_code heW2 hy3)
        exact next e e2 e3 (fun _ => ⟨y2, hy3, hbB.2.2⟩) (fun j j1 j2 j3 => hbB.1 j j1 j2 j3) (fun _ => hbB.2.1)
    · have his2 : i < s := by omega
      obtain ⟨eg, ec⟩ := hg1 (Or.inl his2)
      have hs : p_X1_placeWords_L18 (nI (ind A k)) nr c (nI k) (nI (A (11 + 15 * k))) (nI g, nI s, nI col, nI i, row, posi) = some (.inl (nI (1 + nbs (A (11 + 15 * k)) code i), nI s, nI (pos A k code i + A (12 + 15 * k + i) + 1), nI (i + 1), upd row i (nI (nbs (A (11 + 15 * k)) code i)), upd posi i (nI (pos A k code i)))) := by
        rw [p_X1_placeWords_L18]
        simp (disch := omega) only [le_nI, eq_nI]
        rw [if_neg (by omega), if_neg hc0, hB g s col eg ec, eg]
      rw [loopN_in hs]
      exact next s his2 hsW hy (fun j j1 j2 j3 => hz j j1 (by omega) j3) (fun z => hb (by omega) z)
theorem bd6_s {α1 α2 α3 α4 α5 α6 β : Type} (a1 : α1) (a2 : α2) (a3 : α3) (a4 : α4) (a5 : α5) (a6 : α6) (k : α1 → α2 → α3 → α4 → α5 → α6 → Option β) : bd6 (some (a1, a2, a3, a4, a5, a6)) k = k a1 a2 a3 a4 a5 a6 := rfl
theorem bd9_s {α1 α2 α3 α4 α5 α6 α7 α8 α9 β : Type} (a1 : α1) (a2 : α2) (a3 : α3) (a4 : α4) (a5 : α5) (a6 : α6) (a7 : α7) (a8 : α8) (a9 : α9) (k : α1 → α2 → α3 → α4 → α5 → α6 → α7 → α8 → α9 → Option β) : bd9 (some (a1, a2, a3, a4, a5, a6, a7, a8, a9)) k = k a1 a2 a3 a4 a5 a6 a7 a8 a9 := rfl
/-- what a computed layout says of line k -/
def LY (A : Nat → Nat) (k : Nat) (number cost rows : Int32) (row posi : Nat → Int32) : Prop :=
  number = nI (rsn A k 0) ∧ cost = enc (csN A k) ∧ rows = enc (rwN A k) ∧ ∀ x, bst A k = some x → ∀ j, j < A (11 + 15 * k) → row j = nI (nbs (A (11 + 15 * k)) x.2 j) ∧ posi j = nI (pos A k x.2 j)
theorem c_compute {c : Nat → Int32} {A : Nat → Nat} (hV : VA A) (hC : repC c A) {k : Nat} (hk : k < A 0) (i0 i1 i2 i3 : Int32) (a1 a2 a3 a4 a5 : Nat → Int32) :
    ∃ (number cost rows : Int32) (rc nr rn row posi : Nat → Int32), p_X1_compute i0 i1 i2 i3 a1 a2 a3 a4 a5 c (nI k) = some (nI (ind A k), number, cost, rows, rc, nr, rn, row, posi) ∧ LY A k number cost rows row posi := by
  have h0 := hV.n
  have h1 := hV.ln (k := k) (by omega)
  have hu := fuel_ge
  have hRW : ∀ j, A (11 + 15 * k) ≤ j → j ≤ A (11 + 15 * k) → RW A k (upd a1 (A (11 + 15 * k)) (nI 0)) a2 (upd a3 (A (11 + 15 * k)) (nI 1)) j := by
    intro j hj1 hj2
    have e : j = A (11 + 15 * k) := by omega
    subst e
    refine ⟨?_, ?_, fun z => by omega⟩
    · rw [upd_same]; unfold rst; rw [Nat.sub_self]; rfl
    · rw [upd_same]; unfold rsn; rw [Nat.sub_self]; rfl
  obtain ⟨z, rc, nr, rn, e1, hR⟩ := c_rows_loop hV hC hk (A (11 + 15 * k)) fuel (upd a1 (A (11 + 15 * k)) (nI 0)) a2 (upd a3 (A (11 + 15 * k)) (nI 1)) (by omega) hRW (by omega)
  have hstart : p_X1_compute i0 i1 i2 i3 a1 a2 a3 a4 a5 c (nI k) = if rc 0 = -4 then some (nI (ind A k), rn 0, rc 0, -4, rc, nr, rn, a4, a5) else bd3 (p_X1_placeWords (nI (ind A k)) i3 nr a4 a5 c (nI k)) fun v_rows_26 v_row_27 v_position_28 => some (nI (ind A k), rn 0, rc 0, v_rows_26, rc, nr, rn, v_row_27, v_position_28) := by
    rw [p_X1_compute, c_wordsOf hV hC hk, bd1_s, c_indentationOf hV hC hk, bd1_s, nm_s]
    simp (disch := omega) only [ib_nI, gd_t, tn_nI]
    rw [show (0 : Int32) = nI 0 from rfl, show upd a3 (A (11 + 15 * k)) 1 = upd a3 (A (11 + 15 * k)) (nI 1) from rfl, e1, bd4_s]
  have hR0 := hR 0 (by omega)
  rw [hstart]
  cases hb : bst A k with
  | none =>
    have er : rst A k 0 = none := hb
    have ec : rc 0 = -4 := by rw [hR0.1, er]; rfl
    rw [if_pos ec]
    refine ⟨rn 0, rc 0, -4, rc, nr, rn, a4, a5, rfl, hR0.2.1, ?_, ?_, fun x hx => by rw [hb] at hx; cases hx⟩
    · rw [ec]; unfold csN; rw [hb]; rfl
    · unfold rwN; rw [hb]; rfl
  | some x =>
    have hx := bst_bnd hV (k := k) (by omega) hb
    have er : rst A k 0 = some x := hb
    have ec : rc 0 = nI x.1 := by rw [hR0.1, er]; rfl
    have hcs : rc 0 = enc (csN A k) := by rw [ec]; unfold csN; rw [hb]; rfl
    rw [if_neg (by rw [ec]; exact enc_ne (by omega))]
    by_cases hW : A (11 + 15 * k) = 0
    · have ex : x = (0, 0) := by
        have : bst A k = some (0, 0) := by unfold bst; rw [hW]; rfl
        rw [hb] at this; exact Option.some.inj this
      have ep : p_X1_placeWords (nI (ind A k)) i3 nr a4 a5 c (nI k) = some (nI 1, a4, a5) := by
        have hs : p_X1_placeWords_L18 (nI (ind A k)) nr c (nI k) (nI (A (11 + 15 * k))) (0, 0, 0, 0, a4, a5) = some (.inr (0, 0, 0, 0, a4, a5)) := by
          rw [p_X1_placeWords_L18, hW]
          rfl
        obtain ⟨m, em⟩ : ∃ m, fuel = m + 1 := ⟨fuel - 1, by omega⟩
        rw [p_X1_placeWords, c_wordsOf hV hC hk, bd1_s, em, loopN_out hs, bd6_s]
        rfl
      rw [ep, bd3_s]
      refine ⟨rn 0, rc 0, nI 1, rc, nr, rn, a4, a5, rfl, hR0.2.1, hcs, ?_, fun x hx j hj => by omega⟩
      unfold rwN; rw [hb, ex]; rfl
    · have hx2 : x.2 < 2 ^ (A (11 + 15 * k) - 1) := by
        have := rst_code (k := k) (e := 0) (by omega) er
        exact this
      obtain ⟨z1, z2, z3, rowF, posF, e2, hF⟩ := c_place_loop hV hC hk hx.2 hR (A (11 + 15 * k)) 0 0 0 0 fuel a4 a5 (by omega) (by omega) (by omega) (by omega) (fun _ => ⟨x, er, Nat.mod_eq_of_lt hx2⟩) (fun j _ _ z => by omega) (fun z => by omega) (fun h => by omega) (fun _ _ => rfl) (by omega) (by omega) (fun j hj => by omega)
      have hnb := nbs_le (A (11 + 15 * k)) x.2 (A (11 + 15 * k))
      have ep : p_X1_placeWords (nI (ind A k)) i3 nr a4 a5 c (nI k) = some (nI (1 + pc5 x.2), rowF, posF) := by
        rw [p_X1_placeWords, c_wordsOf hV hC hk, bd1_s, show ((0 : Int32), (0 : Int32), (0 : Int32), (0 : Int32), a4, a5) = (nI 0, nI 0, nI 0, nI 0, a4, a5) from rfl, e2, bd6_s, nbs_pc (by omega) (by omega) hx2]
        rw [nbs_pc (by omega) (by omega) hx2] at hnb
        have elt : (nI (1 + pc5 x.2) < (1 : Int32)) = (1 + pc5 x.2 < 1) := lt_nI (b := 1) (by omega) (by omega)
        simp only [elt]
        rw [if_neg (by omega)]
      rw [ep, bd3_s]
      refine ⟨rn 0, rc 0, nI (1 + pc5 x.2), rc, nr, rn, rowF, posF, rfl, hR0.2.1, hcs, ?_, fun y hy j hj => ?_⟩
      · unfold rwN; rw [hb]; rfl
      · rw [hb] at hy
        cases hy
        exact hF j hj
theorem c_laidOut {c : Nat → Int32} {A : Nat → Nat} (hV : VA A) (hC : repC c A) {k : Nat} (hk : k < A 0) (i0 i1 i2 i3 : Int32) (a1 a2 a3 a4 a5 : Nat → Int32) :
    ∃ (number cost rows : Int32) (rc nr rn row posi : Nat → Int32), p_X7_laidOut i0 i1 i2 i3 c a1 a2 a3 a4 a5 (nI k) = some (nI (ind A k), number, cost, rows, rc, nr, rn, row, posi) ∧ LY A k number cost rows row posi := by
  obtain ⟨number, cost, rows, rc, nr, rn, row, posi, e, h⟩ := c_compute hV hC hk i0 i1 i2 i3 a1 a2 a3 a4 a5
  exact ⟨number, cost, rows, rc, nr, rn, row, posi, by rw [p_X7_laidOut, e, bd9_s], h⟩
