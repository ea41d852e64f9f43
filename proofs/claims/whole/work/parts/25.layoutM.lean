/-! ===== the reference's search for the setting ===== -/
theorem sub_small {x : Int32} {c : Nat} (h1 : -1000000 ≤ x.toInt) (h2 : x.toInt ≤ 1000000) (hc : c ≤ 1000000) : (x - nI c).toInt = x.toInt - c := by
  rw [Int32.toInt_sub, nI_toInt (by omega)]
  exact Int.bmod_eq_of_le (by omega) (by omega)
theorem free_le {a b c : Nat} (ha : a ≤ 1000) (hb : b ≤ 1000) (hc : c ≤ 1000) : ((0 : Int32) ≤ nI a - nI b - nI c) = (b + c ≤ a) := by
  have e1 : (nI a - nI b).toInt = (a : Int) - b := pk_sub_toInt (by omega) (by omega)
  have e2 := sub_small (x := nI a - nI b) (c := c) (by omega) (by omega) (by omega)
  apply propext
  rw [Int32.le_iff_toInt_le, e2, e1]
  show (0 : Int) ≤ _ ↔ _
  omega
theorem free_eq {a b c : Nat} (ha : a ≤ 1000) (hb : b ≤ 1000) (hc : c ≤ 1000) (h : b + c ≤ a) : nI a - nI b - nI c = nI (a - (b + c)) := by
  rw [sub_nI (by omega), sub_nI (by omega)]
  congr 1
  omega
theorem bit_code {code e : Nat} (hc : code < 32) (he : e < 6) : ((nI code >>> (nI e &&& 31)) &&& 1 = (1 : Int32)) = (code / 2 ^ e % 2 = 1) := by
  have h : ∀ code, code < 32 → ∀ e, e < 6 → (((nI code >>> (nI e &&& 31)) &&& 1 = (1 : Int32)) ↔ (code / 2 ^ e % 2 = 1)) := by decide +kernel
  exact propext (h code hc e he)
def brk (W code i : Nat) : Nat := if i + 1 < W ∧ code / 2 ^ (W - 2 - i) % 2 = 1 then 1 else 0
theorem m_breaks {v : Nat → Int32} {A : Nat → Nat} (hV : VA A) (hM : repM v A) {k code i : Nat} (hk : k < 12) (hc : code < 32) (hi : i < A (11 + 15 * k)) : p_X8_breaks v (nI k) (nI code) (nI i) = some (nI (brk (A (11 + 15 * k)) code i)) := by
  have h1 := hV.ln hk
  rw [p_X8_breaks, m_words hM hk, bd1_s, bd1_s, show (1 : Int32) = nI 1 from rfl, show (2 : Int32) = nI 2 from rfl, sub_nI (by omega)]
  simp (disch := omega) only [le_nI]
  unfold brk
  by_cases h : i + 1 < A (11 + 15 * k)
  · rw [if_neg (by omega), sub_nI (by omega), sub_nI (by omega)]
    have e := bit_code (code := code) (e := A (11 + 15 * k) - 2 - i) hc (by omega)
    have e : ((nI code >>> (nI (A (11 + 15 * k) - 2 - i) &&& 31)) &&& nI 1 = nI 1) = (code / 2 ^ (A (11 + 15 * k) - 2 - i) % 2 = 1) := e
    simp only [e, h, true_and]
    split <;> rfl
  · rw [if_pos (by omega), if_neg (fun z => h z.1)]
    rfl
theorem m_costOfRow {v : Nat → Int32} {A : Nat → Nat} (hV : VA A) (hM : repM v A) {w p : Nat} (hw : w ≤ A 2) (hp : p ≤ 3) : p_X8_costOfRow v (nI (A 2 - w)) (nI p) = some (nI (rcs A p w)) := by
  have h1 := hV.st
  rw [p_X8_costOfRow, nm_s, hM 7 (by omega), show (3 : Int32) = nI 3 from rfl, show (10 : Int32) = nI 10 from rfl, sub_nI hp, mul_nI, nI_add, mul_nI]
  simp (disch := omega) only [ol, eq_nI]
  unfold rcs
  rcases (show A 7 = 0 ∨ A 7 = 1 ∨ A 7 = 2 by omega) with h | h | h <;> simp [h]
theorem adw_le {w l : Nat} (hl : l ≤ 9) : adw w l ≤ w + 10 := by
  unfold adw
  split <;> omega
theorem m_cb_loop {v : Nat → Int32} {A : Nat → Nat} (hV : VA A) (hM : repM v A) {k code : Nat} (hk : k < 12) (hc : code < 32) : ∀ (d i f w x n : Nat), i + d = A (11 + 15 * k) → f ≤ 25 → w ≤ 10 * i → x ≤ 1600 * i → d < n →
    (cbs A k code d i f w = none → loopN (p_X8_costBy_L15 v (nI k) (nI code)) n (nI f, nI w, nI x, nI i) = some (.inr (-4))) ∧
    (∀ y, cbs A k code d i f w = some y → ∃ f' w' i' : Int32, loopN (p_X8_costBy_L15 v (nI k) (nI code)) n (nI f, nI w, nI x, nI i) = some (.inl (f', w', nI (x + y), i'))) := by
  have h1 := hV.ln hk
  have h2 := hV.st
  have h3 := ind_le hV hk
  intro d
  induction d with
  | zero =>
    intro i f w x n hi hf hw hx hn
    obtain ⟨n, rfl⟩ : ∃ m, n = m + 1 := ⟨n - 1, by omega⟩
    refine ⟨fun h => (by cases h), fun y hy => ?_⟩
    cases hy
    refine ⟨nI f, nI w, nI i, loopN_out ?_⟩
    rw [p_X8_costBy_L15, m_words hM hk, bd1_s]
    simp (disch := omega) only [le_nI]
    rw [if_pos (by omega)]
    rfl
  | succ d ih =>
    intro i f w x n hi hf hw hx hn
    obtain ⟨n, rfl⟩ : ∃ m, n = m + 1 := ⟨n - 1, by omega⟩
    have h4 := h1.2.2.2 i (by omega)
    have h5 := adw_le (w := w) (l := A (12 + 15 * k + i)) (by omega)
    have hr := rcs_le hV (A (18 + 15 * k + i)) (f + adw w (A (12 + 15 * k + i)))
    have hB : ∀ u : Nat, w + A (12 + 15 * k + i) + u = adw w (A (12 + 15 * k + i)) → p_X8_costBy_B46_12 v (nI k) (nI code) (nI f) (nI w) (nI x) (nI i) (nI (A (12 + 15 * k + i))) (nI u) = if f + adw w (A (12 + 15 * k + i)) ≤ A 2 then (if d ≠ 0 ∧ code / 2 ^ (d - 1) % 2 = 1 then some (.inl (nI (ind A k + A 4), nI 0, nI (x + rcs A (A (18 + 15 * k + i)) (f + adw w (A (12 + 15 * k + i)))), nI (i + 1))) else some (.inl (nI f, nI (adw w (A (12 + 15 * k + i))), nI x, nI (i + 1)))) else some (.inr (.inr (-4))) := by
      intro u hu
      rw [p_X8_costBy_B46_12, nm_s, nm_s, nI_add, nI_add, show w + (A (12 + 15 * k + i) + u) = adw w (A (12 + 15 * k + i)) by omega, hM 2 (by omega), hM 4 (by omega), m_indent hV hM hk, m_breaks hV hM hk hc (by omega)]
      simp (disch := omega) only [free_le, bd1_s, nm_s]
      by_cases hq : f + adw w (A (12 + 15 * k + i)) ≤ A 2
      · rw [if_pos hq, if_pos hq, free_eq (by omega) (by omega) (by omega) hq]
        rw [show (9 : Int32) + nI i = nI (9 + i) from nI_add 9 i, m_at hM hk (by omega), bd1_s, show 9 + 15 * k + (9 + i) = 18 + 15 * k + i by omega, m_costOfRow hV hM hq (by omega), bd1_s, nI_add, nI_add, show nI i + (1 : Int32) = nI (i + 1) from nI_1 i]
        have eb : (d ≠ 0 ∧ code / 2 ^ (d - 1) % 2 = 1) = (i + 1 < A (11 + 15 * k) ∧ code / 2 ^ (A (11 + 15 * k) - 2 - i) % 2 = 1) := by
          rw [show A (11 + 15 * k) - 2 - i = d - 1 by omega]
          congr 1
          apply propext
          omega
        unfold brk
        simp only [eb]
        by_cases hb : i + 1 < A (11 + 15 * k) ∧ code / 2 ^ (A (11 + 15 * k) - 2 - i) % 2 = 1
        · rw [if_pos hb, if_neg (show ¬ nI 1 = (0 : Int32) by decide), if_pos hb]; rfl
        · rw [if_neg hb, if_pos (show nI 0 = (0 : Int32) from rfl), if_neg hb]
      · rw [if_neg hq, if_neg hq]
    have hs : p_X8_costBy_L15 v (nI k) (nI code) (nI f, nI w, nI x, nI i) = if f + adw w (A (12 + 15 * k + i)) ≤ A 2 then (if d ≠ 0 ∧ code / 2 ^ (d - 1) % 2 = 1 then some (.inl (nI (ind A k + A 4), nI 0, nI (x + rcs A (A (18 + 15 * k + i)) (f + adw w (A (12 + 15 * k + i)))), nI (i + 1))) else some (.inl (nI f, nI (adw w (A (12 + 15 * k + i))), nI x, nI (i + 1)))) else some (.inr (.inr (-4))) := by
      rw [p_X8_costBy_L15, m_words hM hk, bd1_s, show (3 : Int32) + nI i = nI (3 + i) from nI_add 3 i, m_at hM hk (by omega), bd1_s, show 9 + 15 * k + (3 + i) = 12 + 15 * k + i by omega]
      have e0 : (nI w ≤ (0 : Int32)) = (w ≤ 0) := le_nI (b := 0) (by omega) (by omega)
      simp (disch := omega) only [le_nI, e0]
      rw [if_neg (by omega)]
      by_cases hz : w ≤ 0
      · rw [if_pos hz]
        exact hB 0 (by unfold adw; rw [if_pos (by omega)])
      · rw [if_neg hz]
        exact hB 1 (by unfold adw; rw [if_neg (by omega)])
    unfold cbs
    by_cases hq : f + adw w (A (12 + 15 * k + i)) ≤ A 2
    · rw [if_pos hq] at hs ⊢
      by_cases hb : d ≠ 0 ∧ code / 2 ^ (d - 1) % 2 = 1
      · rw [if_pos hb] at hs ⊢
        rw [loopN_in hs]
        obtain ⟨i1, i2⟩ := ih (i + 1) (ind A k + A 4) 0 (x + rcs A (A (18 + 15 * k + i)) (f + adw w (A (12 + 15 * k + i)))) n (by omega) (by omega) (by omega) (by omega) (by omega)
        refine ⟨fun h => i1 ?_, fun y hy => ?_⟩
        · cases hcc : cbs A k code d (i + 1) (ind A k + A 4) 0 with
          | none => rfl
          | some z => rw [hcc] at h; cases h
        · cases hcc : cbs A k code d (i + 1) (ind A k + A 4) 0 with
          | none => rw [hcc] at hy; cases hy
          | some z =>
            rw [hcc] at hy
            simp only [Option.map_some, Option.some.injEq] at hy
            obtain ⟨f', w', i', e⟩ := i2 z hcc
            refine ⟨f', w', i', ?_⟩
            rw [e, ← hy, show x + rcs A (A (18 + 15 * k + i)) (f + adw w (A (12 + 15 * k + i))) + z = x + (z + rcs A (A (18 + 15 * k + i)) (f + adw w (A (12 + 15 * k + i)))) by omega]
      · rw [if_neg hb] at hs ⊢
        rw [loopN_in hs]
        exact ih (i + 1) f (adw w (A (12 + 15 * k + i))) x n (by omega) hf (by omega) (by omega) (by omega)
    · rw [if_neg hq] at hs ⊢
      exact ⟨fun _ => loopN_out hs, fun y hy => (by cases hy)⟩
def enc (o : Option Nat) : Int32 := match o with
  | none => -4
  | some x => nI x
def cbk (A : Nat → Nat) (k code : Nat) : Option Nat := cbs A k code (A (11 + 15 * k)) 0 (ind A k) 0
theorem m_costBy {v : Nat → Int32} {A : Nat → Nat} (hV : VA A) (hM : repM v A) {k code : Nat} (hk : k < 12) (hc : code < 32) : p_X8_costBy v (nI k) (nI code) = some (enc (cbk A k code)) := by
  have hu := fuel_ge
  have h1 := hV.ln hk
  have h3 := ind_le hV hk
  obtain ⟨i1, i2⟩ := m_cb_loop hV hM hk hc (A (11 + 15 * k)) 0 (ind A k) 0 0 fuel (by omega) (by omega) (by omega) (by omega) (by omega)
  rw [p_X8_costBy, m_indent hV hM hk, bd1_s, show ((nI (ind A k), (0 : Int32), (0 : Int32), (0 : Int32)) : Int32 × Int32 × Int32 × Int32) = (nI (ind A k), nI 0, nI 0, nI 0) from rfl]
  unfold cbk
  cases hcc : cbs A k code (A (11 + 15 * k)) 0 (ind A k) 0 with
  | none => rw [i1 hcc]; rfl
  | some y =>
    obtain ⟨f', w', i', e⟩ := i2 y hcc
    rw [e, Nat.zero_add]; rfl
theorem cbk_le {A : Nat → Nat} (hV : VA A) {k code x : Nat} (hk : k < 12) (h : cbk A k code = some x) : x ≤ 9600 := by
  have h1 := hV.ln hk
  have := cbs_le hV _ _ _ _ h
  omega
theorem m_codes {v : Nat → Int32} {A : Nat → Nat} (hV : VA A) (hM : repM v A) {k : Nat} (hk : k < 12) : p_X8_codes v (nI k) = some (nI (2 ^ (A (11 + 15 * k) - 1))) := by
  have h1 := hV.ln hk
  rw [p_X8_codes, m_words hM hk, bd1_s, bd1_s]
  have h6 := h1.2.2.1
  generalize A (11 + 15 * k) = W at h6 ⊢
  have h : ∀ W, W ≤ 6 → (if (2 : Int32) ≤ nI W then some ((1 : Int32) <<< ((nI W - 1) &&& 31)) else some 1) = some (nI (2 ^ (W - 1))) := by decide +kernel
  exact h W h6
theorem pow_le32 {W : Nat} (h : W ≤ 6) : 2 ^ (W - 1) ≤ 32 := by
  have h : ∀ W, W ≤ 6 → 2 ^ (W - 1) ≤ 32 := by decide
  exact h W (by omega)
theorem m_many_loop {v : Nat → Int32} {A : Nat → Nat} (hV : VA A) (hM : repM v A) {k : Nat} (hk : k < 12) : ∀ (d c n : Nat), c + d = 2 ^ (A (11 + 15 * k) - 1) → d < n → loopN (p_X8_many_L4 v (nI k)) n (nI (ct (cbk A k) c), nI c) = some (nI (ct (cbk A k) (2 ^ (A (11 + 15 * k) - 1))), nI (2 ^ (A (11 + 15 * k) - 1))) := by
  have h1 := hV.ln hk
  have hp := pow_le32 h1.2.2.1
  intro d
  induction d with
  | zero =>
    intro c n hc hn
    obtain ⟨n, rfl⟩ : ∃ m, n = m + 1 := ⟨n - 1, by omega⟩
    refine loopN_out ?_
    rw [p_X8_many_L4, m_codes hV hM hk, bd1_s]
    simp (disch := omega) only [le_nI]
    rw [if_pos (by omega), show c = 2 ^ (A (11 + 15 * k) - 1) by omega]
  | succ d ih =>
    intro c n hc hn
    obtain ⟨n, rfl⟩ : ∃ m, n = m + 1 := ⟨n - 1, by omega⟩
    have hs : p_X8_many_L4 v (nI k) (nI (ct (cbk A k) c), nI c) = some (.inl (nI (ct (cbk A k) (c + 1)), nI (c + 1))) := by
      rw [p_X8_many_L4, m_codes hV hM hk, bd1_s, m_costBy hV hM hk (by omega), bd1_s]
      simp (disch := omega) only [le_nI, nm_s]
      rw [if_neg (by omega), show nI c + (1 : Int32) = nI (c + 1) from nI_1 c]
      show _ = some (Sum.inl (nI (ct (cbk A k) c + _), _))
      cases hcc : cbk A k c with
      | none => rw [if_pos (show enc none < (0 : Int32) by decide), if_pos rfl, show nI (ct (cbk A k) c) + (0 : Int32) = nI (ct (cbk A k) c + 0) from nI_add _ 0]
      | some y =>
        have hy := cbk_le hV hk hcc
        rw [if_neg (show ¬ enc (some y) < (0 : Int32) from nI_pos (by omega)), if_neg (by simp), show nI (ct (cbk A k) c) + (1 : Int32) = nI (ct (cbk A k) c + 1) from nI_1 _]
    rw [loopN_in hs]
    exact ih (c + 1) n (by omega) (by omega)
theorem ct_cbk {A : Nat → Nat} {k : Nat} : ct (cbk A k) (2 ^ (A (11 + 15 * k) - 1)) = bn A k (A (11 + 15 * k)) 0 (ind A k) 0 := by
  unfold cbk
  cases hW : A (11 + 15 * k) with
  | zero => rfl
  | succ d => exact ct_bn d 0 (ind A k) 0
theorem m_many {v : Nat → Int32} {A : Nat → Nat} (hV : VA A) (hM : repM v A) {k : Nat} (hk : k < 12) : p_X8_many v (nI k) = some (nI (bn A k (A (11 + 15 * k)) 0 (ind A k) 0)) := by
  have hu := fuel_ge
  have h1 := hV.ln hk
  have hp := pow_le32 h1.2.2.1
  rw [p_X8_many, show ((0 : Int32), (0 : Int32)) = (nI (ct (cbk A k) 0), nI 0) from rfl, m_many_loop hV hM hk (2 ^ (A (11 + 15 * k) - 1)) 0 fuel (by omega) (by omega), bd2_s, ct_cbk]
def encC (o : Option (Nat × Nat)) : Int32 := match o with
  | none => -4
  | some x => nI x.2
def encL (o : Option (Nat × Nat)) : Int32 := match o with
  | none => 1000000
  | some x => nI x.1
theorem mn_bnd {A : Nat → Nat} (hV : VA A) {k : Nat} (hk : k < 12) : ∀ (c : Nat) (x : Nat × Nat), mn (cbk A k) c = some x → x.1 ≤ 9600 ∧ x.2 < c
  | 0, _, h => by cases h
  | c + 1, x, h => by
    unfold mn at h
    cases hm : mn (cbk A k) c with
    | none =>
      rw [hm, pick_nr] at h
      cases hf : cbk A k c with
      | none => rw [hf] at h; cases h
      | some y => rw [hf] at h; cases h; exact ⟨cbk_le hV hk hf, by show c < c + 1; omega⟩
    | some z =>
      have hz := mn_bnd hV hk c z hm
      rw [hm] at h
      cases hf : cbk A k c with
      | none => rw [hf] at h; cases h; exact ⟨hz.1, by omega⟩
      | some y =>
        rw [hf] at h
        simp only [Option.map_some, pick] at h
        split at h
        · cases h; exact ⟨hz.1, by omega⟩
        · cases h; exact ⟨cbk_le hV hk hf, by show c < c + 1; omega⟩
theorem m_best_loop {v : Nat → Int32} {A : Nat → Nat} (hV : VA A) (hM : repM v A) {k : Nat} (hk : k < 12) : ∀ (d c n : Nat), c + d = 2 ^ (A (11 + 15 * k) - 1) → d < n → loopN (p_X8_best_L9 v (nI k)) n (encC (mn (cbk A k) c), encL (mn (cbk A k) c), nI c) = some (encC (mn (cbk A k) (2 ^ (A (11 + 15 * k) - 1))), encL (mn (cbk A k) (2 ^ (A (11 + 15 * k) - 1))), nI (2 ^ (A (11 + 15 * k) - 1))) := by
  have h1 := hV.ln hk
  have hp := pow_le32 h1.2.2.1
  intro d
  induction d with
  | zero =>
    intro c n hc hn
    obtain ⟨n, rfl⟩ : ∃ m, n = m + 1 := ⟨n - 1, by omega⟩
    refine loopN_out ?_
    rw [p_X8_best_L9, m_codes hV hM hk, bd1_s]
    simp (disch := omega) only [le_nI]
    rw [if_pos (by omega), show c = 2 ^ (A (11 + 15 * k) - 1) by omega]
  | succ d ih =>
    intro c n hc hn
    obtain ⟨n, rfl⟩ : ∃ m, n = m + 1 := ⟨n - 1, by omega⟩
    have hs : p_X8_best_L9 v (nI k) (encC (mn (cbk A k) c), encL (mn (cbk A k) c), nI c) = some (.inl (encC (mn (cbk A k) (c + 1)), encL (mn (cbk A k) (c + 1)), nI (c + 1))) := by
      rw [p_X8_best_L9, m_codes hV hM hk, bd1_s, m_costBy hV hM hk (by omega), bd1_s]
      simp (disch := omega) only [le_nI]
      rw [if_neg (by omega), show nI c + (1 : Int32) = nI (c + 1) from nI_1 c]
      show _ = some (Sum.inl (encC (pick ((cbk A k c).map (fun x => (x, c))) (mn (cbk A k) c)), encL (pick ((cbk A k c).map (fun x => (x, c))) (mn (cbk A k) c)), nI (c + 1)))
      cases hcc : cbk A k c with
      | none =>
        rw [if_pos (show enc none < (0 : Int32) by decide)]
        rfl
      | some y =>
        have hy := cbk_le hV hk hcc
        rw [if_neg (show ¬ enc (some y) < (0 : Int32) from nI_pos (by omega))]
        cases hm : mn (cbk A k) c with
        | none =>
          have e : ¬ ((1000000 : Int32) ≤ nI y) := by
            show ¬ (nI 1000000 ≤ nI y)
            rw [le_nI (by omega) (by omega)]; omega
          rw [show encL none = (1000000 : Int32) from rfl, show enc (some y) = nI y from rfl, if_neg e]
          rfl
        | some z =>
          have hz := mn_bnd hV hk c z hm
          rw [show encL (some z) = nI z.1 from rfl, show enc (some y) = nI y from rfl]
          simp (disch := omega) only [le_nI]
          simp only [Option.map_some, pick]
          by_cases q : z.1 ≤ y
          · rw [if_pos q, if_pos q]; rfl
          · rw [if_neg q, if_neg q]; rfl
    rw [loopN_in hs]
    exact ih (c + 1) n (by omega) (by omega)
/-- the setting of a line: its cost and its breaks -/
def bst (A : Nat → Nat) (k : Nat) : Option (Nat × Nat) := bf A k (A (11 + 15 * k)) 0 (ind A k) 0
theorem mn_cbk {A : Nat → Nat} {k : Nat} : mn (cbk A k) (2 ^ (A (11 + 15 * k) - 1)) = bst A k := by
  unfold cbk bst
  cases hW : A (11 + 15 * k) with
  | zero => rfl
  | succ d => exact mn_bf d 0 (ind A k) 0
theorem bst_bnd {A : Nat → Nat} (hV : VA A) {k : Nat} (hk : k < 12) {x : Nat × Nat} (h : bst A k = some x) : x.1 ≤ 9600 ∧ x.2 < 32 := by
  have h1 := hV.ln hk
  have hp := pow_le32 h1.2.2.1
  rw [← mn_cbk] at h
  have := mn_bnd hV hk _ x h
  omega
theorem m_best {v : Nat → Int32} {A : Nat → Nat} (hV : VA A) (hM : repM v A) {k : Nat} (hk : k < 12) : p_X8_best v (nI k) = some (encC (bst A k)) := by
  have hu := fuel_ge
  have h1 := hV.ln hk
  have hp := pow_le32 h1.2.2.1
  rw [p_X8_best, show ((-4 : Int32), (1000000 : Int32), (0 : Int32)) = (encC (mn (cbk A k) 0), encL (mn (cbk A k) 0), nI 0) from rfl, m_best_loop hV hM hk (2 ^ (A (11 + 15 * k) - 1)) 0 fuel (by omega) (by omega), bd3_s, mn_cbk]
-- the cost of the best is the cost by its code
theorem mn_at {f : Nat → Option Nat} : ∀ (c : Nat) (x : Nat × Nat), mn f c = some x → f x.2 = some x.1
  | 0, _, h => by cases h
  | c + 1, x, h => by
    unfold mn at h
    cases hm : mn f c with
    | none =>
      rw [hm, pick_nr] at h
      cases hf : f c with
      | none => rw [hf] at h; cases h
      | some y => rw [hf] at h; cases h; exact hf
    | some z =>
      have hz := mn_at c z hm
      rw [hm] at h
      cases hf : f c with
      | none => rw [hf] at h; cases h; exact hz
      | some y =>
        rw [hf] at h
        simp only [Option.map_some, pick] at h
        split at h
        · cases h; exact hz
        · cases h; exact hf
def pc5 (m : Nat) : Nat := m % 2 + m / 2 % 2 + m / 4 % 2 + m / 8 % 2 + m / 16 % 2
theorem m_ones5 {m : Nat} (hm : m < 32) : p_X8_ones (nI m) = some (nI (pc5 m)) := by
  have h : ∀ m, m < 32 → p_X8_ones (nI m) = some (nI (pc5 m)) := by decide +kernel
  exact h m hm
/-- the rows of a line; its cost -/
def rwN (A : Nat → Nat) (k : Nat) : Option Nat := (bst A k).map (fun x => 1 + pc5 x.2)
def csN (A : Nat → Nat) (k : Nat) : Option Nat := (bst A k).map (fun x => x.1)
theorem m_rowsOf {v : Nat → Int32} {A : Nat → Nat} (hV : VA A) (hM : repM v A) {k : Nat} (hk : k < 12) : p_X8_rowsOf v (nI k) = some (enc (rwN A k)) := by
  rw [p_X8_rowsOf, m_best hV hM hk, bd1_s, bd1_s]
  unfold rwN
  cases hb : bst A k with
  | none => rfl
  | some x =>
    have hx := bst_bnd hV hk hb
    rw [show encC (some x) = nI x.2 from rfl, if_pos (show (0 : Int32) ≤ nI x.2 from nI_pos' (by omega)), m_ones5 hx.2, bd1_s, show (1 : Int32) + nI (pc5 x.2) = nI (1 + pc5 x.2) from nI_add 1 _]
    rfl
theorem m_costOf {v : Nat → Int32} {A : Nat → Nat} (hV : VA A) (hM : repM v A) {k : Nat} (hk : k < 12) : p_X8_costOf v (nI k) = some (enc (csN A k)) := by
  rw [p_X8_costOf, m_best hV hM hk, bd1_s, bd1_s]
  unfold csN
  cases hb : bst A k with
  | none => rfl
  | some x =>
    have hx := bst_bnd hV hk hb
    rw [show encC (some x) = nI x.2 from rfl, if_pos (show (0 : Int32) ≤ nI x.2 from nI_pos' (by omega)), m_costBy hV hM hk hx.2, bd1_s]
    rw [← mn_cbk] at hb
    rw [mn_at _ x hb]
    rfl
