/-! ===== the class's layout: from the last word back ===== -/
def beg (A : Nat → Nat) (k i : Nat) : Nat := if i = 0 then ind A k else ind A k + A 4
def rst (A : Nat → Nat) (k j : Nat) : Option (Nat × Nat) := bf A k (A (11 + 15 * k) - j) j (beg A k j) 0
def rsn (A : Nat → Nat) (k j : Nat) : Nat := bn A k (A (11 + 15 * k) - j) j (beg A k j) 0
def cdo (A : Nat → Nat) (k e : Nat) : Nat := if e = A (11 + 15 * k) then 0 else 2 ^ (A (11 + 15 * k) - 1 - e) + ((rst A k e).map (fun x => x.2)).getD 0
theorem bf_le {A : Nat → Nat} (hV : VA A) {k : Nat} : ∀ (d i f w : Nat) (x : Nat × Nat), bf A k d i f w = some x → x.1 ≤ 1600 * d
  | 0, _, _, _, x, h => by cases h; omega
  | d + 1, i, f, w, x, h => by
    unfold bf at h
    split at h
    · split at h
      · cases h; omega
      · have hr := rcs_le hV (A (18 + 15 * k + i)) (f + adw w (A (12 + 15 * k + i)))
        cases h1 : bf A k d (i + 1) (ind A k + A 4) 0 with
        | none =>
          rw [h1] at h
          have h2 : bf A k d (i + 1) f (adw w (A (12 + 15 * k + i))) = some x := by rw [← h]; show _ = pick none _; rw [pick_nl]
          have := bf_le hV d _ _ _ x h2
          omega
        | some y =>
          have hy := bf_le hV d _ _ _ y h1
          rw [h1] at h
          cases h2 : bf A k d (i + 1) f (adw w (A (12 + 15 * k + i))) with
          | none => rw [h2, pick_nr] at h; simp only [shf, Option.map_some, Option.some.injEq] at h; rw [← h]; show y.1 + _ ≤ _; omega
          | some z =>
            have hz := bf_le hV d _ _ _ z h2
            rw [h2] at h
            simp only [shf, Option.map_some, pick] at h
            split at h
            · cases h; omega
            · cases h; show y.1 + _ ≤ _; omega
    · cases h
theorem c_rowCost {c : Nat → Int32} {A : Nat → Nat} (hV : VA A) (hC : repC c A) {w p : Nat} (hw : w ≤ A 2) (hp : p ≤ 3) : p_X1_rowCost c (nI p) (nI w) = some (nI (rcs A p w)) := by
  have h1 := hV.st
  rw [p_X1_rowCost, c_s0 hC, bd1_s, nm_s, c_s5 hC, bd1_s, sub_nI hw, mul_nI, show (3 : Int32) = nI 3 from rfl, show (10 : Int32) = nI 10 from rfl, sub_nI hp, mul_nI, nI_add]
  simp (disch := omega) only [ol, eq_nI]
  unfold rcs
  rcases (show A 7 = 0 ∨ A 7 = 1 ∨ A 7 = 2 by omega) with h | h | h <;> simp [h]
theorem c_beginningOf {c : Nat → Int32} {A : Nat → Nat} (hC : repC c A) (k : Nat) {i : Nat} (hi : i < 7) : p_X1_beginningOf (nI (ind A k)) c (nI i) = some (nI (beg A k i)) := by
  rw [p_X1_beginningOf, c_s2 hC, bd1_s, nI_add]
  simp (disch := omega) only [ol, eq_nI]
  unfold beg
  split <;> rfl
/-- row i as found so far: acc, and how many; the other rows are as they were -/
def AC (A : Nat → Nat) (k i : Nat) (rc nr rn rc' nr' rn' : Nat → Int32) (acc : Option (Nat × Nat)) (num : Nat) : Prop :=
  (∀ j, j ≠ i → rc' j = rc j ∧ nr' j = nr j ∧ rn' j = rn j) ∧ rc' i = enc (acc.map (fun x => x.1)) ∧ rn' i = nI num ∧
  (∀ x, acc = some x → x.1 ≤ 16000 ∧ ∃ e, nr' i = nI e ∧ i < e ∧ e ≤ A (11 + 15 * k) ∧ x.2 = cdo A k e ∧ ∃ y, rst A k e = some y)
def RW (A : Nat → Nat) (k : Nat) (rc nr rn : Nat → Int32) (j : Nat) : Prop :=
  rc j = enc ((rst A k j).map (fun x => x.1)) ∧ rn j = nI (rsn A k j) ∧ (j < A (11 + 15 * k) → ∀ x, rst A k j = some x → ∃ e, nr j = nI e ∧ j < e ∧ e ≤ A (11 + 15 * k) ∧ x.2 = cdo A k e ∧ ∃ y, rst A k e = some y)
theorem enc_ne {x : Nat} (h : x < 2147483648) : ¬ enc (some x) = -4 := by
  intro z
  have h1 : (nI x).toInt = ((-4 : Int32)).toInt := congrArg Int32.toInt z
  rw [nI_toInt h] at h1
  have : ((-4 : Int32)).toInt = -4 := by decide
  omega
theorem upd_same (f : Nat → Int32) (k : Nat) (x : Int32) : upd f k x k = x := pk_us
theorem upd_ne (f : Nat → Int32) {k j : Nat} (x : Int32) (h : j ≠ k) : upd f k x j = f j := pk_un h
theorem c_bR_loop {c : Nat → Int32} {A : Nat → Nat} (hV : VA A) (hC : repC c A) {k i : Nat} (hk : k < A 0) (hi : i < A (11 + 15 * k)) {rc nr rn : Nat → Int32} (hR : ∀ j, i < j → j ≤ A (11 + 15 * k) → RW A k rc nr rn j) :
    ∀ (d j w num n : Nat) (x5 : Int32) (rc' nr' rn' : Nat → Int32) (acc : Option (Nat × Nat)), j + d + 1 = A (11 + 15 * k) → i ≤ j → w ≤ 10 * j → (w = 0 ↔ j = i) → x5 + 1 = nI (beg A k i + w + (if w = 0 then 0 else 1)) → AC A k i rc nr rn rc' nr' rn' acc num → d + 1 < n →
    ∃ rcF nrF rnF : Nat → Int32, ((∃ a b : Int32, loopN (p_X1_beginRow_L37 c (nI k) (nI i) (nI (A (11 + 15 * k)))) n (x5, nI (j + 1), rc', nr', rn') = some (.inl (a, b, rcF, nrF, rnF))) ∨ loopN (p_X1_beginRow_L37 c (nI k) (nI i) (nI (A (11 + 15 * k)))) n (x5, nI (j + 1), rc', nr', rn') = some (.inr (rcF, nrF, rnF))) ∧
      AC A k i rc nr rn rcF nrF rnF (pick acc (bf A k (d + 1) j (beg A k i) w)) (num + bn A k (d + 1) j (beg A k i) w) := by
  have h0 := hV.n
  have h1 := hV.ln (k := k) (by omega)
  have h2 := hV.st
  have h3 := ind_le hV (k := k) (by omega)
  have hbi : beg A k i ≤ 25 := by unfold beg; split <;> omega
  intro d
  induction d with
  | zero =>
    intro j w num n x5 rc' nr' rn' acc hj hij hw hwz hx5 hAC hn
    obtain ⟨n, rfl⟩ : ∃ m, n = m + 2 := ⟨n - 2, by omega⟩
    obtain ⟨a1, a2, a3, a4⟩ := hAC
    have h4 := h1.2.2.2 j (by omega)
    have h5 := adw_le (w := w) (l := A (12 + 15 * k + j)) (by omega)
    have hle := hV.one hk (i := j) (by omega)
    have eW : j + 1 = A (11 + 15 * k) := by omega
    have hRW := hR (j + 1) (by omega) (by omega)
    have e5 : x5 + (1 + nI (A (12 + 15 * k + j))) = nI (beg A k i + adw w (A (12 + 15 * k + j))) := by
      rw [← Int32.add_assoc, hx5, nI_add]; congr 1; unfold adw; omega
    have erst : rst A k (j + 1) = some (0, 0) := by unfold rst; rw [eW, Nat.sub_self]; rfl
    have ersn : rsn A k (j + 1) = 1 := by unfold rsn; rw [eW, Nat.sub_self]; rfl
    have ec : rc' (j + 1) = nI 0 := by rw [(a1 (j + 1) (by omega)).1, hRW.1, erst]; rfl
    have en : rn' (j + 1) = nI 1 := by rw [(a1 (j + 1) (by omega)).2.2, hRW.2.1, ersn]
    have hB160 : ∀ y : Int32, p_X1_beginRow_B160_29 (nI i) (nI (j + 1)) rc' nr' rn' (nI (beg A k i + adw w (A (12 + 15 * k + j)))) y = some (.inl (nI (beg A k i + adw w (A (12 + 15 * k + j))), nI (j + 1 + 1), upd rc' i y, upd nr' i (nI (j + 1)), upd rn' i (nI (num + 1)))) := by
      intro y
      rw [p_X1_beginRow_B160_29]
      simp (disch := omega) only [ib_nI, gd_t, tn_nI, a3, en, nI_add]
      rw [show nI (j + 1) + (1 : Int32) = nI (j + 1 + 1) from nI_1 _]
    have hs : p_X1_beginRow_L37 c (nI k) (nI i) (nI (A (11 + 15 * k))) (x5, nI (j + 1), rc', nr', rn') = if beg A k i + adw w (A (12 + 15 * k + j)) ≤ A 2 then (match acc with
        | none => some (.inl (nI (beg A k i + adw w (A (12 + 15 * k + j))), nI (j + 1 + 1), upd rc' i (nI 0), upd nr' i (nI (j + 1)), upd rn' i (nI (num + 1))))
        | some x => some (.inl (nI (beg A k i + adw w (A (12 + 15 * k + j))), nI (j + 1 + 1), upd rc' i (nI 0), upd nr' i (nI (j + 1)), upd rn' i (nI (num + 1)))))
        else some (.inr (.inr (rc', nr', rn'))) := by
      rw [p_X1_beginRow_L37]
      rw [show nI (j + 1) - (1 : Int32) = nI j from nI_pred j, c_lettersOf hV hC hk (by omega), bd1_s, nm_s, e5, c_s0 hC, bd1_s]
      simp (disch := omega) only [lt_nI, le_nI, ib_nI, gd_t, tn_nI, ec, nm_s]
      rw [if_neg (by omega)]
      by_cases hq : beg A k i + adw w (A (12 + 15 * k + j)) ≤ A 2
      · rw [if_pos hq, if_pos hq, if_neg (show ¬ nI 0 = (-4 : Int32) by decide), if_pos (by omega), p_X1_beginRow_B138_28]
        simp (disch := omega) only [ib_nI, gd_t, tn_nI, a2]
        cases acc with
        | none =>
          rw [if_pos (show enc (Option.map (fun x : Nat × Nat => x.1) none) = (-4 : Int32) from rfl), hB160]
        | some x =>
          have hx := (a4 x rfl).1
          rw [if_neg (show ¬ enc (Option.map (fun x : Nat × Nat => x.1) (some x)) = (-4 : Int32) from enc_ne (x := x.1) (by omega)), if_neg (show ¬ enc (Option.map (fun x : Nat × Nat => x.1) (some x)) < nI 0 from nI_pos (n := x.1) (by omega)), hB160]
      · rw [if_neg hq, if_neg hq]
    have hs2 : ∀ (y5 : Int32) (r1 r2 r3 : Nat → Int32), p_X1_beginRow_L37 c (nI k) (nI i) (nI (A (11 + 15 * k))) (y5, nI (j + 1 + 1), r1, r2, r3) = some (.inr (.inl (y5, nI (j + 1 + 1), r1, r2, r3))) := by
      intro y5 r1 r2 r3
      rw [p_X1_beginRow_L37]
      simp (disch := omega) only [lt_nI]
      rw [if_pos (by omega)]
    rw [bf, bn]
    by_cases hq : beg A k i + adw w (A (12 + 15 * k + j)) ≤ A 2
    · rw [if_pos hq] at hs
      rw [if_pos hq, if_pos hq, if_pos rfl, if_pos rfl]
      have hs : p_X1_beginRow_L37 c (nI k) (nI i) (nI (A (11 + 15 * k))) (x5, nI (j + 1), rc', nr', rn') = some (.inl (nI (beg A k i + adw w (A (12 + 15 * k + j))), nI (j + 1 + 1), upd rc' i (nI 0), upd nr' i (nI (j + 1)), upd rn' i (nI (num + 1)))) := by
        rw [hs]; cases acc <;> rfl
      refine ⟨upd rc' i (nI 0), upd nr' i (nI (j + 1)), upd rn' i (nI (num + 1)), Or.inl ⟨nI (beg A k i + adw w (A (12 + 15 * k + j))), nI (j + 1 + 1), ?_⟩, ?_⟩
      · rw [loopN_in hs]
        exact loopN_out (hs2 _ _ _ _)
      · have ep : pick acc (some (0, 0)) = some (0, 0) := by
          cases acc with
          | none => rfl
          | some x => simp [pick]
        rw [ep]
        refine ⟨fun z hz => ?_, ?_, ?_, fun x hx => ?_⟩
        · rw [upd_ne _ _ hz, upd_ne _ _ hz, upd_ne _ _ hz]; exact a1 z hz
        · rw [upd_same]; rfl
        · rw [upd_same]
        · cases hx
          refine ⟨by omega, j + 1, by rw [upd_same], by omega, by omega, ?_, _, erst⟩
          unfold cdo; rw [if_pos eW]
    · rw [if_neg hq] at hs
      rw [if_neg hq, if_neg hq]
      refine ⟨rc', nr', rn', Or.inr (loopN_out hs), ?_⟩
      rw [pick_nr, Nat.add_zero]
      exact ⟨a1, a2, a3, a4⟩
  | succ d ih =>
    intro j w num n x5 rc' nr' rn' acc hj hij hw hwz hx5 hAC hn
    obtain ⟨n, rfl⟩ : ∃ m, n = m + 1 := ⟨n - 1, by omega⟩
    have hAC0 := hAC
    obtain ⟨a1, a2, a3, a4⟩ := hAC
    have h4 := h1.2.2.2 j (by omega)
    have h5 := adw_le (w := w) (l := A (12 + 15 * k + j)) (by omega)
    have hle := hV.one hk (i := j) (by omega)
    have hRW := hR (j + 1) (by omega) (by omega)
    have e5 : x5 + (1 + nI (A (12 + 15 * k + j))) = nI (beg A k i + adw w (A (12 + 15 * k + j))) := by
      rw [← Int32.add_assoc, hx5, nI_add]; congr 1; unfold adw; omega
    have ec : rc' (j + 1) = enc ((rst A k (j + 1)).map (fun x => x.1)) := by rw [(a1 (j + 1) (by omega)).1, hRW.1]
    have en : rn' (j + 1) = nI (rsn A k (j + 1)) := by rw [(a1 (j + 1) (by omega)).2.2, hRW.2.1]
    have ebeg : beg A k (j + 1) = ind A k + A 4 := by unfold beg; rw [if_neg (by omega)]
    have erst : rst A k (j + 1) = bf A k (d + 1) (j + 1) (ind A k + A 4) 0 := by unfold rst; rw [ebeg, show A (11 + 15 * k) - (j + 1) = d + 1 by omega]
    have ersn : rsn A k (j + 1) = bn A k (d + 1) (j + 1) (ind A k + A 4) 0 := by unfold rsn; rw [ebeg, show A (11 + 15 * k) - (j + 1) = d + 1 by omega]
    have hrc := rcs_le hV (A (18 + 15 * k + j)) (beg A k i + adw w (A (12 + 15 * k + j)))
    rw [bf, bn]
    by_cases hq : beg A k i + adw w (A (12 + 15 * k + j)) ≤ A 2
    · rw [if_pos hq, if_pos hq, if_neg (by omega), if_neg (by omega), pick_assoc, ← erst, ← ersn, show d + 1 - 1 = d from rfl, ← Nat.add_assoc]
      have hw' : adw w (A (12 + 15 * k + j)) ≠ 0 := by unfold adw; omega
      have hnx : nI (beg A k i + adw w (A (12 + 15 * k + j))) + 1 = nI (beg A k i + adw w (A (12 + 15 * k + j)) + (if adw w (A (12 + 15 * k + j)) = 0 then 0 else 1)) := by
        rw [if_neg hw']; exact nI_1 _
      have step : ∀ (rc2 nr2 rn2 : Nat → Int32), p_X1_beginRow_L37 c (nI k) (nI i) (nI (A (11 + 15 * k))) (x5, nI (j + 1), rc', nr', rn') = some (.inl (nI (beg A k i + adw w (A (12 + 15 * k + j))), nI (j + 1 + 1), rc2, nr2, rn2)) → AC A k i rc nr rn rc2 nr2 rn2 (pick acc (shf (rst A k (j + 1)) (rcs A (A (18 + 15 * k + j)) (beg A k i + adw w (A (12 + 15 * k + j)))) (2 ^ d))) (num + rsn A k (j + 1)) →
          ∃ rcF nrF rnF : Nat → Int32, ((∃ a b : Int32, loopN (p_X1_beginRow_L37 c (nI k) (nI i) (nI (A (11 + 15 * k)))) (n + 1) (x5, nI (j + 1), rc', nr', rn') = some (.inl (a, b, rcF, nrF, rnF))) ∨ loopN (p_X1_beginRow_L37 c (nI k) (nI i) (nI (A (11 + 15 * k)))) (n + 1) (x5, nI (j + 1), rc', nr', rn') = some (.inr (rcF, nrF, rnF))) ∧
            AC A k i rc nr rn rcF nrF rnF (pick (pick acc (shf (rst A k (j + 1)) (rcs A (A (18 + 15 * k + j)) (beg A k i + adw w (A (12 + 15 * k + j)))) (2 ^ d))) (bf A k (d + 1) (j + 1) (beg A k i) (adw w (A (12 + 15 * k + j))))) (num + rsn A k (j + 1) + bn A k (d + 1) (j + 1) (beg A k i) (adw w (A (12 + 15 * k + j)))) := by
        intro rc2 nr2 rn2 hs hA2
        rw [loopN_in hs]
        exact ih (j + 1) _ _ n _ rc2 nr2 rn2 _ (by omega) (by omega) (by omega) ⟨fun z => absurd z hw', fun z => by omega⟩ hnx hA2 (by omega)
      have hB160 : ∀ y : Int32, p_X1_beginRow_B160_29 (nI i) (nI (j + 1)) rc' nr' rn' (nI (beg A k i + adw w (A (12 + 15 * k + j)))) y = some (.inl (nI (beg A k i + adw w (A (12 + 15 * k + j))), nI (j + 1 + 1), upd rc' i y, upd nr' i (nI (j + 1)), upd rn' i (nI (num + rsn A k (j + 1))))) := by
        intro y
        rw [p_X1_beginRow_B160_29]
        simp (disch := omega) only [ib_nI, gd_t, tn_nI, a3, en, nI_add]
        rw [show nI (j + 1) + (1 : Int32) = nI (j + 1 + 1) from nI_1 _]
      have hs0 : p_X1_beginRow_L37 c (nI k) (nI i) (nI (A (11 + 15 * k))) (x5, nI (j + 1), rc', nr', rn') = if rc' (j + 1) = -4 then some (.inl (nI (beg A k i + adw w (A (12 + 15 * k + j))), nI (j + 1 + 1), rc', nr', upd rn' i (nI (num + rsn A k (j + 1))))) else p_X1_beginRow_B138_28 (nI i) (nI (j + 1)) rc' nr' rn' (nI (beg A k i + adw w (A (12 + 15 * k + j)))) (rc' (j + 1) + nI (rcs A (A (18 + 15 * k + j)) (beg A k i + adw w (A (12 + 15 * k + j))))) := by
        rw [p_X1_beginRow_L37]
        rw [show nI (j + 1) - (1 : Int32) = nI j from nI_pred j, c_lettersOf hV hC hk (by omega), bd1_s, nm_s, e5, c_s0 hC, bd1_s]
        simp (disch := omega) only [c_pauseOf hV hC hk (show j < A (11 + 15 * k) by omega), bd1_s, c_rowCost hV hC hq h4.2, lt_nI, le_nI, ib_nI, gd_t, tn_nI, nm_s, a3, en, nI_add]
        rw [if_neg (by omega), if_pos hq, if_neg (show ¬ A (11 + 15 * k) ≤ j + 1 by omega), show nI (j + 1) + (1 : Int32) = nI (j + 1 + 1) from nI_1 _]
      cases hr : rst A k (j + 1) with
      | none =>
        have ec1 : rc' (j + 1) = -4 := by rw [ec, hr]; rfl
        rw [if_pos ec1] at hs0
        rw [← hr]
        refine step _ _ _ hs0 ?_
        rw [hr]
        show AC A k i rc nr rn rc' nr' _ (pick acc none) _
        rw [pick_nr]
        refine ⟨fun z hz => ?_, a2, by rw [upd_same], a4⟩
        rw [upd_ne _ _ hz]; exact a1 z hz
      | some y =>
        have hy := bf_le hV _ _ _ _ y (erst.symm.trans hr)
        have ec1 : rc' (j + 1) = nI y.1 := by rw [ec, hr]; rfl
        rw [if_neg (by rw [ec1]; exact enc_ne (by omega)), ec1, nI_add] at hs0
        rw [← hr]
        have hcd : y.2 + 2 ^ d = cdo A k (j + 1) := by
          unfold cdo
          rw [if_neg (by omega), hr, show A (11 + 15 * k) - 1 - (j + 1) = d by omega]
          show _ = 2 ^ d + y.2
          omega
        have hT : ∀ (z : Nat × Nat), AC A k i rc nr rn (upd rc' i (nI (y.1 + rcs A (A (18 + 15 * k + j)) (beg A k i + adw w (A (12 + 15 * k + j)))))) (upd nr' i (nI (j + 1))) (upd rn' i (nI (num + rsn A k (j + 1)))) (some (y.1 + rcs A (A (18 + 15 * k + j)) (beg A k i + adw w (A (12 + 15 * k + j))), y.2 + 2 ^ d)) (num + rsn A k (j + 1)) := by
          intro _
          refine ⟨fun z hz => ?_, ?_, by rw [upd_same], fun x hx => ?_⟩
          · rw [upd_ne _ _ hz, upd_ne _ _ hz, upd_ne _ _ hz]; exact a1 z hz
          · rw [upd_same]; rfl
          · cases hx
            exact ⟨by show y.1 + _ ≤ _; omega, j + 1, by rw [upd_same], by omega, by omega, hcd, _, hr⟩
        rw [p_X1_beginRow_B138_28] at hs0
        simp (disch := omega) only [ib_nI, gd_t, tn_nI, a2] at hs0
        cases acc with
        | none =>
          rw [if_pos (show enc (Option.map (fun x : Nat × Nat => x.1) none) = (-4 : Int32) from rfl), hB160] at hs0
          refine step _ _ _ hs0 ?_
          rw [hr]
          exact hT (0, 0)
        | some x =>
          have hx := (a4 x rfl).1
          rw [if_neg (show ¬ enc (Option.map (fun x : Nat × Nat => x.1) (some x)) = (-4 : Int32) from enc_ne (x := x.1) (by omega)), hB160] at hs0
          have elt : (enc (Option.map (fun x : Nat × Nat => x.1) (some x)) < nI (y.1 + rcs A (A (18 + 15 * k + j)) (beg A k i + adw w (A (12 + 15 * k + j))))) = (x.1 < y.1 + rcs A (A (18 + 15 * k + j)) (beg A k i + adw w (A (12 + 15 * k + j)))) := lt_nI (a := x.1) (by omega) (by omega)
          simp only [elt, a3, en, nI_add] at hs0
          rw [show nI (j + 1) + (1 : Int32) = nI (j + 1 + 1) from nI_1 _] at hs0
          by_cases hlt : x.1 < y.1 + rcs A (A (18 + 15 * k + j)) (beg A k i + adw w (A (12 + 15 * k + j)))
          · rw [if_pos hlt] at hs0
            refine step _ _ _ hs0 ?_
            rw [hr]
            have ep : pick (some x) (shf (some y) (rcs A (A (18 + 15 * k + j)) (beg A k i + adw w (A (12 + 15 * k + j)))) (2 ^ d)) = some x := by
              simp only [shf, Option.map_some, pick]
              rw [if_neg (by omega)]
            rw [ep]
            refine ⟨fun z hz => ?_, a2, by rw [upd_same], a4⟩
            rw [upd_ne _ _ hz]; exact a1 z hz
          · rw [if_neg hlt] at hs0
            refine step _ _ _ hs0 ?_
            rw [hr]
            have ep : pick (some x) (shf (some y) (rcs A (A (18 + 15 * k + j)) (beg A k i + adw w (A (12 + 15 * k + j)))) (2 ^ d)) = some (y.1 + rcs A (A (18 + 15 * k + j)) (beg A k i + adw w (A (12 + 15 * k + j))), y.2 + 2 ^ d) := by
              simp only [shf, Option.map_some, pick]
              rw [if_pos (by omega)]
            rw [ep]
            exact hT (0, 0)
    · rw [if_neg hq, if_neg hq]
      have hs : p_X1_beginRow_L37 c (nI k) (nI i) (nI (A (11 + 15 * k))) (x5, nI (j + 1), rc', nr', rn') = some (.inr (.inr (rc', nr', rn'))) := by
        rw [p_X1_beginRow_L37]
        rw [show nI (j + 1) - (1 : Int32) = nI j from nI_pred j, c_lettersOf hV hC hk (by omega), bd1_s, nm_s, e5, c_s0 hC, bd1_s]
        simp (disch := omega) only [lt_nI, le_nI]
        rw [if_neg (by omega), if_neg hq]
      refine ⟨rc', nr', rn', Or.inr (loopN_out hs), ?_⟩
      rw [pick_nr, Nat.add_zero]
      exact hAC0
theorem c_beginRow {c : Nat → Int32} {A : Nat → Nat} (hV : VA A) (hC : repC c A) {k i : Nat} (hk : k < A 0) (hi : i < A (11 + 15 * k)) {rc nr rn : Nat → Int32} (hR : ∀ j, i < j → j ≤ A (11 + 15 * k) → RW A k rc nr rn j) :
    ∃ rcF nrF rnF : Nat → Int32, p_X1_beginRow (nI (ind A k)) rc nr rn c (nI k) (nI i) = some (rcF, nrF, rnF) ∧ ∀ j, i ≤ j → j ≤ A (11 + 15 * k) → RW A k rcF nrF rnF j := by
  have h0 := hV.n
  have h1 := hV.ln (k := k) (by omega)
  have hu := fuel_ge
  obtain ⟨rcF, nrF, rnF, hl, b1, b2, b3, b4⟩ := c_bR_loop hV hC hk hi hR (A (11 + 15 * k) - i - 1) i 0 0 fuel (nI (beg A k i) - 1) (upd rc i (-4)) nr (upd rn i 0) none (by omega) (by omega) (by omega) ⟨fun _ => rfl, fun _ => rfl⟩
    (by rw [if_pos rfl, Int32.sub_add_cancel]; rfl) ⟨fun z hz => ⟨upd_ne _ _ hz, rfl, upd_ne _ _ hz⟩, by rw [upd_same]; rfl, by rw [upd_same]; rfl, fun x hx => by cases hx⟩ (by omega)
  rw [pick_nl, show A (11 + 15 * k) - i - 1 + 1 = A (11 + 15 * k) - i by omega] at b2 b4
  rw [show A (11 + 15 * k) - i - 1 + 1 = A (11 + 15 * k) - i by omega, Nat.zero_add] at b3
  refine ⟨rcF, nrF, rnF, ?_, fun j hj hjW => ?_⟩
  · rw [p_X1_beginRow, c_wordsOf hV hC hk, bd1_s, c_beginningOf hC k (by omega), bd1_s, nm_s, nm_s]
    simp (disch := omega) only [ib_nI, gd_t, tn_nI]
    rw [show nI i + (1 : Int32) = nI (i + 1) from nI_1 i]
    rcases hl with ⟨a, b, hl⟩ | hl
    · rw [hl]; rfl
    · rw [hl]; rfl
  · by_cases hji : j = i
    · subst hji
      exact ⟨b2, b3, fun _ x hx => (b4 x hx).2⟩
    · have hj2 := hR j (by omega) hjW
      have hb := b1 j hji
      refine ⟨by rw [hb.1]; exact hj2.1, by rw [hb.2.2]; exact hj2.2.1, fun hW x hx => ?_⟩
      obtain ⟨e, e1, e2⟩ := hj2.2.2 hW x hx
      exact ⟨e, by rw [hb.2.1]; exact e1, e2⟩
theorem c_rows_loop {c : Nat → Int32} {A : Nat → Nat} (hV : VA A) (hC : repC c A) {k : Nat} (hk : k < A 0) : ∀ (t n : Nat) (rc nr rn : Nat → Int32), t ≤ A (11 + 15 * k) → (∀ j, t ≤ j → j ≤ A (11 + 15 * k) → RW A k rc nr rn j) → t < n →
    ∃ (z : Int32) (rcF nrF rnF : Nat → Int32), loopN (p_X1_compute_L34 c (nI k) (nI (ind A k))) n (nI t - 1, rc, nr, rn) = some (z, rcF, nrF, rnF) ∧ ∀ j, j ≤ A (11 + 15 * k) → RW A k rcF nrF rnF j := by
  have h0 := hV.n
  have h1 := hV.ln (k := k) (by omega)
  intro t
  induction t with
  | zero =>
    intro n rc nr rn ht hR hn
    obtain ⟨n, rfl⟩ : ∃ m, n = m + 1 := ⟨n - 1, by omega⟩
    refine ⟨_, rc, nr, rn, loopN_out (e := (nI 0 - 1, rc, nr, rn)) ?_, fun j hj => hR j (by omega) hj⟩
    rw [p_X1_compute_L34]
    rw [if_pos (by decide)]
  | succ t ih =>
    intro n rc nr rn ht hR hn
    obtain ⟨n, rfl⟩ : ∃ m, n = m + 1 := ⟨n - 1, by omega⟩
    obtain ⟨rc2, nr2, rn2, e2, hR2⟩ := c_beginRow hV hC hk (i := t) (by omega) (rc := rc) (nr := nr) (rn := rn) (fun j h3 h4 => hR j (by omega) h4)
    have hs : p_X1_compute_L34 c (nI k) (nI (ind A k)) (nI (t + 1) - 1, rc, nr, rn) = some (.inl (nI t - 1, rc2, nr2, rn2)) := by
      rw [p_X1_compute_L34]
      rw [show nI (t + 1) - (1 : Int32) = nI t from nI_pred t, e2, bd3_s, if_neg (nI_pos (by omega)), Int32.sub_eq_add_neg]
    rw [loopN_in hs]
    exact ih n rc2 nr2 rn2 (by omega) (fun j h3 h4 => hR2 j (by omega) h4) (by omega)
