/-! ===== layouts: the best setting, by the tree of breaks; the reference's search ===== -/
def pick (a b : Option (Nat × Nat)) : Option (Nat × Nat) := match a, b with
  | none, b => b
  | some x, none => some x
  | some x, some y => if y.1 ≤ x.1 then some y else some x
theorem pick_nr (a : Option (Nat × Nat)) : pick a none = a := by cases a <;> rfl
theorem pick_nl (a : Option (Nat × Nat)) : pick none a = a := by cases a <;> rfl
theorem pick_assoc (a b c : Option (Nat × Nat)) : pick a (pick b c) = pick (pick a b) c := by
  cases a with
  | none => rw [pick_nl, pick_nl]
  | some x =>
    cases b with
    | none => rw [pick_nl, pick_nr]
    | some y =>
      cases c with
      | none => rw [pick_nr, pick_nr]
      | some z =>
        by_cases h1 : y.1 ≤ x.1 <;> by_cases h2 : z.1 ≤ y.1 <;> by_cases h3 : z.1 ≤ x.1 <;> simp [pick, h1, h2, h3] <;> omega
def shf (o : Option (Nat × Nat)) (c b : Nat) : Option (Nat × Nat) := o.map (fun x => (x.1 + c, x.2 + b))
theorem shf_pick (a b : Option (Nat × Nat)) (c s : Nat) : shf (pick a b) c s = pick (shf a c s) (shf b c s) := by
  cases a with
  | none => rw [pick_nl]; show _ = pick none _; rw [pick_nl]
  | some x =>
    cases b with
    | none => rw [pick_nr]; show _ = pick _ none; rw [pick_nr]
    | some y =>
      by_cases h : y.1 ≤ x.1 <;> simp [pick, shf, h]
theorem shf_shf (a : Option (Nat × Nat)) (c s c' s' : Nat) : shf (shf a c s) c' s' = shf a (c + c') (s + s') := by
  cases a with
  | none => rfl
  | some x => simp [shf, Nat.add_assoc]
theorem shf_00 (a : Option (Nat × Nat)) : shf a 0 0 = a := by cases a <;> rfl
-- a row
def rcs (A : Nat → Nat) (p w : Nat) : Nat := if A 7 = 1 then 10 + (3 - p) * (3 - p) else if A 7 = 2 then (A 2 - w) * (A 2 - w) else 1
theorem rcs_le {A : Nat → Nat} (hV : VA A) (p w : Nat) : rcs A p w ≤ 1600 := by
  have h := hV.st
  unfold rcs
  split
  · have : (3 - p) * (3 - p) ≤ 3 * 3 := Nat.mul_le_mul (by omega) (by omega)
    omega
  · split
    · have : (A 2 - w) * (A 2 - w) ≤ 40 * 40 := Nat.mul_le_mul (by omega) (by omega)
      omega
    · omega
def adw (w l : Nat) : Nat := w + l + (if w = 0 then 0 else 1)
/-- the best of all settings of the last d words from i on, the row begun at f with the width w: its cost, its breaks -/
def bf (A : Nat → Nat) (k : Nat) : Nat → Nat → Nat → Nat → Option (Nat × Nat)
  | 0, _, _, _ => some (0, 0)
  | d + 1, i, f, w => if f + adw w (A (12 + 15 * k + i)) ≤ A 2 then
      (if d = 0 then some (0, 0) else pick (shf (bf A k d (i + 1) (ind A k + A 4) 0) (rcs A (A (18 + 15 * k + i)) (f + adw w (A (12 + 15 * k + i)))) (2 ^ (d - 1))) (bf A k d (i + 1) f (adw w (A (12 + 15 * k + i)))))
    else none
def bn (A : Nat → Nat) (k : Nat) : Nat → Nat → Nat → Nat → Nat
  | 0, _, _, _ => 1
  | d + 1, i, f, w => if f + adw w (A (12 + 15 * k + i)) ≤ A 2 then
      (if d = 0 then 1 else bn A k d (i + 1) (ind A k + A 4) 0 + bn A k d (i + 1) f (adw w (A (12 + 15 * k + i))))
    else 0
/-- the cost by a code -/
def cbs (A : Nat → Nat) (k code : Nat) : Nat → Nat → Nat → Nat → Option Nat
  | 0, _, _, _ => some 0
  | d + 1, i, f, w => if f + adw w (A (12 + 15 * k + i)) ≤ A 2 then
      (if d ≠ 0 ∧ code / 2 ^ (d - 1) % 2 = 1 then (cbs A k code d (i + 1) (ind A k + A 4) 0).map (· + rcs A (A (18 + 15 * k + i)) (f + adw w (A (12 + 15 * k + i)))) else cbs A k code d (i + 1) f (adw w (A (12 + 15 * k + i))))
    else none
theorem cbs_low {A : Nat → Nat} {k c1 c2 : Nat} : ∀ (d i f w : Nat), (∀ e, e + 1 < d → c1 / 2 ^ e % 2 = c2 / 2 ^ e % 2) → cbs A k c1 d i f w = cbs A k c2 d i f w
  | 0, _, _, _, _ => rfl
  | d + 1, i, f, w, h => by
    unfold cbs
    rw [cbs_low d (i + 1) _ _ (fun e he => h e (by omega)), cbs_low d (i + 1) _ _ (fun e he => h e (by omega))]
    by_cases hd : d = 0
    · simp [hd]
    · rw [h (d - 1) (by omega)]
theorem cbs_le {A : Nat → Nat} (hV : VA A) {k code x : Nat} : ∀ (d i f w : Nat), cbs A k code d i f w = some x → x ≤ 1600 * d
  | 0, _, _, _, h => by cases h; omega
  | d + 1, i, f, w, h => by
    unfold cbs at h
    split at h
    · split at h
      · cases hc : cbs A k code d (i + 1) (ind A k + A 4) 0 with
        | none => rw [hc] at h; cases h
        | some y =>
          rw [hc] at h
          have h1 := cbs_le hV d _ _ _ hc
          have h2 := rcs_le hV (A (18 + 15 * k + i)) (f + adw w (A (12 + 15 * k + i)))
          simp only [Option.map_some, Option.some.injEq] at h
          omega
      · have h1 := cbs_le hV d _ _ _ h
        omega
    · cases h
-- all codes below a number, the first of the cheapest
def mn (f : Nat → Option Nat) : Nat → Option (Nat × Nat)
  | 0 => none
  | c + 1 => pick ((f c).map (fun x => (x, c))) (mn f c)
theorem mn_congr {f g : Nat → Option Nat} : ∀ (c : Nat), (∀ x, x < c → f x = g x) → mn f c = mn g c
  | 0, _ => rfl
  | c + 1, h => by
    unfold mn
    rw [h c (by omega), mn_congr c (fun x hx => h x (by omega))]
theorem mn_none {f : Nat → Option Nat} : ∀ (c : Nat), (∀ x, x < c → f x = none) → mn f c = none
  | 0, _ => rfl
  | c + 1, h => by
    unfold mn
    rw [h c (by omega), mn_none c (fun x hx => h x (by omega))]
    rfl
theorem mn_app (f : Nat → Option Nat) (a : Nat) : ∀ b, mn f (a + b) = pick (shf (mn (fun c => f (a + c)) b) 0 a) (mn f a)
  | 0 => by show mn f a = pick none _; rw [pick_nl]
  | b + 1 => by
    show pick ((f (a + b)).map (fun x => (x, a + b))) (mn f (a + b)) = _
    rw [mn_app f a b, pick_assoc]
    congr 1
    show _ = shf (pick ((f (a + b)).map (fun x => (x, b))) (mn (fun c => f (a + c)) b)) 0 a
    rw [shf_pick]
    congr 1
    cases f (a + b) with
    | none => rfl
    | some x => simp [shf, Nat.add_comm]
theorem mn_cost (f : Nat → Option Nat) (q : Nat) : ∀ c, mn (fun x => (f x).map (· + q)) c = shf (mn f c) q 0
  | 0 => rfl
  | c + 1 => by
    unfold mn
    rw [mn_cost f q c, shf_pick]
    congr 1
    cases f c <;> rfl
theorem mn_bf {A : Nat → Nat} {k : Nat} : ∀ (d i f w : Nat), mn (fun code => cbs A k code (d + 1) i f w) (2 ^ d) = bf A k (d + 1) i f w
  | 0, i, f, w => by
    show pick ((cbs A k 0 1 i f w).map (fun x => (x, 0))) none = _
    rw [pick_nr]
    simp only [cbs, bf]
    by_cases h : f + adw w (A (12 + 15 * k + i)) ≤ A 2 <;> simp [h]
  | d + 1, i, f, w => by
    have h1 := mn_bf (A := A) (k := k) d (i + 1) f (adw w (A (12 + 15 * k + i)))
    have h2 := mn_bf (A := A) (k := k) d (i + 1) (ind A k + A 4) 0
    rw [show 2 ^ (d + 1) = 2 ^ d + 2 ^ d by rw [Nat.pow_succ]; omega, mn_app]
    by_cases hf : f + adw w (A (12 + 15 * k + i)) ≤ A 2
    · have e1 : mn (fun code => cbs A k code (d + 1 + 1) i f w) (2 ^ d) = bf A k (d + 1) (i + 1) f (adw w (A (12 + 15 * k + i))) := by
        rw [← h1]
        refine mn_congr _ (fun x hx => ?_)
        rw [cbs, if_pos hf, if_neg]
        rintro ⟨_, hb⟩
        rw [show d + 1 - 1 = d from rfl, Nat.div_eq_of_lt hx] at hb
        omega
      have e2 : mn (fun c => cbs A k (2 ^ d + c) (d + 1 + 1) i f w) (2 ^ d) = shf (bf A k (d + 1) (i + 1) (ind A k + A 4) 0) (rcs A (A (18 + 15 * k + i)) (f + adw w (A (12 + 15 * k + i)))) 0 := by
        rw [← h2, ← mn_cost]
        refine mn_congr _ (fun x hx => ?_)
        rw [cbs, if_pos hf, if_pos]
        · congr 1
          refine cbs_low (d + 1) _ _ _ (fun e he => ?_)
          have hle : e < d := by omega
          rw [show 2 ^ d = 2 ^ e * (2 * 2 ^ (d - e - 1)) by rw [← Nat.pow_succ', ← Nat.pow_add]; congr 1; omega, Nat.mul_add_div (Nat.two_pow_pos e), Nat.mul_add_mod]
        · refine ⟨by omega, ?_⟩
          rw [show d + 1 - 1 = d from rfl, Nat.add_div_left _ (Nat.two_pow_pos d), Nat.div_eq_of_lt hx]
      rw [e1, e2, shf_shf, Nat.add_zero, Nat.zero_add]
      conv => rhs; rw [bf, if_pos hf, if_neg (by omega)]
      rfl
    · rw [mn_none _ (fun x _ => by simp [cbs, hf]), mn_none _ (fun x _ => by simp [cbs, hf])]
      rw [bf, if_neg hf]
      rfl
-- how many
def ct (f : Nat → Option Nat) : Nat → Nat
  | 0 => 0
  | c + 1 => ct f c + (if f c = none then 0 else 1)
theorem ct_congr {f g : Nat → Option Nat} : ∀ (c : Nat), (∀ x, x < c → (f x = none ↔ g x = none)) → ct f c = ct g c
  | 0, _ => rfl
  | c + 1, h => by
    unfold ct
    rw [ct_congr c (fun x hx => h x (by omega))]
    have := h c (by omega)
    by_cases hf : f c = none
    · rw [if_pos hf, if_pos (this.mp hf)]
    · rw [if_neg hf, if_neg (fun z => hf (this.mpr z))]
theorem ct_zero {f : Nat → Option Nat} : ∀ (c : Nat), (∀ x, x < c → f x = none) → ct f c = 0
  | 0, _ => rfl
  | c + 1, h => by
    unfold ct
    rw [h c (by omega), ct_zero c (fun x hx => h x (by omega)), if_pos rfl]
theorem ct_app (f : Nat → Option Nat) (a : Nat) : ∀ b, ct f (a + b) = ct f a + ct (fun c => f (a + c)) b
  | 0 => rfl
  | b + 1 => by
    show ct f (a + b) + _ = ct f a + (ct (fun c => f (a + c)) b + _)
    rw [ct_app f a b, Nat.add_assoc]; rfl
theorem ct_le (f : Nat → Option Nat) : ∀ c, ct f c ≤ c
  | 0 => Nat.le_refl _
  | c + 1 => by
    have := ct_le f c
    unfold ct
    split <;> omega
theorem ct_bn {A : Nat → Nat} {k : Nat} : ∀ (d i f w : Nat), ct (fun code => cbs A k code (d + 1) i f w) (2 ^ d) = bn A k (d + 1) i f w
  | 0, i, f, w => by
    show 0 + (if cbs A k 0 1 i f w = none then 0 else 1) = _
    simp only [cbs, bn]
    by_cases h : f + adw w (A (12 + 15 * k + i)) ≤ A 2 <;> simp [h]
  | d + 1, i, f, w => by
    have h1 := ct_bn (A := A) (k := k) d (i + 1) f (adw w (A (12 + 15 * k + i)))
    have h2 := ct_bn (A := A) (k := k) d (i + 1) (ind A k + A 4) 0
    rw [show 2 ^ (d + 1) = 2 ^ d + 2 ^ d by rw [Nat.pow_succ]; omega, ct_app]
    by_cases hf : f + adw w (A (12 + 15 * k + i)) ≤ A 2
    · have e1 : ct (fun code => cbs A k code (d + 1 + 1) i f w) (2 ^ d) = bn A k (d + 1) (i + 1) f (adw w (A (12 + 15 * k + i))) := by
        rw [← h1]
        refine ct_congr _ (fun x hx => ?_)
        rw [cbs, if_pos hf, if_neg]
        rintro ⟨_, hb⟩
        rw [show d + 1 - 1 = d from rfl, Nat.div_eq_of_lt hx] at hb
        omega
      have e2 : ct (fun c => cbs A k (2 ^ d + c) (d + 1 + 1) i f w) (2 ^ d) = bn A k (d + 1) (i + 1) (ind A k + A 4) 0 := by
        rw [← h2]
        refine ct_congr _ (fun x hx => ?_)
        rw [cbs, if_pos hf, if_pos, cbs_low (c1 := 2 ^ d + x) (c2 := x) (d + 1) _ _ _ (fun e he => ?_)]
        · cases cbs A k x (d + 1) (i + 1) (ind A k + A 4) 0 <;> simp
        · have hle : e < d := by omega
          rw [show 2 ^ d = 2 ^ e * (2 * 2 ^ (d - e - 1)) by rw [← Nat.pow_succ', ← Nat.pow_add]; congr 1; omega, Nat.mul_add_div (Nat.two_pow_pos e), Nat.mul_add_mod]
        · refine ⟨by omega, ?_⟩
          rw [show d + 1 - 1 = d from rfl, Nat.add_div_left _ (Nat.two_pow_pos d), Nat.div_eq_of_lt hx]
      rw [e1, e2]
      conv => rhs; rw [bn, if_pos hf, if_neg (by omega)]
      omega
    · rw [ct_zero _ (fun x _ => by simp [cbs, hf]), ct_zero _ (fun x _ => by simp [cbs, hf])]
      rw [bn, if_neg hf]
