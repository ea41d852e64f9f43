/-! ===== pure words: what a method computes, without the machine ===== -/
def nm {α β : Type} (e : α) (k : α → Option β) : Option β := k e
theorem nm_el {α β : Type} {e : α} {k : α → Option β} {r : β} (h : nm e k = some r) : ∃ x, x = e ∧ k x = some r := ⟨e, rfl, h⟩
def gd {β : Type} (b : Bool) (k : Option β) : Option β := match b with
  | true => k
  | false => none
theorem gd_el {β : Type} {b : Bool} {k : Option β} {r : β} (h : gd b k = some r) : b = true ∧ k = some r := by
  cases b with
  | true => exact ⟨rfl, h⟩
  | false => cases h
def ib (i : Int32) (n : Nat) : Bool := decide (¬ (i < 0 ∨ n ≤ i.toNatClampNeg))
theorem ib_in {i : Int32} {n : Nat} (h : ib i n = true) : vp_in i n := of_decide_eq_true (p := ¬ (i < 0 ∨ n ≤ i.toNatClampNeg)) h
def nz (x : Int32) : Bool := decide (¬ x = 0)
theorem nz_ne {x : Int32} (h : nz x = true) : ¬ x = 0 := of_decide_eq_true h
def nzl (x : Int64) : Bool := decide (¬ x = 0)
theorem nzl_ne {x : Int64} (h : nzl x = true) : ¬ x = 0 := of_decide_eq_true h
def b01 (x : Int32) : Bool := decide (x = 0 ∨ x = 1)
theorem b01_or {x : Int32} (h : b01 x = true) : x = 0 ∨ x = 1 := of_decide_eq_true h
theorem b01_nar {x : Int32} (h : b01 x = true) : narrow .boolean (.int x) = .int x := by
  rcases b01_or h with h | h <;> subst h <;> rfl
theorem b01_fit {x : Int32} (h : b01 x = true) : fits .boolean (.int x) = true := by
  rcases b01_or h with h | h <;> subst h <;> rfl
theorem it_t {α : Type} {c : Prop} [Decidable c] {a b o : α} (h : c) (hf : (if c then a else b) = o) : a = o := by rw [if_pos h] at hf; exact hf
theorem it_f {α : Type} {c : Prop} [Decidable c] {a b o : α} (h : ¬ c) (hf : (if c then a else b) = o) : b = o := by rw [if_neg h] at hf; exact hf
def bdS {α β γ : Type} (o : Option (α ⊕ β)) (k : α → Option γ) (j : β → Option γ) : Option γ := match o with
  | none => none
  | some (.inl a) => k a
  | some (.inr b) => j b
theorem bdS_el {α β γ : Type} {o : Option (α ⊕ β)} {k : α → Option γ} {j : β → Option γ} {r : γ} (h : bdS o k j = some r) : (∃ a, o = some (.inl a) ∧ k a = some r) ∨ (∃ b, o = some (.inr b) ∧ j b = some r) := by
  match o, h with
  | some (.inl a), h => exact Or.inl ⟨a, rfl, h⟩
  | some (.inr b), h => exact Or.inr ⟨b, rfl, h⟩
/-- a loop: its body, as often as it goes on, at most n times -/
def loopN {σ ε : Type} (step : σ → Option (σ ⊕ ε)) : Nat → σ → Option ε
  | 0, _ => none
  | n + 1, s => match step s with
    | none => none
    | some (.inl s') => loopN step n s'
    | some (.inr e) => some e
theorem loopN_el {σ ε : Type} {step : σ → Option (σ ⊕ ε)} {n : Nat} {s : σ} {r : ε} (h : loopN step (n + 1) s = some r) : ∃ o, step s = some o ∧ (∀ s', o = .inl s' → loopN step n s' = some r) ∧ (∀ e, o = .inr e → e = r) := by
  unfold loopN at h
  cases hs : step s with
  | none => rw [hs] at h; cases h
  | some o =>
    rw [hs] at h
    cases o with
    | inl s' => exact ⟨_, rfl, fun z hz => (by cases hz; exact h), fun z hz => (by cases hz)⟩
    | inr e => exact ⟨_, rfl, fun z hz => (by cases hz), fun z hz => (by cases hz; cases h; rfl)⟩
def fuel : Nat := 2000
def bd1 {α β : Type} (o : Option α) (k : α → Option β) : Option β := match o with
  | none => none
  | some a => k a
theorem bd1_el {α β : Type} {o : Option α} {k : α → Option β} {r : β} (h : bd1 o k = some r) : ∃ a, o = some a ∧ k a = some r := by
  cases o with
  | none => cases h
  | some a => exact ⟨a, rfl, h⟩
def bd2 {α1 α2 β : Type} (o : Option (α1 × α2)) (k : α1 → α2 → Option β) : Option β := match o with
  | none => none
  | some (a1, a2) => k a1 a2
theorem bd2_el {α1 α2 β : Type} {o : Option (α1 × α2)} {k : α1 → α2 → Option β} {r : β} (h : bd2 o k = some r) : ∃ a1 a2, o = some (a1, a2) ∧ k a1 a2 = some r := by
  match o, h with
  | some (a1, a2), h => exact ⟨a1, a2, rfl, h⟩
def bd3 {α1 α2 α3 β : Type} (o : Option (α1 × α2 × α3)) (k : α1 → α2 → α3 → Option β) : Option β := match o with
  | none => none
  | some (a1, a2, a3) => k a1 a2 a3
theorem bd3_el {α1 α2 α3 β : Type} {o : Option (α1 × α2 × α3)} {k : α1 → α2 → α3 → Option β} {r : β} (h : bd3 o k = some r) : ∃ a1 a2 a3, o = some (a1, a2, a3) ∧ k a1 a2 a3 = some r := by
  match o, h with
  | some (a1, a2, a3), h => exact ⟨a1, a2, a3, rfl, h⟩
def bd4 {α1 α2 α3 α4 β : Type} (o : Option (α1 × α2 × α3 × α4)) (k : α1 → α2 → α3 → α4 → Option β) : Option β := match o with
  | none => none
  | some (a1, a2, a3, a4) => k a1 a2 a3 a4
theorem bd4_el {α1 α2 α3 α4 β : Type} {o : Option (α1 × α2 × α3 × α4)} {k : α1 → α2 → α3 → α4 → Option β} {r : β} (h : bd4 o k = some r) : ∃ a1 a2 a3 a4, o = some (a1, a2, a3, a4) ∧ k a1 a2 a3 a4 = some r := by
  match o, h with
  | some (a1, a2, a3, a4), h => exact ⟨a1, a2, a3, a4, rfl, h⟩
def bd5 {α1 α2 α3 α4 α5 β : Type} (o : Option (α1 × α2 × α3 × α4 × α5)) (k : α1 → α2 → α3 → α4 → α5 → Option β) : Option β := match o with
  | none => none
  | some (a1, a2, a3, a4, a5) => k a1 a2 a3 a4 a5
theorem bd5_el {α1 α2 α3 α4 α5 β : Type} {o : Option (α1 × α2 × α3 × α4 × α5)} {k : α1 → α2 → α3 → α4 → α5 → Option β} {r : β} (h : bd5 o k = some r) : ∃ a1 a2 a3 a4 a5, o = some (a1, a2, a3, a4, a5) ∧ k a1 a2 a3 a4 a5 = some r := by
  match o, h with
  | some (a1, a2, a3, a4, a5), h => exact ⟨a1, a2, a3, a4, a5, rfl, h⟩
def bd6 {α1 α2 α3 α4 α5 α6 β : Type} (o : Option (α1 × α2 × α3 × α4 × α5 × α6)) (k : α1 → α2 → α3 → α4 → α5 → α6 → Option β) : Option β := match o with
  | none => none
  | some (a1, a2, a3, a4, a5, a6) => k a1 a2 a3 a4 a5 a6
theorem bd6_el {α1 α2 α3 α4 α5 α6 β : Type} {o : Option (α1 × α2 × α3 × α4 × α5 × α6)} {k : α1 → α2 → α3 → α4 → α5 → α6 → Option β} {r : β} (h : bd6 o k = some r) : ∃ a1 a2 a3 a4 a5 a6, o = some (a1, a2, a3, a4, a5, a6) ∧ k a1 a2 a3 a4 a5 a6 = some r := by
  match o, h with
  | some (a1, a2, a3, a4, a5, a6), h => exact ⟨a1, a2, a3, a4, a5, a6, rfl, h⟩
def bd7 {α1 α2 α3 α4 α5 α6 α7 β : Type} (o : Option (α1 × α2 × α3 × α4 × α5 × α6 × α7)) (k : α1 → α2 → α3 → α4 → α5 → α6 → α7 → Option β) : Option β := match o with
  | none => none
  | some (a1, a2, a3, a4, a5, a6, a7) => k a1 a2 a3 a4 a5 a6 a7
theorem bd7_el {α1 α2 α3 α4 α5 α6 α7 β : Type} {o : Option (α1 × α2 × α3 × α4 × α5 × α6 × α7)} {k : α1 → α2 → α3 → α4 → α5 → α6 → α7 → Option β} {r : β} (h : bd7 o k = some r) : ∃ a1 a2 a3 a4 a5 a6 a7, o = some (a1, a2, a3, a4, a5, a6, a7) ∧ k a1 a2 a3 a4 a5 a6 a7 = some r := by
  match o, h with
  | some (a1, a2, a3, a4, a5, a6, a7), h => exact ⟨a1, a2, a3, a4, a5, a6, a7, rfl, h⟩
def bd8 {α1 α2 α3 α4 α5 α6 α7 α8 β : Type} (o : Option (α1 × α2 × α3 × α4 × α5 × α6 × α7 × α8)) (k : α1 → α2 → α3 → α4 → α5 → α6 → α7 → α8 → Option β) : Option β := match o with
  | none => none
  | some (a1, a2, a3, a4, a5, a6, a7, a8) => k a1 a2 a3 a4 a5 a6 a7 a8
theorem bd8_el {α1 α2 α3 α4 α5 α6 α7 α8 β : Type} {o : Option (α1 × α2 × α3 × α4 × α5 × α6 × α7 × α8)} {k : α1 → α2 → α3 → α4 → α5 → α6 → α7 → α8 → Option β} {r : β} (h : bd8 o k = some r) : ∃ a1 a2 a3 a4 a5 a6 a7 a8, o = some (a1, a2, a3, a4, a5, a6, a7, a8) ∧ k a1 a2 a3 a4 a5 a6 a7 a8 = some r := by
  match o, h with
  | some (a1, a2, a3, a4, a5, a6, a7, a8), h => exact ⟨a1, a2, a3, a4, a5, a6, a7, a8, rfl, h⟩
def bd9 {α1 α2 α3 α4 α5 α6 α7 α8 α9 β : Type} (o : Option (α1 × α2 × α3 × α4 × α5 × α6 × α7 × α8 × α9)) (k : α1 → α2 → α3 → α4 → α5 → α6 → α7 → α8 → α9 → Option β) : Option β := match o with
  | none => none
  | some (a1, a2, a3, a4, a5, a6, a7, a8, a9) => k a1 a2 a3 a4 a5 a6 a7 a8 a9
theorem bd9_el {α1 α2 α3 α4 α5 α6 α7 α8 α9 β : Type} {o : Option (α1 × α2 × α3 × α4 × α5 × α6 × α7 × α8 × α9)} {k : α1 → α2 → α3 → α4 → α5 → α6 → α7 → α8 → α9 → Option β} {r : β} (h : bd9 o k = some r) : ∃ a1 a2 a3 a4 a5 a6 a7 a8 a9, o = some (a1, a2, a3, a4, a5, a6, a7, a8, a9) ∧ k a1 a2 a3 a4 a5 a6 a7 a8 a9 = some r := by
  match o, h with
  | some (a1, a2, a3, a4, a5, a6, a7, a8, a9), h => exact ⟨a1, a2, a3, a4, a5, a6, a7, a8, a9, rfl, h⟩
def bd10 {α1 α2 α3 α4 α5 α6 α7 α8 α9 α10 β : Type} (o : Option (α1 × α2 × α3 × α4 × α5 × α6 × α7 × α8 × α9 × α10)) (k : α1 → α2 → α3 → α4 → α5 → α6 → α7 → α8 → α9 → α10 → Option β) : Option β := match o with
  | none => none
  | some (a1, a2, a3, a4, a5, a6, a7, a8, a9, a10) => k a1 a2 a3 a4 a5 a6 a7 a8 a9 a10
theorem bd10_el {α1 α2 α3 α4 α5 α6 α7 α8 α9 α10 β : Type} {o : Option (α1 × α2 × α3 × α4 × α5 × α6 × α7 × α8 × α9 × α10)} {k : α1 → α2 → α3 → α4 → α5 → α6 → α7 → α8 → α9 → α10 → Option β} {r : β} (h : bd10 o k = some r) : ∃ a1 a2 a3 a4 a5 a6 a7 a8 a9 a10, o = some (a1, a2, a3, a4, a5, a6, a7, a8, a9, a10) ∧ k a1 a2 a3 a4 a5 a6 a7 a8 a9 a10 = some r := by
  match o, h with
  | some (a1, a2, a3, a4, a5, a6, a7, a8, a9, a10), h => exact ⟨a1, a2, a3, a4, a5, a6, a7, a8, a9, a10, rfl, h⟩
def bd11 {α1 α2 α3 α4 α5 α6 α7 α8 α9 α10 α11 β : Type} (o : Option (α1 × α2 × α3 × α4 × α5 × α6 × α7 × α8 × α9 × α10 × α11)) (k : α1 → α2 → α3 → α4 → α5 → α6 → α7 → α8 → α9 → α10 → α11 → Option β) : Option β := match o with
  | none => none
  | some (a1, a2, a3, a4, a5, a6, a7, a8, a9, a10, a11) => k a1 a2 a3 a4 a5 a6 a7 a8 a9 a10 a11
theorem bd11_el {α1 α2 α3 α4 α5 α6 α7 α8 α9 α10 α11 β : Type} {o : Option (α1 × α2 × α3 × α4 × α5 × α6 × α7 × α8 × α9 × α10 × α11)} {k : α1 → α2 → α3 → α4 → α5 → α6 → α7 → α8 → α9 → α10 → α11 → Option β} {r : β} (h : bd11 o k = some r) : ∃ a1 a2 a3 a4 a5 a6 a7 a8 a9 a10 a11, o = some (a1, a2, a3, a4, a5, a6, a7, a8, a9, a10, a11) ∧ k a1 a2 a3 a4 a5 a6 a7 a8 a9 a10 a11 = some r := by
  match o, h with
  | some (a1, a2, a3, a4, a5, a6, a7, a8, a9, a10, a11), h => exact ⟨a1, a2, a3, a4, a5, a6, a7, a8, a9, a10, a11, rfl, h⟩
def bd12 {α1 α2 α3 α4 α5 α6 α7 α8 α9 α10 α11 α12 β : Type} (o : Option (α1 × α2 × α3 × α4 × α5 × α6 × α7 × α8 × α9 × α10 × α11 × α12)) (k : α1 → α2 → α3 → α4 → α5 → α6 → α7 → α8 → α9 → α10 → α11 → α12 → Option β) : Option β := match o with
  | none => none
  | some (a1, a2, a3, a4, a5, a6, a7, a8, a9, a10, a11, a12) => k a1 a2 a3 a4 a5 a6 a7 a8 a9 a10 a11 a12
theorem bd12_el {α1 α2 α3 α4 α5 α6 α7 α8 α9 α10 α11 α12 β : Type} {o : Option (α1 × α2 × α3 × α4 × α5 × α6 × α7 × α8 × α9 × α10 × α11 × α12)} {k : α1 → α2 → α3 → α4 → α5 → α6 → α7 → α8 → α9 → α10 → α11 → α12 → Option β} {r : β} (h : bd12 o k = some r) : ∃ a1 a2 a3 a4 a5 a6 a7 a8 a9 a10 a11 a12, o = some (a1, a2, a3, a4, a5, a6, a7, a8, a9, a10, a11, a12) ∧ k a1 a2 a3 a4 a5 a6 a7 a8 a9 a10 a11 a12 = some r := by
  match o, h with
  | some (a1, a2, a3, a4, a5, a6, a7, a8, a9, a10, a11, a12), h => exact ⟨a1, a2, a3, a4, a5, a6, a7, a8, a9, a10, a11, a12, rfl, h⟩
def bd13 {α1 α2 α3 α4 α5 α6 α7 α8 α9 α10 α11 α12 α13 β : Type} (o : Option (α1 × α2 × α3 × α4 × α5 × α6 × α7 × α8 × α9 × α10 × α11 × α12 × α13)) (k : α1 → α2 → α3 → α4 → α5 → α6 → α7 → α8 → α9 → α10 → α11 → α12 → α13 → Option β) : Option β := match o with
  | none => none
  | some (a1, a2, a3, a4, a5, a6, a7, a8, a9, a10, a11, a12, a13) => k a1 a2 a3 a4 a5 a6 a7 a8 a9 a10 a11 a12 a13
theorem bd13_el {α1 α2 α3 α4 α5 α6 α7 α8 α9 α10 α11 α12 α13 β : Type} {o : Option (α1 × α2 × α3 × α4 × α5 × α6 × α7 × α8 × α9 × α10 × α11 × α12 × α13)} {k : α1 → α2 → α3 → α4 → α5 → α6 → α7 → α8 → α9 → α10 → α11 → α12 → α13 → Option β} {r : β} (h : bd13 o k = some r) : ∃ a1 a2 a3 a4 a5 a6 a7 a8 a9 a10 a11 a12 a13, o = some (a1, a2, a3, a4, a5, a6, a7, a8, a9, a10, a11, a12, a13) ∧ k a1 a2 a3 a4 a5 a6 a7 a8 a9 a10 a11 a12 a13 = some r := by
  match o, h with
  | some (a1, a2, a3, a4, a5, a6, a7, a8, a9, a10, a11, a12, a13), h => exact ⟨a1, a2, a3, a4, a5, a6, a7, a8, a9, a10, a11, a12, a13, rfl, h⟩
def bd14 {α1 α2 α3 α4 α5 α6 α7 α8 α9 α10 α11 α12 α13 α14 β : Type} (o : Option (α1 × α2 × α3 × α4 × α5 × α6 × α7 × α8 × α9 × α10 × α11 × α12 × α13 × α14)) (k : α1 → α2 → α3 → α4 → α5 → α6 → α7 → α8 → α9 → α10 → α11 → α12 → α13 → α14 → Option β) : Option β := match o with
  | none => none
  | some (a1, a2, a3, a4, a5, a6, a7, a8, a9, a10, a11, a12, a13, a14) => k a1 a2 a3 a4 a5 a6 a7 a8 a9 a10 a11 a12 a13 a14
theorem bd14_el {α1 α2 α3 α4 α5 α6 α7 α8 α9 α10 α11 α12 α13 α14 β : Type} {o : Option (α1 × α2 × α3 × α4 × α5 × α6 × α7 × α8 × α9 × α10 × α11 × α12 × α13 × α14)} {k : α1 → α2 → α3 → α4 → α5 → α6 → α7 → α8 → α9 → α10 → α11 → α12 → α13 → α14 → Option β} {r : β} (h : bd14 o k = some r) : ∃ a1 a2 a3 a4 a5 a6 a7 a8 a9 a10 a11 a12 a13 a14, o = some (a1, a2, a3, a4, a5, a6, a7, a8, a9, a10, a11, a12, a13, a14) ∧ k a1 a2 a3 a4 a5 a6 a7 a8 a9 a10 a11 a12 a13 a14 = some r := by
  match o, h with
  | some (a1, a2, a3, a4, a5, a6, a7, a8, a9, a10, a11, a12, a13, a14), h => exact ⟨a1, a2, a3, a4, a5, a6, a7, a8, a9, a10, a11, a12, a13, a14, rfl, h⟩
def bd15 {α1 α2 α3 α4 α5 α6 α7 α8 α9 α10 α11 α12 α13 α14 α15 β : Type} (o : Option (α1 × α2 × α3 × α4 × α5 × α6 × α7 × α8 × α9 × α10 × α11 × α12 × α13 × α14 × α15)) (k : α1 → α2 → α3 → α4 → α5 → α6 → α7 → α8 → α9 → α10 → α11 → α12 → α13 → α14 → α15 → Option β) : Option β := match o with
  | none => none
  | some (a1, a2, a3, a4, a5, a6, a7, a8, a9, a10, a11, a12, a13, a14, a15) => k a1 a2 a3 a4 a5 a6 a7 a8 a9 a10 a11 a12 a13 a14 a15
theorem bd15_el {α1 α2 α3 α4 α5 α6 α7 α8 α9 α10 α11 α12 α13 α14 α15 β : Type} {o : Option (α1 × α2 × α3 × α4 × α5 × α6 × α7 × α8 × α9 × α10 × α11 × α12 × α13 × α14 × α15)} {k : α1 → α2 → α3 → α4 → α5 → α6 → α7 → α8 → α9 → α10 → α11 → α12 → α13 → α14 → α15 → Option β} {r : β} (h : bd15 o k = some r) : ∃ a1 a2 a3 a4 a5 a6 a7 a8 a9 a10 a11 a12 a13 a14 a15, o = some (a1, a2, a3, a4, a5, a6, a7, a8, a9, a10, a11, a12, a13, a14, a15) ∧ k a1 a2 a3 a4 a5 a6 a7 a8 a9 a10 a11 a12 a13 a14 a15 = some r := by
  match o, h with
  | some (a1, a2, a3, a4, a5, a6, a7, a8, a9, a10, a11, a12, a13, a14, a15), h => exact ⟨a1, a2, a3, a4, a5, a6, a7, a8, a9, a10, a11, a12, a13, a14, a15, rfl, h⟩
def bd16 {α1 α2 α3 α4 α5 α6 α7 α8 α9 α10 α11 α12 α13 α14 α15 α16 β : Type} (o : Option (α1 × α2 × α3 × α4 × α5 × α6 × α7 × α8 × α9 × α10 × α11 × α12 × α13 × α14 × α15 × α16)) (k : α1 → α2 → α3 → α4 → α5 → α6 → α7 → α8 → α9 → α10 → α11 → α12 → α13 → α14 → α15 → α16 → Option β) : Option β := match o with
  | none => none
  | some (a1, a2, a3, a4, a5, a6, a7, a8, a9, a10, a11, a12, a13, a14, a15, a16) => k a1 a2 a3 a4 a5 a6 a7 a8 a9 a10 a11 a12 a13 a14 a15 a16
theorem bd16_el {α1 α2 α3 α4 α5 α6 α7 α8 α9 α10 α11 α12 α13 α14 α15 α16 β : Type} {o : Option (α1 × α2 × α3 × α4 × α5 × α6 × α7 × α8 × α9 × α10 × α11 × α12 × α13 × α14 × α15 × α16)} {k : α1 → α2 → α3 → α4 → α5 → α6 → α7 → α8 → α9 → α10 → α11 → α12 → α13 → α14 → α15 → α16 → Option β} {r : β} (h : bd16 o k = some r) : ∃ a1 a2 a3 a4 a5 a6 a7 a8 a9 a10 a11 a12 a13 a14 a15 a16, o = some (a1, a2, a3, a4, a5, a6, a7, a8, a9, a10, a11, a12, a13, a14, a15, a16) ∧ k a1 a2 a3 a4 a5 a6 a7 a8 a9 a10 a11 a12 a13 a14 a15 a16 = some r := by
  match o, h with
  | some (a1, a2, a3, a4, a5, a6, a7, a8, a9, a10, a11, a12, a13, a14, a15, a16), h => exact ⟨a1, a2, a3, a4, a5, a6, a7, a8, a9, a10, a11, a12, a13, a14, a15, a16, rfl, h⟩
def bd17 {α1 α2 α3 α4 α5 α6 α7 α8 α9 α10 α11 α12 α13 α14 α15 α16 α17 β : Type} (o : Option (α1 × α2 × α3 × α4 × α5 × α6 × α7 × α8 × α9 × α10 × α11 × α12 × α13 × α14 × α15 × α16 × α17)) (k : α1 → α2 → α3 → α4 → α5 → α6 → α7 → α8 → α9 → α10 → α11 → α12 → α13 → α14 → α15 → α16 → α17 → Option β) : Option β := match o with
  | none => none
  | some (a1, a2, a3, a4, a5, a6, a7, a8, a9, a10, a11, a12, a13, a14, a15, a16, a17) => k a1 a2 a3 a4 a5 a6 a7 a8 a9 a10 a11 a12 a13 a14 a15 a16 a17
theorem bd17_el {α1 α2 α3 α4 α5 α6 α7 α8 α9 α10 α11 α12 α13 α14 α15 α16 α17 β : Type} {o : Option (α1 × α2 × α3 × α4 × α5 × α6 × α7 × α8 × α9 × α10 × α11 × α12 × α13 × α14 × α15 × α16 × α17)} {k : α1 → α2 → α3 → α4 → α5 → α6 → α7 → α8 → α9 → α10 → α11 → α12 → α13 → α14 → α15 → α16 → α17 → Option β} {r : β} (h : bd17 o k = some r) : ∃ a1 a2 a3 a4 a5 a6 a7 a8 a9 a10 a11 a12 a13 a14 a15 a16 a17, o = some (a1, a2, a3, a4, a5, a6, a7, a8, a9, a10, a11, a12, a13, a14, a15, a16, a17) ∧ k a1 a2 a3 a4 a5 a6 a7 a8 a9 a10 a11 a12 a13 a14 a15 a16 a17 = some r := by
  match o, h with
  | some (a1, a2, a3, a4, a5, a6, a7, a8, a9, a10, a11, a12, a13, a14, a15, a16, a17), h => exact ⟨a1, a2, a3, a4, a5, a6, a7, a8, a9, a10, a11, a12, a13, a14, a15, a16, a17, rfl, h⟩
def bd18 {α1 α2 α3 α4 α5 α6 α7 α8 α9 α10 α11 α12 α13 α14 α15 α16 α17 α18 β : Type} (o : Option (α1 × α2 × α3 × α4 × α5 × α6 × α7 × α8 × α9 × α10 × α11 × α12 × α13 × α14 × α15 × α16 × α17 × α18)) (k : α1 → α2 → α3 → α4 → α5 → α6 → α7 → α8 → α9 → α10 → α11 → α12 → α13 → α14 → α15 → α16 → α17 → α18 → Option β) : Option β := match o with
  | none => none
  | some (a1, a2, a3, a4, a5, a6, a7, a8, a9, a10, a11, a12, a13, a14, a15, a16, a17, a18) => k a1 a2 a3 a4 a5 a6 a7 a8 a9 a10 a11 a12 a13 a14 a15 a16 a17 a18
theorem bd18_el {α1 α2 α3 α4 α5 α6 α7 α8 α9 α10 α11 α12 α13 α14 α15 α16 α17 α18 β : Type} {o : Option (α1 × α2 × α3 × α4 × α5 × α6 × α7 × α8 × α9 × α10 × α11 × α12 × α13 × α14 × α15 × α16 × α17 × α18)} {k : α1 → α2 → α3 → α4 → α5 → α6 → α7 → α8 → α9 → α10 → α11 → α12 → α13 → α14 → α15 → α16 → α17 → α18 → Option β} {r : β} (h : bd18 o k = some r) : ∃ a1 a2 a3 a4 a5 a6 a7 a8 a9 a10 a11 a12 a13 a14 a15 a16 a17 a18, o = some (a1, a2, a3, a4, a5, a6, a7, a8, a9, a10, a11, a12, a13, a14, a15, a16, a17, a18) ∧ k a1 a2 a3 a4 a5 a6 a7 a8 a9 a10 a11 a12 a13 a14 a15 a16 a17 a18 = some r := by
  match o, h with
  | some (a1, a2, a3, a4, a5, a6, a7, a8, a9, a10, a11, a12, a13, a14, a15, a16, a17, a18), h => exact ⟨a1, a2, a3, a4, a5, a6, a7, a8, a9, a10, a11, a12, a13, a14, a15, a16, a17, a18, rfl, h⟩
def bd19 {α1 α2 α3 α4 α5 α6 α7 α8 α9 α10 α11 α12 α13 α14 α15 α16 α17 α18 α19 β : Type} (o : Option (α1 × α2 × α3 × α4 × α5 × α6 × α7 × α8 × α9 × α10 × α11 × α12 × α13 × α14 × α15 × α16 × α17 × α18 × α19)) (k : α1 → α2 → α3 → α4 → α5 → α6 → α7 → α8 → α9 → α10 → α11 → α12 → α13 → α14 → α15 → α16 → α17 → α18 → α19 → Option β) : Option β := match o with
  | none => none
  | some (a1, a2, a3, a4, a5, a6, a7, a8, a9, a10, a11, a12, a13, a14, a15, a16, a17, a18, a19) => k a1 a2 a3 a4 a5 a6 a7 a8 a9 a10 a11 a12 a13 a14 a15 a16 a17 a18 a19
theorem bd19_el {α1 α2 α3 α4 α5 α6 α7 α8 α9 α10 α11 α12 α13 α14 α15 α16 α17 α18 α19 β : Type} {o : Option (α1 × α2 × α3 × α4 × α5 × α6 × α7 × α8 × α9 × α10 × α11 × α12 × α13 × α14 × α15 × α16 × α17 × α18 × α19)} {k : α1 → α2 → α3 → α4 → α5 → α6 → α7 → α8 → α9 → α10 → α11 → α12 → α13 → α14 → α15 → α16 → α17 → α18 → α19 → Option β} {r : β} (h : bd19 o k = some r) : ∃ a1 a2 a3 a4 a5 a6 a7 a8 a9 a10 a11 a12 a13 a14 a15 a16 a17 a18 a19, o = some (a1, a2, a3, a4, a5, a6, a7, a8, a9, a10, a11, a12, a13, a14, a15, a16, a17, a18, a19) ∧ k a1 a2 a3 a4 a5 a6 a7 a8 a9 a10 a11 a12 a13 a14 a15 a16 a17 a18 a19 = some r := by
  match o, h with
  | some (a1, a2, a3, a4, a5, a6, a7, a8, a9, a10, a11, a12, a13, a14, a15, a16, a17, a18, a19), h => exact ⟨a1, a2, a3, a4, a5, a6, a7, a8, a9, a10, a11, a12, a13, a14, a15, a16, a17, a18, a19, rfl, h⟩
def bd20 {α1 α2 α3 α4 α5 α6 α7 α8 α9 α10 α11 α12 α13 α14 α15 α16 α17 α18 α19 α20 β : Type} (o : Option (α1 × α2 × α3 × α4 × α5 × α6 × α7 × α8 × α9 × α10 × α11 × α12 × α13 × α14 × α15 × α16 × α17 × α18 × α19 × α20)) (k : α1 → α2 → α3 → α4 → α5 → α6 → α7 → α8 → α9 → α10 → α11 → α12 → α13 → α14 → α15 → α16 → α17 → α18 → α19 → α20 → Option β) : Option β := match o with
  | none => none
  | some (a1, a2, a3, a4, a5, a6, a7, a8, a9, a10, a11, a12, a13, a14, a15, a16, a17, a18, a19, a20) => k a1 a2 a3 a4 a5 a6 a7 a8 a9 a10 a11 a12 a13 a14 a15 a16 a17 a18 a19 a20
theorem bd20_el {α1 α2 α3 α4 α5 α6 α7 α8 α9 α10 α11 α12 α13 α14 α15 α16 α17 α18 α19 α20 β : Type} {o : Option (α1 × α2 × α3 × α4 × α5 × α6 × α7 × α8 × α9 × α10 × α11 × α12 × α13 × α14 × α15 × α16 × α17 × α18 × α19 × α20)} {k : α1 → α2 → α3 → α4 → α5 → α6 → α7 → α8 → α9 → α10 → α11 → α12 → α13 → α14 → α15 → α16 → α17 → α18 → α19 → α20 → Option β} {r : β} (h : bd20 o k = some r) : ∃ a1 a2 a3 a4 a5 a6 a7 a8 a9 a10 a11 a12 a13 a14 a15 a16 a17 a18 a19 a20, o = some (a1, a2, a3, a4, a5, a6, a7, a8, a9, a10, a11, a12, a13, a14, a15, a16, a17, a18, a19, a20) ∧ k a1 a2 a3 a4 a5 a6 a7 a8 a9 a10 a11 a12 a13 a14 a15 a16 a17 a18 a19 a20 = some r := by
  match o, h with
  | some (a1, a2, a3, a4, a5, a6, a7, a8, a9, a10, a11, a12, a13, a14, a15, a16, a17, a18, a19, a20), h => exact ⟨a1, a2, a3, a4, a5, a6, a7, a8, a9, a10, a11, a12, a13, a14, a15, a16, a17, a18, a19, a20, rfl, h⟩
def bd21 {α1 α2 α3 α4 α5 α6 α7 α8 α9 α10 α11 α12 α13 α14 α15 α16 α17 α18 α19 α20 α21 β : Type} (o : Option (α1 × α2 × α3 × α4 × α5 × α6 × α7 × α8 × α9 × α10 × α11 × α12 × α13 × α14 × α15 × α16 × α17 × α18 × α19 × α20 × α21)) (k : α1 → α2 → α3 → α4 → α5 → α6 → α7 → α8 → α9 → α10 → α11 → α12 → α13 → α14 → α15 → α16 → α17 → α18 → α19 → α20 → α21 → Option β) : Option β := match o with
  | none => none
  | some (a1, a2, a3, a4, a5, a6, a7, a8, a9, a10, a11, a12, a13, a14, a15, a16, a17, a18, a19, a20, a21) => k a1 a2 a3 a4 a5 a6 a7 a8 a9 a10 a11 a12 a13 a14 a15 a16 a17 a18 a19 a20 a21
theorem bd21_el {α1 α2 α3 α4 α5 α6 α7 α8 α9 α10 α11 α12 α13 α14 α15 α16 α17 α18 α19 α20 α21 β : Type} {o : Option (α1 × α2 × α3 × α4 × α5 × α6 × α7 × α8 × α9 × α10 × α11 × α12 × α13 × α14 × α15 × α16 × α17 × α18 × α19 × α20 × α21)} {k : α1 → α2 → α3 → α4 → α5 → α6 → α7 → α8 → α9 → α10 → α11 → α12 → α13 → α14 → α15 → α16 → α17 → α18 → α19 → α20 → α21 → Option β} {r : β} (h : bd21 o k = some r) : ∃ a1 a2 a3 a4 a5 a6 a7 a8 a9 a10 a11 a12 a13 a14 a15 a16 a17 a18 a19 a20 a21, o = some (a1, a2, a3, a4, a5, a6, a7, a8, a9, a10, a11, a12, a13, a14, a15, a16, a17, a18, a19, a20, a21) ∧ k a1 a2 a3 a4 a5 a6 a7 a8 a9 a10 a11 a12 a13 a14 a15 a16 a17 a18 a19 a20 a21 = some r := by
  match o, h with
  | some (a1, a2, a3, a4, a5, a6, a7, a8, a9, a10, a11, a12, a13, a14, a15, a16, a17, a18, a19, a20, a21), h => exact ⟨a1, a2, a3, a4, a5, a6, a7, a8, a9, a10, a11, a12, a13, a14, a15, a16, a17, a18, a19, a20, a21, rfl, h⟩
def bd22 {α1 α2 α3 α4 α5 α6 α7 α8 α9 α10 α11 α12 α13 α14 α15 α16 α17 α18 α19 α20 α21 α22 β : Type} (o : Option (α1 × α2 × α3 × α4 × α5 × α6 × α7 × α8 × α9 × α10 × α11 × α12 × α13 × α14 × α15 × α16 × α17 × α18 × α19 × α20 × α21 × α22)) (k : α1 → α2 → α3 → α4 → α5 → α6 → α7 → α8 → α9 → α10 → α11 → α12 → α13 → α14 → α15 → α16 → α17 → α18 → α19 → α20 → α21 → α22 → Option β) : Option β := match o with
  | none => none
  | some (a1, a2, a3, a4, a5, a6, a7, a8, a9, a10, a11, a12, a13, a14, a15, a16, a17, a18, a19, a20, a21, a22) => k a1 a2 a3 a4 a5 a6 a7 a8 a9 a10 a11 a12 a13 a14 a15 a16 a17 a18 a19 a20 a21 a22
theorem bd22_el {α1 α2 α3 α4 α5 α6 α7 α8 α9 α10 α11 α12 α13 α14 α15 α16 α17 α18 α19 α20 α21 α22 β : Type} {o : Option (α1 × α2 × α3 × α4 × α5 × α6 × α7 × α8 × α9 × α10 × α11 × α12 × α13 × α14 × α15 × α16 × α17 × α18 × α19 × α20 × α21 × α22)} {k : α1 → α2 → α3 → α4 → α5 → α6 → α7 → α8 → α9 → α10 → α11 → α12 → α13 → α14 → α15 → α16 → α17 → α18 → α19 → α20 → α21 → α22 → Option β} {r : β} (h : bd22 o k = some r) : ∃ a1 a2 a3 a4 a5 a6 a7 a8 a9 a10 a11 a12 a13 a14 a15 a16 a17 a18 a19 a20 a21 a22, o = some (a1, a2, a3, a4, a5, a6, a7, a8, a9, a10, a11, a12, a13, a14, a15, a16, a17, a18, a19, a20, a21, a22) ∧ k a1 a2 a3 a4 a5 a6 a7 a8 a9 a10 a11 a12 a13 a14 a15 a16 a17 a18 a19 a20 a21 a22 = some r := by
  match o, h with
  | some (a1, a2, a3, a4, a5, a6, a7, a8, a9, a10, a11, a12, a13, a14, a15, a16, a17, a18, a19, a20, a21, a22), h => exact ⟨a1, a2, a3, a4, a5, a6, a7, a8, a9, a10, a11, a12, a13, a14, a15, a16, a17, a18, a19, a20, a21, a22, rfl, h⟩
def bd23 {α1 α2 α3 α4 α5 α6 α7 α8 α9 α10 α11 α12 α13 α14 α15 α16 α17 α18 α19 α20 α21 α22 α23 β : Type} (o : Option (α1 × α2 × α3 × α4 × α5 × α6 × α7 × α8 × α9 × α10 × α11 × α12 × α13 × α14 × α15 × α16 × α17 × α18 × α19 × α20 × α21 × α22 × α23)) (k : α1 → α2 → α3 → α4 → α5 → α6 → α7 → α8 → α9 → α10 → α11 → α12 → α13 → α14 → α15 → α16 → α17 → α18 → α19 → α20 → α21 → α22 → α23 → Option β) : Option β := match o with
  | none => none
  | some (a1, a2, a3, a4, a5, a6, a7, a8, a9, a10, a11, a12, a13, a14, a15, a16, a17, a18, a19, a20, a21, a22, a23) => k a1 a2 a3 a4 a5 a6 a7 a8 a9 a10 a11 a12 a13 a14 a15 a16 a17 a18 a19 a20 a21 a22 a23
theorem bd23_el {α1 α2 α3 α4 α5 α6 α7 α8 α9 α10 α11 α12 α13 α14 α15 α16 α17 α18 α19 α20 α21 α22 α23 β : Type} {o : Option (α1 × α2 × α3 × α4 × α5 × α6 × α7 × α8 × α9 × α10 × α11 × α12 × α13 × α14 × α15 × α16 × α17 × α18 × α19 × α20 × α21 × α22 × α23)} {k : α1 → α2 → α3 → α4 → α5 → α6 → α7 → α8 → α9 → α10 → α11 → α12 → α13 → α14 → α15 → α16 → α17 → α18 → α19 → α20 → α21 → α22 → α23 → Option β} {r : β} (h : bd23 o k = some r) : ∃ a1 a2 a3 a4 a5 a6 a7 a8 a9 a10 a11 a12 a13 a14 a15 a16 a17 a18 a19 a20 a21 a22 a23, o = some (a1, a2, a3, a4, a5, a6, a7, a8, a9, a10, a11, a12, a13, a14, a15, a16, a17, a18, a19, a20, a21, a22, a23) ∧ k a1 a2 a3 a4 a5 a6 a7 a8 a9 a10 a11 a12 a13 a14 a15 a16 a17 a18 a19 a20 a21 a22 a23 = some r := by
  match o, h with
  | some (a1, a2, a3, a4, a5, a6, a7, a8, a9, a10, a11, a12, a13, a14, a15, a16, a17, a18, a19, a20, a21, a22, a23), h => exact ⟨a1, a2, a3, a4, a5, a6, a7, a8, a9, a10, a11, a12, a13, a14, a15, a16, a17, a18, a19, a20, a21, a22, a23, rfl, h⟩
def bd24 {α1 α2 α3 α4 α5 α6 α7 α8 α9 α10 α11 α12 α13 α14 α15 α16 α17 α18 α19 α20 α21 α22 α23 α24 β : Type} (o : Option (α1 × α2 × α3 × α4 × α5 × α6 × α7 × α8 × α9 × α10 × α11 × α12 × α13 × α14 × α15 × α16 × α17 × α18 × α19 × α20 × α21 × α22 × α23 × α24)) (k : α1 → α2 → α3 → α4 → α5 → α6 → α7 → α8 → α9 → α10 → α11 → α12 → α13 → α14 → α15 → α16 → α17 → α18 → α19 → α20 → α21 → α22 → α23 → α24 → Option β) : Option β := match o with
  | none => none
  | some (a1, a2, a3, a4, a5, a6, a7, a8, a9, a10, a11, a12, a13, a14, a15, a16, a17, a18, a19, a20, a21, a22, a23, a24) => k a1 a2 a3 a4 a5 a6 a7 a8 a9 a10 a11 a12 a13 a14 a15 a16 a17 a18 a19 a20 a21 a22 a23 a24
theorem bd24_el {α1 α2 α3 α4 α5 α6 α7 α8 α9 α10 α11 α12 α13 α14 α15 α16 α17 α18 α19 α20 α21 α22 α23 α24 β : Type} {o : Option (α1 × α2 × α3 × α4 × α5 × α6 × α7 × α8 × α9 × α10 × α11 × α12 × α13 × α14 × α15 × α16 × α17 × α18 × α19 × α20 × α21 × α22 × α23 × α24)} {k : α1 → α2 → α3 → α4 → α5 → α6 → α7 → α8 → α9 → α10 → α11 → α12 → α13 → α14 → α15 → α16 → α17 → α18 → α19 → α20 → α21 → α22 → α23 → α24 → Option β} {r : β} (h : bd24 o k = some r) : ∃ a1 a2 a3 a4 a5 a6 a7 a8 a9 a10 a11 a12 a13 a14 a15 a16 a17 a18 a19 a20 a21 a22 a23 a24, o = some (a1, a2, a3, a4, a5, a6, a7, a8, a9, a10, a11, a12, a13, a14, a15, a16, a17, a18, a19, a20, a21, a22, a23, a24) ∧ k a1 a2 a3 a4 a5 a6 a7 a8 a9 a10 a11 a12 a13 a14 a15 a16 a17 a18 a19 a20 a21 a22 a23 a24 = some r := by
  match o, h with
  | some (a1, a2, a3, a4, a5, a6, a7, a8, a9, a10, a11, a12, a13, a14, a15, a16, a17, a18, a19, a20, a21, a22, a23, a24), h => exact ⟨a1, a2, a3, a4, a5, a6, a7, a8, a9, a10, a11, a12, a13, a14, a15, a16, a17, a18, a19, a20, a21, a22, a23, a24, rfl, h⟩
/-! ===== a method's contract: from the cells W0 to the cells W1, with the answer rv; no cell is made ===== -/
def tabA : Nat → Value := fun j => match j with
  | 0 => .int 20 | 1 => .int 2 | 2 => .int 4 | 3 => .int 8 | 4 => .int 2 | 5 => .int 0 | _ => .int 1
def tabL : Nat → Value := fun j => match j with
  | 0 => .int 6 | 1 => .int 0 | 2 => .int 0 | 3 => .int 2 | 4 => .int 1 | 5 => .int 0 | _ => .int 0
def tabM : Nat → Value := fun j => match j with
  | 0 => .int 40 | 1 => .int 4 | 2 => .int 9 | 3 => .int 20 | 4 => .int 3 | 5 => .int 2 | _ => .int 2
def SZt (n : String) (f : Nat → Value) (A : Nat → Prop) (U : State) : Prop := ∃ t : Nat, va_Z "VerseSetter" n "[I" (.ref t) A U U.heap ∧ va_T .int t 7 f A U U.heap
/-- the static rows, and the links among nest mates -/
def SFx (A : Nat → Prop) (U : State) : Prop :=
  SZt "AT_FIRST" tabA A U ∧ SZt "LEAST" tabL A U ∧ SZt "MOST" tabM A U ∧
  va_Nw (.fieldLinkNest RX4 15 "VerseSetter" "AT_FIRST" "[I" "VerseSetter") U ∧ va_Nw (.fieldLinkNest RX4 46 "VerseSetter" "LEAST" "[I" "VerseSetter") U ∧ va_Nw (.fieldLinkNest RX4 49 "VerseSetter" "MOST" "[I" "VerseSetter") U ∧
  va_Nw (.methodLinkNest RX7 38 yX6_init "VerseSetter") U ∧ va_Nw (.methodLinkNest RX7 45 yX1_init "VerseSetter") U ∧ va_Nw (.methodLinkNest RX7 52 yX3_init "VerseSetter") U ∧ va_Nw (.methodLinkNest RX7 59 yX2_init "VerseSetter") U ∧ va_Nw (.methodLinkNest RX7 70 yX5_init "VerseSetter") U ∧ va_AO "VerseSetter$Poem" U ∧ va_AO "VerseSetter$Sheet" U
theorem SZt.to {n : String} {f : Nat → Value} {A B : Nat → Prop} {s U : State} {H : Heap} {locs : List Loc} (h : SZt n f A s) (hS : va_S A s.heap H locs) (hAB : ∀ q, B q → A q) (hU : U.heap = H) (hvm : s.vm.Alike U.vm) : SZt n f B U := by
  obtain ⟨t, h1, h2⟩ := h
  refine ⟨t, ?_, ?_⟩
  · rw [hU]; exact ((h1.kept (fun a h1 h2 => hS.2.1 a h1 h2)).moved hvm).narrow hAB
  · rw [hU]; exact ((h2.kept (fun a h1 h2 => hS.2.1 a h1 h2)).moved hvm).narrow hAB
theorem SFx.to {A B : Nat → Prop} {s U : State} {H : Heap} {locs : List Loc} (h : SFx A s) (hS : va_S A s.heap H locs) (hAB : ∀ q, B q → A q) (hU : U.heap = H) (hW : s.WarmedH U.vm) : SFx B U := by
  obtain ⟨h1, h2, h3, h4, h5, h6, h7, h8, h9, h10, h11, h12, h13⟩ := h
  exact ⟨h1.to hS hAB hU hW.alike, h2.to hS hAB hU hW.alike, h3.to hS hAB hU hW.alike, h4.warmF hW, h5.warmF hW, h6.warmF hW, h7.warmM hW, h8.warmM hW, h9.warmM hW, h10.warmM hW, h11.warmM hW, h12.moved hW.alike, h13.moved hW.alike⟩
theorem SZt.call {n : String} {f : Nat → Value} {A : Nat → Prop} {U : State} {g : JFrame} {mk : MethodId} {a : Array Value} (h : SZt n f A U) : SZt n f A (U.calling g mk a) := by
  obtain ⟨t, h1, h2⟩ := h
  exact ⟨t, va_Z.moved (u := U) (U := U.calling g mk a) (Vm.Alike.refl U.vm) h1, va_T.moved (u := U) (U := U.calling g mk a) (Vm.Alike.refl U.vm) h2⟩
theorem SFx.call {A : Nat → Prop} {U : State} {g : JFrame} {mk : MethodId} {a : Array Value} (h : SFx A U) : SFx A (U.calling g mk a) := by
  obtain ⟨h1, h2, h3, h4, h5, h6, h7, h8, h9, h10, h11, h12, h13⟩ := h
  exact ⟨h1.call, h2.call, h3.call, h4.same rfl rfl, h5.same rfl rfl, h6.same rfl rfl, h7.same rfl rfl, h8.same rfl rfl, h9.same rfl rfl, h10.same rfl rfl, h11.same rfl rfl, va_AO.moved (u := U) (U := U.calling g mk a) (Vm.Alike.refl U.vm) h12, va_AO.moved (u := U) (U := U.calling g mk a) (Vm.Alike.refl U.vm) h13⟩
abbrev tyl (cI cJ cP cS : ClassId) : List (ClassId × FieldType) := [(cI, .int), (cJ, .long), (cP, .object "VerseSetter$Poem"), (cS, .object "VerseSetter$Sheet")]
def MPre (D : va_G) (tys : List (ClassId × FieldType)) (W0 : va_W) (sz : Nat) (U : State) : Prop := U.heap.size = sz ∧ va_P D vwCl W0 U.heap ∧ va_K D vwCl tys U ∧ va_D (fun _ => True) W0 ∧ SFx (va_A W0 sz) U
def MPost (D : va_G) (W0 W1 : va_W) (sz : Nat) (rv : Option Value) : Array Value → State → Outcome → State → Prop := fun _ st oc t => (oc = .returned rv ∧ va_P D vwCl W1 t.heap ∧ va_D (va_A W0 sz) W1) ∧ va_F (va_A W0 sz) st t
def MC (l : Launch) (D : va_G) (tys : List (ClassId × FieldType)) (y : MethodName) (ws : List Cond) (rm : Room) (av : List Value) (W0 W1 : va_W) (rv : Option Value) : Prop :=
  ∀ sz : Nat, Met l y ws rm (va_Pc av (MPre D tys W0 sz)) (MPost D W0 W1 sz rv) 0 0 (va_A W0 sz)
theorem MPre.blind {D : va_G} {tys : List (ClassId × FieldType)} {W0 : va_W} {sz : Nat} {av : List Value} : FrameBlind (va_Pc av (MPre D tys W0 sz)) := by
  intro a U g mk q
  obtain ⟨q0, q1, qP, qK, qD, qF⟩ := q
  exact ⟨q0, q1, qP, va_K.moved (u := U) (U := U.calling g mk a) (Vm.Alike.refl U.vm) qK, qD, qF.call⟩
theorem fm_of_map {α β : Type} {f : α → Option β} : ∀ {is : List α} {l : List β}, is.map f = l.map some → is.filterMap f = l
  | [], [], _ => rfl
  | [], _ :: _, h => by simp at h
  | _ :: _, [], h => by simp at h
  | i :: is, b :: l, h => by
    simp only [List.map_cons, List.cons.injEq] at h
    rw [List.filterMap_cons, h.1]
    exact congrArg (b :: ·) (fm_of_map h.2)
section MCS
variable {p : Program} {l : Launch} {e : Env} {R : Room} {s : State} {m : MethodId} {args : Array Value} {below : List Frame} {meth : Method} {c : Code} {H : Heap} {locs : List Loc} {cells slots : Nat} {Q : State → Prop}
variable {pc : Nat} {ls : Array Slot} {rest st0 : List Value} {A : Nat → Prop} {D : va_G} {tys : List (ClassId × FieldType)}
theorem lv_as {v w : Value} (h : v = w) (k : W p l e R s m args below meth c H locs cells slots Q (F0 m pc ls (v :: rest))) : W p l e R s m args below meth c H locs cells slots Q (F0 m pc ls (w :: rest)) := h ▸ k
theorem mc_go {a : Array Value} {ws0 Wc Wc' wr wn : va_W} {rv : Option Value} (hr : va_Run p l e R s m args below meth c H locs cells slots 0 0 (F0 m pc ls st0) rest (MPost D Wc Wc' H.size rv a) (va_A Wc H.size))
    (hP : va_P D vwCl ws0 H) (hD : va_D A ws0) (hS : va_S A s.heap H locs) (hA : ∀ q, s.heap.size ≤ q → A q) (isC isR pm : List Nat) (hC : isC.map (fun i => ws0[i]?) = Wc.map some) (hR : isR.map (fun i => ws0[i]?) = wr.map some) (hn : va_nd isR = true) (hdis : ∀ i ∈ isR, i ∉ isC) (hpm : pm.map (fun i => (wr ++ Wc')[i]?) = wn.map some) (hnp : va_nd pm = true)
    (kk : ∀ (H1 : Heap) (locs1 : List Loc), va_P D vwCl wn H1 → va_D A wn → va_S A s.heap H1 locs1 → W p l e R s m args below meth c H1 locs1 cells slots Q (F0 m (pc + 3) ls (rv.toList ++ rest))) : W p l e R s m args below meth c H locs cells slots Q (F0 m pc ls st0) := by
  have hFc := va_free (wc := Wc) hD hS hA isC hC
  intro T hT X
  obtain ⟨v, st₀, t, T', L, h0, X', hL, e1, e2, ⟨⟨hv, hP1, hD1⟩, hz, hk⟩, st⟩ := hr T hT X
  cases hv
  rw [h0] at hz hk
  rw [← e1] at hP1 hz hk
  obtain ⟨hP2, hD2⟩ := va_join hP hD isC isR hC hR hn hdis hk hFc hP1 hD1
  obtain ⟨t2, a1, b1⟩ := kk T'.heap (locs ++ L) (hP2.sub pm (fm_of_map hpm)) (hD2.sub pm hnp hpm)
    ⟨Nat.le_trans hS.1 hz, fun q h1 h2 => by rw [hk q (Nat.lt_of_lt_of_le h1 hS.1) (fun z => h2 (hFc q z))]; exact hS.2.1 q h1 h2, fun q hq => by
      rcases List.mem_append.mp hq with h | h
      · exact hS.2.2 q h
      · exact hFc _ (hL q h)⟩ T' rfl X'
  exact ⟨t2, st t2 a1, b1⟩
theorem mc_pre {Wc ws0 : va_W} {U : State} (hK : va_K D vwCl tys s) (hF : SFx A s) (hP : va_P D vwCl ws0 H) (hD : va_D A ws0) (hS : va_S A s.heap H locs) (hA : ∀ q, s.heap.size ≤ q → A q) (isC : List Nat) (hC : isC.map (fun i => ws0[i]?) = Wc.map some) (hnC : va_nd isC = true) (hU : U.heap = H) (hW : s.WarmedH U.vm) : MPre D tys Wc H.size U := by
  have hFc := va_free (wc := Wc) hD hS hA isC hC
  exact ⟨by rw [hU], by rw [hU]; exact hP.sub isC (fm_of_map hC), va_K.moved hW.alike hK, (hD.sub isC hnC hC).weaken (fun _ _ _ _ => trivial), hF.to hS hFc hU hW⟩
theorem mc_V {cc bytes : ByteArray} {nL maxL n index ci : Nat} {Ts ws : List Cond} {own C : String} {y : MethodName} {rm : Room} {ret : Option FieldType} {b : Addr} {As : List Value} {rv : Option Value} {ws0 Wc Wc' wr wn : va_W} {fs : List Value} {q : vw_C}
    (S : CallFix p m c cc nL s args Ts own) (hM : MC l D tys y ws rm (.ref b :: As) Wc Wc' rv) (cw : CallW R s args own C index y bytes maxL ret ws rm 0 0 n) (hK : va_K D vwCl tys s) (hF : SFx A s) (hP : va_P D vwCl ws0 H) (hD : va_D A ws0) (hS : va_S A s.heap H locs) (hA : ∀ q, s.heap.size ≤ q → A q)
    (qr : Nat) (hq : ws0[qr]? = some (b, .inr (ci, fs))) (hcl : vwCl[ci]? = some q) (hqC : q.1 = C) (isC isR pm : List Nat) (hC : isC.map (fun i => ws0[i]?) = Wc.map some) (hnC : va_nd isC = true) (hR : isR.map (fun i => ws0[i]?) = wr.map some) (hn : va_nd isR = true) (hdis : ∀ i ∈ isR, i ∉ isC) (hpm : pm.map (fun i => (wr ++ Wc')[i]?) = wn.map some) (hnp : va_nd pm = true)
    (hlen : As.length = n) (hsize : ls.size = nL) (hst : st0 = As.reverse ++ .ref b :: rest) (hrest : (rest.map fun v => v.category).sum ≤ 8) (hdg : decode cc pc = .ok (.invokevirtual index, 3)) (hf : cells ≤ R.cells ∧ slots ≤ R.slots)
    (kk : ∀ (H1 : Heap) (locs1 : List Loc), va_P D vwCl wn H1 → va_D A wn → va_S A s.heap H1 locs1 → W p l e R s m args below meth c H1 locs1 cells slots Q (F0 m (pc + 3) ls (rv.toList ++ rest))) : W p l e R s m args below meth c H locs cells slots Q (F0 m pc ls st0) := by
  refine mc_go (a := (Value.ref b :: As).toArray) (rest := rest) ?_ hP hD hS hA isC isR pm hC hR hn hdis hpm hnp kk
  exact va_runV S (hM H.size) cw ⟨MPre.blind, by rw [← hqC]; exact va_recv hK hP hcl hq, fun U hU hW => ⟨rfl, mc_pre hK hF hP hD hS hA isC hC hnC hU hW⟩⟩ rfl hlen hsize hst (lv_room hrest) hdg hf
theorem mc_S {cc bytes : ByteArray} {nL maxL n index : Nat} {Ts ws : List Cond} {own : String} {y : MethodName} {rm : Room} {ret : Option FieldType} {As : List Value} {rv : Option Value} {ws0 Wc Wc' wr wn : va_W}
    (S : CallFix p m c cc nL s args Ts own) (hM : MC l D tys y ws rm As Wc Wc' rv) (cw : CallB R s args own index y bytes maxL ret ws rm 0 0 n ∧ (Cond.static y).before args s = true) (hK : va_K D vwCl tys s) (hF : SFx A s) (hP : va_P D vwCl ws0 H) (hD : va_D A ws0) (hS : va_S A s.heap H locs) (hA : ∀ q, s.heap.size ≤ q → A q)
    (isC isR pm : List Nat) (hC : isC.map (fun i => ws0[i]?) = Wc.map some) (hnC : va_nd isC = true) (hR : isR.map (fun i => ws0[i]?) = wr.map some) (hn : va_nd isR = true) (hdis : ∀ i ∈ isR, i ∉ isC) (hpm : pm.map (fun i => (wr ++ Wc')[i]?) = wn.map some) (hnp : va_nd pm = true)
    (hlen : As.length = n) (hsize : ls.size = nL) (hst : st0 = As.reverse ++ rest) (hrest : (rest.map fun v => v.category).sum ≤ 8) (hdg : decode cc pc = .ok (.invokestatic index, 3)) (hf : cells ≤ R.cells ∧ slots ≤ R.slots)
    (kk : ∀ (H1 : Heap) (locs1 : List Loc), va_P D vwCl wn H1 → va_D A wn → va_S A s.heap H1 locs1 → W p l e R s m args below meth c H1 locs1 cells slots Q (F0 m (pc + 3) ls (rv.toList ++ rest))) : W p l e R s m args below meth c H locs cells slots Q (F0 m pc ls st0) := by
  refine mc_go (a := As.toArray) (rest := rest) ?_ hP hD hS hA isC isR pm hC hR hn hdis hpm hnp kk
  exact va_runS S (hM H.size) cw ⟨MPre.blind, fun U hU hW => ⟨rfl, mc_pre hK hF hP hD hS hA isC hC hnC hU hW⟩⟩ rfl hlen hsize hst (lv_room hrest) hdg hf
/-- a constructor's contract: the cells W0 become the cells W1 q, for some new addresses q -/
def MI (l : Launch) (D : va_G) (tys : List (ClassId × FieldType)) (y : MethodName) (ws : List Cond) (rm : Room) (av : List Value) (W0 : va_W) (W1 : (Nat → Nat) → va_W) (mc ms : Nat) : Prop :=
  ∀ sz : Nat, Met l y ws rm (va_Pc av (MPre D tys W0 sz)) (fun _ st oc t => (oc = .returned none ∧ ∃ q : Nat → Nat, va_P D vwCl (W1 q) t.heap ∧ va_D (va_A W0 sz) (W1 q)) ∧ va_F (va_A W0 sz) st t) mc ms (va_A W0 sz)
theorem mi_go {a : Array Value} {ws0 Wc wr : va_W} {W1 : (Nat → Nat) → va_W} {mc ms : Nat} (hr : va_Run p l e R s m args below meth c H locs cells slots mc ms (F0 m pc ls st0) rest ((fun _ st oc t => (oc = .returned none ∧ ∃ q : Nat → Nat, va_P D vwCl (W1 q) t.heap ∧ va_D (va_A Wc H.size) (W1 q)) ∧ va_F (va_A Wc H.size) st t : Array Value → State → Outcome → State → Prop) a) (va_A Wc H.size))
    (hP : va_P D vwCl ws0 H) (hD : va_D A ws0) (hS : va_S A s.heap H locs) (hA : ∀ q, s.heap.size ≤ q → A q) (isC isR : List Nat) (hC : isC.map (fun i => ws0[i]?) = Wc.map some) (hR : isR.map (fun i => ws0[i]?) = wr.map some) (hn : va_nd isR = true) (hdis : ∀ i ∈ isR, i ∉ isC)
    (kk : ∀ (q : Nat → Nat) (H1 : Heap) (locs1 : List Loc), va_P D vwCl (wr ++ W1 q) H1 → va_D A (wr ++ W1 q) → va_S A s.heap H1 locs1 → W p l e R s m args below meth c H1 locs1 (cells + mc) (slots + ms) Q (F0 m (pc + 3) ls rest)) : W p l e R s m args below meth c H locs cells slots Q (F0 m pc ls st0) := by
  have hFc := va_free (wc := Wc) hD hS hA isC hC
  intro T hT X
  obtain ⟨v, st₀, t, T', L, h0, X', hL, e1, e2, ⟨⟨hv, q, hP1, hD1⟩, hz, hk⟩, st⟩ := hr T hT X
  cases hv
  rw [h0] at hz hk
  rw [← e1] at hP1 hz hk
  obtain ⟨hP2, hD2⟩ := va_join hP hD isC isR hC hR hn hdis hk hFc hP1 hD1
  obtain ⟨t2, a1, b1⟩ := kk q T'.heap (locs ++ L) hP2 hD2
    ⟨Nat.le_trans hS.1 hz, fun q h1 h2 => by rw [hk q (Nat.lt_of_lt_of_le h1 hS.1) (fun z => h2 (hFc q z))]; exact hS.2.1 q h1 h2, fun q hq => by
      rcases List.mem_append.mp hq with h | h
      · exact hS.2.2 q h
      · exact hFc _ (hL q h)⟩ T' rfl X'
  exact ⟨t2, st t2 a1, b1⟩
theorem mi_I {cc bytes : ByteArray} {nL maxL n index : Nat} {Ts ws : List Cond} {own : String} {y : MethodName} {rm : Room} {b : Addr} {As : List Value} {ws0 Wc wr : va_W} {W1 : (Nat → Nat) → va_W} {mc ms : Nat}
    (S : CallFix p m c cc nL s args Ts own) (hM : MI l D tys y ws rm (.ref b :: As) Wc W1 mc ms) (cw : CallB R s args own index y bytes maxL none ws rm mc ms n ∧ y.name = "<init>" ∧ (Cond.instanceMethod y).before args s = true) (hK : va_K D vwCl tys s) (hF : SFx A s) (hP : va_P D vwCl ws0 H) (hD : va_D A ws0) (hS : va_S A s.heap H locs) (hA : ∀ q, s.heap.size ≤ q → A q)
    (isC isR : List Nat) (hC : isC.map (fun i => ws0[i]?) = Wc.map some) (hnC : va_nd isC = true) (hR : isR.map (fun i => ws0[i]?) = wr.map some) (hn : va_nd isR = true) (hdis : ∀ i ∈ isR, i ∉ isC)
    (hlen : As.length = n) (hsize : ls.size = nL) (hst : st0 = As.reverse ++ .ref b :: rest) (hrest : (rest.map fun v => v.category).sum ≤ 8) (hdg : decode cc pc = .ok (.invokespecial index, 3)) (hf : cells + mc ≤ R.cells ∧ slots + ms ≤ R.slots)
    (kk : ∀ (q : Nat → Nat) (H1 : Heap) (locs1 : List Loc), va_P D vwCl (wr ++ W1 q) H1 → va_D A (wr ++ W1 q) → va_S A s.heap H1 locs1 → W p l e R s m args below meth c H1 locs1 (cells + mc) (slots + ms) Q (F0 m (pc + 3) ls rest)) : W p l e R s m args below meth c H locs cells slots Q (F0 m pc ls st0) := by
  refine mi_go (a := (Value.ref b :: As).toArray) (rest := rest) ?_ hP hD hS hA isC isR hC hR hn hdis kk
  exact va_runI S (hM H.size) cw ⟨MPre.blind, fun U hU hW => ⟨rfl, mc_pre hK hF hP hD hS hA isC hC hnC hU hW⟩⟩ rfl hlen hsize hst (lv_room hrest) hdg hf
theorem mi_IN {cc bytes : ByteArray} {nL maxL n index : Nat} {Ts ws : List Cond} {own host : String} {y : MethodName} {rm : Room} {b : Addr} {As : List Value} {ws0 Wc wr : va_W} {W1 : (Nat → Nat) → va_W} {mc ms : Nat}
    (S : CallFix p m c cc nL s args Ts own) (hM : MI l D tys y ws rm (.ref b :: As) Wc W1 mc ms) (cw : va_CN R s args own index y host bytes maxL none ws rm mc ms n ∧ y.name = "<init>" ∧ (Cond.instanceMethod y).before args s = true) (hK : va_K D vwCl tys s) (hF : SFx A s) (hP : va_P D vwCl ws0 H) (hD : va_D A ws0) (hS : va_S A s.heap H locs) (hA : ∀ q, s.heap.size ≤ q → A q)
    (isC isR : List Nat) (hC : isC.map (fun i => ws0[i]?) = Wc.map some) (hnC : va_nd isC = true) (hR : isR.map (fun i => ws0[i]?) = wr.map some) (hn : va_nd isR = true) (hdis : ∀ i ∈ isR, i ∉ isC)
    (hlen : As.length = n) (hsize : ls.size = nL) (hst : st0 = As.reverse ++ .ref b :: rest) (hrest : (rest.map fun v => v.category).sum ≤ 8) (hdg : decode cc pc = .ok (.invokespecial index, 3)) (hf : cells + mc ≤ R.cells ∧ slots + ms ≤ R.slots)
    (kk : ∀ (q : Nat → Nat) (H1 : Heap) (locs1 : List Loc), va_P D vwCl (wr ++ W1 q) H1 → va_D A (wr ++ W1 q) → va_S A s.heap H1 locs1 → W p l e R s m args below meth c H1 locs1 (cells + mc) (slots + ms) Q (F0 m (pc + 3) ls rest)) : W p l e R s m args below meth c H locs cells slots Q (F0 m pc ls st0) := by
  refine mi_go (a := (Value.ref b :: As).toArray) (rest := rest) ?_ hP hD hS hA isC isR hC hR hn hdis kk
  exact va_runIN S (hM H.size) cw ⟨MPre.blind, fun U hU hW => ⟨rfl, mc_pre hK hF hP hD hS hA isC hC hnC hU hW⟩⟩ rfl hlen hsize hst (lv_room hrest) hdg hf
end MCS
/-- the class of an array of a kind is one -/
theorem kx_i {D : va_G} {cl : List vw_C} {cI cJ cP cS cA : ClassId} {s : State} (hK : va_K D cl (tyl cI cJ cP cS ++ [(cA, .int)]) s) : cI = cA := by
  have h0 := (hK.2 0 _ rfl).2
  have h4 := (hK.2 4 _ rfl).2
  exact Option.some.inj (h0.symm.trans h4)
theorem kx_l {D : va_G} {cl : List vw_C} {cI cJ cP cS cA : ClassId} {s : State} (hK : va_K D cl (tyl cI cJ cP cS ++ [(cA, .long)]) s) : cJ = cA := by
  have h0 := (hK.2 1 _ rfl).2
  have h4 := (hK.2 4 _ rfl).2
  exact Option.some.inj (h0.symm.trans h4)
theorem kx_p {D : va_G} {cl : List vw_C} {cI cJ cP cS cA : ClassId} {s : State} (hK : va_K D cl (tyl cI cJ cP cS ++ [(cA, .object "VerseSetter$Poem")]) s) : cP = cA := by
  obtain ⟨-, -, -, -, -, h0⟩ := (hK.2 2 _ rfl).2
  obtain ⟨-, -, -, -, -, h4⟩ := (hK.2 4 _ rfl).2
  exact Option.some.inj (h0.symm.trans h4)
theorem kx_s {D : va_G} {cl : List vw_C} {cI cJ cP cS cA : ClassId} {s : State} (hK : va_K D cl (tyl cI cJ cP cS ++ [(cA, .object "VerseSetter$Sheet")]) s) : cS = cA := by
  obtain ⟨-, -, -, -, -, h0⟩ := (hK.2 3 _ rfl).2
  obtain ⟨-, -, -, -, -, h4⟩ := (hK.2 4 _ rfl).2
  exact Option.some.inj (h0.symm.trans h4)
abbrev tn (i : Int32) : Nat := i.toNatClampNeg
abbrev irem (x y : Int32) : Int32 := x - x / y * y
abbrev lrem (x y : Int64) : Int64 := x - x / y * y
abbrev iushr (x y : Int32) : Int32 := (x.toUInt32 >>> (y.toUInt32 &&& Int32.toUInt32 31)).toInt32
abbrev lshl (x : Int64) (y : Int32) : Int64 := x <<< (y.toInt64 &&& 63)
abbrev i2b (x : Int32) : Int32 := x.toInt8.toInt32
abbrev i2s (x : Int32) : Int32 := x.toInt16.toInt32
def tabAI : Nat → Int32 := fun j => match j with
  | 0 => 20 | 1 => 2 | 2 => 4 | 3 => 8 | 4 => 2 | 5 => 0 | _ => 1
def tabLI : Nat → Int32 := fun j => match j with
  | 0 => 6 | 1 => 0 | 2 => 0 | 3 => 2 | 4 => 1 | 5 => 0 | _ => 0
def tabMI : Nat → Int32 := fun j => match j with
  | 0 => 40 | 1 => 4 | 2 => 9 | 3 => 20 | 4 => 3 | 5 => 2 | _ => 2
theorem tabAI_eq (j : Nat) : tabA j = .int (tabAI j) := by unfold tabA tabAI; split <;> rfl
theorem tabLI_eq (j : Nat) : tabL j = .int (tabLI j) := by unfold tabL tabLI; split <;> rfl
theorem tabMI_eq (j : Nat) : tabM j = .int (tabMI j) := by unfold tabM tabMI; split <;> rfl
def cpok (sp dp n : Int32) (n0 n1 : Nat) : Bool := decide (¬ sp < 0 ∧ ¬ dp < 0 ∧ ¬ n < 0 ∧ tn sp + tn n ≤ n0 ∧ tn dp + tn n ≤ n1)
theorem cpok_el {sp dp n : Int32} {n0 n1 : Nat} (h : cpok sp dp n n0 n1 = true) : ¬ sp < 0 ∧ ¬ dp < 0 ∧ ¬ n < 0 ∧ tn sp + tn n ≤ n0 ∧ tn dp + tn n ≤ n1 := of_decide_eq_true h
theorem in4 {t : Int32} (h : vp_in t 4) : tn t = 0 ∨ tn t = 1 ∨ tn t = 2 ∨ tn t = 3 := by
  have h1 : ¬ 4 ≤ tn t := fun q => h (Or.inr q)
  omega
theorem in6 {t : Int32} (h : vp_in t 6) : tn t = 0 ∨ tn t = 1 ∨ tn t = 2 ∨ tn t = 3 ∨ tn t = 4 ∨ tn t = 5 := by
  have h1 : ¬ 6 ≤ tn t := fun q => h (Or.inr q)
  omega
theorem ne_ti {x k : Int32} {n : Int} (hk : k.toInt = n) (h : ¬ x = k) : ¬ x.toInt = n := fun z => h (Int32.toInt_inj.mp (z.trans hk.symm))
section MCA
variable {p : Program} {l : Launch} {e : Env} {R : Room} {s : State} {m : MethodId} {args : Array Value} {below : List Frame} {meth : Method} {c : Code} {H H0 : Heap} {locs : List Loc} {cells slots : Nat} {Q : State → Prop}
variable {pc a : Nat} {ls : Array Slot} {rest : List Value} {A : Nat → Prop} {D : va_G} {tys : List (ClassId × FieldType)} {cl : List vw_C} {ws : va_W} {cc : ByteArray}
theorem ia_ld (hexec : p.tables.exec = Jvm.exec) (hb : c.code = cc) (hK : va_K D cl tys s) (hP : va_P D cl ws H) (q0 t0 : Nat) {cA : ClassId} {n : Nat} {f : Nat → Int32} (ha : ws[q0]? = some (a, .inl (cA, n, .inl f))) (ht : tys[t0]? = some (cA, .int)) {i : Int32} (hin : vp_in i n) {j : Nat} (hj : tn i = j) (hdg : decode cc pc = .ok (.iaload, 1))
    (kk : W p l e R s m args below meth c H locs cells slots Q (F0 m (pc + 1) ls (.int (f j) :: rest))) : W p l e R s m args below meth c H locs cells slots Q (F0 m pc ls (.int i :: .ref a :: rest)) := by
  subst hj; exact va_iald hexec hb hK hP q0 t0 ha ht hin hdg kk
theorem la_ld (hexec : p.tables.exec = Jvm.exec) (hb : c.code = cc) (hK : va_K D cl tys s) (hP : va_P D cl ws H) (q0 t0 : Nat) {cA : ClassId} {n : Nat} {f : Nat → Int64} (ha : ws[q0]? = some (a, .inl (cA, n, .inr (.inl f)))) (ht : tys[t0]? = some (cA, .long)) {i : Int32} (hin : vp_in i n) {j : Nat} (hj : tn i = j) (hdg : decode cc pc = .ok (.laload, 1))
    (kk : W p l e R s m args below meth c H locs cells slots Q (F0 m (pc + 1) ls (.long (f j) :: rest))) : W p l e R s m args below meth c H locs cells slots Q (F0 m pc ls (.int i :: .ref a :: rest)) := by
  subst hj; exact va_lald hexec hb hK hP q0 t0 ha ht hin hdg kk
theorem ia_st (hexec : p.tables.exec = Jvm.exec) (hb : c.code = cc) (hK : va_K D cl tys s) (hP : va_P D cl ws H) (hD : va_D A ws) (hS : va_S A H0 H locs) (q0 t0 : Nat) {cA : ClassId} {n : Nat} {f : Nat → Int32} (ha : ws[q0]? = some (a, .inl (cA, n, .inl f))) (ht : tys[t0]? = some (cA, .int)) {i x : Int32} (hin : vp_in i n) {j : Nat} (hj : tn i = j) (hdg : decode cc pc = .ok (.iastore, 1))
    (kk : ∀ (H1 : Heap) (locs1 : List Loc), va_P D cl (ws.set q0 (a, .inl (cA, n, .inl (upd f j x)))) H1 → va_D A (ws.set q0 (a, .inl (cA, n, .inl (upd f j x)))) → va_S A H0 H1 locs1 → W p l e R s m args below meth c H1 locs1 cells slots Q (F0 m (pc + 1) ls rest)) : W p l e R s m args below meth c H locs cells slots Q (F0 m pc ls (.int x :: .int i :: .ref a :: rest)) := by
  subst hj; exact va_iast hexec hb hK hP hD hS q0 t0 ha ht hin hdg kk
theorem la_st (hexec : p.tables.exec = Jvm.exec) (hb : c.code = cc) (hK : va_K D cl tys s) (hP : va_P D cl ws H) (hD : va_D A ws) (hS : va_S A H0 H locs) (q0 t0 : Nat) {cA : ClassId} {n : Nat} {f : Nat → Int64} (ha : ws[q0]? = some (a, .inl (cA, n, .inr (.inl f)))) (ht : tys[t0]? = some (cA, .long)) {i : Int32} {x : Int64} (hin : vp_in i n) {j : Nat} (hj : tn i = j) (hdg : decode cc pc = .ok (.lastore, 1))
    (kk : ∀ (H1 : Heap) (locs1 : List Loc), va_P D cl (ws.set q0 (a, .inl (cA, n, .inr (.inl (vp_updL f j x))))) H1 → va_D A (ws.set q0 (a, .inl (cA, n, .inr (.inl (vp_updL f j x))))) → va_S A H0 H1 locs1 → W p l e R s m args below meth c H1 locs1 cells slots Q (F0 m (pc + 1) ls rest)) : W p l e R s m args below meth c H locs cells slots Q (F0 m pc ls (.long x :: .int i :: .ref a :: rest)) := by
  subst hj; exact va_last hexec hb hK hP hD hS q0 t0 ha ht hin hdg kk
theorem aa_ld (hexec : p.tables.exec = Jvm.exec) (hb : c.code = cc) (hK : va_K D cl tys s) (hP : va_P D cl ws H) (q0 t0 : Nat) {cA : ClassId} {C : String} {n : Nat} {f : Nat → Nat} (ha : ws[q0]? = some (a, .inl (cA, n, .inr (.inr (.inr (.inr (fun i => some (f i)))))))) (ht : tys[t0]? = some (cA, .object C)) {i : Int32} (hin : vp_in i n) {j : Nat} (hj : tn i = j) (hdg : decode cc pc = .ok (.aaload, 1))
    (kk : W p l e R s m args below meth c H locs cells slots Q (F0 m (pc + 1) ls (.ref (f j) :: rest))) : W p l e R s m args below meth c H locs cells slots Q (F0 m pc ls (.int i :: .ref a :: rest)) := by
  subst hj; exact va_aldq hexec hb hK hP q0 t0 ha ht hin hdg kk
end MCA
theorem lk_2 {a b oa ob d k : Int} (ha : ¬ k = a) (hb : ¬ k = b) : Op.lookupswitch.offset (#[(a, oa), (b, ob)] : Array (Int × Int)).toList d k = d := by
  show (if a = k then oa else if b = k then ob else d) = d
  rw [if_neg (fun z => ha z.symm), if_neg (fun z => hb z.symm)]
theorem lk_3 {a b c oa ob oc d k : Int} (ha : ¬ k = a) (hb : ¬ k = b) (hc : ¬ k = c) : Op.lookupswitch.offset (#[(a, oa), (b, ob), (c, oc)] : Array (Int × Int)).toList d k = d := by
  show (if a = k then oa else if b = k then ob else if c = k then oc else d) = d
  rw [if_neg (fun z => ha z.symm), if_neg (fun z => hb z.symm), if_neg (fun z => hc z.symm)]
