-- the relation of the two pictures
def Rel (pc : Nat → Int32) (hn hs : Int32) (hr : Nat → Nat → Int32) (has : Int32) (ip : Nat → Int32) (inx isz : Int32) (ir : Nat → Nat → Int32) (tl : Int32) (tc : Nat → Int32) (em la le : Nat → Int32) (el : Nat → Nat → Int64) (now : Nat → Int32) (acts : Int32) (past : Nat → Int32) (ka : Int32) (kept kp : Nat → Int32) (typed : Int32) (tape : Nat → Int32) (ml ms : Nat → Int32) (it : Nat → Int64) : Prop :=
  RP pc now ∧ RH hn hs hr acts past ∧ RI has ip inx isz ir ka kept kp ∧ RT tl tc typed tape ∧ RS em la le el ml ms it
def A00 : Nat → Nat := uA (uA (uA (uA (uA (uA (uA (fun _ => 0) 1 1) 2 20) 3 2) 4 4) 5 8) 6 2) 8 1
theorem A00_o {j : Nat} (h : 9 ≤ j) : A00 j = 0 := by
  unfold A00
  rw [uA_n _ _ (by omega), uA_n _ _ (by omega), uA_n _ _ (by omega), uA_n _ _ (by omega), uA_n _ _ (by omega), uA_n _ _ (by omega), uA_n _ _ (by omega)]
theorem A00_V : VA A00 := by
  refine ⟨by decide, by decide, by decide, by decide, by decide, by decide, by decide, by decide, by decide, fun k hk => ?_, fun k hk i hi => ?_⟩
  · rw [A00_o (by omega), A00_o (j := 10 + 15 * k) (by omega), A00_o (j := 11 + 15 * k) (by omega)]
    refine ⟨by omega, by omega, by omega, fun i hi => ?_⟩
    rw [A00_o (by omega), A00_o (j := 18 + 15 * k + i) (by omega)]
    exact ⟨by omega, by omega⟩
  · have : A00 0 = 0 := by decide
    omega
theorem rel_init : Rel (upd (upd (upd (upd (upd (upd (upd (upd (fun _ => 0) 0 20) 1 2) 2 4) 3 8) 4 2) 5 0) 6 1) 7 1) (0 : Int32) (0 : Int32) (fun _ => (upd (upd (upd (upd (upd (upd (upd (upd (fun _ => 0) 0 20) 1 2) 2 4) 3 8) 4 2) 5 0) 6 1) 7 1)) (0 : Int32) (upd (upd (upd (upd (upd (upd (upd (upd (fun _ => 0) 0 20) 1 2) 2 4) 3 8) 4 2) 5 0) 6 1) 7 1) (0 : Int32) (0 : Int32) (fun _ => (upd (upd (upd (upd (upd (upd (upd (upd (fun _ => 0) 0 20) 1 2) 2 4) 3 8) 4 2) 5 0) 6 1) 7 1)) (0 : Int32) (fun _ => 0) (fun _ => (1 : Int32)) (fun _ => (0 : Int32)) (fun _ => (0 : Int32)) (fun _ => (fun _ => 0)) (upd (upd (upd (upd (upd (upd (upd (fun _ => 0) 1 1) 2 20) 3 2) 4 4) 5 8) 6 2) 8 1) (0 : Int32) (fun _ => 0) (-1 : Int32) (fun _ => 0) (fun _ => 0) (0 : Int32) (fun _ => 0) (upd (upd (upd (upd (fun _ => 0) 0 (-1)) 1 (-1)) 2 (-1)) 3 (-1)) (fun _ => 0) (fun _ => 0) := by
  refine ⟨⟨A00, A00_V, ⟨fun i hi => ?_, by decide, by decide, fun k hk => ?_⟩, ?_⟩, ⟨0, 0, by omega, by omega, rfl, rfl, rfl, fun r hr => by omega⟩, Or.inl ⟨rfl, rfl⟩, ⟨0, fun _ => 0, by omega, rfl, rfl, fun j hj => by omega⟩, fun i hi => Or.inl ⟨rfl, ?_⟩⟩
  · rcases (show i = 0 ∨ i = 1 ∨ i = 2 ∨ i = 3 ∨ i = 4 ∨ i = 5 ∨ i = 6 by omega) with rfl | rfl | rfl | rfl | rfl | rfl | rfl <;> decide
  · have : A00 0 = 0 := by decide
    omega
  · exact uA_M (uA_M (uA_M (uA_M (uA_M (uA_M (uA_M (v := fun _ => 0) (A := fun _ => 0) (fun j hj => rfl) 1 1) 2 20) 3 2) 4 4) 5 8) 6 2) 8 1
  · rcases (show i = 0 ∨ i = 1 ∨ i = 2 ∨ i = 3 by omega) with rfl | rfl | rfl | rfl <;> decide
