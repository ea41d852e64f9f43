def p_X4_takeOver (v_cells : (Nat → Int32)) (v_cellsq1 : (Nat → Int32)) : Option ((Nat → Int32)) :=
  (gd (cpok (0 : Int32) (0 : Int32) (117 : Int32) 117 117) (some (va_cpy v_cellsq1 v_cells (tn (0 : Int32)) (tn (0 : Int32)) (tn (117 : Int32)))))
set_option maxHeartbeats 4000000 in
set_option maxRecDepth 100000 in
theorem c_X4_takeOver (l : Launch) (dC : Nat → ClassId) (dI : Nat → Nat → Nat) (cI cJ cP cS : ClassId) (a0 : Nat) (a1 : Nat) (a2 : Nat) (a3 : Nat) (v_cells : (Nat → Int32)) (v_cellsq1 : (Nat → Int32))    (v_cells_o : (Nat → Int32)) (hf : p_X4_takeOver v_cells v_cellsq1 = some v_cells_o) : MC l (dC, dI) (tyl cI cJ cP cS) yX4_takeOver (Cond.code yX4_takeOver cX4_takeOver 2 none :: TBG) ({ frames := 1, cells := 0, slots := 0, locals := 40 } : Room) [.ref a0, .ref a2] [(a0, .inr (4, [.ref a1])), (a1, .inl (cI, 117, .inl v_cells)), (a2, .inr (4, [.ref a3])), (a3, .inl (cI, 117, .inl v_cellsq1))] [(a0, .inr (4, [.ref a1])), (a1, .inl (cI, 117, .inl v_cells_o)), (a2, .inr (4, [.ref a3])), (a3, .inl (cI, 117, .inl v_cellsq1))] none := by
  intro sz
  unfold MPost
  refine Met.ofW (cc := cX4_takeOver) (maxL := 2) (ret := none) (by decide) rfl ?_
  intro p e s m args below meth c s₁ B hml hv
  obtain ⟨rfl, hsz, hP, hK, hD0, hF⟩ := hv
  have hx := B.exec
  have hb := B.bytes
  have hr := B.returns
  have hT : ∀ w ∈ TBG, w.before _ s = true := fun w h => atoms_spec B.pre w (List.mem_cons_of_mem _ h)
  have hown : s.vm.findClass RX4 = some m.cls := findClass_of_methodNamed B.named
  have hlocks := B.notSynchronized
  subst hsz
  have hD := hD0.self (sz := s.heap.size)
  generalize hAe : va_A [(a0, .inr (4, [.ref a1])), (a1, .inl (cI, 117, .inl v_cells)), (a2, .inr (4, [.ref a3])), (a3, .inl (cI, 117, .inl v_cellsq1))] s.heap.size = A at hD hF ⊢
  have hA : ∀ q : Nat, s.heap.size ≤ q → A q := fun q h => by rw [← hAe]; exact Or.inr h
  have hS : va_S A s.heap s.heap [] := va_S.rf
  have hl := lv_entry ([.ref a0, .ref a2]) (n := 2) (Nat.le_of_ble_eq_true rfl)
  rw [lg_entry_eq]
  generalize (lg_sl ([.ref a0, .ref a2]) ++ List.replicate (2 - (lg_sl ([.ref a0, .ref a2])).length) Slot.unset).toArray = ls at hl ⊢
  have hl : lv_has ls 2 [(0, .ref a0), (1, .ref a2)] := hl
  generalize ([.ref a0, .ref a2] : List Value).toArray = args at hT ⊢
  have key : ∀ (Q : State → Prop), (∀ (H : Heap) (locs : List Loc) (ls : Array Slot) (pc : Nat), decode cX4_takeOver pc = .ok (.return_, 1) → va_P (dC, dI) vwCl [(a0, .inr (4, [.ref a1])), (a1, .inl (cI, 117, .inl v_cells_o)), (a2, .inr (4, [.ref a3])), (a3, .inl (cI, 117, .inl v_cellsq1))] H → va_D A [(a0, .inr (4, [.ref a1])), (a1, .inl (cI, 117, .inl v_cells_o)), (a2, .inr (4, [.ref a3])), (a3, .inl (cI, 117, .inl v_cellsq1))] → va_S A s.heap H locs → W p l e ({ frames := 1, cells := 0, slots := 0, locals := 40 } : Room) s m args below meth c H locs 0 0 Q (F0 m pc ls [])) → ∀ (H : Heap) (locs : List Loc) (ls : Array Slot), va_P (dC, dI) vwCl [(a0, .inr (4, [.ref a1])), (a1, .inl (cI, 117, .inl v_cells)), (a2, .inr (4, [.ref a3])), (a3, .inl (cI, 117, .inl v_cellsq1))] H → va_D A [(a0, .inr (4, [.ref a1])), (a1, .inl (cI, 117, .inl v_cells)), (a2, .inr (4, [.ref a3])), (a3, .inl (cI, 117, .inl v_cellsq1))] → va_S A s.heap H locs → lv_has ls 2 [(0, .ref a0), (1, .ref a2)] → W p l e ({ frames := 1, cells := 0, slots := 0, locals := 40 } : Room) s m args below meth c H locs 0 0 Q (F0 m 0 ls []) := by
    intro Q hret H locs ls hP hD hS hl
    refine lv_aload_n hx hb dX4_takeOver_0 rfl (lv_at hl 1 rfl) ?_
    refine va_get (D := (dC, dI)) (ci := 4) (v := .ref a3) (C := RX4) (T := TX4) (N := 1) hx hb hT in_X4 hown hK hP 2 rfl rfl 0 (by decide) (hT _ q_fl_X4_11) (fun _ h9 => h9) rfl dX4_takeOver_1 ?_
    refine lv_iconst (v := 0) hx hb dX4_takeOver_4 (by decide) ?_
    refine lv_aload_n hx hb dX4_takeOver_5 rfl (lv_at hl 0 rfl) ?_
    refine va_get (D := (dC, dI)) (ci := 4) (v := .ref a1) (C := RX4) (T := TX4) (N := 1) hx hb hT in_X4 hown hK hP 0 rfl rfl 0 (by decide) (hT _ q_fl_X4_11) (fun _ h9 => h9) rfl dX4_takeOver_6 ?_
    refine lv_iconst (v := 0) hx hb dX4_takeOver_9 (by decide) ?_
    refine lv_bipush (v := 117) hx hb dX4_takeOver_10 (by decide) ?_
    obtain ⟨h1, hf⟩ := gd_el hf
    have kh1 := cpok_el h1
    refine va_copyi hx hb (hml.trans hl.1.symm) hown (hT _ q_ml_X4_18) (hT _ q_na_System_arraycopy) (hT _ q_st_System_arraycopy) (hT _ q_in_J10) hK hP hD hS 3 1 0 0 rfl rfl rfl rfl rfl kh1.1 kh1.2.1 kh1.2.2.1 kh1.2.2.2.1 kh1.2.2.2.2 (fun _ _ => rfl) (Nat.le_of_ble_eq_true rfl) (Nat.le_of_ble_eq_true rfl) dX4_takeOver_12 (fun H locs hP hD hS => ?_)
    have hP : va_P (dC, dI) vwCl [(a0, .inr (4, [.ref a1])), (a1, .inl (cI, 117, .inl (va_cpy v_cellsq1 v_cells (tn (0 : Int32)) (tn (0 : Int32)) (tn (117 : Int32))))), (a2, .inr (4, [.ref a3])), (a3, .inl (cI, 117, .inl v_cellsq1))] H := hP
    have hD : va_D A [(a0, .inr (4, [.ref a1])), (a1, .inl (cI, 117, .inl (va_cpy v_cellsq1 v_cells (tn (0 : Int32)) (tn (0 : Int32)) (tn (117 : Int32))))), (a2, .inr (4, [.ref a3])), (a3, .inl (cI, 117, .inl v_cellsq1))] := hD
    replace hf := Option.some.inj hf
    subst hf
    exact hret H locs ls _ dX4_takeOver_15 hP hD hS
  refine key _ ?_ _ _ _ hP hD hS hl
  intro H locs ls pc d hP hD hS
  exact W.vret hx hb hr (fun t ht hW => ⟨⟨rfl, by rw [ht]; exact hP, hD⟩, hS.F ht⟩) hS.2.2 d
def p_X4_setting (v_cells : (Nat → Int32)) (x1 : Int32) : Option (Int32) :=
  (gd (ib x1 117) (some (v_cells (tn x1))))
set_option maxHeartbeats 4000000 in
set_option maxRecDepth 100000 in
theorem c_X4_setting (l : Launch) (dC : Nat → ClassId) (dI : Nat → Nat → Nat) (cI cJ cP cS : ClassId) (a0 : Nat) (a1 : Nat) (v_cells : (Nat → Int32))  (x1 : Int32) (rv : Int32)  (hf : p_X4_setting v_cells x1 = some rv) : MC l (dC, dI) (tyl cI cJ cP cS) yX4_setting (Cond.code yX4_setting cX4_setting 2 (some .int) :: TBG) ({ frames := 0, cells := 0, slots := 0, locals := 0 } : Room) [.ref a0, .int x1] [(a0, .inr (4, [.ref a1])), (a1, .inl (cI, 117, .inl v_cells))] [(a0, .inr (4, [.ref a1])), (a1, .inl (cI, 117, .inl v_cells))] (some (.int rv)) := by
  intro sz
  unfold MPost
  refine Met.ofW (cc := cX4_setting) (maxL := 2) (ret := (some .int)) (by decide) rfl ?_
  intro p e s m args below meth c s₁ B hml hv
  obtain ⟨rfl, hsz, hP, hK, hD0, hF⟩ := hv
  have hx := B.exec
  have hb := B.bytes
  have hr := B.returns
  have hT : ∀ w ∈ TBG, w.before _ s = true := fun w h => atoms_spec B.pre w (List.mem_cons_of_mem _ h)
  have hown : s.vm.findClass RX4 = some m.cls := findClass_of_methodNamed B.named
  have hlocks := B.notSynchronized
  subst hsz
  have hD := hD0.self (sz := s.heap.size)
  generalize hAe : va_A [(a0, .inr (4, [.ref a1])), (a1, .inl (cI, 117, .inl v_cells))] s.heap.size = A at hD hF ⊢
  have hA : ∀ q : Nat, s.heap.size ≤ q → A q := fun q h => by rw [← hAe]; exact Or.inr h
  have hS : va_S A s.heap s.heap [] := va_S.rf
  have hl := lv_entry ([.ref a0, .int x1]) (n := 2) (Nat.le_of_ble_eq_true rfl)
  rw [lg_entry_eq]
  generalize (lg_sl ([.ref a0, .int x1]) ++ List.replicate (2 - (lg_sl ([.ref a0, .int x1])).length) Slot.unset).toArray = ls at hl ⊢
  have hl : lv_has ls 2 [(0, .ref a0), (1, .int x1)] := hl
  generalize ([.ref a0, .int x1] : List Value).toArray = args at hT ⊢
  have key : ∀ (Q : State → Prop), (∀ (H : Heap) (locs : List Loc) (ls : Array Slot) (pc : Nat), decode cX4_setting pc = .ok (.ireturn, 1) → va_P (dC, dI) vwCl [(a0, .inr (4, [.ref a1])), (a1, .inl (cI, 117, .inl v_cells))] H → va_D A [(a0, .inr (4, [.ref a1])), (a1, .inl (cI, 117, .inl v_cells))] → va_S A s.heap H locs → W p l e ({ frames := 0, cells := 0, slots := 0, locals := 0 } : Room) s m args below meth c H locs 0 0 Q (F0 m pc ls [.int rv])) → ∀ (H : Heap) (locs : List Loc) (ls : Array Slot), va_P (dC, dI) vwCl [(a0, .inr (4, [.ref a1])), (a1, .inl (cI, 117, .inl v_cells))] H → va_D A [(a0, .inr (4, [.ref a1])), (a1, .inl (cI, 117, .inl v_cells))] → va_S A s.heap H locs → lv_has ls 2 [(0, .ref a0), (1, .int x1)] → W p l e ({ frames := 0, cells := 0, slots := 0, locals := 0 } : Room) s m args below meth c H locs 0 0 Q (F0 m 0 ls []) := by
    intro Q hret H locs ls hP hD hS hl
    refine lv_aload_n hx hb dX4_setting_0 rfl (lv_at hl 0 rfl) ?_
    refine va_get (D := (dC, dI)) (ci := 4) (v := .ref a1) (C := RX4) (T := TX4) (N := 1) hx hb hT in_X4 hown hK hP 0 rfl rfl 0 (by decide) (hT _ q_fl_X4_11) (fun _ h9 => h9) rfl dX4_setting_1 ?_
    refine lv_iload_n hx hb dX4_setting_4 rfl (lv_at hl 1 rfl) ?_
    obtain ⟨h1, hf⟩ := gd_el hf
    refine ia_ld hx hb hK hP 1 0 rfl rfl (ib_in h1) (j := (tn x1)) rfl dX4_setting_5 ?_
    replace hf := Option.some.inj hf
    subst hf
    exact hret H locs ls _ dX4_setting_6 hP hD hS
  refine key _ ?_ _ _ _ hP hD hS hl
  intro H locs ls pc d hP hD hS
  exact W.iret (v := rv) hx hb hr (fun t ht hW => ⟨⟨rfl, by rw [ht]; exact hP, hD⟩, hS.F ht⟩) hS.2.2 d
def p_X4_lettersOf (v_cells : (Nat → Int32)) (x1 : Int32) (x2 : Int32) : Option (Int32) :=
  (gd (ib (((45 : Int32) + (x1 * (6 : Int32))) + x2) 117) (some ((v_cells (tn (((45 : Int32) + (x1 * (6 : Int32))) + x2))) / (4 : Int32))))
set_option maxHeartbeats 4000000 in
set_option maxRecDepth 100000 in
theorem c_X4_lettersOf (l : Launch) (dC : Nat → ClassId) (dI : Nat → Nat → Nat) (cI cJ cP cS : ClassId) (a0 : Nat) (a1 : Nat) (v_cells : (Nat → Int32))  (x1 : Int32) (x2 : Int32) (rv : Int32)  (hf : p_X4_lettersOf v_cells x1 x2 = some rv) : MC l (dC, dI) (tyl cI cJ cP cS) yX4_lettersOf (Cond.code yX4_lettersOf cX4_lettersOf 3 (some .int) :: TBG) ({ frames := 0, cells := 0, slots := 0, locals := 0 } : Room) [.ref a0, .int x1, .int x2] [(a0, .inr (4, [.ref a1])), (a1, .inl (cI, 117, .inl v_cells))] [(a0, .inr (4, [.ref a1])), (a1, .inl (cI, 117, .inl v_cells))] (some (.int rv)) := by
  intro sz
  unfold MPost
  refine Met.ofW (cc := cX4_lettersOf) (maxL := 3) (ret := (some .int)) (by decide) rfl ?_
  intro p e s m args below meth c s₁ B hml hv
  obtain ⟨rfl, hsz, hP, hK, hD0, hF⟩ := hv
  have hx := B.exec
  have hb := B.bytes
  have hr := B.returns
  have hT : ∀ w ∈ TBG, w.before _ s = true := fun w h => atoms_spec B.pre w (List.mem_cons_of_mem _ h)
  have hown : s.vm.findClass RX4 = some m.cls := findClass_of_methodNamed B.named
  have hlocks := B.notSynchronized
  subst hsz
  have hD := hD0.self (sz := s.heap.size)
  generalize hAe : va_A [(a0, .inr (4, [.ref a1])), (a1, .inl (cI, 117, .inl v_cells))] s.heap.size = A at hD hF ⊢
  have hA : ∀ q : Nat, s.heap.size ≤ q → A q := fun q h => by rw [← hAe]; exact Or.inr h
  have hS : va_S A s.heap s.heap [] := va_S.rf
  have hl := lv_entry ([.ref a0, .int x1, .int x2]) (n := 3) (Nat.le_of_ble_eq_true rfl)
  rw [lg_entry_eq]
  generalize (lg_sl ([.ref a0, .int x1, .int x2]) ++ List.replicate (3 - (lg_sl ([.ref a0, .int x1, .int x2])).length) Slot.unset).toArray = ls at hl ⊢
  have hl : lv_has ls 3 [(0, .ref a0), (1, .int x1), (2, .int x2)] := hl
  generalize ([.ref a0, .int x1, .int x2] : List Value).toArray = args at hT ⊢
  have key : ∀ (Q : State → Prop), (∀ (H : Heap) (locs : List Loc) (ls : Array Slot) (pc : Nat), decode cX4_lettersOf pc = .ok (.ireturn, 1) → va_P (dC, dI) vwCl [(a0, .inr (4, [.ref a1])), (a1, .inl (cI, 117, .inl v_cells))] H → va_D A [(a0, .inr (4, [.ref a1])), (a1, .inl (cI, 117, .inl v_cells))] → va_S A s.heap H locs → W p l e ({ frames := 0, cells := 0, slots := 0, locals := 0 } : Room) s m args below meth c H locs 0 0 Q (F0 m pc ls [.int rv])) → ∀ (H : Heap) (locs : List Loc) (ls : Array Slot), va_P (dC, dI) vwCl [(a0, .inr (4, [.ref a1])), (a1, .inl (cI, 117, .inl v_cells))] H → va_D A [(a0, .inr (4, [.ref a1])), (a1, .inl (cI, 117, .inl v_cells))] → va_S A s.heap H locs → lv_has ls 3 [(0, .ref a0), (1, .int x1), (2, .int x2)] → W p l e ({ frames := 0, cells := 0, slots := 0, locals := 0 } : Room) s m args below meth c H locs 0 0 Q (F0 m 0 ls []) := by
    intro Q hret H locs ls hP hD hS hl
    refine lv_aload_n hx hb dX4_lettersOf_0 rfl (lv_at hl 0 rfl) ?_
    refine va_get (D := (dC, dI)) (ci := 4) (v := .ref a1) (C := RX4) (T := TX4) (N := 1) hx hb hT in_X4 hown hK hP 0 rfl rfl 0 (by decide) (hT _ q_fl_X4_11) (fun _ h9 => h9) rfl dX4_lettersOf_1 ?_
    refine lv_bipush (v := 45) hx hb dX4_lettersOf_4 (by decide) ?_
    refine lv_iload_n hx hb dX4_lettersOf_6 rfl (lv_at hl 1 rfl) ?_
    refine lv_bipush (v := 6) hx hb dX4_lettersOf_7 (by decide) ?_
    refine lv_imul hx hb dX4_lettersOf_9 ?_
    refine lv_iadd hx hb dX4_lettersOf_10 ?_
    refine lv_iload_n hx hb dX4_lettersOf_11 rfl (lv_at hl 2 rfl) ?_
    refine lv_iadd hx hb dX4_lettersOf_12 ?_
    obtain ⟨h1, hf⟩ := gd_el hf
    refine ia_ld hx hb hK hP 1 0 rfl rfl (ib_in h1) (j := (tn (((45 : Int32) + (x1 * (6 : Int32))) + x2))) rfl dX4_lettersOf_13 ?_
    refine lv_iconst (v := 4) hx hb dX4_lettersOf_14 (by decide) ?_
    refine lv_idiv hx hb dX4_lettersOf_15 (by decide) ?_
    replace hf := Option.some.inj hf
    subst hf
    exact hret H locs ls _ dX4_lettersOf_16 hP hD hS
  refine key _ ?_ _ _ _ hP hD hS hl
  intro H locs ls pc d hP hD hS
  exact W.iret (v := rv) hx hb hr (fun t ht hW => ⟨⟨rfl, by rw [ht]; exact hP, hD⟩, hS.F ht⟩) hS.2.2 d
def p_X4_pauseOf (v_cells : (Nat → Int32)) (x1 : Int32) (x2 : Int32) : Option (Int32) :=
  (gd (ib (((45 : Int32) + (x1 * (6 : Int32))) + x2) 117) (some (irem (v_cells (tn (((45 : Int32) + (x1 * (6 : Int32))) + x2))) (4 : Int32))))
set_option maxHeartbeats 4000000 in
set_option maxRecDepth 100000 in
theorem c_X4_pauseOf (l : Launch) (dC : Nat → ClassId) (dI : Nat → Nat → Nat) (cI cJ cP cS : ClassId) (a0 : Nat) (a1 : Nat) (v_cells : (Nat → Int32))  (x1 : Int32) (x2 : Int32) (rv : Int32)  (hf : p_X4_pauseOf v_cells x1 x2 = some rv) : MC l (dC, dI) (tyl cI cJ cP cS) yX4_pauseOf (Cond.code yX4_pauseOf cX4_pauseOf 3 (some .int) :: TBG) ({ frames := 0, cells := 0, slots := 0, locals := 0 } : Room) [.ref a0, .int x1, .int x2] [(a0, .inr (4, [.ref a1])), (a1, .inl (cI, 117, .inl v_cells))] [(a0, .inr (4, [.ref a1])), (a1, .inl (cI, 117, .inl v_cells))] (some (.int rv)) := by
  intro sz
  unfold MPost
  refine Met.ofW (cc := cX4_pauseOf) (maxL := 3) (ret := (some .int)) (by decide) rfl ?_
  intro p e s m args below meth c s₁ B hml hv
  obtain ⟨rfl, hsz, hP, hK, hD0, hF⟩ := hv
  have hx := B.exec
  have hb := B.bytes
  have hr := B.returns
  have hT : ∀ w ∈ TBG, w.before _ s = true := fun w h => atoms_spec B.pre w (List.mem_cons_of_mem _ h)
  have hown : s.vm.findClass RX4 = some m.cls := findClass_of_methodNamed B.named
  have hlocks := B.notSynchronized
  subst hsz
  have hD := hD0.self (sz := s.heap.size)
  generalize hAe : va_A [(a0, .inr (4, [.ref a1])), (a1, .inl (cI, 117, .inl v_cells))] s.heap.size = A at hD hF ⊢
  have hA : ∀ q : Nat, s.heap.size ≤ q → A q := fun q h => by rw [← hAe]; exact Or.inr h
  have hS : va_S A s.heap s.heap [] := va_S.rf
  have hl := lv_entry ([.ref a0, .int x1, .int x2]) (n := 3) (Nat.le_of_ble_eq_true rfl)
  rw [lg_entry_eq]
  generalize (lg_sl ([.ref a0, .int x1, .int x2]) ++ List.replicate (3 - (lg_sl ([.ref a0, .int x1, .int x2])).length) Slot.unset).toArray = ls at hl ⊢
  have hl : lv_has ls 3 [(0, .ref a0), (1, .int x1), (2, .int x2)] := hl
  generalize ([.ref a0, .int x1, .int x2] : List Value).toArray = args at hT ⊢
  have key : ∀ (Q : State → Prop), (∀ (H : Heap) (locs : List Loc) (ls : Array Slot) (pc : Nat), decode cX4_pauseOf pc = .ok (.ireturn, 1) → va_P (dC, dI) vwCl [(a0, .inr (4, [.ref a1])), (a1, .inl (cI, 117, .inl v_cells))] H → va_D A [(a0, .inr (4, [.ref a1])), (a1, .inl (cI, 117, .inl v_cells))] → va_S A s.heap H locs → W p l e ({ frames := 0, cells := 0, slots := 0, locals := 0 } : Room) s m args below meth c H locs 0 0 Q (F0 m pc ls [.int rv])) → ∀ (H : Heap) (locs : List Loc) (ls : Array Slot), va_P (dC, dI) vwCl [(a0, .inr (4, [.ref a1])), (a1, .inl (cI, 117, .inl v_cells))] H → va_D A [(a0, .inr (4, [.ref a1])), (a1, .inl (cI, 117, .inl v_cells))] → va_S A s.heap H locs → lv_has ls 3 [(0, .ref a0), (1, .int x1), (2, .int x2)] → W p l e ({ frames := 0, cells := 0, slots := 0, locals := 0 } : Room) s m args below meth c H locs 0 0 Q (F0 m 0 ls []) := by
    intro Q hret H locs ls hP hD hS hl
    refine lv_aload_n hx hb dX4_pauseOf_0 rfl (lv_at hl 0 rfl) ?_
    refine va_get (D := (dC, dI)) (ci := 4) (v := .ref a1) (C := RX4) (T := TX4) (N := 1) hx hb hT in_X4 hown hK hP 0 rfl rfl 0 (by decide) (hT _ q_fl_X4_11) (fun _ h9 => h9) rfl dX4_pauseOf_1 ?_
    refine lv_bipush (v := 45) hx hb dX4_pauseOf_4 (by decide) ?_
    refine lv_iload_n hx hb dX4_pauseOf_6 rfl (lv_at hl 1 rfl) ?_
    refine lv_bipush (v := 6) hx hb dX4_pauseOf_7 (by decide) ?_
    refine lv_imul hx hb dX4_pauseOf_9 ?_
    refine lv_iadd hx hb dX4_pauseOf_10 ?_
    refine lv_iload_n hx hb dX4_pauseOf_11 rfl (lv_at hl 2 rfl) ?_
    refine lv_iadd hx hb dX4_pauseOf_12 ?_
    obtain ⟨h1, hf⟩ := gd_el hf
    refine ia_ld hx hb hK hP 1 0 rfl rfl (ib_in h1) (j := (tn (((45 : Int32) + (x1 * (6 : Int32))) + x2))) rfl dX4_pauseOf_13 ?_
    refine lv_iconst (v := 4) hx hb dX4_pauseOf_14 (by decide) ?_
    refine lv_irem hx hb dX4_pauseOf_15 (by decide) ?_
    replace hf := Option.some.inj hf
    subst hf
    exact hret H locs ls _ dX4_pauseOf_16 hP hD hS
  refine key _ ?_ _ _ _ hP hD hS hl
  intro H locs ls pc d hP hD hS
  exact W.iret (v := rv) hx hb hr (fun t ht hW => ⟨⟨rfl, by rw [ht]; exact hP, hD⟩, hS.F ht⟩) hS.2.2 d
def p_X4_wordsOf (v_cells : (Nat → Int32)) (x1 : Int32) : Option (Int32) :=
  (gd (ib ((33 : Int32) + x1) 117) (some (v_cells (tn ((33 : Int32) + x1)))))
set_option maxHeartbeats 4000000 in
set_option maxRecDepth 100000 in
theorem c_X4_wordsOf (l : Launch) (dC : Nat → ClassId) (dI : Nat → Nat → Nat) (cI cJ cP cS : ClassId) (a0 : Nat) (a1 : Nat) (v_cells : (Nat → Int32))  (x1 : Int32) (rv : Int32)  (hf : p_X4_wordsOf v_cells x1 = some rv) : MC l (dC, dI) (tyl cI cJ cP cS) yX4_wordsOf (Cond.code yX4_wordsOf cX4_wordsOf 2 (some .int) :: TBG) ({ frames := 0, cells := 0, slots := 0, locals := 0 } : Room) [.ref a0, .int x1] [(a0, .inr (4, [.ref a1])), (a1, .inl (cI, 117, .inl v_cells))] [(a0, .inr (4, [.ref a1])), (a1, .inl (cI, 117, .inl v_cells))] (some (.int rv)) := by
  intro sz
  unfold MPost
  refine Met.ofW (cc := cX4_wordsOf) (maxL := 2) (ret := (some .int)) (by decide) rfl ?_
  intro p e s m args below meth c s₁ B hml hv
  obtain ⟨rfl, hsz, hP, hK, hD0, hF⟩ := hv
  have hx := B.exec
  have hb := B.bytes
  have hr := B.returns
  have hT : ∀ w ∈ TBG, w.before _ s = true := fun w h => atoms_spec B.pre w (List.mem_cons_of_mem _ h)
  have hown : s.vm.findClass RX4 = some m.cls := findClass_of_methodNamed B.named
  have hlocks := B.notSynchronized
  subst hsz
  have hD := hD0.self (sz := s.heap.size)
  generalize hAe : va_A [(a0, .inr (4, [.ref a1])), (a1, .inl (cI, 117, .inl v_cells))] s.heap.size = A at hD hF ⊢
  have hA : ∀ q : Nat, s.heap.size ≤ q → A q := fun q h => by rw [← hAe]; exact Or.inr h
  have hS : va_S A s.heap s.heap [] := va_S.rf
  have hl := lv_entry ([.ref a0, .int x1]) (n := 2) (Nat.le_of_ble_eq_true rfl)
  rw [lg_entry_eq]
  generalize (lg_sl ([.ref a0, .int x1]) ++ List.replicate (2 - (lg_sl ([.ref a0, .int x1])).length) Slot.unset).toArray = ls at hl ⊢
  have hl : lv_has ls 2 [(0, .ref a0), (1, .int x1)] := hl
  generalize ([.ref a0, .int x1] : List Value).toArray = args at hT ⊢
  have key : ∀ (Q : State → Prop), (∀ (H : Heap) (locs : List Loc) (ls : Array Slot) (pc : Nat), decode cX4_wordsOf pc = .ok (.ireturn, 1) → va_P (dC, dI) vwCl [(a0, .inr (4, [.ref a1])), (a1, .inl (cI, 117, .inl v_cells))] H → va_D A [(a0, .inr (4, [.ref a1])), (a1, .inl (cI, 117, .inl v_cells))] → va_S A s.heap H locs → W p l e ({ frames := 0, cells := 0, slots := 0, locals := 0 } : Room) s m args below meth c H locs 0 0 Q (F0 m pc ls [.int rv])) → ∀ (H : Heap) (locs : List Loc) (ls : Array Slot), va_P (dC, dI) vwCl [(a0, .inr (4, [.ref a1])), (a1, .inl (cI, 117, .inl v_cells))] H → va_D A [(a0, .inr (4, [.ref a1])), (a1, .inl (cI, 117, .inl v_cells))] → va_S A s.heap H locs → lv_has ls 2 [(0, .ref a0), (1, .int x1)] → W p l e ({ frames := 0, cells := 0, slots := 0, locals := 0 } : Room) s m args below meth c H locs 0 0 Q (F0 m 0 ls []) := by
    intro Q hret H locs ls hP hD hS hl
    refine lv_aload_n hx hb dX4_wordsOf_0 rfl (lv_at hl 0 rfl) ?_
    refine va_get (D := (dC, dI)) (ci := 4) (v := .ref a1) (C := RX4) (T := TX4) (N := 1) hx hb hT in_X4 hown hK hP 0 rfl rfl 0 (by decide) (hT _ q_fl_X4_11) (fun _ h9 => h9) rfl dX4_wordsOf_1 ?_
    refine lv_bipush (v := 33) hx hb dX4_wordsOf_4 (by decide) ?_
    refine lv_iload_n hx hb dX4_wordsOf_6 rfl (lv_at hl 1 rfl) ?_
    refine lv_iadd hx hb dX4_wordsOf_7 ?_
    obtain ⟨h1, hf⟩ := gd_el hf
    refine ia_ld hx hb hK hP 1 0 rfl rfl (ib_in h1) (j := (tn ((33 : Int32) + x1))) rfl dX4_wordsOf_8 ?_
    replace hf := Option.some.inj hf
    subst hf
    exact hret H locs ls _ dX4_wordsOf_9 hP hD hS
  refine key _ ?_ _ _ _ hP hD hS hl
  intro H locs ls pc d hP hD hS
  exact W.iret (v := rv) hx hb hr (fun t ht hW => ⟨⟨rfl, by rw [ht]; exact hP, hD⟩, hS.F ht⟩) hS.2.2 d
def p_J6_bitCount_0f7a4 (x0 : Int32) : Option (Int32) :=
  (nm (x0 - ((iushr x0 (1 : Int32)) &&& (1431655765 : Int32))) fun x0_1 => (nm ((x0_1 &&& (858993459 : Int32)) + ((iushr x0_1 (2 : Int32)) &&& (858993459 : Int32))) fun x0_2 => (nm ((x0_2 + (iushr x0_2 (4 : Int32))) &&& (252645135 : Int32)) fun x0_3 => (nm (x0_3 + (iushr x0_3 (8 : Int32))) fun x0_4 => (nm (x0_4 + (iushr x0_4 (16 : Int32))) fun x0_5 => (some (x0_5 &&& (63 : Int32))))))))
set_option maxHeartbeats 4000000 in
set_option maxRecDepth 100000 in
theorem c_J6_bitCount_0f7a4 (l : Launch) (dC : Nat → ClassId) (dI : Nat → Nat → Nat) (cI cJ cP cS : ClassId)    (x0 : Int32) (rv : Int32)  (hf : p_J6_bitCount_0f7a4 x0 = some rv) : MC l (dC, dI) (tyl cI cJ cP cS) yJ6_bitCount_0f7a4 (Cond.code yJ6_bitCount_0f7a4 cJ6_bitCount_0f7a4 1 (some .int) :: TBG) ({ frames := 0, cells := 0, slots := 0, locals := 0 } : Room) [.int x0] [] [] (some (.int rv)) := by
  intro sz
  unfold MPost
  refine Met.ofW (cc := cJ6_bitCount_0f7a4) (maxL := 1) (ret := (some .int)) (by decide) rfl ?_
  intro p e s m args below meth c s₁ B hml hv
  obtain ⟨rfl, hsz, hP, hK, hD0, hF⟩ := hv
  have hx := B.exec
  have hb := B.bytes
  have hr := B.returns
  have hT : ∀ w ∈ TBG, w.before _ s = true := fun w h => atoms_spec B.pre w (List.mem_cons_of_mem _ h)
  have hown : s.vm.findClass RJ6 = some m.cls := findClass_of_methodNamed B.named
  have hlocks := B.notSynchronized
  subst hsz
  have hD := hD0.self (sz := s.heap.size)
  generalize hAe : va_A [] s.heap.size = A at hD hF ⊢
  have hA : ∀ q : Nat, s.heap.size ≤ q → A q := fun q h => by rw [← hAe]; exact Or.inr h
  have hS : va_S A s.heap s.heap [] := va_S.rf
  have hl := lv_entry ([.int x0]) (n := 1) (Nat.le_of_ble_eq_true rfl)
  rw [lg_entry_eq]
  generalize (lg_sl ([.int x0]) ++ List.replicate (1 - (lg_sl ([.int x0])).length) Slot.unset).toArray = ls at hl ⊢
  have hl : lv_has ls 1 [(0, .int x0)] := hl
  generalize ([.int x0] : List Value).toArray = args at hT ⊢
  have key : ∀ (Q : State → Prop), (∀ (H : Heap) (locs : List Loc) (ls : Array Slot) (pc : Nat), decode cJ6_bitCount_0f7a4 pc = .ok (.ireturn, 1) → va_P (dC, dI) vwCl [] H → va_D A [] → va_S A s.heap H locs → W p l e ({ frames := 0, cells := 0, slots := 0, locals := 0 } : Room) s m args below meth c H locs 0 0 Q (F0 m pc ls [.int rv])) → ∀ (H : Heap) (locs : List Loc) (ls : Array Slot), va_P (dC, dI) vwCl [] H → va_D A [] → va_S A s.heap H locs → lv_has ls 1 [(0, .int x0)] → W p l e ({ frames := 0, cells := 0, slots := 0, locals := 0 } : Room) s m args below meth c H locs 0 0 Q (F0 m 0 ls []) := by
    intro Q hret H locs ls hP hD hS hl
    refine lv_iload_n hx hb dJ6_bitCount_0f7a4_0 rfl (lv_at hl 0 rfl) ?_
    refine lv_iload_n hx hb dJ6_bitCount_0f7a4_1 rfl (lv_at hl 0 rfl) ?_
    refine lv_iconst (v := 1) hx hb dJ6_bitCount_0f7a4_2 (by decide) ?_
    refine lv_iushr hx hb dJ6_bitCount_0f7a4_3 rfl ?_
    refine lv_ldcw hx hb hown (hT _ q_k_J6_265) dJ6_bitCount_0f7a4_4 ?_
    refine lv_iand hx hb dJ6_bitCount_0f7a4_7 ?_
    refine lv_isub hx hb dJ6_bitCount_0f7a4_8 ?_
    obtain ⟨x0_1, ex0_1, hf⟩ := nm_el hf
    refine lv_as (congrArg Value.int ex0_1) ?_
    refine lv_istore_n (lv' := [(0, .int x0_1)]) hx hb dJ6_bitCount_0f7a4_9 rfl hl (by decide) rfl (fun ls hl => ?_)
    refine lv_iload_n hx hb dJ6_bitCount_0f7a4_10 rfl (lv_at hl 0 rfl) ?_
    refine lv_ldcw hx hb hown (hT _ q_k_J6_266) dJ6_bitCount_0f7a4_11 ?_
    refine lv_iand hx hb dJ6_bitCount_0f7a4_14 ?_
    refine lv_iload_n hx hb dJ6_bitCount_0f7a4_15 rfl (lv_at hl 0 rfl) ?_
    refine lv_iconst (v := 2) hx hb dJ6_bitCount_0f7a4_16 (by decide) ?_
    refine lv_iushr hx hb dJ6_bitCount_0f7a4_17 rfl ?_
    refine lv_ldcw hx hb hown (hT _ q_k_J6_266) dJ6_bitCount_0f7a4_18 ?_
    refine lv_iand hx hb dJ6_bitCount_0f7a4_21 ?_
    refine lv_iadd hx hb dJ6_bitCount_0f7a4_22 ?_
    obtain ⟨x0_2, ex0_2, hf⟩ := nm_el hf
    refine lv_as (congrArg Value.int ex0_2) ?_
    refine lv_istore_n (lv' := [(0, .int x0_2)]) hx hb dJ6_bitCount_0f7a4_23 rfl hl (by decide) rfl (fun ls hl => ?_)
    refine lv_iload_n hx hb dJ6_bitCount_0f7a4_24 rfl (lv_at hl 0 rfl) ?_
    refine lv_iload_n hx hb dJ6_bitCount_0f7a4_25 rfl (lv_at hl 0 rfl) ?_
    refine lv_iconst (v := 4) hx hb dJ6_bitCount_0f7a4_26 (by decide) ?_
    refine lv_iushr hx hb dJ6_bitCount_0f7a4_27 rfl ?_
    refine lv_iadd hx hb dJ6_bitCount_0f7a4_28 ?_
    refine lv_ldcw hx hb hown (hT _ q_k_J6_267) dJ6_bitCount_0f7a4_29 ?_
    refine lv_iand hx hb dJ6_bitCount_0f7a4_32 ?_
    obtain ⟨x0_3, ex0_3, hf⟩ := nm_el hf
    refine lv_as (congrArg Value.int ex0_3) ?_
    refine lv_istore_n (lv' := [(0, .int x0_3)]) hx hb dJ6_bitCount_0f7a4_33 rfl hl (by decide) rfl (fun ls hl => ?_)
    refine lv_iload_n hx hb dJ6_bitCount_0f7a4_34 rfl (lv_at hl 0 rfl) ?_
    refine lv_iload_n hx hb dJ6_bitCount_0f7a4_35 rfl (lv_at hl 0 rfl) ?_
    refine lv_bipush (v := 8) hx hb dJ6_bitCount_0f7a4_36 (by decide) ?_
    refine lv_iushr hx hb dJ6_bitCount_0f7a4_38 rfl ?_
    refine lv_iadd hx hb dJ6_bitCount_0f7a4_39 ?_
    obtain ⟨x0_4, ex0_4, hf⟩ := nm_el hf
    refine lv_as (congrArg Value.int ex0_4) ?_
    refine lv_istore_n (lv' := [(0, .int x0_4)]) hx hb dJ6_bitCount_0f7a4_40 rfl hl (by decide) rfl (fun ls hl => ?_)
    refine lv_iload_n hx hb dJ6_bitCount_0f7a4_41 rfl (lv_at hl 0 rfl) ?_
    refine lv_iload_n hx hb dJ6_bitCount_0f7a4_42 rfl (lv_at hl 0 rfl) ?_
    refine lv_bipush (v := 16) hx hb dJ6_bitCount_0f7a4_43 (by decide) ?_
    refine lv_iushr hx hb dJ6_bitCount_0f7a4_45 rfl ?_
    refine lv_iadd hx hb dJ6_bitCount_0f7a4_46 ?_
    obtain ⟨x0_5, ex0_5, hf⟩ := nm_el hf
    refine lv_as (congrArg Value.int ex0_5) ?_
    refine lv_istore_n (lv' := [(0, .int x0_5)]) hx hb dJ6_bitCount_0f7a4_47 rfl hl (by decide) rfl (fun ls hl => ?_)
    refine lv_iload_n hx hb dJ6_bitCount_0f7a4_48 rfl (lv_at hl 0 rfl) ?_
    refine lv_bipush (v := 63) hx hb dJ6_bitCount_0f7a4_49 (by decide) ?_
    refine lv_iand hx hb dJ6_bitCount_0f7a4_51 ?_
    replace hf := Option.some.inj hf
    subst hf
    exact hret H locs ls _ dJ6_bitCount_0f7a4_52 hP hD hS
  refine key _ ?_ _ _ _ hP hD hS hl
  intro H locs ls pc d hP hD hS
  exact W.iret (v := rv) hx hb hr (fun t ht hW => ⟨⟨rfl, by rw [ht]; exact hP, hD⟩, hS.F ht⟩) hS.2.2 d
def p_X4_rhymeOf (v_cells : (Nat → Int32)) (x1 : Int32) : Option (Int32) :=
  (gd (ib ((9 : Int32) + x1) 117) (some (v_cells (tn ((9 : Int32) + x1)))))
set_option maxHeartbeats 4000000 in
set_option maxRecDepth 100000 in
theorem c_X4_rhymeOf (l : Launch) (dC : Nat → ClassId) (dI : Nat → Nat → Nat) (cI cJ cP cS : ClassId) (a0 : Nat) (a1 : Nat) (v_cells : (Nat → Int32))  (x1 : Int32) (rv : Int32)  (hf : p_X4_rhymeOf v_cells x1 = some rv) : MC l (dC, dI) (tyl cI cJ cP cS) yX4_rhymeOf (Cond.code yX4_rhymeOf cX4_rhymeOf 2 (some .int) :: TBG) ({ frames := 0, cells := 0, slots := 0, locals := 0 } : Room) [.ref a0, .int x1] [(a0, .inr (4, [.ref a1])), (a1, .inl (cI, 117, .inl v_cells))] [(a0, .inr (4, [.ref a1])), (a1, .inl (cI, 117, .inl v_cells))] (some (.int rv)) := by
  intro sz
  unfold MPost
  refine Met.ofW (cc := cX4_rhymeOf) (maxL := 2) (ret := (some .int)) (by decide) rfl ?_
  intro p e s m args below meth c s₁ B hml hv
  obtain ⟨rfl, hsz, hP, hK, hD0, hF⟩ := hv
  have hx := B.exec
  have hb := B.bytes
  have hr := B.returns
  have hT : ∀ w ∈ TBG, w.before _ s = true := fun w h => atoms_spec B.pre w (List.mem_cons_of_mem _ h)
  have hown : s.vm.findClass RX4 = some m.cls := findClass_of_methodNamed B.named
  have hlocks := B.notSynchronized
  subst hsz
  have hD := hD0.self (sz := s.heap.size)
  generalize hAe : va_A [(a0, .inr (4, [.ref a1])), (a1, .inl (cI, 117, .inl v_cells))] s.heap.size = A at hD hF ⊢
  have hA : ∀ q : Nat, s.heap.size ≤ q → A q := fun q h => by rw [← hAe]; exact Or.inr h
  have hS : va_S A s.heap s.heap [] := va_S.rf
  have hl := lv_entry ([.ref a0, .int x1]) (n := 2) (Nat.le_of_ble_eq_true rfl)
  rw [lg_entry_eq]
  generalize (lg_sl ([.ref a0, .int x1]) ++ List.replicate (2 - (lg_sl ([.ref a0, .int x1])).length) Slot.unset).toArray = ls at hl ⊢
  have hl : lv_has ls 2 [(0, .ref a0), (1, .int x1)] := hl
  generalize ([.ref a0, .int x1] : List Value).toArray = args at hT ⊢
  have key : ∀ (Q : State → Prop), (∀ (H : Heap) (locs : List Loc) (ls : Array Slot) (pc : Nat), decode cX4_rhymeOf pc = .ok (.ireturn, 1) → va_P (dC, dI) vwCl [(a0, .inr (4, [.ref a1])), (a1, .inl (cI, 117, .inl v_cells))] H → va_D A [(a0, .inr (4, [.ref a1])), (a1, .inl (cI, 117, .inl v_cells))] → va_S A s.heap H locs → W p l e ({ frames := 0, cells := 0, slots := 0, locals := 0 } : Room) s m args below meth c H locs 0 0 Q (F0 m pc ls [.int rv])) → ∀ (H : Heap) (locs : List Loc) (ls : Array Slot), va_P (dC, dI) vwCl [(a0, .inr (4, [.ref a1])), (a1, .inl (cI, 117, .inl v_cells))] H → va_D A [(a0, .inr (4, [.ref a1])), (a1, .inl (cI, 117, .inl v_cells))] → va_S A s.heap H locs → lv_has ls 2 [(0, .ref a0), (1, .int x1)] → W p l e ({ frames := 0, cells := 0, slots := 0, locals := 0 } : Room) s m args below meth c H locs 0 0 Q (F0 m 0 ls []) := by
    intro Q hret H locs ls hP hD hS hl
    refine lv_aload_n hx hb dX4_rhymeOf_0 rfl (lv_at hl 0 rfl) ?_
    refine va_get (D := (dC, dI)) (ci := 4) (v := .ref a1) (C := RX4) (T := TX4) (N := 1) hx hb hT in_X4 hown hK hP 0 rfl rfl 0 (by decide) (hT _ q_fl_X4_11) (fun _ h9 => h9) rfl dX4_rhymeOf_1 ?_
    refine lv_bipush (v := 9) hx hb dX4_rhymeOf_4 (by decide) ?_
    refine lv_iload_n hx hb dX4_rhymeOf_6 rfl (lv_at hl 1 rfl) ?_
    refine lv_iadd hx hb dX4_rhymeOf_7 ?_
    obtain ⟨h1, hf⟩ := gd_el hf
    refine ia_ld hx hb hK hP 1 0 rfl rfl (ib_in h1) (j := (tn ((9 : Int32) + x1))) rfl dX4_rhymeOf_8 ?_
    replace hf := Option.some.inj hf
    subst hf
    exact hret H locs ls _ dX4_rhymeOf_9 hP hD hS
  refine key _ ?_ _ _ _ hP hD hS hl
  intro H locs ls pc d hP hD hS
  exact W.iret (v := rv) hx hb hr (fun t ht hW => ⟨⟨rfl, by rw [ht]; exact hP, hD⟩, hS.F ht⟩) hS.2.2 d
def p_X4_stanzaStart_L2 (v_cells : (Nat → Int32)) (i2_1 : Int32) : Option ((Int32) ⊕ (Int32)) :=
  (if i2_1 ≤ (0 : Int32) then (some (.inr i2_1)) else (gd (ib ((21 : Int32) + i2_1) 117) (if (v_cells (tn ((21 : Int32) + i2_1))) = (0 : Int32) then (some (.inl (i2_1 + (-1 : Int32)))) else (some (.inr i2_1)))))
def p_X4_stanzaStart (v_cells : (Nat → Int32)) (x1 : Int32) : Option (Int32) :=
  (bd1 (loopN (p_X4_stanzaStart_L2 v_cells) fuel x1) fun f2_6 => (some f2_6))
set_option maxHeartbeats 4000000 in
set_option maxRecDepth 100000 in
theorem c_X4_stanzaStart (l : Launch) (dC : Nat → ClassId) (dI : Nat → Nat → Nat) (cI cJ cP cS : ClassId) (a0 : Nat) (a1 : Nat) (v_cells : (Nat → Int32))  (x1 : Int32) (rv : Int32)  (hf : p_X4_stanzaStart v_cells x1 = some rv) : MC l (dC, dI) (tyl cI cJ cP cS) yX4_stanzaStart (Cond.code yX4_stanzaStart cX4_stanzaStart 3 (some .int) :: TBG) ({ frames := 0, cells := 0, slots := 0, locals := 0 } : Room) [.ref a0, .int x1] [(a0, .inr (4, [.ref a1])), (a1, .inl (cI, 117, .inl v_cells))] [(a0, .inr (4, [.ref a1])), (a1, .inl (cI, 117, .inl v_cells))] (some (.int rv)) := by
  intro sz
  unfold MPost
  refine Met.ofW (cc := cX4_stanzaStart) (maxL := 3) (ret := (some .int)) (by decide) rfl ?_
  intro p e s m args below meth c s₁ B hml hv
  obtain ⟨rfl, hsz, hP, hK, hD0, hF⟩ := hv
  have hx := B.exec
  have hb := B.bytes
  have hr := B.returns
  have hT : ∀ w ∈ TBG, w.before _ s = true := fun w h => atoms_spec B.pre w (List.mem_cons_of_mem _ h)
  have hown : s.vm.findClass RX4 = some m.cls := findClass_of_methodNamed B.named
  have hlocks := B.notSynchronized
  subst hsz
  have hD := hD0.self (sz := s.heap.size)
  generalize hAe : va_A [(a0, .inr (4, [.ref a1])), (a1, .inl (cI, 117, .inl v_cells))] s.heap.size = A at hD hF ⊢
  have hA : ∀ q : Nat, s.heap.size ≤ q → A q := fun q h => by rw [← hAe]; exact Or.inr h
  have hS : va_S A s.heap s.heap [] := va_S.rf
  have hl := lv_entry ([.ref a0, .int x1]) (n := 3) (Nat.le_of_ble_eq_true rfl)
  rw [lg_entry_eq]
  generalize (lg_sl ([.ref a0, .int x1]) ++ List.replicate (3 - (lg_sl ([.ref a0, .int x1])).length) Slot.unset).toArray = ls at hl ⊢
  have hl : lv_has ls 3 [(0, .ref a0), (1, .int x1)] := hl
  generalize ([.ref a0, .int x1] : List Value).toArray = args at hT ⊢
  have key : ∀ (Q : State → Prop), (∀ (H : Heap) (locs : List Loc) (ls : Array Slot) (pc : Nat), decode cX4_stanzaStart pc = .ok (.ireturn, 1) → va_P (dC, dI) vwCl [(a0, .inr (4, [.ref a1])), (a1, .inl (cI, 117, .inl v_cells))] H → va_D A [(a0, .inr (4, [.ref a1])), (a1, .inl (cI, 117, .inl v_cells))] → va_S A s.heap H locs → W p l e ({ frames := 0, cells := 0, slots := 0, locals := 0 } : Room) s m args below meth c H locs 0 0 Q (F0 m pc ls [.int rv])) → ∀ (H : Heap) (locs : List Loc) (ls : Array Slot), va_P (dC, dI) vwCl [(a0, .inr (4, [.ref a1])), (a1, .inl (cI, 117, .inl v_cells))] H → va_D A [(a0, .inr (4, [.ref a1])), (a1, .inl (cI, 117, .inl v_cells))] → va_S A s.heap H locs → lv_has ls 3 [(0, .ref a0), (1, .int x1)] → W p l e ({ frames := 0, cells := 0, slots := 0, locals := 0 } : Room) s m args below meth c H locs 0 0 Q (F0 m 0 ls []) := by
    intro Q hret H locs ls hP hD hS hl
    refine lv_iload_n hx hb dX4_stanzaStart_0 rfl (lv_at hl 1 rfl) ?_
    refine lv_istore_n (lv' := [(2, .int x1), (0, .ref a0), (1, .int x1)]) hx hb dX4_stanzaStart_1 rfl hl (by decide) rfl (fun ls hl => ?_)
    have hL2 : ∀ (rr : Int32), (∀ (z_5 : Int32), rr = z_5 → ∀ (H : Heap) (locs : List Loc) (ls : Array Slot), va_P (dC, dI) vwCl [(a0, .inr (4, [.ref a1])), (a1, .inl (cI, 117, .inl v_cells))] H → va_D A [(a0, .inr (4, [.ref a1])), (a1, .inl (cI, 117, .inl v_cells))] → va_S A s.heap H locs → lv_has ls 3 [(2, .int z_5)] → W p l e ({ frames := 0, cells := 0, slots := 0, locals := 0 } : Room) s m args below meth c H locs 0 0 Q (F0 m 24 ls [])) → ∀ (n : Nat) (i2_1 : Int32), loopN (p_X4_stanzaStart_L2 v_cells) n i2_1 = some rr → ∀ (H : Heap) (locs : List Loc) (ls : Array Slot), va_P (dC, dI) vwCl [(a0, .inr (4, [.ref a1])), (a1, .inl (cI, 117, .inl v_cells))] H → va_D A [(a0, .inr (4, [.ref a1])), (a1, .inl (cI, 117, .inl v_cells))] → va_S A s.heap H locs → lv_has ls 3 [(0, .ref a0), (2, .int i2_1)] → W p l e ({ frames := 0, cells := 0, slots := 0, locals := 0 } : Room) s m args below meth c H locs 0 0 Q (F0 m 2 ls []) := by
      intro rr hk2 n
      induction n with
      | zero => intro i2_1 hf; cases hf
      | succ n ih2 =>
        intro i2_1 hf H locs ls hP hD hS hl
        obtain ⟨o2, hf, hi, he⟩ := loopN_el hf
        refine lv_iload_n hx hb dX4_stanzaStart_2 rfl (lv_at hl 1 rfl) ?_
        refine lv_if_le (tgt := 24) hx hb dX4_stanzaStart_3 (by decide) (fun c2 => ?_) (fun c2 => ?_)
        · replace hf := it_t c2 hf
          exact hk2 _ (he _ (Option.some.inj hf).symm).symm H locs ls hP hD hS (lv_sub hl [1] rfl)
        · replace hf := it_f c2 hf
          refine lv_aload_n hx hb dX4_stanzaStart_6 rfl (lv_at hl 0 rfl) ?_
          refine va_get (D := (dC, dI)) (ci := 4) (v := .ref a1) (C := RX4) (T := TX4) (N := 1) hx hb hT in_X4 hown hK hP 0 rfl rfl 0 (by decide) (hT _ q_fl_X4_11) (fun _ h9 => h9) rfl dX4_stanzaStart_7 ?_
          refine lv_bipush (v := 21) hx hb dX4_stanzaStart_10 (by decide) ?_
          refine lv_iload_n hx hb dX4_stanzaStart_12 rfl (lv_at hl 1 rfl) ?_
          refine lv_iadd hx hb dX4_stanzaStart_13 ?_
          obtain ⟨h3, hf⟩ := gd_el hf
          refine ia_ld hx hb hK hP 1 0 rfl rfl (ib_in h3) (j := (tn ((21 : Int32) + i2_1))) rfl dX4_stanzaStart_14 ?_
          refine lv_if_ne (tgt := 24) hx hb dX4_stanzaStart_15 (by decide) (fun c4 => ?_) (fun c4 => ?_)
          · replace hf := it_f c4 hf
            exact hk2 _ (he _ (Option.some.inj hf).symm).symm H locs ls hP hD hS (lv_sub hl [1] rfl)
          · replace hf := it_t c4 hf
            refine lv_iinc (v := (i2_1 + (-1 : Int32))) (lv' := [(2, .int (i2_1 + (-1 : Int32))), (0, .ref a0)]) hx hb dX4_stanzaStart_18 hl (k := 1) rfl rfl (by decide) rfl (fun ls hl => ?_)
            refine lv_goto (tgt := 2) hx hb dX4_stanzaStart_21 (by decide) ?_
            exact ih2 (i2_1 + (-1 : Int32)) (hi _ (Option.some.inj hf).symm) H locs ls hP hD hS (lv_sub hl [1, 0] rfl)
    obtain ⟨f2_6, hq, hf⟩ := bd1_el hf
    refine hL2 f2_6 (fun z_5 h9 H locs ls hP hD hS hl => ?_) fuel x1 hq H locs ls hP hD hS (lv_sub hl [1, 0] rfl)
    subst h9
    refine lv_iload_n hx hb dX4_stanzaStart_24 rfl (lv_at hl 0 rfl) ?_
    replace hf := Option.some.inj hf
    subst hf
    exact hret H locs ls _ dX4_stanzaStart_25 hP hD hS
  refine key _ ?_ _ _ _ hP hD hS hl
  intro H locs ls pc d hP hD hS
  exact W.iret (v := rv) hx hb hr (fun t ht hW => ⟨⟨rfl, by rw [ht]; exact hP, hD⟩, hS.F ht⟩) hS.2.2 d
def p_X4_rankOf_L8 (v_cells : (Nat → Int32)) (x1 : Int32) (s : Int32 × Int32) : Option ((Int32 × Int32) ⊕ (Int32 × Int32)) := match s with
  | (i2_3, i3_4) => (if x1 ≤ i3_4 then (some (.inr (i2_3, i3_4))) else (bd1 (p_X4_rhymeOf v_cells i3_4) fun r_6 => (bd1 (p_X4_rhymeOf v_cells x1) fun r_8 => (if r_6 = r_8 then (some (.inr (i2_3, i3_4))) else (bd1 (p_X4_rhymeOf v_cells i3_4) fun r_11 => (nm (i2_3 ||| ((1 : Int32) <<< (r_11 &&& 31))) fun x2_13 => (some (.inl (x2_13, (i3_4 + (1 : Int32)))))))))))
def p_X4_rankOf (v_cells : (Nat → Int32)) (x1 : Int32) : Option (Int32) :=
  (bd1 (p_X4_stanzaStart v_cells x1) fun r_1 => (bd2 (loopN (p_X4_rankOf_L8 v_cells x1) fuel ((0 : Int32), r_1)) fun f2_16 f3_17 => (bd1 (p_J6_bitCount_0f7a4 f2_16) fun r_18 => (some r_18))))
set_option maxHeartbeats 4000000 in
set_option maxRecDepth 100000 in
theorem c_X4_rankOf (l : Launch) (dC : Nat → ClassId) (dI : Nat → Nat → Nat) (cI cJ cP cS : ClassId) (a0 : Nat) (a1 : Nat) (v_cells : (Nat → Int32))  (x1 : Int32) (rv : Int32)  (hf : p_X4_rankOf v_cells x1 = some rv) : MC l (dC, dI) (tyl cI cJ cP cS) yX4_rankOf (Cond.code yX4_rankOf cX4_rankOf 4 (some .int) :: TBG) ({ frames := 1, cells := 0, slots := 0, locals := 22 } : Room) [.ref a0, .int x1] [(a0, .inr (4, [.ref a1])), (a1, .inl (cI, 117, .inl v_cells))] [(a0, .inr (4, [.ref a1])), (a1, .inl (cI, 117, .inl v_cells))] (some (.int rv)) := by
  intro sz
  unfold MPost
  refine Met.ofW (cc := cX4_rankOf) (maxL := 4) (ret := (some .int)) (by decide) rfl ?_
  intro p e s m args below meth c s₁ B hml hv
  obtain ⟨rfl, hsz, hP, hK, hD0, hF⟩ := hv
  have hx := B.exec
  have hb := B.bytes
  have hr := B.returns
  have hT : ∀ w ∈ TBG, w.before _ s = true := fun w h => atoms_spec B.pre w (List.mem_cons_of_mem _ h)
  have hown : s.vm.findClass RX4 = some m.cls := findClass_of_methodNamed B.named
  have hlocks := B.notSynchronized
  subst hsz
  have hD := hD0.self (sz := s.heap.size)
  generalize hAe : va_A [(a0, .inr (4, [.ref a1])), (a1, .inl (cI, 117, .inl v_cells))] s.heap.size = A at hD hF ⊢
  have hA : ∀ q : Nat, s.heap.size ≤ q → A q := fun q h => by rw [← hAe]; exact Or.inr h
  have hS : va_S A s.heap s.heap [] := va_S.rf
  have hl := lv_entry ([.ref a0, .int x1]) (n := 4) (Nat.le_of_ble_eq_true rfl)
  rw [lg_entry_eq]
  generalize (lg_sl ([.ref a0, .int x1]) ++ List.replicate (4 - (lg_sl ([.ref a0, .int x1])).length) Slot.unset).toArray = ls at hl ⊢
  have hl : lv_has ls 4 [(0, .ref a0), (1, .int x1)] := hl
  generalize ([.ref a0, .int x1] : List Value).toArray = args at hT ⊢
  have key : ∀ (Q : State → Prop), (∀ (H : Heap) (locs : List Loc) (ls : Array Slot) (pc : Nat), decode cX4_rankOf pc = .ok (.ireturn, 1) → va_P (dC, dI) vwCl [(a0, .inr (4, [.ref a1])), (a1, .inl (cI, 117, .inl v_cells))] H → va_D A [(a0, .inr (4, [.ref a1])), (a1, .inl (cI, 117, .inl v_cells))] → va_S A s.heap H locs → W p l e ({ frames := 1, cells := 0, slots := 0, locals := 22 } : Room) s m args below meth c H locs 0 0 Q (F0 m pc ls [.int rv])) → ∀ (H : Heap) (locs : List Loc) (ls : Array Slot), va_P (dC, dI) vwCl [(a0, .inr (4, [.ref a1])), (a1, .inl (cI, 117, .inl v_cells))] H → va_D A [(a0, .inr (4, [.ref a1])), (a1, .inl (cI, 117, .inl v_cells))] → va_S A s.heap H locs → lv_has ls 4 [(0, .ref a0), (1, .int x1)] → W p l e ({ frames := 1, cells := 0, slots := 0, locals := 22 } : Room) s m args below meth c H locs 0 0 Q (F0 m 0 ls []) := by
    intro Q hret H locs ls hP hD hS hl
    refine lv_iconst (v := 0) hx hb dX4_rankOf_0 (by decide) ?_
    refine lv_istore_n (lv' := [(2, .int (0 : Int32)), (0, .ref a0), (1, .int x1)]) hx hb dX4_rankOf_1 rfl hl (by decide) rfl (fun ls hl => ?_)
    refine lv_aload_n hx hb dX4_rankOf_2 rfl (lv_at hl 1 rfl) ?_
    refine lv_iload_n hx hb dX4_rankOf_3 rfl (lv_at hl 2 rfl) ?_
    obtain ⟨r_1, hq2, hf⟩ := bd1_el hf
    refine mc_V (As := [.int x1]) (rest := []) (wr := []) (wn := [(a0, .inr (4, [.ref a1])), (a1, .inl (cI, 117, .inl v_cells))]) ⟨hx, hb, hml, hown, hT⟩ (c_X4_stanzaStart l dC dI cI cJ cP cS a0 a1 v_cells x1 r_1 hq2) (cwV 1 hT (gdV q_ml_X4_80 q_im_X4_stanzaStart q_se_X4_stanzaStart q_in_X4 q_co_X4_stanzaStart) rfl rfl rfl hd_X4_stanzaStart ⟨Nat.le_of_ble_eq_true rfl, Nat.le_of_ble_eq_true rfl⟩) hK hF hP hD hS hA 0 rfl rfl rfl [0, 1] [] [0, 1] rfl (by decide) rfl (by decide) (by decide) rfl (by decide) rfl hl.1 rfl (Nat.le_of_ble_eq_true rfl) dX4_rankOf_4 ⟨Nat.zero_le _, Nat.zero_le _⟩ (fun H locs hP hD hS => ?_)
    refine W.eq (g2 := F0 m 7 ls [.int r_1]) rfl ?_
    refine lv_istore_n (lv' := [(3, .int r_1), (2, .int (0 : Int32)), (0, .ref a0), (1, .int x1)]) hx hb dX4_rankOf_7 rfl hl (by decide) rfl (fun ls hl => ?_)
    have hL8 : ∀ (rr : Int32 × Int32), (∀ (z_14 : Int32) (z_15 : Int32), rr = (z_14, z_15) → ∀ (H : Heap) (locs : List Loc) (ls : Array Slot), va_P (dC, dI) vwCl [(a0, .inr (4, [.ref a1])), (a1, .inl (cI, 117, .inl v_cells))] H → va_D A [(a0, .inr (4, [.ref a1])), (a1, .inl (cI, 117, .inl v_cells))] → va_S A s.heap H locs → lv_has ls 4 [(2, .int z_14)] → W p l e ({ frames := 1, cells := 0, slots := 0, locals := 22 } : Room) s m args below meth c H locs 0 0 Q (F0 m 42 ls [])) → ∀ (n : Nat) (i2_3 : Int32) (i3_4 : Int32), loopN (p_X4_rankOf_L8 v_cells x1) n (i2_3, i3_4) = some rr → ∀ (H : Heap) (locs : List Loc) (ls : Array Slot), va_P (dC, dI) vwCl [(a0, .inr (4, [.ref a1])), (a1, .inl (cI, 117, .inl v_cells))] H → va_D A [(a0, .inr (4, [.ref a1])), (a1, .inl (cI, 117, .inl v_cells))] → va_S A s.heap H locs → lv_has ls 4 [(0, .ref a0), (1, .int x1), (2, .int i2_3), (3, .int i3_4)] → W p l e ({ frames := 1, cells := 0, slots := 0, locals := 22 } : Room) s m args below meth c H locs 0 0 Q (F0 m 8 ls []) := by
      intro rr hk8 n
      induction n with
      | zero => intro i2_3 i3_4 hf; cases hf
      | succ n ih8 =>
        intro i2_3 i3_4 hf H locs ls hP hD hS hl
        obtain ⟨o8, hf, hi, he⟩ := loopN_el hf
        refine lv_iload_n hx hb dX4_rankOf_8 rfl (lv_at hl 3 rfl) ?_
        refine lv_iload_n hx hb dX4_rankOf_9 rfl (lv_at hl 1 rfl) ?_
        refine lv_icmp_ge (tgt := 42) hx hb dX4_rankOf_10 (by decide) (fun c5 => ?_) (fun c5 => ?_)
        · replace hf := it_t c5 hf
          exact hk8 _ _ (he _ (Option.some.inj hf).symm).symm H locs ls hP hD hS (lv_sub hl [2] rfl)
        · replace hf := it_f c5 hf
          refine lv_aload_n hx hb dX4_rankOf_13 rfl (lv_at hl 0 rfl) ?_
          refine lv_iload_n hx hb dX4_rankOf_14 rfl (lv_at hl 3 rfl) ?_
          obtain ⟨r_6, hq7, hf⟩ := bd1_el hf
          refine mc_V (As := [.int i3_4]) (rest := []) (wr := []) (wn := [(a0, .inr (4, [.ref a1])), (a1, .inl (cI, 117, .inl v_cells))]) ⟨hx, hb, hml, hown, hT⟩ (c_X4_rhymeOf l dC dI cI cJ cP cS a0 a1 v_cells i3_4 r_6 hq7) (cwV 1 hT (gdV q_ml_X4_43 q_im_X4_rhymeOf q_se_X4_rhymeOf q_in_X4 q_co_X4_rhymeOf) rfl rfl rfl hd_X4_rhymeOf ⟨Nat.le_of_ble_eq_true rfl, Nat.le_of_ble_eq_true rfl⟩) hK hF hP hD hS hA 0 rfl rfl rfl [0, 1] [] [0, 1] rfl (by decide) rfl (by decide) (by decide) rfl (by decide) rfl hl.1 rfl (Nat.le_of_ble_eq_true rfl) dX4_rankOf_15 ⟨Nat.zero_le _, Nat.zero_le _⟩ (fun H locs hP hD hS => ?_)
          refine W.eq (g2 := F0 m 18 ls [.int r_6]) rfl ?_
          refine lv_aload_n hx hb dX4_rankOf_18 rfl (lv_at hl 0 rfl) ?_
          refine lv_iload_n hx hb dX4_rankOf_19 rfl (lv_at hl 1 rfl) ?_
          obtain ⟨r_8, hq9, hf⟩ := bd1_el hf
          refine mc_V (As := [.int x1]) (rest := [.int r_6]) (wr := []) (wn := [(a0, .inr (4, [.ref a1])), (a1, .inl (cI, 117, .inl v_cells))]) ⟨hx, hb, hml, hown, hT⟩ (c_X4_rhymeOf l dC dI cI cJ cP cS a0 a1 v_cells x1 r_8 hq9) (cwV 1 hT (gdV q_ml_X4_43 q_im_X4_rhymeOf q_se_X4_rhymeOf q_in_X4 q_co_X4_rhymeOf) rfl rfl rfl hd_X4_rhymeOf ⟨Nat.le_of_ble_eq_true rfl, Nat.le_of_ble_eq_true rfl⟩) hK hF hP hD hS hA 0 rfl rfl rfl [0, 1] [] [0, 1] rfl (by decide) rfl (by decide) (by decide) rfl (by decide) rfl hl.1 rfl (Nat.le_of_ble_eq_true rfl) dX4_rankOf_20 ⟨Nat.zero_le _, Nat.zero_le _⟩ (fun H locs hP hD hS => ?_)
          refine W.eq (g2 := F0 m 23 ls [.int r_8, .int r_6]) rfl ?_
          refine lv_icmp_eq (tgt := 42) hx hb dX4_rankOf_23 (by decide) (fun c10 => ?_) (fun c10 => ?_)
          · replace hf := it_t c10 hf
            exact hk8 _ _ (he _ (Option.some.inj hf).symm).symm H locs ls hP hD hS (lv_sub hl [2] rfl)
          · replace hf := it_f c10 hf
            refine lv_iload_n hx hb dX4_rankOf_26 rfl (lv_at hl 2 rfl) ?_
            refine lv_iconst (v := 1) hx hb dX4_rankOf_27 (by decide) ?_
            refine lv_aload_n hx hb dX4_rankOf_28 rfl (lv_at hl 0 rfl) ?_
            refine lv_iload_n hx hb dX4_rankOf_29 rfl (lv_at hl 3 rfl) ?_
            obtain ⟨r_11, hq12, hf⟩ := bd1_el hf
            refine mc_V (As := [.int i3_4]) (rest := [.int (1 : Int32), .int i2_3]) (wr := []) (wn := [(a0, .inr (4, [.ref a1])), (a1, .inl (cI, 117, .inl v_cells))]) ⟨hx, hb, hml, hown, hT⟩ (c_X4_rhymeOf l dC dI cI cJ cP cS a0 a1 v_cells i3_4 r_11 hq12) (cwV 1 hT (gdV q_ml_X4_43 q_im_X4_rhymeOf q_se_X4_rhymeOf q_in_X4 q_co_X4_rhymeOf) rfl rfl rfl hd_X4_rhymeOf ⟨Nat.le_of_ble_eq_true rfl, Nat.le_of_ble_eq_true rfl⟩) hK hF hP hD hS hA 0 rfl rfl rfl [0, 1] [] [0, 1] rfl (by decide) rfl (by decide) (by decide) rfl (by decide) rfl hl.1 rfl (Nat.le_of_ble_eq_true rfl) dX4_rankOf_30 ⟨Nat.zero_le _, Nat.zero_le _⟩ (fun H locs hP hD hS => ?_)
            refine W.eq (g2 := F0 m 33 ls [.int r_11, .int (1 : Int32), .int i2_3]) rfl ?_
            refine lv_ishl hx hb dX4_rankOf_33 ?_
            refine lv_ior hx hb dX4_rankOf_34 ?_
            obtain ⟨x2_13, ex2_13, hf⟩ := nm_el hf
            refine lv_as (congrArg Value.int ex2_13) ?_
            refine lv_istore_n (lv' := [(2, .int x2_13), (0, .ref a0), (1, .int x1), (3, .int i3_4)]) hx hb dX4_rankOf_35 rfl hl (by decide) rfl (fun ls hl => ?_)
            refine lv_iinc (v := (i3_4 + (1 : Int32))) (lv' := [(3, .int (i3_4 + (1 : Int32))), (2, .int x2_13), (0, .ref a0), (1, .int x1)]) hx hb dX4_rankOf_36 hl (k := 3) rfl rfl (by decide) rfl (fun ls hl => ?_)
            refine lv_goto (tgt := 8) hx hb dX4_rankOf_39 (by decide) ?_
            exact ih8 x2_13 (i3_4 + (1 : Int32)) (hi _ (Option.some.inj hf).symm) H locs ls hP hD hS (lv_sub hl [2, 3, 1, 0] rfl)
    obtain ⟨f2_16, f3_17, hq, hf⟩ := bd2_el hf
    refine hL8 (f2_16, f3_17) (fun z_14 z_15 h9 H locs ls hP hD hS hl => ?_) fuel (0 : Int32) r_1 hq H locs ls hP hD hS (lv_sub hl [2, 3, 1, 0] rfl)
    simp only [Prod.mk.injEq] at h9
    obtain ⟨h9_0, h9_1⟩ := h9
    subst h9_0; subst h9_1
    refine lv_iload_n hx hb dX4_rankOf_42 rfl (lv_at hl 0 rfl) ?_
    obtain ⟨r_18, hq19, hf⟩ := bd1_el hf
    refine mc_S (As := [.int f2_16]) (rest := []) (wr := [(a0, .inr (4, [.ref a1])), (a1, .inl (cI, 117, .inl v_cells))]) (wn := [(a0, .inr (4, [.ref a1])), (a1, .inl (cI, 117, .inl v_cells))]) ⟨hx, hb, hml, hown, hT⟩ (c_J6_bitCount_0f7a4 l dC dI cI cJ cP cS f2_16 r_18 hq19) (va_cwS 1 hT (gdS q_ml_X4_83 q_st_J6_bitCount_0f7a4 q_in_J6 q_co_J6_bitCount_0f7a4) rfl rfl rfl hd_J6_bitCount_0f7a4 ⟨Nat.le_of_ble_eq_true rfl, Nat.le_of_ble_eq_true rfl⟩) hK hF hP hD hS hA [] [0, 1] [0, 1] rfl (by decide) rfl (by decide) (by decide) rfl (by decide) rfl hl.1 rfl (Nat.le_of_ble_eq_true rfl) dX4_rankOf_43 ⟨Nat.zero_le _, Nat.zero_le _⟩ (fun H locs hP hD hS => ?_)
    refine W.eq (g2 := F0 m 46 ls [.int r_18]) rfl ?_
    replace hf := Option.some.inj hf
    subst hf
    exact hret H locs ls _ dX4_rankOf_46 hP hD hS
  refine key _ ?_ _ _ _ hP hD hS hl
  intro H locs ls pc d hP hD hS
  exact W.iret (v := rv) hx hb hr (fun t ht hW => ⟨⟨rfl, by rw [ht]; exact hP, hD⟩, hS.F ht⟩) hS.2.2 d
def p_X4_indentationOf (v_cells : (Nat → Int32)) (x1 : Int32) : Option (Int32) :=
  (bd1 (p_X4_setting v_cells (6 : Int32)) fun r_1 => (if r_1 = (1 : Int32) then (bd1 (p_X4_setting v_cells (1 : Int32)) fun r_4 => (bd1 (p_X4_rankOf v_cells x1) fun r_6 => (some (r_4 * r_6)))) else (if r_1 = (2 : Int32) then (bd1 (p_X4_setting v_cells (1 : Int32)) fun r_9 => (bd1 (p_X4_stanzaStart v_cells x1) fun r_11 => (some (r_9 * (irem (x1 - r_11) (2 : Int32)))))) else (some (0 : Int32)))))
set_option maxHeartbeats 4000000 in
set_option maxRecDepth 100000 in
theorem c_X4_indentationOf (l : Launch) (dC : Nat → ClassId) (dI : Nat → Nat → Nat) (cI cJ cP cS : ClassId) (a0 : Nat) (a1 : Nat) (v_cells : (Nat → Int32))  (x1 : Int32) (rv : Int32)  (hf : p_X4_indentationOf v_cells x1 = some rv) : MC l (dC, dI) (tyl cI cJ cP cS) yX4_indentationOf (Cond.code yX4_indentationOf cX4_indentationOf 2 (some .int) :: TBG) ({ frames := 2, cells := 0, slots := 0, locals := 45 } : Room) [.ref a0, .int x1] [(a0, .inr (4, [.ref a1])), (a1, .inl (cI, 117, .inl v_cells))] [(a0, .inr (4, [.ref a1])), (a1, .inl (cI, 117, .inl v_cells))] (some (.int rv)) := by
  intro sz
  unfold MPost
  refine Met.ofW (cc := cX4_indentationOf) (maxL := 2) (ret := (some .int)) (by decide) rfl ?_
  intro p e s m args below meth c s₁ B hml hv
  obtain ⟨rfl, hsz, hP, hK, hD0, hF⟩ := hv
  have hx := B.exec
  have hb := B.bytes
  have hr := B.returns
  have hT : ∀ w ∈ TBG, w.before _ s = true := fun w h => atoms_spec B.pre w (List.mem_cons_of_mem _ h)
  have hown : s.vm.findClass RX4 = some m.cls := findClass_of_methodNamed B.named
  have hlocks := B.notSynchronized
  subst hsz
  have hD := hD0.self (sz := s.heap.size)
  generalize hAe : va_A [(a0, .inr (4, [.ref a1])), (a1, .inl (cI, 117, .inl v_cells))] s.heap.size = A at hD hF ⊢
  have hA : ∀ q : Nat, s.heap.size ≤ q → A q := fun q h => by rw [← hAe]; exact Or.inr h
  have hS : va_S A s.heap s.heap [] := va_S.rf
  have hl := lv_entry ([.ref a0, .int x1]) (n := 2) (Nat.le_of_ble_eq_true rfl)
  rw [lg_entry_eq]
  generalize (lg_sl ([.ref a0, .int x1]) ++ List.replicate (2 - (lg_sl ([.ref a0, .int x1])).length) Slot.unset).toArray = ls at hl ⊢
  have hl : lv_has ls 2 [(0, .ref a0), (1, .int x1)] := hl
  generalize ([.ref a0, .int x1] : List Value).toArray = args at hT ⊢
  have key : ∀ (Q : State → Prop), (∀ (H : Heap) (locs : List Loc) (ls : Array Slot) (pc : Nat), decode cX4_indentationOf pc = .ok (.ireturn, 1) → va_P (dC, dI) vwCl [(a0, .inr (4, [.ref a1])), (a1, .inl (cI, 117, .inl v_cells))] H → va_D A [(a0, .inr (4, [.ref a1])), (a1, .inl (cI, 117, .inl v_cells))] → va_S A s.heap H locs → W p l e ({ frames := 2, cells := 0, slots := 0, locals := 45 } : Room) s m args below meth c H locs 0 0 Q (F0 m pc ls [.int rv])) → ∀ (H : Heap) (locs : List Loc) (ls : Array Slot), va_P (dC, dI) vwCl [(a0, .inr (4, [.ref a1])), (a1, .inl (cI, 117, .inl v_cells))] H → va_D A [(a0, .inr (4, [.ref a1])), (a1, .inl (cI, 117, .inl v_cells))] → va_S A s.heap H locs → lv_has ls 2 [(0, .ref a0), (1, .int x1)] → W p l e ({ frames := 2, cells := 0, slots := 0, locals := 45 } : Room) s m args below meth c H locs 0 0 Q (F0 m 0 ls []) := by
    intro Q hret H locs ls hP hD hS hl
    refine lv_aload_n hx hb dX4_indentationOf_0 rfl (lv_at hl 0 rfl) ?_
    refine lv_bipush (v := 6) hx hb dX4_indentationOf_1 (by decide) ?_
    obtain ⟨r_1, hq2, hf⟩ := bd1_el hf
    refine mc_V (As := [.int (6 : Int32)]) (rest := []) (wr := []) (wn := [(a0, .inr (4, [.ref a1])), (a1, .inl (cI, 117, .inl v_cells))]) ⟨hx, hb, hml, hown, hT⟩ (c_X4_setting l dC dI cI cJ cP cS a0 a1 v_cells (6 : Int32) r_1 hq2) (cwV 1 hT (gdV q_ml_X4_96 q_im_X4_setting q_se_X4_setting q_in_X4 q_co_X4_setting) rfl rfl rfl hd_X4_setting ⟨Nat.le_of_ble_eq_true rfl, Nat.le_of_ble_eq_true rfl⟩) hK hF hP hD hS hA 0 rfl rfl rfl [0, 1] [] [0, 1] rfl (by decide) rfl (by decide) (by decide) rfl (by decide) rfl hl.1 rfl (Nat.le_of_ble_eq_true rfl) dX4_indentationOf_3 ⟨Nat.zero_le _, Nat.zero_le _⟩ (fun H locs hP hD hS => ?_)
    refine W.eq (g2 := F0 m 6 ls [.int r_1]) rfl ?_
    by_cases c3 : r_1 = (1 : Int32)
    · replace hf := it_t c3 hf
      refine lv_lookup (tgt := 32) (off := 26) hx hb dX4_indentationOf_6 (by decide) (by rw [c3]; decide) (by decide) ?_
      refine lv_aload_n hx hb dX4_indentationOf_32 rfl (lv_at hl 0 rfl) ?_
      refine lv_iconst (v := 1) hx hb dX4_indentationOf_33 (by decide) ?_
      obtain ⟨r_4, hq5, hf⟩ := bd1_el hf
      refine mc_V (As := [.int (1 : Int32)]) (rest := []) (wr := []) (wn := [(a0, .inr (4, [.ref a1])), (a1, .inl (cI, 117, .inl v_cells))]) ⟨hx, hb, hml, hown, hT⟩ (c_X4_setting l dC dI cI cJ cP cS a0 a1 v_cells (1 : Int32) r_4 hq5) (cwV 1 hT (gdV q_ml_X4_96 q_im_X4_setting q_se_X4_setting q_in_X4 q_co_X4_setting) rfl rfl rfl hd_X4_setting ⟨Nat.le_of_ble_eq_true rfl, Nat.le_of_ble_eq_true rfl⟩) hK hF hP hD hS hA 0 rfl rfl rfl [0, 1] [] [0, 1] rfl (by decide) rfl (by decide) (by decide) rfl (by decide) rfl hl.1 rfl (Nat.le_of_ble_eq_true rfl) dX4_indentationOf_34 ⟨Nat.zero_le _, Nat.zero_le _⟩ (fun H locs hP hD hS => ?_)
      refine W.eq (g2 := F0 m 37 ls [.int r_4]) rfl ?_
      refine lv_aload_n hx hb dX4_indentationOf_37 rfl (lv_at hl 0 rfl) ?_
      refine lv_iload_n hx hb dX4_indentationOf_38 rfl (lv_at hl 1 rfl) ?_
      obtain ⟨r_6, hq7, hf⟩ := bd1_el hf
      refine mc_V (As := [.int x1]) (rest := [.int r_4]) (wr := []) (wn := [(a0, .inr (4, [.ref a1])), (a1, .inl (cI, 117, .inl v_cells))]) ⟨hx, hb, hml, hown, hT⟩ (c_X4_rankOf l dC dI cI cJ cP cS a0 a1 v_cells x1 r_6 hq7) (cwV 1 hT (gdV q_ml_X4_93 q_im_X4_rankOf q_se_X4_rankOf q_in_X4 q_co_X4_rankOf) rfl rfl rfl hd_X4_rankOf ⟨Nat.le_of_ble_eq_true rfl, Nat.le_of_ble_eq_true rfl⟩) hK hF hP hD hS hA 0 rfl rfl rfl [0, 1] [] [0, 1] rfl (by decide) rfl (by decide) (by decide) rfl (by decide) rfl hl.1 rfl (Nat.le_of_ble_eq_true rfl) dX4_indentationOf_39 ⟨Nat.zero_le _, Nat.zero_le _⟩ (fun H locs hP hD hS => ?_)
      refine W.eq (g2 := F0 m 42 ls [.int r_6, .int r_4]) rfl ?_
      refine lv_imul hx hb dX4_indentationOf_42 ?_
      replace hf := Option.some.inj hf
      subst hf
      exact hret H locs ls _ dX4_indentationOf_43 hP hD hS
    replace hf := it_f c3 hf
    by_cases c8 : r_1 = (2 : Int32)
    · replace hf := it_t c8 hf
      refine lv_lookup (tgt := 44) (off := 38) hx hb dX4_indentationOf_6 (by decide) (by rw [c8]; decide) (by decide) ?_
      refine lv_aload_n hx hb dX4_indentationOf_44 rfl (lv_at hl 0 rfl) ?_
      refine lv_iconst (v := 1) hx hb dX4_indentationOf_45 (by decide) ?_
      obtain ⟨r_9, hq10, hf⟩ := bd1_el hf
      refine mc_V (As := [.int (1 : Int32)]) (rest := []) (wr := []) (wn := [(a0, .inr (4, [.ref a1])), (a1, .inl (cI, 117, .inl v_cells))]) ⟨hx, hb, hml, hown, hT⟩ (c_X4_setting l dC dI cI cJ cP cS a0 a1 v_cells (1 : Int32) r_9 hq10) (cwV 1 hT (gdV q_ml_X4_96 q_im_X4_setting q_se_X4_setting q_in_X4 q_co_X4_setting) rfl rfl rfl hd_X4_setting ⟨Nat.le_of_ble_eq_true rfl, Nat.le_of_ble_eq_true rfl⟩) hK hF hP hD hS hA 0 rfl rfl rfl [0, 1] [] [0, 1] rfl (by decide) rfl (by decide) (by decide) rfl (by decide) rfl hl.1 rfl (Nat.le_of_ble_eq_true rfl) dX4_indentationOf_46 ⟨Nat.zero_le _, Nat.zero_le _⟩ (fun H locs hP hD hS => ?_)
      refine W.eq (g2 := F0 m 49 ls [.int r_9]) rfl ?_
      refine lv_iload_n hx hb dX4_indentationOf_49 rfl (lv_at hl 1 rfl) ?_
      refine lv_aload_n hx hb dX4_indentationOf_50 rfl (lv_at hl 0 rfl) ?_
      refine lv_iload_n hx hb dX4_indentationOf_51 rfl (lv_at hl 1 rfl) ?_
      obtain ⟨r_11, hq12, hf⟩ := bd1_el hf
      refine mc_V (As := [.int x1]) (rest := [.int x1, .int r_9]) (wr := []) (wn := [(a0, .inr (4, [.ref a1])), (a1, .inl (cI, 117, .inl v_cells))]) ⟨hx, hb, hml, hown, hT⟩ (c_X4_stanzaStart l dC dI cI cJ cP cS a0 a1 v_cells x1 r_11 hq12) (cwV 1 hT (gdV q_ml_X4_80 q_im_X4_stanzaStart q_se_X4_stanzaStart q_in_X4 q_co_X4_stanzaStart) rfl rfl rfl hd_X4_stanzaStart ⟨Nat.le_of_ble_eq_true rfl, Nat.le_of_ble_eq_true rfl⟩) hK hF hP hD hS hA 0 rfl rfl rfl [0, 1] [] [0, 1] rfl (by decide) rfl (by decide) (by decide) rfl (by decide) rfl hl.1 rfl (Nat.le_of_ble_eq_true rfl) dX4_indentationOf_52 ⟨Nat.zero_le _, Nat.zero_le _⟩ (fun H locs hP hD hS => ?_)
      refine W.eq (g2 := F0 m 55 ls [.int r_11, .int x1, .int r_9]) rfl ?_
      refine lv_isub hx hb dX4_indentationOf_55 ?_
      refine lv_iconst (v := 2) hx hb dX4_indentationOf_56 (by decide) ?_
      refine lv_irem hx hb dX4_indentationOf_57 (by decide) ?_
      refine lv_imul hx hb dX4_indentationOf_58 ?_
      replace hf := Option.some.inj hf
      subst hf
      exact hret H locs ls _ dX4_indentationOf_59 hP hD hS
    replace hf := it_f c8 hf
    refine lv_lookup (tgt := 60) (off := 54) hx hb dX4_indentationOf_6 (by decide) (by have ec3 := ne_ti (n := 1) (by decide) c3; have ec8 := ne_ti (n := 2) (by decide) c8; exact lk_2 ec3 ec8) (by decide) ?_
    refine lv_iconst (v := 0) hx hb dX4_indentationOf_60 (by decide) ?_
    replace hf := Option.some.inj hf
    subst hf
    exact hret H locs ls _ dX4_indentationOf_61 hP hD hS
  refine key _ ?_ _ _ _ hP hD hS hl
  intro H locs ls pc d hP hD hS
  exact W.iret (v := rv) hx hb hr (fun t ht hW => ⟨⟨rfl, by rw [ht]; exact hP, hD⟩, hS.F ht⟩) hS.2.2 d
def p_J7_fill_d0a16_L6 (n_len : Nat) (x1 : Int64) (x4_1 : Int32) (s : Int32 × (Nat → Int64)) : Option ((Int32 × (Nat → Int64)) ⊕ (Int32 × (Nat → Int64))) := match s with
  | (i3_2, v_row_3) => (if x4_1 ≤ i3_2 then (some (.inr (i3_2, v_row_3))) else (gd (ib i3_2 n_len) (some (.inl ((i3_2 + (1 : Int32)), (vp_updL v_row_3 (tn i3_2) x1))))))
def p_J7_fill_d0a16 (v_row : (Nat → Int64)) (n_len : Nat) (x1 : Int64) : Option ((Nat → Int64)) :=
  (nm (Int32.ofNat n_len) fun x4_1 => (bd2 (loopN (p_J7_fill_d0a16_L6 n_len x1 x4_1) fuel ((0 : Int32), v_row)) fun f3_8 v_row_9 => (some v_row_9)))
set_option maxHeartbeats 4000000 in
set_option maxRecDepth 100000 in
theorem c_J7_fill_d0a16 (l : Launch) (dC : Nat → ClassId) (dI : Nat → Nat → Nat) (cI cJ cP cS : ClassId) (a0 : Nat) (v_row : (Nat → Int64)) (n_len : Nat) (x1 : Int64)  (v_row_o : (Nat → Int64)) (hf : p_J7_fill_d0a16 v_row n_len x1 = some v_row_o) : MC l (dC, dI) (tyl cI cJ cP cS) yJ7_fill_d0a16 (Cond.code yJ7_fill_d0a16 cJ7_fill_d0a16 5 none :: TBG) ({ frames := 0, cells := 0, slots := 0, locals := 0 } : Room) [.ref a0, .long x1] [(a0, .inl (cJ, n_len, .inr (.inl v_row)))] [(a0, .inl (cJ, n_len, .inr (.inl v_row_o)))] none := by
  intro sz
  unfold MPost
  refine Met.ofW (cc := cJ7_fill_d0a16) (maxL := 5) (ret := none) (by decide) rfl ?_
  intro p e s m args below meth c s₁ B hml hv
  obtain ⟨rfl, hsz, hP, hK, hD0, hF⟩ := hv
  have hx := B.exec
  have hb := B.bytes
  have hr := B.returns
  have hT : ∀ w ∈ TBG, w.before _ s = true := fun w h => atoms_spec B.pre w (List.mem_cons_of_mem _ h)
  have hown : s.vm.findClass RJ7 = some m.cls := findClass_of_methodNamed B.named
  have hlocks := B.notSynchronized
  subst hsz
  have hD := hD0.self (sz := s.heap.size)
  generalize hAe : va_A [(a0, .inl (cJ, n_len, .inr (.inl v_row)))] s.heap.size = A at hD hF ⊢
  have hA : ∀ q : Nat, s.heap.size ≤ q → A q := fun q h => by rw [← hAe]; exact Or.inr h
  have hS : va_S A s.heap s.heap [] := va_S.rf
  have hl := lv_entry ([.ref a0, .long x1]) (n := 5) (Nat.le_of_ble_eq_true rfl)
  rw [lg_entry_eq]
  generalize (lg_sl ([.ref a0, .long x1]) ++ List.replicate (5 - (lg_sl ([.ref a0, .long x1])).length) Slot.unset).toArray = ls at hl ⊢
  have hl : lv_has ls 5 [(0, .ref a0), (1, .long x1)] := hl
  generalize ([.ref a0, .long x1] : List Value).toArray = args at hT ⊢
  have key : ∀ (Q : State → Prop), (∀ (H : Heap) (locs : List Loc) (ls : Array Slot) (pc : Nat), decode cJ7_fill_d0a16 pc = .ok (.return_, 1) → va_P (dC, dI) vwCl [(a0, .inl (cJ, n_len, .inr (.inl v_row_o)))] H → va_D A [(a0, .inl (cJ, n_len, .inr (.inl v_row_o)))] → va_S A s.heap H locs → W p l e ({ frames := 0, cells := 0, slots := 0, locals := 0 } : Room) s m args below meth c H locs 0 0 Q (F0 m pc ls [])) → ∀ (H : Heap) (locs : List Loc) (ls : Array Slot), va_P (dC, dI) vwCl [(a0, .inl (cJ, n_len, .inr (.inl v_row)))] H → va_D A [(a0, .inl (cJ, n_len, .inr (.inl v_row)))] → va_S A s.heap H locs → lv_has ls 5 [(0, .ref a0), (1, .long x1)] → W p l e ({ frames := 0, cells := 0, slots := 0, locals := 0 } : Room) s m args below meth c H locs 0 0 Q (F0 m 0 ls []) := by
    intro Q hret H locs ls hP hD hS hl
    refine lv_iconst (v := 0) hx hb dJ7_fill_d0a16_0 (by decide) ?_
    refine lv_istore_n (lv' := [(3, .int (0 : Int32)), (0, .ref a0), (1, .long x1)]) hx hb dJ7_fill_d0a16_1 rfl hl (by decide) rfl (fun ls hl => ?_)
    refine lv_aload_n hx hb dJ7_fill_d0a16_2 rfl (lv_at hl 1 rfl) ?_
    refine va_alen hx hb hK hP 0 1 rfl rfl rfl dJ7_fill_d0a16_3 ?_
    obtain ⟨x4_1, ex4_1, hf⟩ := nm_el hf
    refine lv_as (congrArg Value.int ex4_1) ?_
    refine lv_istore (lv' := [(4, .int x4_1), (3, .int (0 : Int32)), (0, .ref a0), (1, .long x1)]) hx hb dJ7_fill_d0a16_4 hl (by decide) rfl (fun ls hl => ?_)
    have hL6 : ∀ (rr : Int32 × (Nat → Int64)), (∀ (z_6 : Int32) (z_7 : (Nat → Int64)), rr = (z_6, z_7) → ∀ (H : Heap) (locs : List Loc) (ls : Array Slot), va_P (dC, dI) vwCl [(a0, .inl (cJ, n_len, .inr (.inl z_7)))] H → va_D A [(a0, .inl (cJ, n_len, .inr (.inl z_7)))] → va_S A s.heap H locs → lv_has ls 5 [] → W p l e ({ frames := 0, cells := 0, slots := 0, locals := 0 } : Room) s m args below meth c H locs 0 0 Q (F0 m 22 ls [])) → ∀ (n : Nat) (i3_2 : Int32) (v_row_3 : (Nat → Int64)), loopN (p_J7_fill_d0a16_L6 n_len x1 x4_1) n (i3_2, v_row_3) = some rr → ∀ (H : Heap) (locs : List Loc) (ls : Array Slot), va_P (dC, dI) vwCl [(a0, .inl (cJ, n_len, .inr (.inl v_row_3)))] H → va_D A [(a0, .inl (cJ, n_len, .inr (.inl v_row_3)))] → va_S A s.heap H locs → lv_has ls 5 [(0, .ref a0), (1, .long x1), (3, .int i3_2), (4, .int x4_1)] → W p l e ({ frames := 0, cells := 0, slots := 0, locals := 0 } : Room) s m args below meth c H locs 0 0 Q (F0 m 6 ls []) := by
      intro rr hk6 n
      induction n with
      | zero => intro i3_2 v_row_3 hf; cases hf
      | succ n ih6 =>
        intro i3_2 v_row_3 hf H locs ls hP hD hS hl
        obtain ⟨o6, hf, hi, he⟩ := loopN_el hf
        refine lv_iload_n hx hb dJ7_fill_d0a16_6 rfl (lv_at hl 2 rfl) ?_
        refine lv_iload hx hb dJ7_fill_d0a16_7 (lv_at hl 3 rfl) ?_
        refine lv_icmp_ge (tgt := 22) hx hb dJ7_fill_d0a16_9 (by decide) (fun c4 => ?_) (fun c4 => ?_)
        · replace hf := it_t c4 hf
          exact hk6 _ _ (he _ (Option.some.inj hf).symm).symm H locs ls hP hD hS (lv_sub hl [] rfl)
        · replace hf := it_f c4 hf
          refine lv_aload_n hx hb dJ7_fill_d0a16_12 rfl (lv_at hl 0 rfl) ?_
          refine lv_iload_n hx hb dJ7_fill_d0a16_13 rfl (lv_at hl 2 rfl) ?_
          refine lv_lload_n hx hb dJ7_fill_d0a16_14 rfl (lv_at hl 1 rfl) ?_
          obtain ⟨h5, hf⟩ := gd_el hf
          refine la_st hx hb hK hP hD hS 0 1 rfl rfl (ib_in h5) (j := (tn i3_2)) rfl dJ7_fill_d0a16_15 (fun H locs hP hD hS => ?_)
          have hP : va_P (dC, dI) vwCl [(a0, .inl (cJ, n_len, .inr (.inl (vp_updL v_row_3 (tn i3_2) x1))))] H := hP
          have hD : va_D A [(a0, .inl (cJ, n_len, .inr (.inl (vp_updL v_row_3 (tn i3_2) x1))))] := hD
          refine lv_iinc (v := (i3_2 + (1 : Int32))) (lv' := [(3, .int (i3_2 + (1 : Int32))), (0, .ref a0), (1, .long x1), (4, .int x4_1)]) hx hb dJ7_fill_d0a16_16 hl (k := 2) rfl rfl (by decide) rfl (fun ls hl => ?_)
          refine lv_goto (tgt := 6) hx hb dJ7_fill_d0a16_19 (by decide) ?_
          exact ih6 (i3_2 + (1 : Int32)) (vp_updL v_row_3 (tn i3_2) x1) (hi _ (Option.some.inj hf).symm) H locs ls hP hD hS (lv_sub hl [1, 2, 0, 3] rfl)
    obtain ⟨f3_8, v_row_9, hq, hf⟩ := bd2_el hf
    refine hL6 (f3_8, v_row_9) (fun z_6 z_7 h9 H locs ls hP hD hS hl => ?_) fuel (0 : Int32) v_row hq H locs ls hP hD hS (lv_sub hl [2, 3, 1, 0] rfl)
    simp only [Prod.mk.injEq] at h9
    obtain ⟨h9_0, h9_1⟩ := h9
    subst h9_0; subst h9_1
    replace hf := Option.some.inj hf
    subst hf
    exact hret H locs ls _ dJ7_fill_d0a16_22 hP hD hS
  refine key _ ?_ _ _ _ hP hD hS hl
  intro H locs ls pc d hP hD hS
  exact W.vret hx hb hr (fun t ht hW => ⟨⟨rfl, by rw [ht]; exact hP, hD⟩, hS.F ht⟩) hS.2.2 d
def p_X4_beginsStanza (v_cells : (Nat → Int32)) (x1 : Int32) : Option (Int32) :=
  (gd (ib ((21 : Int32) + x1) 117) (if (v_cells (tn ((21 : Int32) + x1))) = (1 : Int32) then (some (1 : Int32)) else (some (0 : Int32))))
set_option maxHeartbeats 4000000 in
set_option maxRecDepth 100000 in
theorem c_X4_beginsStanza (l : Launch) (dC : Nat → ClassId) (dI : Nat → Nat → Nat) (cI cJ cP cS : ClassId) (a0 : Nat) (a1 : Nat) (v_cells : (Nat → Int32))  (x1 : Int32) (rv : Int32)  (hf : p_X4_beginsStanza v_cells x1 = some rv) : MC l (dC, dI) (tyl cI cJ cP cS) yX4_beginsStanza (Cond.code yX4_beginsStanza cX4_beginsStanza 2 (some .boolean) :: TBG) ({ frames := 0, cells := 0, slots := 0, locals := 0 } : Room) [.ref a0, .int x1] [(a0, .inr (4, [.ref a1])), (a1, .inl (cI, 117, .inl v_cells))] [(a0, .inr (4, [.ref a1])), (a1, .inl (cI, 117, .inl v_cells))] (some (.int rv)) := by
  intro sz
  unfold MPost
  refine Met.ofW (cc := cX4_beginsStanza) (maxL := 2) (ret := (some .boolean)) (by decide) rfl ?_
  intro p e s m args below meth c s₁ B hml hv
  obtain ⟨rfl, hsz, hP, hK, hD0, hF⟩ := hv
  have hx := B.exec
  have hb := B.bytes
  have hr := B.returns
  have hT : ∀ w ∈ TBG, w.before _ s = true := fun w h => atoms_spec B.pre w (List.mem_cons_of_mem _ h)
  have hown : s.vm.findClass RX4 = some m.cls := findClass_of_methodNamed B.named
  have hlocks := B.notSynchronized
  subst hsz
  have hD := hD0.self (sz := s.heap.size)
  generalize hAe : va_A [(a0, .inr (4, [.ref a1])), (a1, .inl (cI, 117, .inl v_cells))] s.heap.size = A at hD hF ⊢
  have hA : ∀ q : Nat, s.heap.size ≤ q → A q := fun q h => by rw [← hAe]; exact Or.inr h
  have hS : va_S A s.heap s.heap [] := va_S.rf
  have hl := lv_entry ([.ref a0, .int x1]) (n := 2) (Nat.le_of_ble_eq_true rfl)
  rw [lg_entry_eq]
  generalize (lg_sl ([.ref a0, .int x1]) ++ List.replicate (2 - (lg_sl ([.ref a0, .int x1])).length) Slot.unset).toArray = ls at hl ⊢
  have hl : lv_has ls 2 [(0, .ref a0), (1, .int x1)] := hl
  generalize ([.ref a0, .int x1] : List Value).toArray = args at hT ⊢
  have key : ∀ (Q : State → Prop), (∀ (H : Heap) (locs : List Loc) (ls : Array Slot) (pc : Nat), decode cX4_beginsStanza pc = .ok (.ireturn, 1) → narrow .boolean (.int rv) = .int rv → va_P (dC, dI) vwCl [(a0, .inr (4, [.ref a1])), (a1, .inl (cI, 117, .inl v_cells))] H → va_D A [(a0, .inr (4, [.ref a1])), (a1, .inl (cI, 117, .inl v_cells))] → va_S A s.heap H locs → W p l e ({ frames := 0, cells := 0, slots := 0, locals := 0 } : Room) s m args below meth c H locs 0 0 Q (F0 m pc ls [.int rv])) → ∀ (H : Heap) (locs : List Loc) (ls : Array Slot), va_P (dC, dI) vwCl [(a0, .inr (4, [.ref a1])), (a1, .inl (cI, 117, .inl v_cells))] H → va_D A [(a0, .inr (4, [.ref a1])), (a1, .inl (cI, 117, .inl v_cells))] → va_S A s.heap H locs → lv_has ls 2 [(0, .ref a0), (1, .int x1)] → W p l e ({ frames := 0, cells := 0, slots := 0, locals := 0 } : Room) s m args below meth c H locs 0 0 Q (F0 m 0 ls []) := by
    intro Q hret H locs ls hP hD hS hl
    refine lv_aload_n hx hb dX4_beginsStanza_0 rfl (lv_at hl 0 rfl) ?_
    refine va_get (D := (dC, dI)) (ci := 4) (v := .ref a1) (C := RX4) (T := TX4) (N := 1) hx hb hT in_X4 hown hK hP 0 rfl rfl 0 (by decide) (hT _ q_fl_X4_11) (fun _ h9 => h9) rfl dX4_beginsStanza_1 ?_
    refine lv_bipush (v := 21) hx hb dX4_beginsStanza_4 (by decide) ?_
    refine lv_iload_n hx hb dX4_beginsStanza_6 rfl (lv_at hl 1 rfl) ?_
    refine lv_iadd hx hb dX4_beginsStanza_7 ?_
    obtain ⟨h1, hf⟩ := gd_el hf
    refine ia_ld hx hb hK hP 1 0 rfl rfl (ib_in h1) (j := (tn ((21 : Int32) + x1))) rfl dX4_beginsStanza_8 ?_
    refine lv_iconst (v := 1) hx hb dX4_beginsStanza_9 (by decide) ?_
    refine lv_icmp_ne (tgt := 17) hx hb dX4_beginsStanza_10 (by decide) (fun c2 => ?_) (fun c2 => ?_)
    · replace hf := it_f c2 hf
      refine lv_iconst (v := 0) hx hb dX4_beginsStanza_17 (by decide) ?_
      replace hf := Option.some.inj hf
      subst hf
      exact hret H locs ls _ dX4_beginsStanza_18 rfl hP hD hS
    · replace hf := it_t c2 hf
      refine lv_iconst (v := 1) hx hb dX4_beginsStanza_13 (by decide) ?_
      refine lv_goto (tgt := 18) hx hb dX4_beginsStanza_14 (by decide) ?_
      replace hf := Option.some.inj hf
      subst hf
      exact hret H locs ls _ dX4_beginsStanza_18 rfl hP hD hS
  refine key _ ?_ _ _ _ hP hD hS hl
  intro H locs ls pc d hz hP hD hS
  exact W.zret (v := rv) hx hb hr hz (fun t ht hW => ⟨⟨rfl, by rw [ht]; exact hP, hD⟩, hS.F ht⟩) hS.2.2 d
def p_X4_lines (v_cells : (Nat → Int32)) : Option (Int32) :=
  (some (v_cells 8))
set_option maxHeartbeats 4000000 in
set_option maxRecDepth 100000 in
theorem c_X4_lines (l : Launch) (dC : Nat → ClassId) (dI : Nat → Nat → Nat) (cI cJ cP cS : ClassId) (a0 : Nat) (a1 : Nat) (v_cells : (Nat → Int32))   (rv : Int32)  (hf : p_X4_lines v_cells = some rv) : MC l (dC, dI) (tyl cI cJ cP cS) yX4_lines (Cond.code yX4_lines cX4_lines 1 (some .int) :: TBG) ({ frames := 0, cells := 0, slots := 0, locals := 0 } : Room) [.ref a0] [(a0, .inr (4, [.ref a1])), (a1, .inl (cI, 117, .inl v_cells))] [(a0, .inr (4, [.ref a1])), (a1, .inl (cI, 117, .inl v_cells))] (some (.int rv)) := by
  intro sz
  unfold MPost
  refine Met.ofW (cc := cX4_lines) (maxL := 1) (ret := (some .int)) (by decide) rfl ?_
  intro p e s m args below meth c s₁ B hml hv
  obtain ⟨rfl, hsz, hP, hK, hD0, hF⟩ := hv
  have hx := B.exec
  have hb := B.bytes
  have hr := B.returns
  have hT : ∀ w ∈ TBG, w.before _ s = true := fun w h => atoms_spec B.pre w (List.mem_cons_of_mem _ h)
  have hown : s.vm.findClass RX4 = some m.cls := findClass_of_methodNamed B.named
  have hlocks := B.notSynchronized
  subst hsz
  have hD := hD0.self (sz := s.heap.size)
  generalize hAe : va_A [(a0, .inr (4, [.ref a1])), (a1, .inl (cI, 117, .inl v_cells))] s.heap.size = A at hD hF ⊢
  have hA : ∀ q : Nat, s.heap.size ≤ q → A q := fun q h => by rw [← hAe]; exact Or.inr h
  have hS : va_S A s.heap s.heap [] := va_S.rf
  have hl := lv_entry ([.ref a0]) (n := 1) (Nat.le_of_ble_eq_true rfl)
  rw [lg_entry_eq]
  generalize (lg_sl ([.ref a0]) ++ List.replicate (1 - (lg_sl ([.ref a0])).length) Slot.unset).toArray = ls at hl ⊢
  have hl : lv_has ls 1 [(0, .ref a0)] := hl
  generalize ([.ref a0] : List Value).toArray = args at hT ⊢
  have key : ∀ (Q : State → Prop), (∀ (H : Heap) (locs : List Loc) (ls : Array Slot) (pc : Nat), decode cX4_lines pc = .ok (.ireturn, 1) → va_P (dC, dI) vwCl [(a0, .inr (4, [.ref a1])), (a1, .inl (cI, 117, .inl v_cells))] H → va_D A [(a0, .inr (4, [.ref a1])), (a1, .inl (cI, 117, .inl v_cells))] → va_S A s.heap H locs → W p l e ({ frames := 0, cells := 0, slots := 0, locals := 0 } : Room) s m args below meth c H locs 0 0 Q (F0 m pc ls [.int rv])) → ∀ (H : Heap) (locs : List Loc) (ls : Array Slot), va_P (dC, dI) vwCl [(a0, .inr (4, [.ref a1])), (a1, .inl (cI, 117, .inl v_cells))] H → va_D A [(a0, .inr (4, [.ref a1])), (a1, .inl (cI, 117, .inl v_cells))] → va_S A s.heap H locs → lv_has ls 1 [(0, .ref a0)] → W p l e ({ frames := 0, cells := 0, slots := 0, locals := 0 } : Room) s m args below meth c H locs 0 0 Q (F0 m 0 ls []) := by
    intro Q hret H locs ls hP hD hS hl
    refine lv_aload_n hx hb dX4_lines_0 rfl (lv_at hl 0 rfl) ?_
    refine va_get (D := (dC, dI)) (ci := 4) (v := .ref a1) (C := RX4) (T := TX4) (N := 1) hx hb hT in_X4 hown hK hP 0 rfl rfl 0 (by decide) (hT _ q_fl_X4_11) (fun _ h9 => h9) rfl dX4_lines_1 ?_
    refine lv_bipush (v := 8) hx hb dX4_lines_4 (by decide) ?_
    refine ia_ld hx hb hK hP 1 0 rfl rfl (ib_in (by decide)) (j := 8) (by decide) dX4_lines_6 ?_
    replace hf := Option.some.inj hf
    subst hf
    exact hret H locs ls _ dX4_lines_7 hP hD hS
  refine key _ ?_ _ _ _ hP hD hS hl
  intro H locs ls pc d hP hD hS
  exact W.iret (v := rv) hx hb hr (fun t ht hW => ⟨⟨rfl, by rw [ht]; exact hP, hD⟩, hS.F ht⟩) hS.2.2 d
def p_X4_stanzaEnd_L4 (v_cells : (Nat → Int32)) (i2_2 : Int32) : Option ((Int32) ⊕ (Int32)) :=
  (if (v_cells 8) ≤ i2_2 then (some (.inr i2_2)) else (gd (ib ((21 : Int32) + i2_2) 117) (if (v_cells (tn ((21 : Int32) + i2_2))) = (0 : Int32) then (some (.inl (i2_2 + (1 : Int32)))) else (some (.inr i2_2)))))
def p_X4_stanzaEnd (v_cells : (Nat → Int32)) (x1 : Int32) : Option (Int32) :=
  (nm (x1 + (1 : Int32)) fun x2_1 => (bd1 (loopN (p_X4_stanzaEnd_L4 v_cells) fuel x2_1) fun f2_7 => (some f2_7)))
set_option maxHeartbeats 4000000 in
set_option maxRecDepth 100000 in
theorem c_X4_stanzaEnd (l : Launch) (dC : Nat → ClassId) (dI : Nat → Nat → Nat) (cI cJ cP cS : ClassId) (a0 : Nat) (a1 : Nat) (v_cells : (Nat → Int32))  (x1 : Int32) (rv : Int32)  (hf : p_X4_stanzaEnd v_cells x1 = some rv) : MC l (dC, dI) (tyl cI cJ cP cS) yX4_stanzaEnd (Cond.code yX4_stanzaEnd cX4_stanzaEnd 3 (some .int) :: TBG) ({ frames := 0, cells := 0, slots := 0, locals := 0 } : Room) [.ref a0, .int x1] [(a0, .inr (4, [.ref a1])), (a1, .inl (cI, 117, .inl v_cells))] [(a0, .inr (4, [.ref a1])), (a1, .inl (cI, 117, .inl v_cells))] (some (.int rv)) := by
  intro sz
  unfold MPost
  refine Met.ofW (cc := cX4_stanzaEnd) (maxL := 3) (ret := (some .int)) (by decide) rfl ?_
  intro p e s m args below meth c s₁ B hml hv
  obtain ⟨rfl, hsz, hP, hK, hD0, hF⟩ := hv
  have hx := B.exec
  have hb := B.bytes
  have hr := B.returns
  have hT : ∀ w ∈ TBG, w.before _ s = true := fun w h => atoms_spec B.pre w (List.mem_cons_of_mem _ h)
  have hown : s.vm.findClass RX4 = some m.cls := findClass_of_methodNamed B.named
  have hlocks := B.notSynchronized
  subst hsz
  have hD := hD0.self (sz := s.heap.size)
  generalize hAe : va_A [(a0, .inr (4, [.ref a1])), (a1, .inl (cI, 117, .inl v_cells))] s.heap.size = A at hD hF ⊢
  have hA : ∀ q : Nat, s.heap.size ≤ q → A q := fun q h => by rw [← hAe]; exact Or.inr h
  have hS : va_S A s.heap s.heap [] := va_S.rf
  have hl := lv_entry ([.ref a0, .int x1]) (n := 3) (Nat.le_of_ble_eq_true rfl)
  rw [lg_entry_eq]
  generalize (lg_sl ([.ref a0, .int x1]) ++ List.replicate (3 - (lg_sl ([.ref a0, .int x1])).length) Slot.unset).toArray = ls at hl ⊢
  have hl : lv_has ls 3 [(0, .ref a0), (1, .int x1)] := hl
  generalize ([.ref a0, .int x1] : List Value).toArray = args at hT ⊢
  have key : ∀ (Q : State → Prop), (∀ (H : Heap) (locs : List Loc) (ls : Array Slot) (pc : Nat), decode cX4_stanzaEnd pc = .ok (.ireturn, 1) → va_P (dC, dI) vwCl [(a0, .inr (4, [.ref a1])), (a1, .inl (cI, 117, .inl v_cells))] H → va_D A [(a0, .inr (4, [.ref a1])), (a1, .inl (cI, 117, .inl v_cells))] → va_S A s.heap H locs → W p l e ({ frames := 0, cells := 0, slots := 0, locals := 0 } : Room) s m args below meth c H locs 0 0 Q (F0 m pc ls [.int rv])) → ∀ (H : Heap) (locs : List Loc) (ls : Array Slot), va_P (dC, dI) vwCl [(a0, .inr (4, [.ref a1])), (a1, .inl (cI, 117, .inl v_cells))] H → va_D A [(a0, .inr (4, [.ref a1])), (a1, .inl (cI, 117, .inl v_cells))] → va_S A s.heap H locs → lv_has ls 3 [(0, .ref a0), (1, .int x1)] → W p l e ({ frames := 0, cells := 0, slots := 0, locals := 0 } : Room) s m args below meth c H locs 0 0 Q (F0 m 0 ls []) := by
    intro Q hret H locs ls hP hD hS hl
    refine lv_iload_n hx hb dX4_stanzaEnd_0 rfl (lv_at hl 1 rfl) ?_
    refine lv_iconst (v := 1) hx hb dX4_stanzaEnd_1 (by decide) ?_
    refine lv_iadd hx hb dX4_stanzaEnd_2 ?_
    obtain ⟨x2_1, ex2_1, hf⟩ := nm_el hf
    refine lv_as (congrArg Value.int ex2_1) ?_
    refine lv_istore_n (lv' := [(2, .int x2_1), (0, .ref a0), (1, .int x1)]) hx hb dX4_stanzaEnd_3 rfl hl (by decide) rfl (fun ls hl => ?_)
    have hL4 : ∀ (rr : Int32), (∀ (z_6 : Int32), rr = z_6 → ∀ (H : Heap) (locs : List Loc) (ls : Array Slot), va_P (dC, dI) vwCl [(a0, .inr (4, [.ref a1])), (a1, .inl (cI, 117, .inl v_cells))] H → va_D A [(a0, .inr (4, [.ref a1])), (a1, .inl (cI, 117, .inl v_cells))] → va_S A s.heap H locs → lv_has ls 3 [(2, .int z_6)] → W p l e ({ frames := 0, cells := 0, slots := 0, locals := 0 } : Room) s m args below meth c H locs 0 0 Q (F0 m 33 ls [])) → ∀ (n : Nat) (i2_2 : Int32), loopN (p_X4_stanzaEnd_L4 v_cells) n i2_2 = some rr → ∀ (H : Heap) (locs : List Loc) (ls : Array Slot), va_P (dC, dI) vwCl [(a0, .inr (4, [.ref a1])), (a1, .inl (cI, 117, .inl v_cells))] H → va_D A [(a0, .inr (4, [.ref a1])), (a1, .inl (cI, 117, .inl v_cells))] → va_S A s.heap H locs → lv_has ls 3 [(0, .ref a0), (2, .int i2_2)] → W p l e ({ frames := 0, cells := 0, slots := 0, locals := 0 } : Room) s m args below meth c H locs 0 0 Q (F0 m 4 ls []) := by
      intro rr hk4 n
      induction n with
      | zero => intro i2_2 hf; cases hf
      | succ n ih4 =>
        intro i2_2 hf H locs ls hP hD hS hl
        obtain ⟨o4, hf, hi, he⟩ := loopN_el hf
        refine lv_iload_n hx hb dX4_stanzaEnd_4 rfl (lv_at hl 1 rfl) ?_
        refine lv_aload_n hx hb dX4_stanzaEnd_5 rfl (lv_at hl 0 rfl) ?_
        refine va_get (D := (dC, dI)) (ci := 4) (v := .ref a1) (C := RX4) (T := TX4) (N := 1) hx hb hT in_X4 hown hK hP 0 rfl rfl 0 (by decide) (hT _ q_fl_X4_11) (fun _ h9 => h9) rfl dX4_stanzaEnd_6 ?_
        refine lv_bipush (v := 8) hx hb dX4_stanzaEnd_9 (by decide) ?_
        refine ia_ld hx hb hK hP 1 0 rfl rfl (ib_in (by decide)) (j := 8) (by decide) dX4_stanzaEnd_11 ?_
        refine lv_icmp_ge (tgt := 33) hx hb dX4_stanzaEnd_12 (by decide) (fun c3 => ?_) (fun c3 => ?_)
        · replace hf := it_t c3 hf
          exact hk4 _ (he _ (Option.some.inj hf).symm).symm H locs ls hP hD hS (lv_sub hl [1] rfl)
        · replace hf := it_f c3 hf
          refine lv_aload_n hx hb dX4_stanzaEnd_15 rfl (lv_at hl 0 rfl) ?_
          refine va_get (D := (dC, dI)) (ci := 4) (v := .ref a1) (C := RX4) (T := TX4) (N := 1) hx hb hT in_X4 hown hK hP 0 rfl rfl 0 (by decide) (hT _ q_fl_X4_11) (fun _ h9 => h9) rfl dX4_stanzaEnd_16 ?_
          refine lv_bipush (v := 21) hx hb dX4_stanzaEnd_19 (by decide) ?_
          refine lv_iload_n hx hb dX4_stanzaEnd_21 rfl (lv_at hl 1 rfl) ?_
          refine lv_iadd hx hb dX4_stanzaEnd_22 ?_
          obtain ⟨h4, hf⟩ := gd_el hf
          refine ia_ld hx hb hK hP 1 0 rfl rfl (ib_in h4) (j := (tn ((21 : Int32) + i2_2))) rfl dX4_stanzaEnd_23 ?_
          refine lv_if_ne (tgt := 33) hx hb dX4_stanzaEnd_24 (by decide) (fun c5 => ?_) (fun c5 => ?_)
          · replace hf := it_f c5 hf
            exact hk4 _ (he _ (Option.some.inj hf).symm).symm H locs ls hP hD hS (lv_sub hl [1] rfl)
          · replace hf := it_t c5 hf
            refine lv_iinc (v := (i2_2 + (1 : Int32))) (lv' := [(2, .int (i2_2 + (1 : Int32))), (0, .ref a0)]) hx hb dX4_stanzaEnd_27 hl (k := 1) rfl rfl (by decide) rfl (fun ls hl => ?_)
            refine lv_goto (tgt := 4) hx hb dX4_stanzaEnd_30 (by decide) ?_
            exact ih4 (i2_2 + (1 : Int32)) (hi _ (Option.some.inj hf).symm) H locs ls hP hD hS (lv_sub hl [1, 0] rfl)
    obtain ⟨f2_7, hq, hf⟩ := bd1_el hf
    refine hL4 f2_7 (fun z_6 h9 H locs ls hP hD hS hl => ?_) fuel x2_1 hq H locs ls hP hD hS (lv_sub hl [1, 0] rfl)
    subst h9
    refine lv_iload_n hx hb dX4_stanzaEnd_33 rfl (lv_at hl 0 rfl) ?_
    replace hf := Option.some.inj hf
    subst hf
    exact hret H locs ls _ dX4_stanzaEnd_34 hP hD hS
  refine key _ ?_ _ _ _ hP hD hS hl
  intro H locs ls pc d hP hD hS
  exact W.iret (v := rv) hx hb hr (fun t ht hW => ⟨⟨rfl, by rw [ht]; exact hP, hD⟩, hS.F ht⟩) hS.2.2 d
def p_X4_isInsideStanza (v_cells : (Nat → Int32)) (x1 : Int32) : Option (Int32) :=
  (if (v_cells 8) ≤ x1 then (some (0 : Int32)) else (gd (ib ((21 : Int32) + x1) 117) (if (v_cells (tn ((21 : Int32) + x1))) = (0 : Int32) then (some (1 : Int32)) else (some (0 : Int32)))))
set_option maxHeartbeats 4000000 in
set_option maxRecDepth 100000 in
theorem c_X4_isInsideStanza (l : Launch) (dC : Nat → ClassId) (dI : Nat → Nat → Nat) (cI cJ cP cS : ClassId) (a0 : Nat) (a1 : Nat) (v_cells : (Nat → Int32))  (x1 : Int32) (rv : Int32)  (hf : p_X4_isInsideStanza v_cells x1 = some rv) : MC l (dC, dI) (tyl cI cJ cP cS) yX4_isInsideStanza (Cond.code yX4_isInsideStanza cX4_isInsideStanza 2 (some .boolean) :: TBG) ({ frames := 0, cells := 0, slots := 0, locals := 0 } : Room) [.ref a0, .int x1] [(a0, .inr (4, [.ref a1])), (a1, .inl (cI, 117, .inl v_cells))] [(a0, .inr (4, [.ref a1])), (a1, .inl (cI, 117, .inl v_cells))] (some (.int rv)) := by
  intro sz
  unfold MPost
  refine Met.ofW (cc := cX4_isInsideStanza) (maxL := 2) (ret := (some .boolean)) (by decide) rfl ?_
  intro p e s m args below meth c s₁ B hml hv
  obtain ⟨rfl, hsz, hP, hK, hD0, hF⟩ := hv
  have hx := B.exec
  have hb := B.bytes
  have hr := B.returns
  have hT : ∀ w ∈ TBG, w.before _ s = true := fun w h => atoms_spec B.pre w (List.mem_cons_of_mem _ h)
  have hown : s.vm.findClass RX4 = some m.cls := findClass_of_methodNamed B.named
  have hlocks := B.notSynchronized
  subst hsz
  have hD := hD0.self (sz := s.heap.size)
  generalize hAe : va_A [(a0, .inr (4, [.ref a1])), (a1, .inl (cI, 117, .inl v_cells))] s.heap.size = A at hD hF ⊢
  have hA : ∀ q : Nat, s.heap.size ≤ q → A q := fun q h => by rw [← hAe]; exact Or.inr h
  have hS : va_S A s.heap s.heap [] := va_S.rf
  have hl := lv_entry ([.ref a0, .int x1]) (n := 2) (Nat.le_of_ble_eq_true rfl)
  rw [lg_entry_eq]
  generalize (lg_sl ([.ref a0, .int x1]) ++ List.replicate (2 - (lg_sl ([.ref a0, .int x1])).length) Slot.unset).toArray = ls at hl ⊢
  have hl : lv_has ls 2 [(0, .ref a0), (1, .int x1)] := hl
  generalize ([.ref a0, .int x1] : List Value).toArray = args at hT ⊢
  have key : ∀ (Q : State → Prop), (∀ (H : Heap) (locs : List Loc) (ls : Array Slot) (pc : Nat), decode cX4_isInsideStanza pc = .ok (.ireturn, 1) → narrow .boolean (.int rv) = .int rv → va_P (dC, dI) vwCl [(a0, .inr (4, [.ref a1])), (a1, .inl (cI, 117, .inl v_cells))] H → va_D A [(a0, .inr (4, [.ref a1])), (a1, .inl (cI, 117, .inl v_cells))] → va_S A s.heap H locs → W p l e ({ frames := 0, cells := 0, slots := 0, locals := 0 } : Room) s m args below meth c H locs 0 0 Q (F0 m pc ls [.int rv])) → ∀ (H : Heap) (locs : List Loc) (ls : Array Slot), va_P (dC, dI) vwCl [(a0, .inr (4, [.ref a1])), (a1, .inl (cI, 117, .inl v_cells))] H → va_D A [(a0, .inr (4, [.ref a1])), (a1, .inl (cI, 117, .inl v_cells))] → va_S A s.heap H locs → lv_has ls 2 [(0, .ref a0), (1, .int x1)] → W p l e ({ frames := 0, cells := 0, slots := 0, locals := 0 } : Room) s m args below meth c H locs 0 0 Q (F0 m 0 ls []) := by
    intro Q hret H locs ls hP hD hS hl
    refine lv_iload_n hx hb dX4_isInsideStanza_0 rfl (lv_at hl 1 rfl) ?_
    refine lv_aload_n hx hb dX4_isInsideStanza_1 rfl (lv_at hl 0 rfl) ?_
    refine va_get (D := (dC, dI)) (ci := 4) (v := .ref a1) (C := RX4) (T := TX4) (N := 1) hx hb hT in_X4 hown hK hP 0 rfl rfl 0 (by decide) (hT _ q_fl_X4_11) (fun _ h9 => h9) rfl dX4_isInsideStanza_2 ?_
    refine lv_bipush (v := 8) hx hb dX4_isInsideStanza_5 (by decide) ?_
    refine ia_ld hx hb hK hP 1 0 rfl rfl (ib_in (by decide)) (j := 8) (by decide) dX4_isInsideStanza_7 ?_
    refine lv_icmp_ge (tgt := 27) hx hb dX4_isInsideStanza_8 (by decide) (fun c1 => ?_) (fun c1 => ?_)
    · replace hf := it_t c1 hf
      refine lv_iconst (v := 0) hx hb dX4_isInsideStanza_27 (by decide) ?_
      replace hf := Option.some.inj hf
      subst hf
      exact hret H locs ls _ dX4_isInsideStanza_28 rfl hP hD hS
    · replace hf := it_f c1 hf
      refine lv_aload_n hx hb dX4_isInsideStanza_11 rfl (lv_at hl 0 rfl) ?_
      refine va_get (D := (dC, dI)) (ci := 4) (v := .ref a1) (C := RX4) (T := TX4) (N := 1) hx hb hT in_X4 hown hK hP 0 rfl rfl 0 (by decide) (hT _ q_fl_X4_11) (fun _ h9 => h9) rfl dX4_isInsideStanza_12 ?_
      refine lv_bipush (v := 21) hx hb dX4_isInsideStanza_15 (by decide) ?_
      refine lv_iload_n hx hb dX4_isInsideStanza_17 rfl (lv_at hl 1 rfl) ?_
      refine lv_iadd hx hb dX4_isInsideStanza_18 ?_
      obtain ⟨h2, hf⟩ := gd_el hf
      refine ia_ld hx hb hK hP 1 0 rfl rfl (ib_in h2) (j := (tn ((21 : Int32) + x1))) rfl dX4_isInsideStanza_19 ?_
      refine lv_if_ne (tgt := 27) hx hb dX4_isInsideStanza_20 (by decide) (fun c3 => ?_) (fun c3 => ?_)
      · replace hf := it_f c3 hf
        refine lv_iconst (v := 0) hx hb dX4_isInsideStanza_27 (by decide) ?_
        replace hf := Option.some.inj hf
        subst hf
        exact hret H locs ls _ dX4_isInsideStanza_28 rfl hP hD hS
      · replace hf := it_t c3 hf
        refine lv_iconst (v := 1) hx hb dX4_isInsideStanza_23 (by decide) ?_
        refine lv_goto (tgt := 28) hx hb dX4_isInsideStanza_24 (by decide) ?_
        replace hf := Option.some.inj hf
        subst hf
        exact hret H locs ls _ dX4_isInsideStanza_28 rfl hP hD hS
  refine key _ ?_ _ _ _ hP hD hS hl
  intro H locs ls pc d hz hP hD hS
  exact W.zret (v := rv) hx hb hr hz (fun t ht hW => ⟨⟨rfl, by rw [ht]; exact hP, hD⟩, hS.F ht⟩) hS.2.2 d
def p_X4_takeLines (v_cells : (Nat → Int32)) (v_cellsq1 : (Nat → Int32)) : Option ((Nat → Int32)) :=
  (gd (cpok (8 : Int32) (8 : Int32) (109 : Int32) 117 117) (some (va_cpy v_cellsq1 v_cells (tn (8 : Int32)) (tn (8 : Int32)) (tn (109 : Int32)))))
set_option maxHeartbeats 4000000 in
set_option maxRecDepth 100000 in
theorem c_X4_takeLines (l : Launch) (dC : Nat → ClassId) (dI : Nat → Nat → Nat) (cI cJ cP cS : ClassId) (a0 : Nat) (a1 : Nat) (a2 : Nat) (a3 : Nat) (v_cells : (Nat → Int32)) (v_cellsq1 : (Nat → Int32))    (v_cells_o : (Nat → Int32)) (hf : p_X4_takeLines v_cells v_cellsq1 = some v_cells_o) : MC l (dC, dI) (tyl cI cJ cP cS) yX4_takeLines (Cond.code yX4_takeLines cX4_takeLines 2 none :: TBG) ({ frames := 1, cells := 0, slots := 0, locals := 40 } : Room) [.ref a0, .ref a2] [(a0, .inr (4, [.ref a1])), (a1, .inl (cI, 117, .inl v_cells)), (a2, .inr (4, [.ref a3])), (a3, .inl (cI, 117, .inl v_cellsq1))] [(a0, .inr (4, [.ref a1])), (a1, .inl (cI, 117, .inl v_cells_o)), (a2, .inr (4, [.ref a3])), (a3, .inl (cI, 117, .inl v_cellsq1))] none := by
  intro sz
  unfold MPost
  refine Met.ofW (cc := cX4_takeLines) (maxL := 2) (ret := none) (by decide) rfl ?_
  intro p e s m args below meth c s₁ B hml hv
  obtain ⟨rfl, hsz, hP, hK, hD0, hF⟩ := hv
  have hx := B.exec
  have hb := B.bytes
  have hr := B.returns
  have hT : ∀ w ∈ TBG, w.before _ s = true := fun w h => atoms_spec B.pre w (List.mem_cons_of_mem _ h)
  have hown : s.vm.findClass RX4 = some m.cls := findClass_of_methodNamed B.named
  have hlocks := B.notSynchronized
  subst hsz
  have hD := hD0.self (sz := s.heap.size)
  generalize hAe : va_A [(a0, .inr (4, [.ref a1])), (a1, .inl (cI, 117, .inl v_cells)), (a2, .inr (4, [.ref a3])), (a3, .inl (cI, 117, .inl v_cellsq1))] s.heap.size = A at hD hF ⊢
  have hA : ∀ q : Nat, s.heap.size ≤ q → A q := fun q h => by rw [← hAe]; exact Or.inr h
  have hS : va_S A s.heap s.heap [] := va_S.rf
  have hl := lv_entry ([.ref a0, .ref a2]) (n := 2) (Nat.le_of_ble_eq_true rfl)
  rw [lg_entry_eq]
  generalize (lg_sl ([.ref a0, .ref a2]) ++ List.replicate (2 - (lg_sl ([.ref a0, .ref a2])).length) Slot.unset).toArray = ls at hl ⊢
  have hl : lv_has ls 2 [(0, .ref a0), (1, .ref a2)] := hl
  generalize ([.ref a0, .ref a2] : List Value).toArray = args at hT ⊢
  have key : ∀ (Q : State → Prop), (∀ (H : Heap) (locs : List Loc) (ls : Array Slot) (pc : Nat), decode cX4_takeLines pc = .ok (.return_, 1) → va_P (dC, dI) vwCl [(a0, .inr (4, [.ref a1])), (a1, .inl (cI, 117, .inl v_cells_o)), (a2, .inr (4, [.ref a3])), (a3, .inl (cI, 117, .inl v_cellsq1))] H → va_D A [(a0, .inr (4, [.ref a1])), (a1, .inl (cI, 117, .inl v_cells_o)), (a2, .inr (4, [.ref a3])), (a3, .inl (cI, 117, .inl v_cellsq1))] → va_S A s.heap H locs → W p l e ({ frames := 1, cells := 0, slots := 0, locals := 40 } : Room) s m args below meth c H locs 0 0 Q (F0 m pc ls [])) → ∀ (H : Heap) (locs : List Loc) (ls : Array Slot), va_P (dC, dI) vwCl [(a0, .inr (4, [.ref a1])), (a1, .inl (cI, 117, .inl v_cells)), (a2, .inr (4, [.ref a3])), (a3, .inl (cI, 117, .inl v_cellsq1))] H → va_D A [(a0, .inr (4, [.ref a1])), (a1, .inl (cI, 117, .inl v_cells)), (a2, .inr (4, [.ref a3])), (a3, .inl (cI, 117, .inl v_cellsq1))] → va_S A s.heap H locs → lv_has ls 2 [(0, .ref a0), (1, .ref a2)] → W p l e ({ frames := 1, cells := 0, slots := 0, locals := 40 } : Room) s m args below meth c H locs 0 0 Q (F0 m 0 ls []) := by
    intro Q hret H locs ls hP hD hS hl
    refine lv_aload_n hx hb dX4_takeLines_0 rfl (lv_at hl 1 rfl) ?_
    refine va_get (D := (dC, dI)) (ci := 4) (v := .ref a3) (C := RX4) (T := TX4) (N := 1) hx hb hT in_X4 hown hK hP 2 rfl rfl 0 (by decide) (hT _ q_fl_X4_11) (fun _ h9 => h9) rfl dX4_takeLines_1 ?_
    refine lv_bipush (v := 8) hx hb dX4_takeLines_4 (by decide) ?_
    refine lv_aload_n hx hb dX4_takeLines_6 rfl (lv_at hl 0 rfl) ?_
    refine va_get (D := (dC, dI)) (ci := 4) (v := .ref a1) (C := RX4) (T := TX4) (N := 1) hx hb hT in_X4 hown hK hP 0 rfl rfl 0 (by decide) (hT _ q_fl_X4_11) (fun _ h9 => h9) rfl dX4_takeLines_7 ?_
    refine lv_bipush (v := 8) hx hb dX4_takeLines_10 (by decide) ?_
    refine lv_bipush (v := 109) hx hb dX4_takeLines_12 (by decide) ?_
    obtain ⟨h1, hf⟩ := gd_el hf
    have kh1 := cpok_el h1
    refine va_copyi hx hb (hml.trans hl.1.symm) hown (hT _ q_ml_X4_18) (hT _ q_na_System_arraycopy) (hT _ q_st_System_arraycopy) (hT _ q_in_J10) hK hP hD hS 3 1 0 0 rfl rfl rfl rfl rfl kh1.1 kh1.2.1 kh1.2.2.1 kh1.2.2.2.1 kh1.2.2.2.2 (fun _ _ => rfl) (Nat.le_of_ble_eq_true rfl) (Nat.le_of_ble_eq_true rfl) dX4_takeLines_14 (fun H locs hP hD hS => ?_)
    have hP : va_P (dC, dI) vwCl [(a0, .inr (4, [.ref a1])), (a1, .inl (cI, 117, .inl (va_cpy v_cellsq1 v_cells (tn (8 : Int32)) (tn (8 : Int32)) (tn (109 : Int32))))), (a2, .inr (4, [.ref a3])), (a3, .inl (cI, 117, .inl v_cellsq1))] H := hP
    have hD : va_D A [(a0, .inr (4, [.ref a1])), (a1, .inl (cI, 117, .inl (va_cpy v_cellsq1 v_cells (tn (8 : Int32)) (tn (8 : Int32)) (tn (109 : Int32))))), (a2, .inr (4, [.ref a3])), (a3, .inl (cI, 117, .inl v_cellsq1))] := hD
    replace hf := Option.some.inj hf
    subst hf
    exact hret H locs ls _ dX4_takeLines_17 hP hD hS
  refine key _ ?_ _ _ _ hP hD hS hl
  intro H locs ls pc d hP hD hS
  exact W.vret hx hb hr (fun t ht hW => ⟨⟨rfl, by rw [ht]; exact hP, hD⟩, hS.F ht⟩) hS.2.2 d
def p_X4_removeAllLines (v_cells : (Nat → Int32)) : Option ((Nat → Int32)) :=
  (some (upd v_cells 8 (0 : Int32)))
set_option maxHeartbeats 4000000 in
set_option maxRecDepth 100000 in
theorem c_X4_removeAllLines (l : Launch) (dC : Nat → ClassId) (dI : Nat → Nat → Nat) (cI cJ cP cS : ClassId) (a0 : Nat) (a1 : Nat) (v_cells : (Nat → Int32))    (v_cells_o : (Nat → Int32)) (hf : p_X4_removeAllLines v_cells = some v_cells_o) : MC l (dC, dI) (tyl cI cJ cP cS) yX4_removeAllLines (Cond.code yX4_removeAllLines cX4_removeAllLines 1 none :: TBG) ({ frames := 0, cells := 0, slots := 0, locals := 0 } : Room) [.ref a0] [(a0, .inr (4, [.ref a1])), (a1, .inl (cI, 117, .inl v_cells))] [(a0, .inr (4, [.ref a1])), (a1, .inl (cI, 117, .inl v_cells_o))] none := by
  intro sz
  unfold MPost
  refine Met.ofW (cc := cX4_removeAllLines) (maxL := 1) (ret := none) (by decide) rfl ?_
  intro p e s m args below meth c s₁ B hml hv
  obtain ⟨rfl, hsz, hP, hK, hD0, hF⟩ := hv
  have hx := B.exec
  have hb := B.bytes
  have hr := B.returns
  have hT : ∀ w ∈ TBG, w.before _ s = true := fun w h => atoms_spec B.pre w (List.mem_cons_of_mem _ h)
  have hown : s.vm.findClass RX4 = some m.cls := findClass_of_methodNamed B.named
  have hlocks := B.notSynchronized
  subst hsz
  have hD := hD0.self (sz := s.heap.size)
  generalize hAe : va_A [(a0, .inr (4, [.ref a1])), (a1, .inl (cI, 117, .inl v_cells))] s.heap.size = A at hD hF ⊢
  have hA : ∀ q : Nat, s.heap.size ≤ q → A q := fun q h => by rw [← hAe]; exact Or.inr h
  have hS : va_S A s.heap s.heap [] := va_S.rf
  have hl := lv_entry ([.ref a0]) (n := 1) (Nat.le_of_ble_eq_true rfl)
  rw [lg_entry_eq]
  generalize (lg_sl ([.ref a0]) ++ List.replicate (1 - (lg_sl ([.ref a0])).length) Slot.unset).toArray = ls at hl ⊢
  have hl : lv_has ls 1 [(0, .ref a0)] := hl
  generalize ([.ref a0] : List Value).toArray = args at hT ⊢
  have key : ∀ (Q : State → Prop), (∀ (H : Heap) (locs : List Loc) (ls : Array Slot) (pc : Nat), decode cX4_removeAllLines pc = .ok (.return_, 1) → va_P (dC, dI) vwCl [(a0, .inr (4, [.ref a1])), (a1, .inl (cI, 117, .inl v_cells_o))] H → va_D A [(a0, .inr (4, [.ref a1])), (a1, .inl (cI, 117, .inl v_cells_o))] → va_S A s.heap H locs → W p l e ({ frames := 0, cells := 0, slots := 0, locals := 0 } : Room) s m args below meth c H locs 0 0 Q (F0 m pc ls [])) → ∀ (H : Heap) (locs : List Loc) (ls : Array Slot), va_P (dC, dI) vwCl [(a0, .inr (4, [.ref a1])), (a1, .inl (cI, 117, .inl v_cells))] H → va_D A [(a0, .inr (4, [.ref a1])), (a1, .inl (cI, 117, .inl v_cells))] → va_S A s.heap H locs → lv_has ls 1 [(0, .ref a0)] → W p l e ({ frames := 0, cells := 0, slots := 0, locals := 0 } : Room) s m args below meth c H locs 0 0 Q (F0 m 0 ls []) := by
    intro Q hret H locs ls hP hD hS hl
    refine lv_aload_n hx hb dX4_removeAllLines_0 rfl (lv_at hl 0 rfl) ?_
    refine va_get (D := (dC, dI)) (ci := 4) (v := .ref a1) (C := RX4) (T := TX4) (N := 1) hx hb hT in_X4 hown hK hP 0 rfl rfl 0 (by decide) (hT _ q_fl_X4_11) (fun _ h9 => h9) rfl dX4_removeAllLines_1 ?_
    refine lv_bipush (v := 8) hx hb dX4_removeAllLines_4 (by decide) ?_
    refine lv_iconst (v := 0) hx hb dX4_removeAllLines_6 (by decide) ?_
    refine ia_st hx hb hK hP hD hS 1 0 rfl rfl (ib_in (by decide)) (j := 8) (by decide) dX4_removeAllLines_7 (fun H locs hP hD hS => ?_)
    have hP : va_P (dC, dI) vwCl [(a0, .inr (4, [.ref a1])), (a1, .inl (cI, 117, .inl (upd v_cells 8 (0 : Int32))))] H := hP
    have hD : va_D A [(a0, .inr (4, [.ref a1])), (a1, .inl (cI, 117, .inl (upd v_cells 8 (0 : Int32))))] := hD
    replace hf := Option.some.inj hf
    subst hf
    exact hret H locs ls _ dX4_removeAllLines_8 hP hD hS
  refine key _ ?_ _ _ _ hP hD hS hl
  intro H locs ls pc d hP hD hS
  exact W.vret hx hb hr (fun t ht hW => ⟨⟨rfl, by rw [ht]; exact hP, hD⟩, hS.F ht⟩) hS.2.2 d
def p_X4_isRhyme (x0 : Int32) : Option (Int32) :=
  (if x0 < (0 : Int32) then (some (0 : Int32)) else (if (4 : Int32) ≤ x0 then (some (0 : Int32)) else (some (1 : Int32))))
set_option maxHeartbeats 4000000 in
set_option maxRecDepth 100000 in
theorem c_X4_isRhyme (l : Launch) (dC : Nat → ClassId) (dI : Nat → Nat → Nat) (cI cJ cP cS : ClassId)    (x0 : Int32) (rv : Int32)  (hf : p_X4_isRhyme x0 = some rv) : MC l (dC, dI) (tyl cI cJ cP cS) yX4_isRhyme (Cond.code yX4_isRhyme cX4_isRhyme 1 (some .boolean) :: TBG) ({ frames := 0, cells := 0, slots := 0, locals := 0 } : Room) [.int x0] [] [] (some (.int rv)) := by
  intro sz
  unfold MPost
  refine Met.ofW (cc := cX4_isRhyme) (maxL := 1) (ret := (some .boolean)) (by decide) rfl ?_
  intro p e s m args below meth c s₁ B hml hv
  obtain ⟨rfl, hsz, hP, hK, hD0, hF⟩ := hv
  have hx := B.exec
  have hb := B.bytes
  have hr := B.returns
  have hT : ∀ w ∈ TBG, w.before _ s = true := fun w h => atoms_spec B.pre w (List.mem_cons_of_mem _ h)
  have hown : s.vm.findClass RX4 = some m.cls := findClass_of_methodNamed B.named
  have hlocks := B.notSynchronized
  subst hsz
  have hD := hD0.self (sz := s.heap.size)
  generalize hAe : va_A [] s.heap.size = A at hD hF ⊢
  have hA : ∀ q : Nat, s.heap.size ≤ q → A q := fun q h => by rw [← hAe]; exact Or.inr h
  have hS : va_S A s.heap s.heap [] := va_S.rf
  have hl := lv_entry ([.int x0]) (n := 1) (Nat.le_of_ble_eq_true rfl)
  rw [lg_entry_eq]
  generalize (lg_sl ([.int x0]) ++ List.replicate (1 - (lg_sl ([.int x0])).length) Slot.unset).toArray = ls at hl ⊢
  have hl : lv_has ls 1 [(0, .int x0)] := hl
  generalize ([.int x0] : List Value).toArray = args at hT ⊢
  have key : ∀ (Q : State → Prop), (∀ (H : Heap) (locs : List Loc) (ls : Array Slot) (pc : Nat), decode cX4_isRhyme pc = .ok (.ireturn, 1) → narrow .boolean (.int rv) = .int rv → va_P (dC, dI) vwCl [] H → va_D A [] → va_S A s.heap H locs → W p l e ({ frames := 0, cells := 0, slots := 0, locals := 0 } : Room) s m args below meth c H locs 0 0 Q (F0 m pc ls [.int rv])) → ∀ (H : Heap) (locs : List Loc) (ls : Array Slot), va_P (dC, dI) vwCl [] H → va_D A [] → va_S A s.heap H locs → lv_has ls 1 [(0, .int x0)] → W p l e ({ frames := 0, cells := 0, slots := 0, locals := 0 } : Room) s m args below meth c H locs 0 0 Q (F0 m 0 ls []) := by
    intro Q hret H locs ls hP hD hS hl
    refine lv_iload_n hx hb dX4_isRhyme_0 rfl (lv_at hl 0 rfl) ?_
    refine lv_if_lt (tgt := 13) hx hb dX4_isRhyme_1 (by decide) (fun c1 => ?_) (fun c1 => ?_)
    · replace hf := it_t c1 hf
      refine lv_iconst (v := 0) hx hb dX4_isRhyme_13 (by decide) ?_
      replace hf := Option.some.inj hf
      subst hf
      exact hret H locs ls _ dX4_isRhyme_14 rfl hP hD hS
    · replace hf := it_f c1 hf
      refine lv_iload_n hx hb dX4_isRhyme_4 rfl (lv_at hl 0 rfl) ?_
      refine lv_iconst (v := 4) hx hb dX4_isRhyme_5 (by decide) ?_
      refine lv_icmp_ge (tgt := 13) hx hb dX4_isRhyme_6 (by decide) (fun c2 => ?_) (fun c2 => ?_)
      · replace hf := it_t c2 hf
        refine lv_iconst (v := 0) hx hb dX4_isRhyme_13 (by decide) ?_
        replace hf := Option.some.inj hf
        subst hf
        exact hret H locs ls _ dX4_isRhyme_14 rfl hP hD hS
      · replace hf := it_f c2 hf
        refine lv_iconst (v := 1) hx hb dX4_isRhyme_9 (by decide) ?_
        refine lv_goto (tgt := 14) hx hb dX4_isRhyme_10 (by decide) ?_
        replace hf := Option.some.inj hf
        subst hf
        exact hret H locs ls _ dX4_isRhyme_14 rfl hP hD hS
  refine key _ ?_ _ _ _ hP hD hS hl
  intro H locs ls pc d hz hP hD hS
  exact W.zret (v := rv) hx hb hr hz (fun t ht hW => ⟨⟨rfl, by rw [ht]; exact hP, hD⟩, hS.F ht⟩) hS.2.2 d
def p_X4_addLine_B59_10 (v_cells : (Nat → Int32)) (x1 : Int32) (r_6 : Int32) (w2_10 : Int32) : Option (Int32 × (Nat → Int32)) :=
  (gd (ib ((21 : Int32) + r_6) 117) (gd (ib ((33 : Int32) + r_6) 117) (some (r_6, (upd (upd (upd (upd v_cells (tn ((9 : Int32) + r_6)) x1) (tn ((21 : Int32) + r_6)) w2_10) (tn ((33 : Int32) + r_6)) (0 : Int32)) 8 (r_6 + (1 : Int32)))))))
def p_X4_addLine (v_cells : (Nat → Int32)) (x1 : Int32) (x2 : Int32) : Option (Int32 × (Nat → Int32)) :=
  (bd1 (p_X4_isRhyme x1) fun r_1 => (if r_1 = (0 : Int32) then (some ((-1 : Int32), v_cells)) else (if x2 < (0 : Int32) then (some ((-1 : Int32), v_cells)) else (if x2 ≤ (1 : Int32) then (bd1 (p_X4_lines v_cells) fun r_6 => (if r_6 < (12 : Int32) then (gd (ib ((9 : Int32) + r_6) 117) (if r_6 = (0 : Int32) then (p_X4_addLine_B59_10 v_cells x1 r_6 (1 : Int32)) else (p_X4_addLine_B59_10 v_cells x1 r_6 x2))) else (some ((-3 : Int32), v_cells)))) else (some ((-1 : Int32), v_cells))))))
set_option maxHeartbeats 4000000 in
set_option maxRecDepth 100000 in
theorem c_X4_addLine (l : Launch) (dC : Nat → ClassId) (dI : Nat → Nat → Nat) (cI cJ cP cS : ClassId) (a0 : Nat) (a1 : Nat) (v_cells : (Nat → Int32))  (x1 : Int32) (x2 : Int32) (rv : Int32) (v_cells_o : (Nat → Int32)) (hf : p_X4_addLine v_cells x1 x2 = some (rv, v_cells_o)) : MC l (dC, dI) (tyl cI cJ cP cS) yX4_addLine (Cond.code yX4_addLine cX4_addLine 4 (some .int) :: TBG) ({ frames := 1, cells := 0, slots := 0, locals := 20 } : Room) [.ref a0, .int x1, .int x2] [(a0, .inr (4, [.ref a1])), (a1, .inl (cI, 117, .inl v_cells))] [(a0, .inr (4, [.ref a1])), (a1, .inl (cI, 117, .inl v_cells_o))] (some (.int rv)) := by
  intro sz
  unfold MPost
  refine Met.ofW (cc := cX4_addLine) (maxL := 4) (ret := (some .int)) (by decide) rfl ?_
  intro p e s m args below meth c s₁ B hml hv
  obtain ⟨rfl, hsz, hP, hK, hD0, hF⟩ := hv
  have hx := B.exec
  have hb := B.bytes
  have hr := B.returns
  have hT : ∀ w ∈ TBG, w.before _ s = true := fun w h => atoms_spec B.pre w (List.mem_cons_of_mem _ h)
  have hown : s.vm.findClass RX4 = some m.cls := findClass_of_methodNamed B.named
  have hlocks := B.notSynchronized
  subst hsz
  have hD := hD0.self (sz := s.heap.size)
  generalize hAe : va_A [(a0, .inr (4, [.ref a1])), (a1, .inl (cI, 117, .inl v_cells))] s.heap.size = A at hD hF ⊢
  have hA : ∀ q : Nat, s.heap.size ≤ q → A q := fun q h => by rw [← hAe]; exact Or.inr h
  have hS : va_S A s.heap s.heap [] := va_S.rf
  have hl := lv_entry ([.ref a0, .int x1, .int x2]) (n := 4) (Nat.le_of_ble_eq_true rfl)
  rw [lg_entry_eq]
  generalize (lg_sl ([.ref a0, .int x1, .int x2]) ++ List.replicate (4 - (lg_sl ([.ref a0, .int x1, .int x2])).length) Slot.unset).toArray = ls at hl ⊢
  have hl : lv_has ls 4 [(0, .ref a0), (1, .int x1), (2, .int x2)] := hl
  generalize ([.ref a0, .int x1, .int x2] : List Value).toArray = args at hT ⊢
  have key : ∀ (Q : State → Prop), (∀ (H : Heap) (locs : List Loc) (ls : Array Slot) (pc : Nat), decode cX4_addLine pc = .ok (.ireturn, 1) → va_P (dC, dI) vwCl [(a0, .inr (4, [.ref a1])), (a1, .inl (cI, 117, .inl v_cells_o))] H → va_D A [(a0, .inr (4, [.ref a1])), (a1, .inl (cI, 117, .inl v_cells_o))] → va_S A s.heap H locs → W p l e ({ frames := 1, cells := 0, slots := 0, locals := 20 } : Room) s m args below meth c H locs 0 0 Q (F0 m pc ls [.int rv])) → ∀ (H : Heap) (locs : List Loc) (ls : Array Slot), va_P (dC, dI) vwCl [(a0, .inr (4, [.ref a1])), (a1, .inl (cI, 117, .inl v_cells))] H → va_D A [(a0, .inr (4, [.ref a1])), (a1, .inl (cI, 117, .inl v_cells))] → va_S A s.heap H locs → lv_has ls 4 [(0, .ref a0), (1, .int x1), (2, .int x2)] → W p l e ({ frames := 1, cells := 0, slots := 0, locals := 20 } : Room) s m args below meth c H locs 0 0 Q (F0 m 0 ls []) := by
    intro Q hret H locs ls hP hD hS hl
    refine lv_iload_n hx hb dX4_addLine_0 rfl (lv_at hl 1 rfl) ?_
    obtain ⟨r_1, hq2, hf⟩ := bd1_el hf
    refine mc_S (As := [.int x1]) (rest := []) (wr := [(a0, .inr (4, [.ref a1])), (a1, .inl (cI, 117, .inl v_cells))]) (wn := [(a0, .inr (4, [.ref a1])), (a1, .inl (cI, 117, .inl v_cells))]) ⟨hx, hb, hml, hown, hT⟩ (c_X4_isRhyme l dC dI cI cJ cP cS x1 r_1 hq2) (va_cwS 1 hT (gdS q_ml_X4_24 q_st_X4_isRhyme q_in_X4 q_co_X4_isRhyme) rfl rfl rfl hd_X4_isRhyme ⟨Nat.le_of_ble_eq_true rfl, Nat.le_of_ble_eq_true rfl⟩) hK hF hP hD hS hA [] [0, 1] [0, 1] rfl (by decide) rfl (by decide) (by decide) rfl (by decide) rfl hl.1 rfl (Nat.le_of_ble_eq_true rfl) dX4_addLine_1 ⟨Nat.zero_le _, Nat.zero_le _⟩ (fun H locs hP hD hS => ?_)
    refine W.eq (g2 := F0 m 4 ls [.int r_1]) rfl ?_
    refine lv_if_eq (tgt := 16) hx hb dX4_addLine_4 (by decide) (fun c3 => ?_) (fun c3 => ?_)
    · replace hf := it_t c3 hf
      refine lv_iconst (v := (-1)) hx hb dX4_addLine_16 (by decide) ?_
      replace hf := Option.some.inj hf
      simp only [Prod.mk.injEq] at hf
      obtain ⟨hf0, hf1⟩ := hf
      subst hf0; subst hf1
      exact hret H locs ls _ dX4_addLine_17 hP hD hS
    · replace hf := it_f c3 hf
      refine lv_iload_n hx hb dX4_addLine_7 rfl (lv_at hl 2 rfl) ?_
      refine lv_if_lt (tgt := 16) hx hb dX4_addLine_8 (by decide) (fun c4 => ?_) (fun c4 => ?_)
      · replace hf := it_t c4 hf
        refine lv_iconst (v := (-1)) hx hb dX4_addLine_16 (by decide) ?_
        replace hf := Option.some.inj hf
        simp only [Prod.mk.injEq] at hf
        obtain ⟨hf0, hf1⟩ := hf
        subst hf0; subst hf1
        exact hret H locs ls _ dX4_addLine_17 hP hD hS
      · replace hf := it_f c4 hf
        refine lv_iload_n hx hb dX4_addLine_11 rfl (lv_at hl 2 rfl) ?_
        refine lv_iconst (v := 1) hx hb dX4_addLine_12 (by decide) ?_
        refine lv_icmp_le (tgt := 18) hx hb dX4_addLine_13 (by decide) (fun c5 => ?_) (fun c5 => ?_)
        · replace hf := it_t c5 hf
          refine lv_aload_n hx hb dX4_addLine_18 rfl (lv_at hl 0 rfl) ?_
          obtain ⟨r_6, hq7, hf⟩ := bd1_el hf
          refine mc_V (As := []) (rest := []) (wr := []) (wn := [(a0, .inr (4, [.ref a1])), (a1, .inl (cI, 117, .inl v_cells))]) ⟨hx, hb, hml, hown, hT⟩ (c_X4_lines l dC dI cI cJ cP cS a0 a1 v_cells r_6 hq7) (cwV 0 hT (gdV q_ml_X4_28 q_im_X4_lines q_se_X4_lines q_in_X4 q_co_X4_lines) rfl rfl rfl hd_X4_lines ⟨Nat.le_of_ble_eq_true rfl, Nat.le_of_ble_eq_true rfl⟩) hK hF hP hD hS hA 0 rfl rfl rfl [0, 1] [] [0, 1] rfl (by decide) rfl (by decide) (by decide) rfl (by decide) rfl hl.1 rfl (Nat.le_of_ble_eq_true rfl) dX4_addLine_19 ⟨Nat.zero_le _, Nat.zero_le _⟩ (fun H locs hP hD hS => ?_)
          refine W.eq (g2 := F0 m 22 ls [.int r_6]) rfl ?_
          refine lv_istore_n (lv' := [(3, .int r_6), (0, .ref a0), (1, .int x1), (2, .int x2)]) hx hb dX4_addLine_22 rfl hl (by decide) rfl (fun ls hl => ?_)
          refine lv_iload_n hx hb dX4_addLine_23 rfl (lv_at hl 0 rfl) ?_
          refine lv_bipush (v := 12) hx hb dX4_addLine_24 (by decide) ?_
          refine lv_icmp_lt (tgt := 32) hx hb dX4_addLine_26 (by decide) (fun c8 => ?_) (fun c8 => ?_)
          · replace hf := it_t c8 hf
            refine lv_aload_n hx hb dX4_addLine_32 rfl (lv_at hl 1 rfl) ?_
            refine va_get (D := (dC, dI)) (ci := 4) (v := .ref a1) (C := RX4) (T := TX4) (N := 1) hx hb hT in_X4 hown hK hP 0 rfl rfl 0 (by decide) (hT _ q_fl_X4_11) (fun _ h9 => h9) rfl dX4_addLine_33 ?_
            refine lv_bipush (v := 9) hx hb dX4_addLine_36 (by decide) ?_
            refine lv_iload_n hx hb dX4_addLine_38 rfl (lv_at hl 0 rfl) ?_
            refine lv_iadd hx hb dX4_addLine_39 ?_
            refine lv_iload_n hx hb dX4_addLine_40 rfl (lv_at hl 2 rfl) ?_
            obtain ⟨h9, hf⟩ := gd_el hf
            refine ia_st hx hb hK hP hD hS 1 0 rfl rfl (ib_in h9) (j := (tn ((9 : Int32) + r_6))) rfl dX4_addLine_41 (fun H locs hP hD hS => ?_)
            have hP : va_P (dC, dI) vwCl [(a0, .inr (4, [.ref a1])), (a1, .inl (cI, 117, .inl (upd v_cells (tn ((9 : Int32) + r_6)) x1)))] H := hP
            have hD : va_D A [(a0, .inr (4, [.ref a1])), (a1, .inl (cI, 117, .inl (upd v_cells (tn ((9 : Int32) + r_6)) x1)))] := hD
            refine lv_aload_n hx hb dX4_addLine_42 rfl (lv_at hl 1 rfl) ?_
            refine va_get (D := (dC, dI)) (ci := 4) (v := .ref a1) (C := RX4) (T := TX4) (N := 1) hx hb hT in_X4 hown hK hP 0 rfl rfl 0 (by decide) (hT _ q_fl_X4_11) (fun _ h9 => h9) rfl dX4_addLine_43 ?_
            refine lv_bipush (v := 21) hx hb dX4_addLine_46 (by decide) ?_
            refine lv_iload_n hx hb dX4_addLine_48 rfl (lv_at hl 0 rfl) ?_
            refine lv_iadd hx hb dX4_addLine_49 ?_
            refine lv_iload_n hx hb dX4_addLine_50 rfl (lv_at hl 0 rfl) ?_
            have hB59_10 : ∀ (w2_10 : Int32), p_X4_addLine_B59_10 v_cells x1 r_6 w2_10 = some (rv, v_cells_o) → ∀ (H : Heap) (locs : List Loc) (ls : Array Slot), va_P (dC, dI) vwCl [(a0, .inr (4, [.ref a1])), (a1, .inl (cI, 117, .inl (upd v_cells (tn ((9 : Int32) + r_6)) x1)))] H → va_D A [(a0, .inr (4, [.ref a1])), (a1, .inl (cI, 117, .inl (upd v_cells (tn ((9 : Int32) + r_6)) x1)))] → va_S A s.heap H locs → lv_has ls 4 [(0, .ref a0), (3, .int r_6)] → W p l e ({ frames := 1, cells := 0, slots := 0, locals := 20 } : Room) s m args below meth c H locs 0 0 Q (F0 m 59 ls [.int w2_10, .int ((21 : Int32) + r_6), .ref a1]) := by
              intro w2_10 hf H locs ls hP hD hS hl
              obtain ⟨h11, hf⟩ := gd_el hf
              refine ia_st hx hb hK hP hD hS 1 0 rfl rfl (ib_in h11) (j := (tn ((21 : Int32) + r_6))) rfl dX4_addLine_59 (fun H locs hP hD hS => ?_)
              have hP : va_P (dC, dI) vwCl [(a0, .inr (4, [.ref a1])), (a1, .inl (cI, 117, .inl (upd (upd v_cells (tn ((9 : Int32) + r_6)) x1) (tn ((21 : Int32) + r_6)) w2_10)))] H := hP
              have hD : va_D A [(a0, .inr (4, [.ref a1])), (a1, .inl (cI, 117, .inl (upd (upd v_cells (tn ((9 : Int32) + r_6)) x1) (tn ((21 : Int32) + r_6)) w2_10)))] := hD
              refine lv_aload_n hx hb dX4_addLine_60 rfl (lv_at hl 0 rfl) ?_
              refine va_get (D := (dC, dI)) (ci := 4) (v := .ref a1) (C := RX4) (T := TX4) (N := 1) hx hb hT in_X4 hown hK hP 0 rfl rfl 0 (by decide) (hT _ q_fl_X4_11) (fun _ h9 => h9) rfl dX4_addLine_61 ?_
              refine lv_bipush (v := 33) hx hb dX4_addLine_64 (by decide) ?_
              refine lv_iload_n hx hb dX4_addLine_66 rfl (lv_at hl 1 rfl) ?_
              refine lv_iadd hx hb dX4_addLine_67 ?_
              refine lv_iconst (v := 0) hx hb dX4_addLine_68 (by decide) ?_
              obtain ⟨h12, hf⟩ := gd_el hf
              refine ia_st hx hb hK hP hD hS 1 0 rfl rfl (ib_in h12) (j := (tn ((33 : Int32) + r_6))) rfl dX4_addLine_69 (fun H locs hP hD hS => ?_)
              have hP : va_P (dC, dI) vwCl [(a0, .inr (4, [.ref a1])), (a1, .inl (cI, 117, .inl (upd (upd (upd v_cells (tn ((9 : Int32) + r_6)) x1) (tn ((21 : Int32) + r_6)) w2_10) (tn ((33 : Int32) + r_6)) (0 : Int32))))] H := hP
              have hD : va_D A [(a0, .inr (4, [.ref a1])), (a1, .inl (cI, 117, .inl (upd (upd (upd v_cells (tn ((9 : Int32) + r_6)) x1) (tn ((21 : Int32) + r_6)) w2_10) (tn ((33 : Int32) + r_6)) (0 : Int32))))] := hD
              refine lv_aload_n hx hb dX4_addLine_70 rfl (lv_at hl 0 rfl) ?_
              refine va_get (D := (dC, dI)) (ci := 4) (v := .ref a1) (C := RX4) (T := TX4) (N := 1) hx hb hT in_X4 hown hK hP 0 rfl rfl 0 (by decide) (hT _ q_fl_X4_11) (fun _ h9 => h9) rfl dX4_addLine_71 ?_
              refine lv_bipush (v := 8) hx hb dX4_addLine_74 (by decide) ?_
              refine lv_iload_n hx hb dX4_addLine_76 rfl (lv_at hl 1 rfl) ?_
              refine lv_iconst (v := 1) hx hb dX4_addLine_77 (by decide) ?_
              refine lv_iadd hx hb dX4_addLine_78 ?_
              refine ia_st hx hb hK hP hD hS 1 0 rfl rfl (ib_in (by decide)) (j := 8) (by decide) dX4_addLine_79 (fun H locs hP hD hS => ?_)
              have hP : va_P (dC, dI) vwCl [(a0, .inr (4, [.ref a1])), (a1, .inl (cI, 117, .inl (upd (upd (upd (upd v_cells (tn ((9 : Int32) + r_6)) x1) (tn ((21 : Int32) + r_6)) w2_10) (tn ((33 : Int32) + r_6)) (0 : Int32)) 8 (r_6 + (1 : Int32)))))] H := hP
              have hD : va_D A [(a0, .inr (4, [.ref a1])), (a1, .inl (cI, 117, .inl (upd (upd (upd (upd v_cells (tn ((9 : Int32) + r_6)) x1) (tn ((21 : Int32) + r_6)) w2_10) (tn ((33 : Int32) + r_6)) (0 : Int32)) 8 (r_6 + (1 : Int32)))))] := hD
              refine lv_iload_n hx hb dX4_addLine_80 rfl (lv_at hl 1 rfl) ?_
              replace hf := Option.some.inj hf
              simp only [Prod.mk.injEq] at hf
              obtain ⟨hf0, hf1⟩ := hf
              subst hf0; subst hf1
              exact hret H locs ls _ dX4_addLine_81 hP hD hS
            refine lv_if_ne (tgt := 58) hx hb dX4_addLine_51 (by decide) (fun c13 => ?_) (fun c13 => ?_)
            · replace hf := it_f c13 hf
              refine lv_iload_n hx hb dX4_addLine_58 rfl (lv_at hl 3 rfl) ?_
              exact hB59_10 x2 hf H locs ls hP hD hS (lv_sub hl [1, 0] rfl)
            · replace hf := it_t c13 hf
              refine lv_iconst (v := 1) hx hb dX4_addLine_54 (by decide) ?_
              refine lv_goto (tgt := 59) hx hb dX4_addLine_55 (by decide) ?_
              exact hB59_10 (1 : Int32) hf H locs ls hP hD hS (lv_sub hl [1, 0] rfl)
          · replace hf := it_f c8 hf
            refine lv_bipush (v := (-3)) hx hb dX4_addLine_29 (by decide) ?_
            replace hf := Option.some.inj hf
            simp only [Prod.mk.injEq] at hf
            obtain ⟨hf0, hf1⟩ := hf
            subst hf0; subst hf1
            exact hret H locs ls _ dX4_addLine_31 hP hD hS
        · replace hf := it_f c5 hf
          refine lv_iconst (v := (-1)) hx hb dX4_addLine_16 (by decide) ?_
          replace hf := Option.some.inj hf
          simp only [Prod.mk.injEq] at hf
          obtain ⟨hf0, hf1⟩ := hf
          subst hf0; subst hf1
          exact hret H locs ls _ dX4_addLine_17 hP hD hS
  refine key _ ?_ _ _ _ hP hD hS hl
  intro H locs ls pc d hP hD hS
  exact W.iret (v := rv) hx hb hr (fun t ht hW => ⟨⟨rfl, by rw [ht]; exact hP, hD⟩, hS.F ht⟩) hS.2.2 d
def p_X4_addWord (v_cells : (Nat → Int32)) (x1 : Int32) (x2 : Int32) : Option (Int32 × (Nat → Int32)) :=
  (if x1 < (1 : Int32) then (some ((-1 : Int32), v_cells)) else (if (9 : Int32) < x1 then (some ((-1 : Int32), v_cells)) else (if x2 < (0 : Int32) then (some ((-1 : Int32), v_cells)) else (if x2 < (4 : Int32) then (bd1 (p_X4_lines v_cells) fun r_5 => (nm (r_5 - (1 : Int32)) fun x3_7 => (if (0 : Int32) ≤ x3_7 then (bd1 (p_X4_wordsOf v_cells x3_7) fun r_9 => (if r_9 < (6 : Int32) then (gd (ib (((45 : Int32) + (x3_7 * (6 : Int32))) + r_9) 117) (gd (ib ((33 : Int32) + x3_7) 117) (some ((r_9 + (1 : Int32)), (upd (upd v_cells (tn (((45 : Int32) + (x3_7 * (6 : Int32))) + r_9)) ((x1 * (4 : Int32)) + x2)) (tn ((33 : Int32) + x3_7)) (r_9 + (1 : Int32))))))) else (some ((-3 : Int32), v_cells)))) else (some ((-4 : Int32), v_cells))))) else (some ((-1 : Int32), v_cells))))))
set_option maxHeartbeats 4000000 in
set_option maxRecDepth 100000 in
theorem c_X4_addWord (l : Launch) (dC : Nat → ClassId) (dI : Nat → Nat → Nat) (cI cJ cP cS : ClassId) (a0 : Nat) (a1 : Nat) (v_cells : (Nat → Int32))  (x1 : Int32) (x2 : Int32) (rv : Int32) (v_cells_o : (Nat → Int32)) (hf : p_X4_addWord v_cells x1 x2 = some (rv, v_cells_o)) : MC l (dC, dI) (tyl cI cJ cP cS) yX4_addWord (Cond.code yX4_addWord cX4_addWord 5 (some .int) :: TBG) ({ frames := 1, cells := 0, slots := 0, locals := 21 } : Room) [.ref a0, .int x1, .int x2] [(a0, .inr (4, [.ref a1])), (a1, .inl (cI, 117, .inl v_cells))] [(a0, .inr (4, [.ref a1])), (a1, .inl (cI, 117, .inl v_cells_o))] (some (.int rv)) := by
  intro sz
  unfold MPost
  refine Met.ofW (cc := cX4_addWord) (maxL := 5) (ret := (some .int)) (by decide) rfl ?_
  intro p e s m args below meth c s₁ B hml hv
  obtain ⟨rfl, hsz, hP, hK, hD0, hF⟩ := hv
  have hx := B.exec
  have hb := B.bytes
  have hr := B.returns
  have hT : ∀ w ∈ TBG, w.before _ s = true := fun w h => atoms_spec B.pre w (List.mem_cons_of_mem _ h)
  have hown : s.vm.findClass RX4 = some m.cls := findClass_of_methodNamed B.named
  have hlocks := B.notSynchronized
  subst hsz
  have hD := hD0.self (sz := s.heap.size)
  generalize hAe : va_A [(a0, .inr (4, [.ref a1])), (a1, .inl (cI, 117, .inl v_cells))] s.heap.size = A at hD hF ⊢
  have hA : ∀ q : Nat, s.heap.size ≤ q → A q := fun q h => by rw [← hAe]; exact Or.inr h
  have hS : va_S A s.heap s.heap [] := va_S.rf
  have hl := lv_entry ([.ref a0, .int x1, .int x2]) (n := 5) (Nat.le_of_ble_eq_true rfl)
  rw [lg_entry_eq]
  generalize (lg_sl ([.ref a0, .int x1, .int x2]) ++ List.replicate (5 - (lg_sl ([.ref a0, .int x1, .int x2])).length) Slot.unset).toArray = ls at hl ⊢
  have hl : lv_has ls 5 [(0, .ref a0), (1, .int x1), (2, .int x2)] := hl
  generalize ([.ref a0, .int x1, .int x2] : List Value).toArray = args at hT ⊢
  have key : ∀ (Q : State → Prop), (∀ (H : Heap) (locs : List Loc) (ls : Array Slot) (pc : Nat), decode cX4_addWord pc = .ok (.ireturn, 1) → va_P (dC, dI) vwCl [(a0, .inr (4, [.ref a1])), (a1, .inl (cI, 117, .inl v_cells_o))] H → va_D A [(a0, .inr (4, [.ref a1])), (a1, .inl (cI, 117, .inl v_cells_o))] → va_S A s.heap H locs → W p l e ({ frames := 1, cells := 0, slots := 0, locals := 21 } : Room) s m args below meth c H locs 0 0 Q (F0 m pc ls [.int rv])) → ∀ (H : Heap) (locs : List Loc) (ls : Array Slot), va_P (dC, dI) vwCl [(a0, .inr (4, [.ref a1])), (a1, .inl (cI, 117, .inl v_cells))] H → va_D A [(a0, .inr (4, [.ref a1])), (a1, .inl (cI, 117, .inl v_cells))] → va_S A s.heap H locs → lv_has ls 5 [(0, .ref a0), (1, .int x1), (2, .int x2)] → W p l e ({ frames := 1, cells := 0, slots := 0, locals := 21 } : Room) s m args below meth c H locs 0 0 Q (F0 m 0 ls []) := by
    intro Q hret H locs ls hP hD hS hl
    refine lv_iload_n hx hb dX4_addWord_0 rfl (lv_at hl 1 rfl) ?_
    refine lv_iconst (v := 1) hx hb dX4_addWord_1 (by decide) ?_
    refine lv_icmp_lt (tgt := 20) hx hb dX4_addWord_2 (by decide) (fun c1 => ?_) (fun c1 => ?_)
    · replace hf := it_t c1 hf
      refine lv_iconst (v := (-1)) hx hb dX4_addWord_20 (by decide) ?_
      replace hf := Option.some.inj hf
      simp only [Prod.mk.injEq] at hf
      obtain ⟨hf0, hf1⟩ := hf
      subst hf0; subst hf1
      exact hret H locs ls _ dX4_addWord_21 hP hD hS
    · replace hf := it_f c1 hf
      refine lv_iload_n hx hb dX4_addWord_5 rfl (lv_at hl 1 rfl) ?_
      refine lv_bipush (v := 9) hx hb dX4_addWord_6 (by decide) ?_
      refine lv_icmp_gt (tgt := 20) hx hb dX4_addWord_8 (by decide) (fun c2 => ?_) (fun c2 => ?_)
      · replace hf := it_t c2 hf
        refine lv_iconst (v := (-1)) hx hb dX4_addWord_20 (by decide) ?_
        replace hf := Option.some.inj hf
        simp only [Prod.mk.injEq] at hf
        obtain ⟨hf0, hf1⟩ := hf
        subst hf0; subst hf1
        exact hret H locs ls _ dX4_addWord_21 hP hD hS
      · replace hf := it_f c2 hf
        refine lv_iload_n hx hb dX4_addWord_11 rfl (lv_at hl 2 rfl) ?_
        refine lv_if_lt (tgt := 20) hx hb dX4_addWord_12 (by decide) (fun c3 => ?_) (fun c3 => ?_)
        · replace hf := it_t c3 hf
          refine lv_iconst (v := (-1)) hx hb dX4_addWord_20 (by decide) ?_
          replace hf := Option.some.inj hf
          simp only [Prod.mk.injEq] at hf
          obtain ⟨hf0, hf1⟩ := hf
          subst hf0; subst hf1
          exact hret H locs ls _ dX4_addWord_21 hP hD hS
        · replace hf := it_f c3 hf
          refine lv_iload_n hx hb dX4_addWord_15 rfl (lv_at hl 2 rfl) ?_
          refine lv_iconst (v := 4) hx hb dX4_addWord_16 (by decide) ?_
          refine lv_icmp_lt (tgt := 22) hx hb dX4_addWord_17 (by decide) (fun c4 => ?_) (fun c4 => ?_)
          · replace hf := it_t c4 hf
            refine lv_aload_n hx hb dX4_addWord_22 rfl (lv_at hl 0 rfl) ?_
            obtain ⟨r_5, hq6, hf⟩ := bd1_el hf
            refine mc_V (As := []) (rest := []) (wr := []) (wn := [(a0, .inr (4, [.ref a1])), (a1, .inl (cI, 117, .inl v_cells))]) ⟨hx, hb, hml, hown, hT⟩ (c_X4_lines l dC dI cI cJ cP cS a0 a1 v_cells r_5 hq6) (cwV 0 hT (gdV q_ml_X4_28 q_im_X4_lines q_se_X4_lines q_in_X4 q_co_X4_lines) rfl rfl rfl hd_X4_lines ⟨Nat.le_of_ble_eq_true rfl, Nat.le_of_ble_eq_true rfl⟩) hK hF hP hD hS hA 0 rfl rfl rfl [0, 1] [] [0, 1] rfl (by decide) rfl (by decide) (by decide) rfl (by decide) rfl hl.1 rfl (Nat.le_of_ble_eq_true rfl) dX4_addWord_23 ⟨Nat.zero_le _, Nat.zero_le _⟩ (fun H locs hP hD hS => ?_)
            refine W.eq (g2 := F0 m 26 ls [.int r_5]) rfl ?_
            refine lv_iconst (v := 1) hx hb dX4_addWord_26 (by decide) ?_
            refine lv_isub hx hb dX4_addWord_27 ?_
            obtain ⟨x3_7, ex3_7, hf⟩ := nm_el hf
            refine lv_as (congrArg Value.int ex3_7) ?_
            refine lv_istore_n (lv' := [(3, .int x3_7), (0, .ref a0), (1, .int x1), (2, .int x2)]) hx hb dX4_addWord_28 rfl hl (by decide) rfl (fun ls hl => ?_)
            refine lv_iload_n hx hb dX4_addWord_29 rfl (lv_at hl 0 rfl) ?_
            refine lv_if_ge (tgt := 36) hx hb dX4_addWord_30 (by decide) (fun c8 => ?_) (fun c8 => ?_)
            · replace hf := it_t c8 hf
              refine lv_aload_n hx hb dX4_addWord_36 rfl (lv_at hl 1 rfl) ?_
              refine lv_iload_n hx hb dX4_addWord_37 rfl (lv_at hl 0 rfl) ?_
              obtain ⟨r_9, hq10, hf⟩ := bd1_el hf
              refine mc_V (As := [.int x3_7]) (rest := []) (wr := []) (wn := [(a0, .inr (4, [.ref a1])), (a1, .inl (cI, 117, .inl v_cells))]) ⟨hx, hb, hml, hown, hT⟩ (c_X4_wordsOf l dC dI cI cJ cP cS a0 a1 v_cells x3_7 r_9 hq10) (cwV 1 hT (gdV q_ml_X4_32 q_im_X4_wordsOf q_se_X4_wordsOf q_in_X4 q_co_X4_wordsOf) rfl rfl rfl hd_X4_wordsOf ⟨Nat.le_of_ble_eq_true rfl, Nat.le_of_ble_eq_true rfl⟩) hK hF hP hD hS hA 0 rfl rfl rfl [0, 1] [] [0, 1] rfl (by decide) rfl (by decide) (by decide) rfl (by decide) rfl hl.1 rfl (Nat.le_of_ble_eq_true rfl) dX4_addWord_38 ⟨Nat.zero_le _, Nat.zero_le _⟩ (fun H locs hP hD hS => ?_)
              refine W.eq (g2 := F0 m 41 ls [.int r_9]) rfl ?_
              refine lv_istore (lv' := [(4, .int r_9), (3, .int x3_7), (0, .ref a0), (1, .int x1), (2, .int x2)]) hx hb dX4_addWord_41 hl (by decide) rfl (fun ls hl => ?_)
              refine lv_iload hx hb dX4_addWord_43 (lv_at hl 0 rfl) ?_
              refine lv_bipush (v := 6) hx hb dX4_addWord_45 (by decide) ?_
              refine lv_icmp_lt (tgt := 53) hx hb dX4_addWord_47 (by decide) (fun c11 => ?_) (fun c11 => ?_)
              · replace hf := it_t c11 hf
                refine lv_aload_n hx hb dX4_addWord_53 rfl (lv_at hl 2 rfl) ?_
                refine va_get (D := (dC, dI)) (ci := 4) (v := .ref a1) (C := RX4) (T := TX4) (N := 1) hx hb hT in_X4 hown hK hP 0 rfl rfl 0 (by decide) (hT _ q_fl_X4_11) (fun _ h9 => h9) rfl dX4_addWord_54 ?_
                refine lv_bipush (v := 45) hx hb dX4_addWord_57 (by decide) ?_
                refine lv_iload_n hx hb dX4_addWord_59 rfl (lv_at hl 1 rfl) ?_
                refine lv_bipush (v := 6) hx hb dX4_addWord_60 (by decide) ?_
                refine lv_imul hx hb dX4_addWord_62 ?_
                refine lv_iadd hx hb dX4_addWord_63 ?_
                refine lv_iload hx hb dX4_addWord_64 (lv_at hl 0 rfl) ?_
                refine lv_iadd hx hb dX4_addWord_66 ?_
                refine lv_iload_n hx hb dX4_addWord_67 rfl (lv_at hl 3 rfl) ?_
                refine lv_iconst (v := 4) hx hb dX4_addWord_68 (by decide) ?_
                refine lv_imul hx hb dX4_addWord_69 ?_
                refine lv_iload_n hx hb dX4_addWord_70 rfl (lv_at hl 4 rfl) ?_
                refine lv_iadd hx hb dX4_addWord_71 ?_
                obtain ⟨h12, hf⟩ := gd_el hf
                refine ia_st hx hb hK hP hD hS 1 0 rfl rfl (ib_in h12) (j := (tn (((45 : Int32) + (x3_7 * (6 : Int32))) + r_9))) rfl dX4_addWord_72 (fun H locs hP hD hS => ?_)
                have hP : va_P (dC, dI) vwCl [(a0, .inr (4, [.ref a1])), (a1, .inl (cI, 117, .inl (upd v_cells (tn (((45 : Int32) + (x3_7 * (6 : Int32))) + r_9)) ((x1 * (4 : Int32)) + x2))))] H := hP
                have hD : va_D A [(a0, .inr (4, [.ref a1])), (a1, .inl (cI, 117, .inl (upd v_cells (tn (((45 : Int32) + (x3_7 * (6 : Int32))) + r_9)) ((x1 * (4 : Int32)) + x2))))] := hD
                refine lv_aload_n hx hb dX4_addWord_73 rfl (lv_at hl 2 rfl) ?_
                refine va_get (D := (dC, dI)) (ci := 4) (v := .ref a1) (C := RX4) (T := TX4) (N := 1) hx hb hT in_X4 hown hK hP 0 rfl rfl 0 (by decide) (hT _ q_fl_X4_11) (fun _ h9 => h9) rfl dX4_addWord_74 ?_
                refine lv_bipush (v := 33) hx hb dX4_addWord_77 (by decide) ?_
                refine lv_iload_n hx hb dX4_addWord_79 rfl (lv_at hl 1 rfl) ?_
                refine lv_iadd hx hb dX4_addWord_80 ?_
                refine lv_iload hx hb dX4_addWord_81 (lv_at hl 0 rfl) ?_
                refine lv_iconst (v := 1) hx hb dX4_addWord_83 (by decide) ?_
                refine lv_iadd hx hb dX4_addWord_84 ?_
                obtain ⟨h13, hf⟩ := gd_el hf
                refine ia_st hx hb hK hP hD hS 1 0 rfl rfl (ib_in h13) (j := (tn ((33 : Int32) + x3_7))) rfl dX4_addWord_85 (fun H locs hP hD hS => ?_)
                have hP : va_P (dC, dI) vwCl [(a0, .inr (4, [.ref a1])), (a1, .inl (cI, 117, .inl (upd (upd v_cells (tn (((45 : Int32) + (x3_7 * (6 : Int32))) + r_9)) ((x1 * (4 : Int32)) + x2)) (tn ((33 : Int32) + x3_7)) (r_9 + (1 : Int32)))))] H := hP
                have hD : va_D A [(a0, .inr (4, [.ref a1])), (a1, .inl (cI, 117, .inl (upd (upd v_cells (tn (((45 : Int32) + (x3_7 * (6 : Int32))) + r_9)) ((x1 * (4 : Int32)) + x2)) (tn ((33 : Int32) + x3_7)) (r_9 + (1 : Int32)))))] := hD
                refine lv_iload hx hb dX4_addWord_86 (lv_at hl 0 rfl) ?_
                refine lv_iconst (v := 1) hx hb dX4_addWord_88 (by decide) ?_
                refine lv_iadd hx hb dX4_addWord_89 ?_
                replace hf := Option.some.inj hf
                simp only [Prod.mk.injEq] at hf
                obtain ⟨hf0, hf1⟩ := hf
                subst hf0; subst hf1
                exact hret H locs ls _ dX4_addWord_90 hP hD hS
              · replace hf := it_f c11 hf
                refine lv_bipush (v := (-3)) hx hb dX4_addWord_50 (by decide) ?_
                replace hf := Option.some.inj hf
                simp only [Prod.mk.injEq] at hf
                obtain ⟨hf0, hf1⟩ := hf
                subst hf0; subst hf1
                exact hret H locs ls _ dX4_addWord_52 hP hD hS
            · replace hf := it_f c8 hf
              refine lv_bipush (v := (-4)) hx hb dX4_addWord_33 (by decide) ?_
              replace hf := Option.some.inj hf
              simp only [Prod.mk.injEq] at hf
              obtain ⟨hf0, hf1⟩ := hf
              subst hf0; subst hf1
              exact hret H locs ls _ dX4_addWord_35 hP hD hS
          · replace hf := it_f c4 hf
            refine lv_iconst (v := (-1)) hx hb dX4_addWord_20 (by decide) ?_
            replace hf := Option.some.inj hf
            simp only [Prod.mk.injEq] at hf
            obtain ⟨hf0, hf1⟩ := hf
            subst hf0; subst hf1
            exact hret H locs ls _ dX4_addWord_21 hP hD hS
  refine key _ ?_ _ _ _ hP hD hS hl
  intro H locs ls pc d hP hD hS
  exact W.iret (v := rv) hx hb hr (fun t ht hW => ⟨⟨rfl, by rw [ht]; exact hP, hD⟩, hS.F ht⟩) hS.2.2 d
def p_X4_setLastPause (v_cells : (Nat → Int32)) (x1 : Int32) : Option ((Nat → Int32)) :=
  (bd1 (p_X4_lines v_cells) fun r_1 => (nm (r_1 - (1 : Int32)) fun x2_3 => (if x2_3 < (0 : Int32) then (some v_cells) else (bd1 (p_X4_wordsOf v_cells x2_3) fun r_5 => (if r_5 = (0 : Int32) then (some v_cells) else (bd1 (p_X4_wordsOf v_cells x2_3) fun r_8 => (nm (r_8 - (1 : Int32)) fun x3_10 => (bd1 (p_X4_lettersOf v_cells x2_3 x3_10) fun r_11 => (gd (ib (((45 : Int32) + (x2_3 * (6 : Int32))) + x3_10) 117) (some (upd v_cells (tn (((45 : Int32) + (x2_3 * (6 : Int32))) + x3_10)) ((r_11 * (4 : Int32)) + x1))))))))))))
set_option maxHeartbeats 4000000 in
set_option maxRecDepth 100000 in
theorem c_X4_setLastPause (l : Launch) (dC : Nat → ClassId) (dI : Nat → Nat → Nat) (cI cJ cP cS : ClassId) (a0 : Nat) (a1 : Nat) (v_cells : (Nat → Int32))  (x1 : Int32)  (v_cells_o : (Nat → Int32)) (hf : p_X4_setLastPause v_cells x1 = some v_cells_o) : MC l (dC, dI) (tyl cI cJ cP cS) yX4_setLastPause (Cond.code yX4_setLastPause cX4_setLastPause 4 none :: TBG) ({ frames := 1, cells := 0, slots := 0, locals := 22 } : Room) [.ref a0, .int x1] [(a0, .inr (4, [.ref a1])), (a1, .inl (cI, 117, .inl v_cells))] [(a0, .inr (4, [.ref a1])), (a1, .inl (cI, 117, .inl v_cells_o))] none := by
  intro sz
  unfold MPost
  refine Met.ofW (cc := cX4_setLastPause) (maxL := 4) (ret := none) (by decide) rfl ?_
  intro p e s m args below meth c s₁ B hml hv
  obtain ⟨rfl, hsz, hP, hK, hD0, hF⟩ := hv
  have hx := B.exec
  have hb := B.bytes
  have hr := B.returns
  have hT : ∀ w ∈ TBG, w.before _ s = true := fun w h => atoms_spec B.pre w (List.mem_cons_of_mem _ h)
  have hown : s.vm.findClass RX4 = some m.cls := findClass_of_methodNamed B.named
  have hlocks := B.notSynchronized
  subst hsz
  have hD := hD0.self (sz := s.heap.size)
  generalize hAe : va_A [(a0, .inr (4, [.ref a1])), (a1, .inl (cI, 117, .inl v_cells))] s.heap.size = A at hD hF ⊢
  have hA : ∀ q : Nat, s.heap.size ≤ q → A q := fun q h => by rw [← hAe]; exact Or.inr h
  have hS : va_S A s.heap s.heap [] := va_S.rf
  have hl := lv_entry ([.ref a0, .int x1]) (n := 4) (Nat.le_of_ble_eq_true rfl)
  rw [lg_entry_eq]
  generalize (lg_sl ([.ref a0, .int x1]) ++ List.replicate (4 - (lg_sl ([.ref a0, .int x1])).length) Slot.unset).toArray = ls at hl ⊢
  have hl : lv_has ls 4 [(0, .ref a0), (1, .int x1)] := hl
  generalize ([.ref a0, .int x1] : List Value).toArray = args at hT ⊢
  have key : ∀ (Q : State → Prop), (∀ (H : Heap) (locs : List Loc) (ls : Array Slot) (pc : Nat), decode cX4_setLastPause pc = .ok (.return_, 1) → va_P (dC, dI) vwCl [(a0, .inr (4, [.ref a1])), (a1, .inl (cI, 117, .inl v_cells_o))] H → va_D A [(a0, .inr (4, [.ref a1])), (a1, .inl (cI, 117, .inl v_cells_o))] → va_S A s.heap H locs → W p l e ({ frames := 1, cells := 0, slots := 0, locals := 22 } : Room) s m args below meth c H locs 0 0 Q (F0 m pc ls [])) → ∀ (H : Heap) (locs : List Loc) (ls : Array Slot), va_P (dC, dI) vwCl [(a0, .inr (4, [.ref a1])), (a1, .inl (cI, 117, .inl v_cells))] H → va_D A [(a0, .inr (4, [.ref a1])), (a1, .inl (cI, 117, .inl v_cells))] → va_S A s.heap H locs → lv_has ls 4 [(0, .ref a0), (1, .int x1)] → W p l e ({ frames := 1, cells := 0, slots := 0, locals := 22 } : Room) s m args below meth c H locs 0 0 Q (F0 m 0 ls []) := by
    intro Q hret H locs ls hP hD hS hl
    refine lv_aload_n hx hb dX4_setLastPause_0 rfl (lv_at hl 0 rfl) ?_
    obtain ⟨r_1, hq2, hf⟩ := bd1_el hf
    refine mc_V (As := []) (rest := []) (wr := []) (wn := [(a0, .inr (4, [.ref a1])), (a1, .inl (cI, 117, .inl v_cells))]) ⟨hx, hb, hml, hown, hT⟩ (c_X4_lines l dC dI cI cJ cP cS a0 a1 v_cells r_1 hq2) (cwV 0 hT (gdV q_ml_X4_28 q_im_X4_lines q_se_X4_lines q_in_X4 q_co_X4_lines) rfl rfl rfl hd_X4_lines ⟨Nat.le_of_ble_eq_true rfl, Nat.le_of_ble_eq_true rfl⟩) hK hF hP hD hS hA 0 rfl rfl rfl [0, 1] [] [0, 1] rfl (by decide) rfl (by decide) (by decide) rfl (by decide) rfl hl.1 rfl (Nat.le_of_ble_eq_true rfl) dX4_setLastPause_1 ⟨Nat.zero_le _, Nat.zero_le _⟩ (fun H locs hP hD hS => ?_)
    refine W.eq (g2 := F0 m 4 ls [.int r_1]) rfl ?_
    refine lv_iconst (v := 1) hx hb dX4_setLastPause_4 (by decide) ?_
    refine lv_isub hx hb dX4_setLastPause_5 ?_
    obtain ⟨x2_3, ex2_3, hf⟩ := nm_el hf
    refine lv_as (congrArg Value.int ex2_3) ?_
    refine lv_istore_n (lv' := [(2, .int x2_3), (0, .ref a0), (1, .int x1)]) hx hb dX4_setLastPause_6 rfl hl (by decide) rfl (fun ls hl => ?_)
    refine lv_iload_n hx hb dX4_setLastPause_7 rfl (lv_at hl 0 rfl) ?_
    refine lv_if_lt (tgt := 19) hx hb dX4_setLastPause_8 (by decide) (fun c4 => ?_) (fun c4 => ?_)
    · replace hf := it_t c4 hf
      replace hf := Option.some.inj hf
      subst hf
      exact hret H locs ls _ dX4_setLastPause_19 hP hD hS
    · replace hf := it_f c4 hf
      refine lv_aload_n hx hb dX4_setLastPause_11 rfl (lv_at hl 1 rfl) ?_
      refine lv_iload_n hx hb dX4_setLastPause_12 rfl (lv_at hl 0 rfl) ?_
      obtain ⟨r_5, hq6, hf⟩ := bd1_el hf
      refine mc_V (As := [.int x2_3]) (rest := []) (wr := []) (wn := [(a0, .inr (4, [.ref a1])), (a1, .inl (cI, 117, .inl v_cells))]) ⟨hx, hb, hml, hown, hT⟩ (c_X4_wordsOf l dC dI cI cJ cP cS a0 a1 v_cells x2_3 r_5 hq6) (cwV 1 hT (gdV q_ml_X4_32 q_im_X4_wordsOf q_se_X4_wordsOf q_in_X4 q_co_X4_wordsOf) rfl rfl rfl hd_X4_wordsOf ⟨Nat.le_of_ble_eq_true rfl, Nat.le_of_ble_eq_true rfl⟩) hK hF hP hD hS hA 0 rfl rfl rfl [0, 1] [] [0, 1] rfl (by decide) rfl (by decide) (by decide) rfl (by decide) rfl hl.1 rfl (Nat.le_of_ble_eq_true rfl) dX4_setLastPause_13 ⟨Nat.zero_le _, Nat.zero_le _⟩ (fun H locs hP hD hS => ?_)
      refine W.eq (g2 := F0 m 16 ls [.int r_5]) rfl ?_
      refine lv_if_ne (tgt := 20) hx hb dX4_setLastPause_16 (by decide) (fun c7 => ?_) (fun c7 => ?_)
      · replace hf := it_f c7 hf
        refine lv_aload_n hx hb dX4_setLastPause_20 rfl (lv_at hl 1 rfl) ?_
        refine lv_iload_n hx hb dX4_setLastPause_21 rfl (lv_at hl 0 rfl) ?_
        obtain ⟨r_8, hq9, hf⟩ := bd1_el hf
        refine mc_V (As := [.int x2_3]) (rest := []) (wr := []) (wn := [(a0, .inr (4, [.ref a1])), (a1, .inl (cI, 117, .inl v_cells))]) ⟨hx, hb, hml, hown, hT⟩ (c_X4_wordsOf l dC dI cI cJ cP cS a0 a1 v_cells x2_3 r_8 hq9) (cwV 1 hT (gdV q_ml_X4_32 q_im_X4_wordsOf q_se_X4_wordsOf q_in_X4 q_co_X4_wordsOf) rfl rfl rfl hd_X4_wordsOf ⟨Nat.le_of_ble_eq_true rfl, Nat.le_of_ble_eq_true rfl⟩) hK hF hP hD hS hA 0 rfl rfl rfl [0, 1] [] [0, 1] rfl (by decide) rfl (by decide) (by decide) rfl (by decide) rfl hl.1 rfl (Nat.le_of_ble_eq_true rfl) dX4_setLastPause_22 ⟨Nat.zero_le _, Nat.zero_le _⟩ (fun H locs hP hD hS => ?_)
        refine W.eq (g2 := F0 m 25 ls [.int r_8]) rfl ?_
        refine lv_iconst (v := 1) hx hb dX4_setLastPause_25 (by decide) ?_
        refine lv_isub hx hb dX4_setLastPause_26 ?_
        obtain ⟨x3_10, ex3_10, hf⟩ := nm_el hf
        refine lv_as (congrArg Value.int ex3_10) ?_
        refine lv_istore_n (lv' := [(3, .int x3_10), (2, .int x2_3), (0, .ref a0), (1, .int x1)]) hx hb dX4_setLastPause_27 rfl hl (by decide) rfl (fun ls hl => ?_)
        refine lv_aload_n hx hb dX4_setLastPause_28 rfl (lv_at hl 2 rfl) ?_
        refine va_get (D := (dC, dI)) (ci := 4) (v := .ref a1) (C := RX4) (T := TX4) (N := 1) hx hb hT in_X4 hown hK hP 0 rfl rfl 0 (by decide) (hT _ q_fl_X4_11) (fun _ h9 => h9) rfl dX4_setLastPause_29 ?_
        refine lv_bipush (v := 45) hx hb dX4_setLastPause_32 (by decide) ?_
        refine lv_iload_n hx hb dX4_setLastPause_34 rfl (lv_at hl 1 rfl) ?_
        refine lv_bipush (v := 6) hx hb dX4_setLastPause_35 (by decide) ?_
        refine lv_imul hx hb dX4_setLastPause_37 ?_
        refine lv_iadd hx hb dX4_setLastPause_38 ?_
        refine lv_iload_n hx hb dX4_setLastPause_39 rfl (lv_at hl 0 rfl) ?_
        refine lv_iadd hx hb dX4_setLastPause_40 ?_
        refine lv_aload_n hx hb dX4_setLastPause_41 rfl (lv_at hl 2 rfl) ?_
        refine lv_iload_n hx hb dX4_setLastPause_42 rfl (lv_at hl 1 rfl) ?_
        refine lv_iload_n hx hb dX4_setLastPause_43 rfl (lv_at hl 0 rfl) ?_
        obtain ⟨r_11, hq12, hf⟩ := bd1_el hf
        refine mc_V (As := [.int x2_3, .int x3_10]) (rest := [.int (((45 : Int32) + (x2_3 * (6 : Int32))) + x3_10), .ref a1]) (wr := []) (wn := [(a0, .inr (4, [.ref a1])), (a1, .inl (cI, 117, .inl v_cells))]) ⟨hx, hb, hml, hown, hT⟩ (c_X4_lettersOf l dC dI cI cJ cP cS a0 a1 v_cells x2_3 x3_10 r_11 hq12) (cwV 2 hT (gdV q_ml_X4_36 q_im_X4_lettersOf q_se_X4_lettersOf q_in_X4 q_co_X4_lettersOf) rfl rfl rfl hd_X4_lettersOf ⟨Nat.le_of_ble_eq_true rfl, Nat.le_of_ble_eq_true rfl⟩) hK hF hP hD hS hA 0 rfl rfl rfl [0, 1] [] [0, 1] rfl (by decide) rfl (by decide) (by decide) rfl (by decide) rfl hl.1 rfl (Nat.le_of_ble_eq_true rfl) dX4_setLastPause_44 ⟨Nat.zero_le _, Nat.zero_le _⟩ (fun H locs hP hD hS => ?_)
        refine W.eq (g2 := F0 m 47 ls [.int r_11, .int (((45 : Int32) + (x2_3 * (6 : Int32))) + x3_10), .ref a1]) rfl ?_
        refine lv_iconst (v := 4) hx hb dX4_setLastPause_47 (by decide) ?_
        refine lv_imul hx hb dX4_setLastPause_48 ?_
        refine lv_iload_n hx hb dX4_setLastPause_49 rfl (lv_at hl 3 rfl) ?_
        refine lv_iadd hx hb dX4_setLastPause_50 ?_
        obtain ⟨h13, hf⟩ := gd_el hf
        refine ia_st hx hb hK hP hD hS 1 0 rfl rfl (ib_in h13) (j := (tn (((45 : Int32) + (x2_3 * (6 : Int32))) + x3_10))) rfl dX4_setLastPause_51 (fun H locs hP hD hS => ?_)
        have hP : va_P (dC, dI) vwCl [(a0, .inr (4, [.ref a1])), (a1, .inl (cI, 117, .inl (upd v_cells (tn (((45 : Int32) + (x2_3 * (6 : Int32))) + x3_10)) ((r_11 * (4 : Int32)) + x1))))] H := hP
        have hD : va_D A [(a0, .inr (4, [.ref a1])), (a1, .inl (cI, 117, .inl (upd v_cells (tn (((45 : Int32) + (x2_3 * (6 : Int32))) + x3_10)) ((r_11 * (4 : Int32)) + x1))))] := hD
        replace hf := Option.some.inj hf
        subst hf
        exact hret H locs ls _ dX4_setLastPause_52 hP hD hS
      · replace hf := it_t c7 hf
        replace hf := Option.some.inj hf
        subst hf
        exact hret H locs ls _ dX4_setLastPause_19 hP hD hS
  refine key _ ?_ _ _ _ hP hD hS hl
  intro H locs ls pc d hP hD hS
  exact W.vret hx hb hr (fun t ht hW => ⟨⟨rfl, by rw [ht]; exact hP, hD⟩, hS.F ht⟩) hS.2.2 d
def p_X4_removeLine (v_cells : (Nat → Int32)) : Option (Int32 × (Nat → Int32)) :=
  (bd1 (p_X4_lines v_cells) fun r_1 => (if r_1 = (0 : Int32) then (some ((-4 : Int32), v_cells)) else (bd1 (p_X4_lines (upd v_cells 8 ((v_cells 8) - (1 : Int32)))) fun r_4 => (some (r_4, (upd v_cells 8 ((v_cells 8) - (1 : Int32))))))))
set_option maxHeartbeats 4000000 in
set_option maxRecDepth 100000 in
theorem c_X4_removeLine (l : Launch) (dC : Nat → ClassId) (dI : Nat → Nat → Nat) (cI cJ cP cS : ClassId) (a0 : Nat) (a1 : Nat) (v_cells : (Nat → Int32))   (rv : Int32) (v_cells_o : (Nat → Int32)) (hf : p_X4_removeLine v_cells = some (rv, v_cells_o)) : MC l (dC, dI) (tyl cI cJ cP cS) yX4_removeLine (Cond.code yX4_removeLine cX4_removeLine 1 (some .int) :: TBG) ({ frames := 1, cells := 0, slots := 0, locals := 20 } : Room) [.ref a0] [(a0, .inr (4, [.ref a1])), (a1, .inl (cI, 117, .inl v_cells))] [(a0, .inr (4, [.ref a1])), (a1, .inl (cI, 117, .inl v_cells_o))] (some (.int rv)) := by
  intro sz
  unfold MPost
  refine Met.ofW (cc := cX4_removeLine) (maxL := 1) (ret := (some .int)) (by decide) rfl ?_
  intro p e s m args below meth c s₁ B hml hv
  obtain ⟨rfl, hsz, hP, hK, hD0, hF⟩ := hv
  have hx := B.exec
  have hb := B.bytes
  have hr := B.returns
  have hT : ∀ w ∈ TBG, w.before _ s = true := fun w h => atoms_spec B.pre w (List.mem_cons_of_mem _ h)
  have hown : s.vm.findClass RX4 = some m.cls := findClass_of_methodNamed B.named
  have hlocks := B.notSynchronized
  subst hsz
  have hD := hD0.self (sz := s.heap.size)
  generalize hAe : va_A [(a0, .inr (4, [.ref a1])), (a1, .inl (cI, 117, .inl v_cells))] s.heap.size = A at hD hF ⊢
  have hA : ∀ q : Nat, s.heap.size ≤ q → A q := fun q h => by rw [← hAe]; exact Or.inr h
  have hS : va_S A s.heap s.heap [] := va_S.rf
  have hl := lv_entry ([.ref a0]) (n := 1) (Nat.le_of_ble_eq_true rfl)
  rw [lg_entry_eq]
  generalize (lg_sl ([.ref a0]) ++ List.replicate (1 - (lg_sl ([.ref a0])).length) Slot.unset).toArray = ls at hl ⊢
  have hl : lv_has ls 1 [(0, .ref a0)] := hl
  generalize ([.ref a0] : List Value).toArray = args at hT ⊢
  have key : ∀ (Q : State → Prop), (∀ (H : Heap) (locs : List Loc) (ls : Array Slot) (pc : Nat), decode cX4_removeLine pc = .ok (.ireturn, 1) → va_P (dC, dI) vwCl [(a0, .inr (4, [.ref a1])), (a1, .inl (cI, 117, .inl v_cells_o))] H → va_D A [(a0, .inr (4, [.ref a1])), (a1, .inl (cI, 117, .inl v_cells_o))] → va_S A s.heap H locs → W p l e ({ frames := 1, cells := 0, slots := 0, locals := 20 } : Room) s m args below meth c H locs 0 0 Q (F0 m pc ls [.int rv])) → ∀ (H : Heap) (locs : List Loc) (ls : Array Slot), va_P (dC, dI) vwCl [(a0, .inr (4, [.ref a1])), (a1, .inl (cI, 117, .inl v_cells))] H → va_D A [(a0, .inr (4, [.ref a1])), (a1, .inl (cI, 117, .inl v_cells))] → va_S A s.heap H locs → lv_has ls 1 [(0, .ref a0)] → W p l e ({ frames := 1, cells := 0, slots := 0, locals := 20 } : Room) s m args below meth c H locs 0 0 Q (F0 m 0 ls []) := by
    intro Q hret H locs ls hP hD hS hl
    refine lv_aload_n hx hb dX4_removeLine_0 rfl (lv_at hl 0 rfl) ?_
    obtain ⟨r_1, hq2, hf⟩ := bd1_el hf
    refine mc_V (As := []) (rest := []) (wr := []) (wn := [(a0, .inr (4, [.ref a1])), (a1, .inl (cI, 117, .inl v_cells))]) ⟨hx, hb, hml, hown, hT⟩ (c_X4_lines l dC dI cI cJ cP cS a0 a1 v_cells r_1 hq2) (cwV 0 hT (gdV q_ml_X4_28 q_im_X4_lines q_se_X4_lines q_in_X4 q_co_X4_lines) rfl rfl rfl hd_X4_lines ⟨Nat.le_of_ble_eq_true rfl, Nat.le_of_ble_eq_true rfl⟩) hK hF hP hD hS hA 0 rfl rfl rfl [0, 1] [] [0, 1] rfl (by decide) rfl (by decide) (by decide) rfl (by decide) rfl hl.1 rfl (Nat.le_of_ble_eq_true rfl) dX4_removeLine_1 ⟨Nat.zero_le _, Nat.zero_le _⟩ (fun H locs hP hD hS => ?_)
    refine W.eq (g2 := F0 m 4 ls [.int r_1]) rfl ?_
    refine lv_if_ne (tgt := 10) hx hb dX4_removeLine_4 (by decide) (fun c3 => ?_) (fun c3 => ?_)
    · replace hf := it_f c3 hf
      refine lv_aload_n hx hb dX4_removeLine_10 rfl (lv_at hl 0 rfl) ?_
      refine va_get (D := (dC, dI)) (ci := 4) (v := .ref a1) (C := RX4) (T := TX4) (N := 1) hx hb hT in_X4 hown hK hP 0 rfl rfl 0 (by decide) (hT _ q_fl_X4_11) (fun _ h9 => h9) rfl dX4_removeLine_11 ?_
      refine lv_bipush (v := 8) hx hb dX4_removeLine_14 (by decide) ?_
      refine lv_dup2_11 hx hb dX4_removeLine_16 rfl rfl ?_
      refine ia_ld hx hb hK hP 1 0 rfl rfl (ib_in (by decide)) (j := 8) (by decide) dX4_removeLine_17 ?_
      refine lv_iconst (v := 1) hx hb dX4_removeLine_18 (by decide) ?_
      refine lv_isub hx hb dX4_removeLine_19 ?_
      refine ia_st hx hb hK hP hD hS 1 0 rfl rfl (ib_in (by decide)) (j := 8) (by decide) dX4_removeLine_20 (fun H locs hP hD hS => ?_)
      have hP : va_P (dC, dI) vwCl [(a0, .inr (4, [.ref a1])), (a1, .inl (cI, 117, .inl (upd v_cells 8 ((v_cells 8) - (1 : Int32)))))] H := hP
      have hD : va_D A [(a0, .inr (4, [.ref a1])), (a1, .inl (cI, 117, .inl (upd v_cells 8 ((v_cells 8) - (1 : Int32)))))] := hD
      refine lv_aload_n hx hb dX4_removeLine_21 rfl (lv_at hl 0 rfl) ?_
      obtain ⟨r_4, hq5, hf⟩ := bd1_el hf
      refine mc_V (As := []) (rest := []) (wr := []) (wn := [(a0, .inr (4, [.ref a1])), (a1, .inl (cI, 117, .inl (upd v_cells 8 ((v_cells 8) - (1 : Int32)))))]) ⟨hx, hb, hml, hown, hT⟩ (c_X4_lines l dC dI cI cJ cP cS a0 a1 (upd v_cells 8 ((v_cells 8) - (1 : Int32))) r_4 hq5) (cwV 0 hT (gdV q_ml_X4_28 q_im_X4_lines q_se_X4_lines q_in_X4 q_co_X4_lines) rfl rfl rfl hd_X4_lines ⟨Nat.le_of_ble_eq_true rfl, Nat.le_of_ble_eq_true rfl⟩) hK hF hP hD hS hA 0 rfl rfl rfl [0, 1] [] [0, 1] rfl (by decide) rfl (by decide) (by decide) rfl (by decide) rfl hl.1 rfl (Nat.le_of_ble_eq_true rfl) dX4_removeLine_22 ⟨Nat.zero_le _, Nat.zero_le _⟩ (fun H locs hP hD hS => ?_)
      refine W.eq (g2 := F0 m 25 ls [.int r_4]) rfl ?_
      replace hf := Option.some.inj hf
      simp only [Prod.mk.injEq] at hf
      obtain ⟨hf0, hf1⟩ := hf
      subst hf0; subst hf1
      exact hret H locs ls _ dX4_removeLine_25 hP hD hS
    · replace hf := it_t c3 hf
      refine lv_bipush (v := (-4)) hx hb dX4_removeLine_7 (by decide) ?_
      replace hf := Option.some.inj hf
      simp only [Prod.mk.injEq] at hf
      obtain ⟨hf0, hf1⟩ := hf
      subst hf0; subst hf1
      exact hret H locs ls _ dX4_removeLine_9 hP hD hS
  refine key _ ?_ _ _ _ hP hD hS hl
  intro H locs ls pc d hP hD hS
  exact W.iret (v := rv) hx hb hr (fun t ht hW => ⟨⟨rfl, by rw [ht]; exact hP, hD⟩, hS.F ht⟩) hS.2.2 d
def p_X4_hasLine (v_cells : (Nat → Int32)) (x1 : Int32) : Option (Int32) :=
  (if x1 < (0 : Int32) then (some (0 : Int32)) else (bd1 (p_X4_lines v_cells) fun r_2 => (if r_2 ≤ x1 then (some (0 : Int32)) else (some (1 : Int32)))))
set_option maxHeartbeats 4000000 in
set_option maxRecDepth 100000 in
theorem c_X4_hasLine (l : Launch) (dC : Nat → ClassId) (dI : Nat → Nat → Nat) (cI cJ cP cS : ClassId) (a0 : Nat) (a1 : Nat) (v_cells : (Nat → Int32))  (x1 : Int32) (rv : Int32)  (hf : p_X4_hasLine v_cells x1 = some rv) : MC l (dC, dI) (tyl cI cJ cP cS) yX4_hasLine (Cond.code yX4_hasLine cX4_hasLine 2 (some .boolean) :: TBG) ({ frames := 1, cells := 0, slots := 0, locals := 20 } : Room) [.ref a0, .int x1] [(a0, .inr (4, [.ref a1])), (a1, .inl (cI, 117, .inl v_cells))] [(a0, .inr (4, [.ref a1])), (a1, .inl (cI, 117, .inl v_cells))] (some (.int rv)) := by
  intro sz
  unfold MPost
  refine Met.ofW (cc := cX4_hasLine) (maxL := 2) (ret := (some .boolean)) (by decide) rfl ?_
  intro p e s m args below meth c s₁ B hml hv
  obtain ⟨rfl, hsz, hP, hK, hD0, hF⟩ := hv
  have hx := B.exec
  have hb := B.bytes
  have hr := B.returns
  have hT : ∀ w ∈ TBG, w.before _ s = true := fun w h => atoms_spec B.pre w (List.mem_cons_of_mem _ h)
  have hown : s.vm.findClass RX4 = some m.cls := findClass_of_methodNamed B.named
  have hlocks := B.notSynchronized
  subst hsz
  have hD := hD0.self (sz := s.heap.size)
  generalize hAe : va_A [(a0, .inr (4, [.ref a1])), (a1, .inl (cI, 117, .inl v_cells))] s.heap.size = A at hD hF ⊢
  have hA : ∀ q : Nat, s.heap.size ≤ q → A q := fun q h => by rw [← hAe]; exact Or.inr h
  have hS : va_S A s.heap s.heap [] := va_S.rf
  have hl := lv_entry ([.ref a0, .int x1]) (n := 2) (Nat.le_of_ble_eq_true rfl)
  rw [lg_entry_eq]
  generalize (lg_sl ([.ref a0, .int x1]) ++ List.replicate (2 - (lg_sl ([.ref a0, .int x1])).length) Slot.unset).toArray = ls at hl ⊢
  have hl : lv_has ls 2 [(0, .ref a0), (1, .int x1)] := hl
  generalize ([.ref a0, .int x1] : List Value).toArray = args at hT ⊢
  have key : ∀ (Q : State → Prop), (∀ (H : Heap) (locs : List Loc) (ls : Array Slot) (pc : Nat), decode cX4_hasLine pc = .ok (.ireturn, 1) → narrow .boolean (.int rv) = .int rv → va_P (dC, dI) vwCl [(a0, .inr (4, [.ref a1])), (a1, .inl (cI, 117, .inl v_cells))] H → va_D A [(a0, .inr (4, [.ref a1])), (a1, .inl (cI, 117, .inl v_cells))] → va_S A s.heap H locs → W p l e ({ frames := 1, cells := 0, slots := 0, locals := 20 } : Room) s m args below meth c H locs 0 0 Q (F0 m pc ls [.int rv])) → ∀ (H : Heap) (locs : List Loc) (ls : Array Slot), va_P (dC, dI) vwCl [(a0, .inr (4, [.ref a1])), (a1, .inl (cI, 117, .inl v_cells))] H → va_D A [(a0, .inr (4, [.ref a1])), (a1, .inl (cI, 117, .inl v_cells))] → va_S A s.heap H locs → lv_has ls 2 [(0, .ref a0), (1, .int x1)] → W p l e ({ frames := 1, cells := 0, slots := 0, locals := 20 } : Room) s m args below meth c H locs 0 0 Q (F0 m 0 ls []) := by
    intro Q hret H locs ls hP hD hS hl
    refine lv_iload_n hx hb dX4_hasLine_0 rfl (lv_at hl 1 rfl) ?_
    refine lv_if_lt (tgt := 16) hx hb dX4_hasLine_1 (by decide) (fun c1 => ?_) (fun c1 => ?_)
    · replace hf := it_t c1 hf
      refine lv_iconst (v := 0) hx hb dX4_hasLine_16 (by decide) ?_
      replace hf := Option.some.inj hf
      subst hf
      exact hret H locs ls _ dX4_hasLine_17 rfl hP hD hS
    · replace hf := it_f c1 hf
      refine lv_iload_n hx hb dX4_hasLine_4 rfl (lv_at hl 1 rfl) ?_
      refine lv_aload_n hx hb dX4_hasLine_5 rfl (lv_at hl 0 rfl) ?_
      obtain ⟨r_2, hq3, hf⟩ := bd1_el hf
      refine mc_V (As := []) (rest := [.int x1]) (wr := []) (wn := [(a0, .inr (4, [.ref a1])), (a1, .inl (cI, 117, .inl v_cells))]) ⟨hx, hb, hml, hown, hT⟩ (c_X4_lines l dC dI cI cJ cP cS a0 a1 v_cells r_2 hq3) (cwV 0 hT (gdV q_ml_X4_28 q_im_X4_lines q_se_X4_lines q_in_X4 q_co_X4_lines) rfl rfl rfl hd_X4_lines ⟨Nat.le_of_ble_eq_true rfl, Nat.le_of_ble_eq_true rfl⟩) hK hF hP hD hS hA 0 rfl rfl rfl [0, 1] [] [0, 1] rfl (by decide) rfl (by decide) (by decide) rfl (by decide) rfl hl.1 rfl (Nat.le_of_ble_eq_true rfl) dX4_hasLine_6 ⟨Nat.zero_le _, Nat.zero_le _⟩ (fun H locs hP hD hS => ?_)
      refine W.eq (g2 := F0 m 9 ls [.int r_2, .int x1]) rfl ?_
      refine lv_icmp_ge (tgt := 16) hx hb dX4_hasLine_9 (by decide) (fun c4 => ?_) (fun c4 => ?_)
      · replace hf := it_t c4 hf
        refine lv_iconst (v := 0) hx hb dX4_hasLine_16 (by decide) ?_
        replace hf := Option.some.inj hf
        subst hf
        exact hret H locs ls _ dX4_hasLine_17 rfl hP hD hS
      · replace hf := it_f c4 hf
        refine lv_iconst (v := 1) hx hb dX4_hasLine_12 (by decide) ?_
        refine lv_goto (tgt := 17) hx hb dX4_hasLine_13 (by decide) ?_
        replace hf := Option.some.inj hf
        subst hf
        exact hret H locs ls _ dX4_hasLine_17 rfl hP hD hS
  refine key _ ?_ _ _ _ hP hD hS hl
  intro H locs ls pc d hz hP hD hS
  exact W.zret (v := rv) hx hb hr hz (fun t ht hW => ⟨⟨rfl, by rw [ht]; exact hP, hD⟩, hS.F ht⟩) hS.2.2 d
def p_X4_changeRhyme (v_cells : (Nat → Int32)) (x1 : Int32) (x2 : Int32) : Option (Int32 × (Nat → Int32)) :=
  (bd1 (p_X4_hasLine v_cells x1) fun r_1 => (if r_1 = (0 : Int32) then (some ((-1 : Int32), v_cells)) else (bd1 (p_X4_isRhyme x2) fun r_4 => (if r_4 = (0 : Int32) then (some ((-1 : Int32), v_cells)) else (bd1 (p_X4_rhymeOf v_cells x1) fun r_7 => (if r_7 = x2 then (some ((-2 : Int32), v_cells)) else (gd (ib ((9 : Int32) + x1) 117) (some (r_7, (upd v_cells (tn ((9 : Int32) + x1)) x2))))))))))
set_option maxHeartbeats 4000000 in
set_option maxRecDepth 100000 in
theorem c_X4_changeRhyme (l : Launch) (dC : Nat → ClassId) (dI : Nat → Nat → Nat) (cI cJ cP cS : ClassId) (a0 : Nat) (a1 : Nat) (v_cells : (Nat → Int32))  (x1 : Int32) (x2 : Int32) (rv : Int32) (v_cells_o : (Nat → Int32)) (hf : p_X4_changeRhyme v_cells x1 x2 = some (rv, v_cells_o)) : MC l (dC, dI) (tyl cI cJ cP cS) yX4_changeRhyme (Cond.code yX4_changeRhyme cX4_changeRhyme 4 (some .int) :: TBG) ({ frames := 2, cells := 0, slots := 0, locals := 41 } : Room) [.ref a0, .int x1, .int x2] [(a0, .inr (4, [.ref a1])), (a1, .inl (cI, 117, .inl v_cells))] [(a0, .inr (4, [.ref a1])), (a1, .inl (cI, 117, .inl v_cells_o))] (some (.int rv)) := by
  intro sz
  unfold MPost
  refine Met.ofW (cc := cX4_changeRhyme) (maxL := 4) (ret := (some .int)) (by decide) rfl ?_
  intro p e s m args below meth c s₁ B hml hv
  obtain ⟨rfl, hsz, hP, hK, hD0, hF⟩ := hv
  have hx := B.exec
  have hb := B.bytes
  have hr := B.returns
  have hT : ∀ w ∈ TBG, w.before _ s = true := fun w h => atoms_spec B.pre w (List.mem_cons_of_mem _ h)
  have hown : s.vm.findClass RX4 = some m.cls := findClass_of_methodNamed B.named
  have hlocks := B.notSynchronized
  subst hsz
  have hD := hD0.self (sz := s.heap.size)
  generalize hAe : va_A [(a0, .inr (4, [.ref a1])), (a1, .inl (cI, 117, .inl v_cells))] s.heap.size = A at hD hF ⊢
  have hA : ∀ q : Nat, s.heap.size ≤ q → A q := fun q h => by rw [← hAe]; exact Or.inr h
  have hS : va_S A s.heap s.heap [] := va_S.rf
  have hl := lv_entry ([.ref a0, .int x1, .int x2]) (n := 4) (Nat.le_of_ble_eq_true rfl)
  rw [lg_entry_eq]
  generalize (lg_sl ([.ref a0, .int x1, .int x2]) ++ List.replicate (4 - (lg_sl ([.ref a0, .int x1, .int x2])).length) Slot.unset).toArray = ls at hl ⊢
  have hl : lv_has ls 4 [(0, .ref a0), (1, .int x1), (2, .int x2)] := hl
  generalize ([.ref a0, .int x1, .int x2] : List Value).toArray = args at hT ⊢
  have key : ∀ (Q : State → Prop), (∀ (H : Heap) (locs : List Loc) (ls : Array Slot) (pc : Nat), decode cX4_changeRhyme pc = .ok (.ireturn, 1) → va_P (dC, dI) vwCl [(a0, .inr (4, [.ref a1])), (a1, .inl (cI, 117, .inl v_cells_o))] H → va_D A [(a0, .inr (4, [.ref a1])), (a1, .inl (cI, 117, .inl v_cells_o))] → va_S A s.heap H locs → W p l e ({ frames := 2, cells := 0, slots := 0, locals := 41 } : Room) s m args below meth c H locs 0 0 Q (F0 m pc ls [.int rv])) → ∀ (H : Heap) (locs : List Loc) (ls : Array Slot), va_P (dC, dI) vwCl [(a0, .inr (4, [.ref a1])), (a1, .inl (cI, 117, .inl v_cells))] H → va_D A [(a0, .inr (4, [.ref a1])), (a1, .inl (cI, 117, .inl v_cells))] → va_S A s.heap H locs → lv_has ls 4 [(0, .ref a0), (1, .int x1), (2, .int x2)] → W p l e ({ frames := 2, cells := 0, slots := 0, locals := 41 } : Room) s m args below meth c H locs 0 0 Q (F0 m 0 ls []) := by
    intro Q hret H locs ls hP hD hS hl
    refine lv_aload_n hx hb dX4_changeRhyme_0 rfl (lv_at hl 0 rfl) ?_
    refine lv_iload_n hx hb dX4_changeRhyme_1 rfl (lv_at hl 1 rfl) ?_
    obtain ⟨r_1, hq2, hf⟩ := bd1_el hf
    refine mc_V (As := [.int x1]) (rest := []) (wr := []) (wn := [(a0, .inr (4, [.ref a1])), (a1, .inl (cI, 117, .inl v_cells))]) ⟨hx, hb, hml, hown, hT⟩ (c_X4_hasLine l dC dI cI cJ cP cS a0 a1 v_cells x1 r_1 hq2) (cwV 1 hT (gdV q_ml_X4_40 q_im_X4_hasLine q_se_X4_hasLine q_in_X4 q_co_X4_hasLine) rfl rfl rfl hd_X4_hasLine ⟨Nat.le_of_ble_eq_true rfl, Nat.le_of_ble_eq_true rfl⟩) hK hF hP hD hS hA 0 rfl rfl rfl [0, 1] [] [0, 1] rfl (by decide) rfl (by decide) (by decide) rfl (by decide) rfl hl.1 rfl (Nat.le_of_ble_eq_true rfl) dX4_changeRhyme_2 ⟨Nat.zero_le _, Nat.zero_le _⟩ (fun H locs hP hD hS => ?_)
    refine W.eq (g2 := F0 m 5 ls [.int r_1]) rfl ?_
    refine lv_if_eq (tgt := 15) hx hb dX4_changeRhyme_5 (by decide) (fun c3 => ?_) (fun c3 => ?_)
    · replace hf := it_t c3 hf
      refine lv_iconst (v := (-1)) hx hb dX4_changeRhyme_15 (by decide) ?_
      replace hf := Option.some.inj hf
      simp only [Prod.mk.injEq] at hf
      obtain ⟨hf0, hf1⟩ := hf
      subst hf0; subst hf1
      exact hret H locs ls _ dX4_changeRhyme_16 hP hD hS
    · replace hf := it_f c3 hf
      refine lv_iload_n hx hb dX4_changeRhyme_8 rfl (lv_at hl 2 rfl) ?_
      obtain ⟨r_4, hq5, hf⟩ := bd1_el hf
      refine mc_S (As := [.int x2]) (rest := []) (wr := [(a0, .inr (4, [.ref a1])), (a1, .inl (cI, 117, .inl v_cells))]) (wn := [(a0, .inr (4, [.ref a1])), (a1, .inl (cI, 117, .inl v_cells))]) ⟨hx, hb, hml, hown, hT⟩ (c_X4_isRhyme l dC dI cI cJ cP cS x2 r_4 hq5) (va_cwS 1 hT (gdS q_ml_X4_24 q_st_X4_isRhyme q_in_X4 q_co_X4_isRhyme) rfl rfl rfl hd_X4_isRhyme ⟨Nat.le_of_ble_eq_true rfl, Nat.le_of_ble_eq_true rfl⟩) hK hF hP hD hS hA [] [0, 1] [0, 1] rfl (by decide) rfl (by decide) (by decide) rfl (by decide) rfl hl.1 rfl (Nat.le_of_ble_eq_true rfl) dX4_changeRhyme_9 ⟨Nat.zero_le _, Nat.zero_le _⟩ (fun H locs hP hD hS => ?_)
      refine W.eq (g2 := F0 m 12 ls [.int r_4]) rfl ?_
      refine lv_if_ne (tgt := 17) hx hb dX4_changeRhyme_12 (by decide) (fun c6 => ?_) (fun c6 => ?_)
      · replace hf := it_f c6 hf
        refine lv_aload_n hx hb dX4_changeRhyme_17 rfl (lv_at hl 0 rfl) ?_
        refine lv_iload_n hx hb dX4_changeRhyme_18 rfl (lv_at hl 1 rfl) ?_
        obtain ⟨r_7, hq8, hf⟩ := bd1_el hf
        refine mc_V (As := [.int x1]) (rest := []) (wr := []) (wn := [(a0, .inr (4, [.ref a1])), (a1, .inl (cI, 117, .inl v_cells))]) ⟨hx, hb, hml, hown, hT⟩ (c_X4_rhymeOf l dC dI cI cJ cP cS a0 a1 v_cells x1 r_7 hq8) (cwV 1 hT (gdV q_ml_X4_43 q_im_X4_rhymeOf q_se_X4_rhymeOf q_in_X4 q_co_X4_rhymeOf) rfl rfl rfl hd_X4_rhymeOf ⟨Nat.le_of_ble_eq_true rfl, Nat.le_of_ble_eq_true rfl⟩) hK hF hP hD hS hA 0 rfl rfl rfl [0, 1] [] [0, 1] rfl (by decide) rfl (by decide) (by decide) rfl (by decide) rfl hl.1 rfl (Nat.le_of_ble_eq_true rfl) dX4_changeRhyme_19 ⟨Nat.zero_le _, Nat.zero_le _⟩ (fun H locs hP hD hS => ?_)
        refine W.eq (g2 := F0 m 22 ls [.int r_7]) rfl ?_
        refine lv_istore_n (lv' := [(3, .int r_7), (0, .ref a0), (1, .int x1), (2, .int x2)]) hx hb dX4_changeRhyme_22 rfl hl (by decide) rfl (fun ls hl => ?_)
        refine lv_iload_n hx hb dX4_changeRhyme_23 rfl (lv_at hl 0 rfl) ?_
        refine lv_iload_n hx hb dX4_changeRhyme_24 rfl (lv_at hl 3 rfl) ?_
        refine lv_icmp_ne (tgt := 31) hx hb dX4_changeRhyme_25 (by decide) (fun c9 => ?_) (fun c9 => ?_)
        · replace hf := it_f c9 hf
          refine lv_aload_n hx hb dX4_changeRhyme_31 rfl (lv_at hl 1 rfl) ?_
          refine va_get (D := (dC, dI)) (ci := 4) (v := .ref a1) (C := RX4) (T := TX4) (N := 1) hx hb hT in_X4 hown hK hP 0 rfl rfl 0 (by decide) (hT _ q_fl_X4_11) (fun _ h9 => h9) rfl dX4_changeRhyme_32 ?_
          refine lv_bipush (v := 9) hx hb dX4_changeRhyme_35 (by decide) ?_
          refine lv_iload_n hx hb dX4_changeRhyme_37 rfl (lv_at hl 2 rfl) ?_
          refine lv_iadd hx hb dX4_changeRhyme_38 ?_
          refine lv_iload_n hx hb dX4_changeRhyme_39 rfl (lv_at hl 3 rfl) ?_
          obtain ⟨h10, hf⟩ := gd_el hf
          refine ia_st hx hb hK hP hD hS 1 0 rfl rfl (ib_in h10) (j := (tn ((9 : Int32) + x1))) rfl dX4_changeRhyme_40 (fun H locs hP hD hS => ?_)
          have hP : va_P (dC, dI) vwCl [(a0, .inr (4, [.ref a1])), (a1, .inl (cI, 117, .inl (upd v_cells (tn ((9 : Int32) + x1)) x2)))] H := hP
          have hD : va_D A [(a0, .inr (4, [.ref a1])), (a1, .inl (cI, 117, .inl (upd v_cells (tn ((9 : Int32) + x1)) x2)))] := hD
          refine lv_iload_n hx hb dX4_changeRhyme_41 rfl (lv_at hl 0 rfl) ?_
          replace hf := Option.some.inj hf
          simp only [Prod.mk.injEq] at hf
          obtain ⟨hf0, hf1⟩ := hf
          subst hf0; subst hf1
          exact hret H locs ls _ dX4_changeRhyme_42 hP hD hS
        · replace hf := it_t c9 hf
          refine lv_bipush (v := (-2)) hx hb dX4_changeRhyme_28 (by decide) ?_
          replace hf := Option.some.inj hf
          simp only [Prod.mk.injEq] at hf
          obtain ⟨hf0, hf1⟩ := hf
          subst hf0; subst hf1
          exact hret H locs ls _ dX4_changeRhyme_30 hP hD hS
      · replace hf := it_t c6 hf
        refine lv_iconst (v := (-1)) hx hb dX4_changeRhyme_15 (by decide) ?_
        replace hf := Option.some.inj hf
        simp only [Prod.mk.injEq] at hf
        obtain ⟨hf0, hf1⟩ := hf
        subst hf0; subst hf1
        exact hret H locs ls _ dX4_changeRhyme_16 hP hD hS
  refine key _ ?_ _ _ _ hP hD hS hl
  intro H locs ls pc d hP hD hS
  exact W.iret (v := rv) hx hb hr (fun t ht hW => ⟨⟨rfl, by rw [ht]; exact hP, hD⟩, hS.F ht⟩) hS.2.2 d
def p_X4_changeSetting (v_cells : (Nat → Int32)) (x1 : Int32) (x2 : Int32) : Option (Int32 × (Nat → Int32)) :=
  (if x1 < (0 : Int32) then (some ((-1 : Int32), v_cells)) else (if (7 : Int32) ≤ x1 then (some ((-1 : Int32), v_cells)) else (gd (ib x1 7) (if x2 < (tabLI (tn x1)) then (some ((-1 : Int32), v_cells)) else (gd (ib x1 7) (if x2 ≤ (tabMI (tn x1)) then (gd (ib x1 117) (nm (v_cells (tn x1)) fun x3_8 => (if x3_8 = x2 then (some ((-2 : Int32), v_cells)) else (gd (ib x1 117) (some (x3_8, (upd v_cells (tn x1) x2))))))) else (some ((-1 : Int32), v_cells))))))))
set_option maxHeartbeats 4000000 in
set_option maxRecDepth 100000 in
theorem c_X4_changeSetting (l : Launch) (dC : Nat → ClassId) (dI : Nat → Nat → Nat) (cI cJ cP cS : ClassId) (a0 : Nat) (a1 : Nat) (v_cells : (Nat → Int32))  (x1 : Int32) (x2 : Int32) (rv : Int32) (v_cells_o : (Nat → Int32)) (hf : p_X4_changeSetting v_cells x1 x2 = some (rv, v_cells_o)) : MC l (dC, dI) (tyl cI cJ cP cS) yX4_changeSetting (Cond.code yX4_changeSetting cX4_changeSetting 4 (some .int) :: TBG) ({ frames := 0, cells := 0, slots := 0, locals := 0 } : Room) [.ref a0, .int x1, .int x2] [(a0, .inr (4, [.ref a1])), (a1, .inl (cI, 117, .inl v_cells))] [(a0, .inr (4, [.ref a1])), (a1, .inl (cI, 117, .inl v_cells_o))] (some (.int rv)) := by
  intro sz
  unfold MPost
  refine Met.ofW (cc := cX4_changeSetting) (maxL := 4) (ret := (some .int)) (by decide) rfl ?_
  intro p e s m args below meth c s₁ B hml hv
  obtain ⟨rfl, hsz, hP, hK, hD0, hF⟩ := hv
  have hx := B.exec
  have hb := B.bytes
  have hr := B.returns
  have hT : ∀ w ∈ TBG, w.before _ s = true := fun w h => atoms_spec B.pre w (List.mem_cons_of_mem _ h)
  have hown : s.vm.findClass RX4 = some m.cls := findClass_of_methodNamed B.named
  have hlocks := B.notSynchronized
  subst hsz
  have hD := hD0.self (sz := s.heap.size)
  generalize hAe : va_A [(a0, .inr (4, [.ref a1])), (a1, .inl (cI, 117, .inl v_cells))] s.heap.size = A at hD hF ⊢
  have hA : ∀ q : Nat, s.heap.size ≤ q → A q := fun q h => by rw [← hAe]; exact Or.inr h
  have hS : va_S A s.heap s.heap [] := va_S.rf
  have hl := lv_entry ([.ref a0, .int x1, .int x2]) (n := 4) (Nat.le_of_ble_eq_true rfl)
  rw [lg_entry_eq]
  generalize (lg_sl ([.ref a0, .int x1, .int x2]) ++ List.replicate (4 - (lg_sl ([.ref a0, .int x1, .int x2])).length) Slot.unset).toArray = ls at hl ⊢
  have hl : lv_has ls 4 [(0, .ref a0), (1, .int x1), (2, .int x2)] := hl
  generalize ([.ref a0, .int x1, .int x2] : List Value).toArray = args at hT ⊢
  have key : ∀ (Q : State → Prop), (∀ (H : Heap) (locs : List Loc) (ls : Array Slot) (pc : Nat), decode cX4_changeSetting pc = .ok (.ireturn, 1) → va_P (dC, dI) vwCl [(a0, .inr (4, [.ref a1])), (a1, .inl (cI, 117, .inl v_cells_o))] H → va_D A [(a0, .inr (4, [.ref a1])), (a1, .inl (cI, 117, .inl v_cells_o))] → va_S A s.heap H locs → W p l e ({ frames := 0, cells := 0, slots := 0, locals := 0 } : Room) s m args below meth c H locs 0 0 Q (F0 m pc ls [.int rv])) → ∀ (H : Heap) (locs : List Loc) (ls : Array Slot), va_P (dC, dI) vwCl [(a0, .inr (4, [.ref a1])), (a1, .inl (cI, 117, .inl v_cells))] H → va_D A [(a0, .inr (4, [.ref a1])), (a1, .inl (cI, 117, .inl v_cells))] → va_S A s.heap H locs → lv_has ls 4 [(0, .ref a0), (1, .int x1), (2, .int x2)] → W p l e ({ frames := 0, cells := 0, slots := 0, locals := 0 } : Room) s m args below meth c H locs 0 0 Q (F0 m 0 ls []) := by
    intro Q hret H locs ls hP hD hS hl
    refine lv_iload_n hx hb dX4_changeSetting_0 rfl (lv_at hl 1 rfl) ?_
    refine lv_if_lt (tgt := 28) hx hb dX4_changeSetting_1 (by decide) (fun c1 => ?_) (fun c1 => ?_)
    · replace hf := it_t c1 hf
      refine lv_iconst (v := (-1)) hx hb dX4_changeSetting_28 (by decide) ?_
      replace hf := Option.some.inj hf
      simp only [Prod.mk.injEq] at hf
      obtain ⟨hf0, hf1⟩ := hf
      subst hf0; subst hf1
      exact hret H locs ls _ dX4_changeSetting_29 hP hD hS
    · replace hf := it_f c1 hf
      refine lv_iload_n hx hb dX4_changeSetting_4 rfl (lv_at hl 1 rfl) ?_
      refine lv_bipush (v := 7) hx hb dX4_changeSetting_5 (by decide) ?_
      refine lv_icmp_ge (tgt := 28) hx hb dX4_changeSetting_7 (by decide) (fun c2 => ?_) (fun c2 => ?_)
      · replace hf := it_t c2 hf
        refine lv_iconst (v := (-1)) hx hb dX4_changeSetting_28 (by decide) ?_
        replace hf := Option.some.inj hf
        simp only [Prod.mk.injEq] at hf
        obtain ⟨hf0, hf1⟩ := hf
        subst hf0; subst hf1
        exact hret H locs ls _ dX4_changeSetting_29 hP hD hS
      · replace hf := it_f c2 hf
        refine lv_iload_n hx hb dX4_changeSetting_10 rfl (lv_at hl 2 rfl) ?_
        obtain ⟨t_LEAST, hZ_LEAST, hT_LEAST⟩ := hF.2.1
        refine va_getsN hx hb hZ_LEAST hS hown (va_Nw.use rfl hF.2.2.2.2.1) (fun _ h9 => h9) dX4_changeSetting_11 ?_
        refine lv_iload_n hx hb dX4_changeSetting_14 rfl (lv_at hl 1 rfl) ?_
        obtain ⟨h3, hf⟩ := gd_el hf
        refine va_ti hx hb hT_LEAST hS (ib_in h3) (tabLI_eq (tn x1)) dX4_changeSetting_15 ?_
        refine lv_icmp_lt (tgt := 28) hx hb dX4_changeSetting_16 (by decide) (fun c4 => ?_) (fun c4 => ?_)
        · replace hf := it_t c4 hf
          refine lv_iconst (v := (-1)) hx hb dX4_changeSetting_28 (by decide) ?_
          replace hf := Option.some.inj hf
          simp only [Prod.mk.injEq] at hf
          obtain ⟨hf0, hf1⟩ := hf
          subst hf0; subst hf1
          exact hret H locs ls _ dX4_changeSetting_29 hP hD hS
        · replace hf := it_f c4 hf
          refine lv_iload_n hx hb dX4_changeSetting_19 rfl (lv_at hl 2 rfl) ?_
          obtain ⟨t_MOST, hZ_MOST, hT_MOST⟩ := hF.2.2.1
          refine va_getsN hx hb hZ_MOST hS hown (va_Nw.use rfl hF.2.2.2.2.2.1) (fun _ h9 => h9) dX4_changeSetting_20 ?_
          refine lv_iload_n hx hb dX4_changeSetting_23 rfl (lv_at hl 1 rfl) ?_
          obtain ⟨h5, hf⟩ := gd_el hf
          refine va_ti hx hb hT_MOST hS (ib_in h5) (tabMI_eq (tn x1)) dX4_changeSetting_24 ?_
          refine lv_icmp_le (tgt := 30) hx hb dX4_changeSetting_25 (by decide) (fun c6 => ?_) (fun c6 => ?_)
          · replace hf := it_t c6 hf
            refine lv_aload_n hx hb dX4_changeSetting_30 rfl (lv_at hl 0 rfl) ?_
            refine va_get (D := (dC, dI)) (ci := 4) (v := .ref a1) (C := RX4) (T := TX4) (N := 1) hx hb hT in_X4 hown hK hP 0 rfl rfl 0 (by decide) (hT _ q_fl_X4_11) (fun _ h9 => h9) rfl dX4_changeSetting_31 ?_
            refine lv_iload_n hx hb dX4_changeSetting_34 rfl (lv_at hl 1 rfl) ?_
            obtain ⟨h7, hf⟩ := gd_el hf
            refine ia_ld hx hb hK hP 1 0 rfl rfl (ib_in h7) (j := (tn x1)) rfl dX4_changeSetting_35 ?_
            obtain ⟨x3_8, ex3_8, hf⟩ := nm_el hf
            refine lv_as (congrArg Value.int ex3_8) ?_
            refine lv_istore_n (lv' := [(3, .int x3_8), (0, .ref a0), (1, .int x1), (2, .int x2)]) hx hb dX4_changeSetting_36 rfl hl (by decide) rfl (fun ls hl => ?_)
            refine lv_iload_n hx hb dX4_changeSetting_37 rfl (lv_at hl 0 rfl) ?_
            refine lv_iload_n hx hb dX4_changeSetting_38 rfl (lv_at hl 3 rfl) ?_
            refine lv_icmp_ne (tgt := 45) hx hb dX4_changeSetting_39 (by decide) (fun c9 => ?_) (fun c9 => ?_)
            · replace hf := it_f c9 hf
              refine lv_aload_n hx hb dX4_changeSetting_45 rfl (lv_at hl 1 rfl) ?_
              refine va_get (D := (dC, dI)) (ci := 4) (v := .ref a1) (C := RX4) (T := TX4) (N := 1) hx hb hT in_X4 hown hK hP 0 rfl rfl 0 (by decide) (hT _ q_fl_X4_11) (fun _ h9 => h9) rfl dX4_changeSetting_46 ?_
              refine lv_iload_n hx hb dX4_changeSetting_49 rfl (lv_at hl 2 rfl) ?_
              refine lv_iload_n hx hb dX4_changeSetting_50 rfl (lv_at hl 3 rfl) ?_
              obtain ⟨h10, hf⟩ := gd_el hf
              refine ia_st hx hb hK hP hD hS 1 0 rfl rfl (ib_in h10) (j := (tn x1)) rfl dX4_changeSetting_51 (fun H locs hP hD hS => ?_)
              have hP : va_P (dC, dI) vwCl [(a0, .inr (4, [.ref a1])), (a1, .inl (cI, 117, .inl (upd v_cells (tn x1) x2)))] H := hP
              have hD : va_D A [(a0, .inr (4, [.ref a1])), (a1, .inl (cI, 117, .inl (upd v_cells (tn x1) x2)))] := hD
              refine lv_iload_n hx hb dX4_changeSetting_52 rfl (lv_at hl 0 rfl) ?_
              replace hf := Option.some.inj hf
              simp only [Prod.mk.injEq] at hf
              obtain ⟨hf0, hf1⟩ := hf
              subst hf0; subst hf1
              exact hret H locs ls _ dX4_changeSetting_53 hP hD hS
            · replace hf := it_t c9 hf
              refine lv_bipush (v := (-2)) hx hb dX4_changeSetting_42 (by decide) ?_
              replace hf := Option.some.inj hf
              simp only [Prod.mk.injEq] at hf
              obtain ⟨hf0, hf1⟩ := hf
              subst hf0; subst hf1
              exact hret H locs ls _ dX4_changeSetting_44 hP hD hS
          · replace hf := it_f c6 hf
            refine lv_iconst (v := (-1)) hx hb dX4_changeSetting_28 (by decide) ?_
            replace hf := Option.some.inj hf
            simp only [Prod.mk.injEq] at hf
            obtain ⟨hf0, hf1⟩ := hf
            subst hf0; subst hf1
            exact hret H locs ls _ dX4_changeSetting_29 hP hD hS
  refine key _ ?_ _ _ _ hP hD hS hl
  intro H locs ls pc d hP hD hS
  exact W.iret (v := rv) hx hb hr (fun t ht hW => ⟨⟨rfl, by rw [ht]; exact hP, hD⟩, hS.F ht⟩) hS.2.2 d
def p_X4_randomNumber (v_cells : (Nat → Int32)) : Option (Int32) :=
  (some (v_cells 7))
set_option maxHeartbeats 4000000 in
set_option maxRecDepth 100000 in
theorem c_X4_randomNumber (l : Launch) (dC : Nat → ClassId) (dI : Nat → Nat → Nat) (cI cJ cP cS : ClassId) (a0 : Nat) (a1 : Nat) (v_cells : (Nat → Int32))   (rv : Int32)  (hf : p_X4_randomNumber v_cells = some rv) : MC l (dC, dI) (tyl cI cJ cP cS) yX4_randomNumber (Cond.code yX4_randomNumber cX4_randomNumber 1 (some .int) :: TBG) ({ frames := 0, cells := 0, slots := 0, locals := 0 } : Room) [.ref a0] [(a0, .inr (4, [.ref a1])), (a1, .inl (cI, 117, .inl v_cells))] [(a0, .inr (4, [.ref a1])), (a1, .inl (cI, 117, .inl v_cells))] (some (.int rv)) := by
  intro sz
  unfold MPost
  refine Met.ofW (cc := cX4_randomNumber) (maxL := 1) (ret := (some .int)) (by decide) rfl ?_
  intro p e s m args below meth c s₁ B hml hv
  obtain ⟨rfl, hsz, hP, hK, hD0, hF⟩ := hv
  have hx := B.exec
  have hb := B.bytes
  have hr := B.returns
  have hT : ∀ w ∈ TBG, w.before _ s = true := fun w h => atoms_spec B.pre w (List.mem_cons_of_mem _ h)
  have hown : s.vm.findClass RX4 = some m.cls := findClass_of_methodNamed B.named
  have hlocks := B.notSynchronized
  subst hsz
  have hD := hD0.self (sz := s.heap.size)
  generalize hAe : va_A [(a0, .inr (4, [.ref a1])), (a1, .inl (cI, 117, .inl v_cells))] s.heap.size = A at hD hF ⊢
  have hA : ∀ q : Nat, s.heap.size ≤ q → A q := fun q h => by rw [← hAe]; exact Or.inr h
  have hS : va_S A s.heap s.heap [] := va_S.rf
  have hl := lv_entry ([.ref a0]) (n := 1) (Nat.le_of_ble_eq_true rfl)
  rw [lg_entry_eq]
  generalize (lg_sl ([.ref a0]) ++ List.replicate (1 - (lg_sl ([.ref a0])).length) Slot.unset).toArray = ls at hl ⊢
  have hl : lv_has ls 1 [(0, .ref a0)] := hl
  generalize ([.ref a0] : List Value).toArray = args at hT ⊢
  have key : ∀ (Q : State → Prop), (∀ (H : Heap) (locs : List Loc) (ls : Array Slot) (pc : Nat), decode cX4_randomNumber pc = .ok (.ireturn, 1) → va_P (dC, dI) vwCl [(a0, .inr (4, [.ref a1])), (a1, .inl (cI, 117, .inl v_cells))] H → va_D A [(a0, .inr (4, [.ref a1])), (a1, .inl (cI, 117, .inl v_cells))] → va_S A s.heap H locs → W p l e ({ frames := 0, cells := 0, slots := 0, locals := 0 } : Room) s m args below meth c H locs 0 0 Q (F0 m pc ls [.int rv])) → ∀ (H : Heap) (locs : List Loc) (ls : Array Slot), va_P (dC, dI) vwCl [(a0, .inr (4, [.ref a1])), (a1, .inl (cI, 117, .inl v_cells))] H → va_D A [(a0, .inr (4, [.ref a1])), (a1, .inl (cI, 117, .inl v_cells))] → va_S A s.heap H locs → lv_has ls 1 [(0, .ref a0)] → W p l e ({ frames := 0, cells := 0, slots := 0, locals := 0 } : Room) s m args below meth c H locs 0 0 Q (F0 m 0 ls []) := by
    intro Q hret H locs ls hP hD hS hl
    refine lv_aload_n hx hb dX4_randomNumber_0 rfl (lv_at hl 0 rfl) ?_
    refine va_get (D := (dC, dI)) (ci := 4) (v := .ref a1) (C := RX4) (T := TX4) (N := 1) hx hb hT in_X4 hown hK hP 0 rfl rfl 0 (by decide) (hT _ q_fl_X4_11) (fun _ h9 => h9) rfl dX4_randomNumber_1 ?_
    refine lv_bipush (v := 7) hx hb dX4_randomNumber_4 (by decide) ?_
    refine ia_ld hx hb hK hP 1 0 rfl rfl (ib_in (by decide)) (j := 7) (by decide) dX4_randomNumber_6 ?_
    replace hf := Option.some.inj hf
    subst hf
    exact hret H locs ls _ dX4_randomNumber_7 hP hD hS
  refine key _ ?_ _ _ _ hP hD hS hl
  intro H locs ls pc d hP hD hS
  exact W.iret (v := rv) hx hb hr (fun t ht hW => ⟨⟨rfl, by rw [ht]; exact hP, hD⟩, hS.F ht⟩) hS.2.2 d
def p_X4_turn_B84_6 (v_cells : (Nat → Int32)) (r_1 : Int32) (x2_6 : Int32) : Option ((Nat → Int32)) :=
  (bd2 (p_X4_addLine (upd v_cells 7 (Int64.toInt32 ((((Int32.toInt64 r_1) * (1103515245 : Int64)) + (12345 : Int64)) &&& (2147483647 : Int64)))) (irem x2_6 (4 : Int32)) (irem (x2_6 / (4 : Int32)) (2 : Int32))) fun r_7 v_cells_8 => (some v_cells_8))
def p_X4_turn_B100_9 (v_cells : (Nat → Int32)) (r_1 : Int32) (x2_6 : Int32) : Option ((Nat → Int32)) :=
  (bd2 (p_X4_addWord (upd v_cells 7 (Int64.toInt32 ((((Int32.toInt64 r_1) * (1103515245 : Int64)) + (12345 : Int64)) &&& (2147483647 : Int64)))) ((irem x2_6 (9 : Int32)) + (1 : Int32)) (irem (x2_6 / (9 : Int32)) (4 : Int32))) fun r_10 v_cells_11 => (some v_cells_11))
def p_X4_turn (v_cells : (Nat → Int32)) : Option ((Nat → Int32)) :=
  (bd1 (p_X4_randomNumber v_cells) fun r_1 => (bd1 (p_X4_randomNumber (upd v_cells 7 (Int64.toInt32 ((((Int32.toInt64 r_1) * (1103515245 : Int64)) + (12345 : Int64)) &&& (2147483647 : Int64))))) fun r_3 => (nm (r_3 / (65536 : Int32)) fun x1_5 => (nm (x1_5 / (8 : Int32)) fun x2_6 => (nm (irem x1_5 (8 : Int32)) fun sw_13 => (if sw_13 = (0 : Int32) then (p_X4_turn_B84_6 v_cells r_1 x2_6) else (if sw_13 = (1 : Int32) then (p_X4_turn_B84_6 v_cells r_1 x2_6) else (if sw_13 = (2 : Int32) then (p_X4_turn_B100_9 v_cells r_1 x2_6) else (if sw_13 = (3 : Int32) then (p_X4_turn_B100_9 v_cells r_1 x2_6) else (if sw_13 = (4 : Int32) then (p_X4_turn_B100_9 v_cells r_1 x2_6) else (if sw_13 = (5 : Int32) then (bd2 (p_X4_changeRhyme (upd v_cells 7 (Int64.toInt32 ((((Int32.toInt64 r_1) * (1103515245 : Int64)) + (12345 : Int64)) &&& (2147483647 : Int64)))) (irem (x2_6 / (4 : Int32)) (12 : Int32)) (irem x2_6 (4 : Int32))) fun r_20 v_cells_21 => (some v_cells_21)) else (if sw_13 = (6 : Int32) then (bd2 (p_X4_changeSetting (upd v_cells 7 (Int64.toInt32 ((((Int32.toInt64 r_1) * (1103515245 : Int64)) + (12345 : Int64)) &&& (2147483647 : Int64)))) (5 : Int32) (irem x2_6 (3 : Int32))) fun r_24 v_cells_25 => (some v_cells_25)) else (bd2 (p_X4_changeSetting (upd v_cells 7 (Int64.toInt32 ((((Int32.toInt64 r_1) * (1103515245 : Int64)) + (12345 : Int64)) &&& (2147483647 : Int64)))) (0 : Int32) ((irem x2_6 (35 : Int32)) + (6 : Int32))) fun r_27 v_cells_28 => (some v_cells_28))))))))))))))
set_option maxHeartbeats 4000000 in
set_option maxRecDepth 100000 in
theorem c_X4_turn (l : Launch) (dC : Nat → ClassId) (dI : Nat → Nat → Nat) (cI cJ cP cS : ClassId) (a0 : Nat) (a1 : Nat) (v_cells : (Nat → Int32))    (v_cells_o : (Nat → Int32)) (hf : p_X4_turn v_cells = some v_cells_o) : MC l (dC, dI) (tyl cI cJ cP cS) yX4_turn (Cond.code yX4_turn cX4_turn 3 none :: TBG) ({ frames := 3, cells := 0, slots := 0, locals := 64 } : Room) [.ref a0] [(a0, .inr (4, [.ref a1])), (a1, .inl (cI, 117, .inl v_cells))] [(a0, .inr (4, [.ref a1])), (a1, .inl (cI, 117, .inl v_cells_o))] none := by
  intro sz
  unfold MPost
  refine Met.ofW (cc := cX4_turn) (maxL := 3) (ret := none) (by decide) rfl ?_
  intro p e s m args below meth c s₁ B hml hv
  obtain ⟨rfl, hsz, hP, hK, hD0, hF⟩ := hv
  have hx := B.exec
  have hb := B.bytes
  have hr := B.returns
  have hT : ∀ w ∈ TBG, w.before _ s = true := fun w h => atoms_spec B.pre w (List.mem_cons_of_mem _ h)
  have hown : s.vm.findClass RX4 = some m.cls := findClass_of_methodNamed B.named
  have hlocks := B.notSynchronized
  subst hsz
  have hD := hD0.self (sz := s.heap.size)
  generalize hAe : va_A [(a0, .inr (4, [.ref a1])), (a1, .inl (cI, 117, .inl v_cells))] s.heap.size = A at hD hF ⊢
  have hA : ∀ q : Nat, s.heap.size ≤ q → A q := fun q h => by rw [← hAe]; exact Or.inr h
  have hS : va_S A s.heap s.heap [] := va_S.rf
  have hl := lv_entry ([.ref a0]) (n := 3) (Nat.le_of_ble_eq_true rfl)
  rw [lg_entry_eq]
  generalize (lg_sl ([.ref a0]) ++ List.replicate (3 - (lg_sl ([.ref a0])).length) Slot.unset).toArray = ls at hl ⊢
  have hl : lv_has ls 3 [(0, .ref a0)] := hl
  generalize ([.ref a0] : List Value).toArray = args at hT ⊢
  have key : ∀ (Q : State → Prop), (∀ (H : Heap) (locs : List Loc) (ls : Array Slot) (pc : Nat), decode cX4_turn pc = .ok (.return_, 1) → va_P (dC, dI) vwCl [(a0, .inr (4, [.ref a1])), (a1, .inl (cI, 117, .inl v_cells_o))] H → va_D A [(a0, .inr (4, [.ref a1])), (a1, .inl (cI, 117, .inl v_cells_o))] → va_S A s.heap H locs → W p l e ({ frames := 3, cells := 0, slots := 0, locals := 64 } : Room) s m args below meth c H locs 0 0 Q (F0 m pc ls [])) → ∀ (H : Heap) (locs : List Loc) (ls : Array Slot), va_P (dC, dI) vwCl [(a0, .inr (4, [.ref a1])), (a1, .inl (cI, 117, .inl v_cells))] H → va_D A [(a0, .inr (4, [.ref a1])), (a1, .inl (cI, 117, .inl v_cells))] → va_S A s.heap H locs → lv_has ls 3 [(0, .ref a0)] → W p l e ({ frames := 3, cells := 0, slots := 0, locals := 64 } : Room) s m args below meth c H locs 0 0 Q (F0 m 0 ls []) := by
    intro Q hret H locs ls hP hD hS hl
    refine lv_aload_n hx hb dX4_turn_0 rfl (lv_at hl 0 rfl) ?_
    refine va_get (D := (dC, dI)) (ci := 4) (v := .ref a1) (C := RX4) (T := TX4) (N := 1) hx hb hT in_X4 hown hK hP 0 rfl rfl 0 (by decide) (hT _ q_fl_X4_11) (fun _ h9 => h9) rfl dX4_turn_1 ?_
    refine lv_bipush (v := 7) hx hb dX4_turn_4 (by decide) ?_
    refine lv_aload_n hx hb dX4_turn_6 rfl (lv_at hl 0 rfl) ?_
    obtain ⟨r_1, hq2, hf⟩ := bd1_el hf
    refine mc_V (As := []) (rest := [.int (7 : Int32), .ref a1]) (wr := []) (wn := [(a0, .inr (4, [.ref a1])), (a1, .inl (cI, 117, .inl v_cells))]) ⟨hx, hb, hml, hown, hT⟩ (c_X4_randomNumber l dC dI cI cJ cP cS a0 a1 v_cells r_1 hq2) (cwV 0 hT (gdV q_ml_X4_52 q_im_X4_randomNumber q_se_X4_randomNumber q_in_X4 q_co_X4_randomNumber) rfl rfl rfl hd_X4_randomNumber ⟨Nat.le_of_ble_eq_true rfl, Nat.le_of_ble_eq_true rfl⟩) hK hF hP hD hS hA 0 rfl rfl rfl [0, 1] [] [0, 1] rfl (by decide) rfl (by decide) (by decide) rfl (by decide) rfl hl.1 rfl (Nat.le_of_ble_eq_true rfl) dX4_turn_7 ⟨Nat.zero_le _, Nat.zero_le _⟩ (fun H locs hP hD hS => ?_)
    refine W.eq (g2 := F0 m 10 ls [.int r_1, .int (7 : Int32), .ref a1]) rfl ?_
    refine lv_i2l hx hb dX4_turn_10 rfl ?_
    refine lv_ldc2 hx hb hown (hT _ q_kl_X4_55) dX4_turn_11 ?_
    refine lv_lmul hx hb dX4_turn_14 ?_
    refine lv_ldc2 hx hb hown (hT _ q_kl_X4_57) dX4_turn_15 ?_
    refine lv_ladd hx hb dX4_turn_18 ?_
    refine lv_ldc2 hx hb hown (hT _ q_kl_X4_59) dX4_turn_19 ?_
    refine lv_land hx hb dX4_turn_22 ?_
    refine lv_l2i hx hb dX4_turn_23 rfl ?_
    refine ia_st hx hb hK hP hD hS 1 0 rfl rfl (ib_in (by decide)) (j := 7) (by decide) dX4_turn_24 (fun H locs hP hD hS => ?_)
    have hP : va_P (dC, dI) vwCl [(a0, .inr (4, [.ref a1])), (a1, .inl (cI, 117, .inl (upd v_cells 7 (Int64.toInt32 ((((Int32.toInt64 r_1) * (1103515245 : Int64)) + (12345 : Int64)) &&& (2147483647 : Int64))))))] H := hP
    have hD : va_D A [(a0, .inr (4, [.ref a1])), (a1, .inl (cI, 117, .inl (upd v_cells 7 (Int64.toInt32 ((((Int32.toInt64 r_1) * (1103515245 : Int64)) + (12345 : Int64)) &&& (2147483647 : Int64))))))] := hD
    refine lv_aload_n hx hb dX4_turn_25 rfl (lv_at hl 0 rfl) ?_
    obtain ⟨r_3, hq4, hf⟩ := bd1_el hf
    refine mc_V (As := []) (rest := []) (wr := []) (wn := [(a0, .inr (4, [.ref a1])), (a1, .inl (cI, 117, .inl (upd v_cells 7 (Int64.toInt32 ((((Int32.toInt64 r_1) * (1103515245 : Int64)) + (12345 : Int64)) &&& (2147483647 : Int64))))))]) ⟨hx, hb, hml, hown, hT⟩ (c_X4_randomNumber l dC dI cI cJ cP cS a0 a1 (upd v_cells 7 (Int64.toInt32 ((((Int32.toInt64 r_1) * (1103515245 : Int64)) + (12345 : Int64)) &&& (2147483647 : Int64)))) r_3 hq4) (cwV 0 hT (gdV q_ml_X4_52 q_im_X4_randomNumber q_se_X4_randomNumber q_in_X4 q_co_X4_randomNumber) rfl rfl rfl hd_X4_randomNumber ⟨Nat.le_of_ble_eq_true rfl, Nat.le_of_ble_eq_true rfl⟩) hK hF hP hD hS hA 0 rfl rfl rfl [0, 1] [] [0, 1] rfl (by decide) rfl (by decide) (by decide) rfl (by decide) rfl hl.1 rfl (Nat.le_of_ble_eq_true rfl) dX4_turn_26 ⟨Nat.zero_le _, Nat.zero_le _⟩ (fun H locs hP hD hS => ?_)
    refine W.eq (g2 := F0 m 29 ls [.int r_3]) rfl ?_
    refine lv_ldc hx hb hown (hT _ q_k_X4_61) dX4_turn_29 ?_
    refine lv_idiv hx hb dX4_turn_31 (by decide) ?_
    obtain ⟨x1_5, ex1_5, hf⟩ := nm_el hf
    refine lv_as (congrArg Value.int ex1_5) ?_
    refine lv_istore_n (lv' := [(1, .int x1_5), (0, .ref a0)]) hx hb dX4_turn_32 rfl hl (by decide) rfl (fun ls hl => ?_)
    refine lv_iload_n hx hb dX4_turn_33 rfl (lv_at hl 0 rfl) ?_
    refine lv_bipush (v := 8) hx hb dX4_turn_34 (by decide) ?_
    refine lv_idiv hx hb dX4_turn_36 (by decide) ?_
    obtain ⟨x2_6, ex2_6, hf⟩ := nm_el hf
    refine lv_as (congrArg Value.int ex2_6) ?_
    refine lv_istore_n (lv' := [(2, .int x2_6), (1, .int x1_5), (0, .ref a0)]) hx hb dX4_turn_37 rfl hl (by decide) rfl (fun ls hl => ?_)
    refine lv_iload_n hx hb dX4_turn_38 rfl (lv_at hl 1 rfl) ?_
    refine lv_bipush (v := 8) hx hb dX4_turn_39 (by decide) ?_
    refine lv_irem hx hb dX4_turn_41 (by decide) ?_
    have hB84_6 : ∀ (_ : Unit), p_X4_turn_B84_6 v_cells r_1 x2_6 = some v_cells_o → ∀ (H : Heap) (locs : List Loc) (ls : Array Slot), va_P (dC, dI) vwCl [(a0, .inr (4, [.ref a1])), (a1, .inl (cI, 117, .inl (upd v_cells 7 (Int64.toInt32 ((((Int32.toInt64 r_1) * (1103515245 : Int64)) + (12345 : Int64)) &&& (2147483647 : Int64))))))] H → va_D A [(a0, .inr (4, [.ref a1])), (a1, .inl (cI, 117, .inl (upd v_cells 7 (Int64.toInt32 ((((Int32.toInt64 r_1) * (1103515245 : Int64)) + (12345 : Int64)) &&& (2147483647 : Int64))))))] → va_S A s.heap H locs → lv_has ls 3 [(0, .ref a0), (2, .int x2_6)] → W p l e ({ frames := 3, cells := 0, slots := 0, locals := 64 } : Room) s m args below meth c H locs 0 0 Q (F0 m 84 ls []) := by
      intro _ hf H locs ls hP hD hS hl
      refine lv_aload_n hx hb dX4_turn_84 rfl (lv_at hl 0 rfl) ?_
      refine lv_iload_n hx hb dX4_turn_85 rfl (lv_at hl 1 rfl) ?_
      refine lv_iconst (v := 4) hx hb dX4_turn_86 (by decide) ?_
      refine lv_irem hx hb dX4_turn_87 (by decide) ?_
      refine lv_iload_n hx hb dX4_turn_88 rfl (lv_at hl 1 rfl) ?_
      refine lv_iconst (v := 4) hx hb dX4_turn_89 (by decide) ?_
      refine lv_idiv hx hb dX4_turn_90 (by decide) ?_
      refine lv_iconst (v := 2) hx hb dX4_turn_91 (by decide) ?_
      refine lv_irem hx hb dX4_turn_92 (by decide) ?_
      obtain ⟨r_7, v_cells_8, hq9, hf⟩ := bd2_el hf
      refine mc_V (As := [.int (irem x2_6 (4 : Int32)), .int (irem (x2_6 / (4 : Int32)) (2 : Int32))]) (rest := []) (wr := []) (wn := [(a0, .inr (4, [.ref a1])), (a1, .inl (cI, 117, .inl v_cells_8))]) ⟨hx, hb, hml, hown, hT⟩ (c_X4_addLine l dC dI cI cJ cP cS a0 a1 (upd v_cells 7 (Int64.toInt32 ((((Int32.toInt64 r_1) * (1103515245 : Int64)) + (12345 : Int64)) &&& (2147483647 : Int64)))) (irem x2_6 (4 : Int32)) (irem (x2_6 / (4 : Int32)) (2 : Int32)) r_7 v_cells_8 hq9) (cwV 2 hT (gdV q_ml_X4_62 q_im_X4_addLine q_se_X4_addLine q_in_X4 q_co_X4_addLine) rfl rfl rfl hd_X4_addLine ⟨Nat.le_of_ble_eq_true rfl, Nat.le_of_ble_eq_true rfl⟩) hK hF hP hD hS hA 0 rfl rfl rfl [0, 1] [] [0, 1] rfl (by decide) rfl (by decide) (by decide) rfl (by decide) rfl hl.1 rfl (Nat.le_of_ble_eq_true rfl) dX4_turn_93 ⟨Nat.zero_le _, Nat.zero_le _⟩ (fun H locs hP hD hS => ?_)
      refine W.eq (g2 := F0 m 96 ls [.int r_7]) rfl ?_
      refine lv_pop hx hb dX4_turn_96 rfl ?_
      refine lv_goto (tgt := 162) hx hb dX4_turn_97 (by decide) ?_
      replace hf := Option.some.inj hf
      subst hf
      exact hret H locs ls _ dX4_turn_162 hP hD hS
    have hB100_9 : ∀ (_ : Unit), p_X4_turn_B100_9 v_cells r_1 x2_6 = some v_cells_o → ∀ (H : Heap) (locs : List Loc) (ls : Array Slot), va_P (dC, dI) vwCl [(a0, .inr (4, [.ref a1])), (a1, .inl (cI, 117, .inl (upd v_cells 7 (Int64.toInt32 ((((Int32.toInt64 r_1) * (1103515245 : Int64)) + (12345 : Int64)) &&& (2147483647 : Int64))))))] H → va_D A [(a0, .inr (4, [.ref a1])), (a1, .inl (cI, 117, .inl (upd v_cells 7 (Int64.toInt32 ((((Int32.toInt64 r_1) * (1103515245 : Int64)) + (12345 : Int64)) &&& (2147483647 : Int64))))))] → va_S A s.heap H locs → lv_has ls 3 [(0, .ref a0), (2, .int x2_6)] → W p l e ({ frames := 3, cells := 0, slots := 0, locals := 64 } : Room) s m args below meth c H locs 0 0 Q (F0 m 100 ls []) := by
      intro _ hf H locs ls hP hD hS hl
      refine lv_aload_n hx hb dX4_turn_100 rfl (lv_at hl 0 rfl) ?_
      refine lv_iload_n hx hb dX4_turn_101 rfl (lv_at hl 1 rfl) ?_
      refine lv_bipush (v := 9) hx hb dX4_turn_102 (by decide) ?_
      refine lv_irem hx hb dX4_turn_104 (by decide) ?_
      refine lv_iconst (v := 1) hx hb dX4_turn_105 (by decide) ?_
      refine lv_iadd hx hb dX4_turn_106 ?_
      refine lv_iload_n hx hb dX4_turn_107 rfl (lv_at hl 1 rfl) ?_
      refine lv_bipush (v := 9) hx hb dX4_turn_108 (by decide) ?_
      refine lv_idiv hx hb dX4_turn_110 (by decide) ?_
      refine lv_iconst (v := 4) hx hb dX4_turn_111 (by decide) ?_
      refine lv_irem hx hb dX4_turn_112 (by decide) ?_
      obtain ⟨r_10, v_cells_11, hq12, hf⟩ := bd2_el hf
      refine mc_V (As := [.int ((irem x2_6 (9 : Int32)) + (1 : Int32)), .int (irem (x2_6 / (9 : Int32)) (4 : Int32))]) (rest := []) (wr := []) (wn := [(a0, .inr (4, [.ref a1])), (a1, .inl (cI, 117, .inl v_cells_11))]) ⟨hx, hb, hml, hown, hT⟩ (c_X4_addWord l dC dI cI cJ cP cS a0 a1 (upd v_cells 7 (Int64.toInt32 ((((Int32.toInt64 r_1) * (1103515245 : Int64)) + (12345 : Int64)) &&& (2147483647 : Int64)))) ((irem x2_6 (9 : Int32)) + (1 : Int32)) (irem (x2_6 / (9 : Int32)) (4 : Int32)) r_10 v_cells_11 hq12) (cwV 2 hT (gdV q_ml_X4_65 q_im_X4_addWord q_se_X4_addWord q_in_X4 q_co_X4_addWord) rfl rfl rfl hd_X4_addWord ⟨Nat.le_of_ble_eq_true rfl, Nat.le_of_ble_eq_true rfl⟩) hK hF hP hD hS hA 0 rfl rfl rfl [0, 1] [] [0, 1] rfl (by decide) rfl (by decide) (by decide) rfl (by decide) rfl hl.1 rfl (Nat.le_of_ble_eq_true rfl) dX4_turn_113 ⟨Nat.zero_le _, Nat.zero_le _⟩ (fun H locs hP hD hS => ?_)
      refine W.eq (g2 := F0 m 116 ls [.int r_10]) rfl ?_
      refine lv_pop hx hb dX4_turn_116 rfl ?_
      refine lv_goto (tgt := 162) hx hb dX4_turn_117 (by decide) ?_
      replace hf := Option.some.inj hf
      subst hf
      exact hret H locs ls _ dX4_turn_162 hP hD hS
    obtain ⟨sw_13, esw_13, hf⟩ := nm_el hf
    refine lv_as (congrArg Value.int esw_13) ?_
    by_cases c14 : sw_13 = (0 : Int32)
    · replace hf := it_t c14 hf
      refine lv_tableIn (tgt := 84) (off := 42) hx hb dX4_turn_42 (by rw [c14]; decide) (by rw [c14]; decide) (by rw [c14]; rfl) (by decide) ?_
      exact hB84_6 () hf H locs ls hP hD hS (lv_sub hl [2, 0] rfl)
    replace hf := it_f c14 hf
    by_cases c15 : sw_13 = (1 : Int32)
    · replace hf := it_t c15 hf
      refine lv_tableIn (tgt := 84) (off := 42) hx hb dX4_turn_42 (by rw [c15]; decide) (by rw [c15]; decide) (by rw [c15]; rfl) (by decide) ?_
      exact hB84_6 () hf H locs ls hP hD hS (lv_sub hl [2, 0] rfl)
    replace hf := it_f c15 hf
    by_cases c16 : sw_13 = (2 : Int32)
    · replace hf := it_t c16 hf
      refine lv_tableIn (tgt := 100) (off := 58) hx hb dX4_turn_42 (by rw [c16]; decide) (by rw [c16]; decide) (by rw [c16]; rfl) (by decide) ?_
      exact hB100_9 () hf H locs ls hP hD hS (lv_sub hl [2, 0] rfl)
    replace hf := it_f c16 hf
    by_cases c17 : sw_13 = (3 : Int32)
    · replace hf := it_t c17 hf
      refine lv_tableIn (tgt := 100) (off := 58) hx hb dX4_turn_42 (by rw [c17]; decide) (by rw [c17]; decide) (by rw [c17]; rfl) (by decide) ?_
      exact hB100_9 () hf H locs ls hP hD hS (lv_sub hl [2, 0] rfl)
    replace hf := it_f c17 hf
    by_cases c18 : sw_13 = (4 : Int32)
    · replace hf := it_t c18 hf
      refine lv_tableIn (tgt := 100) (off := 58) hx hb dX4_turn_42 (by rw [c18]; decide) (by rw [c18]; decide) (by rw [c18]; rfl) (by decide) ?_
      exact hB100_9 () hf H locs ls hP hD hS (lv_sub hl [2, 0] rfl)
    replace hf := it_f c18 hf
    by_cases c19 : sw_13 = (5 : Int32)
    · replace hf := it_t c19 hf
      refine lv_tableIn (tgt := 120) (off := 78) hx hb dX4_turn_42 (by rw [c19]; decide) (by rw [c19]; decide) (by rw [c19]; rfl) (by decide) ?_
      refine lv_aload_n hx hb dX4_turn_120 rfl (lv_at hl 2 rfl) ?_
      refine lv_iload_n hx hb dX4_turn_121 rfl (lv_at hl 0 rfl) ?_
      refine lv_iconst (v := 4) hx hb dX4_turn_122 (by decide) ?_
      refine lv_idiv hx hb dX4_turn_123 (by decide) ?_
      refine lv_bipush (v := 12) hx hb dX4_turn_124 (by decide) ?_
      refine lv_irem hx hb dX4_turn_126 (by decide) ?_
      refine lv_iload_n hx hb dX4_turn_127 rfl (lv_at hl 0 rfl) ?_
      refine lv_iconst (v := 4) hx hb dX4_turn_128 (by decide) ?_
      refine lv_irem hx hb dX4_turn_129 (by decide) ?_
      obtain ⟨r_20, v_cells_21, hq22, hf⟩ := bd2_el hf
      refine mc_V (As := [.int (irem (x2_6 / (4 : Int32)) (12 : Int32)), .int (irem x2_6 (4 : Int32))]) (rest := []) (wr := []) (wn := [(a0, .inr (4, [.ref a1])), (a1, .inl (cI, 117, .inl v_cells_21))]) ⟨hx, hb, hml, hown, hT⟩ (c_X4_changeRhyme l dC dI cI cJ cP cS a0 a1 (upd v_cells 7 (Int64.toInt32 ((((Int32.toInt64 r_1) * (1103515245 : Int64)) + (12345 : Int64)) &&& (2147483647 : Int64)))) (irem (x2_6 / (4 : Int32)) (12 : Int32)) (irem x2_6 (4 : Int32)) r_20 v_cells_21 hq22) (cwV 2 hT (gdV q_ml_X4_68 q_im_X4_changeRhyme q_se_X4_changeRhyme q_in_X4 q_co_X4_changeRhyme) rfl rfl rfl hd_X4_changeRhyme ⟨Nat.le_of_ble_eq_true rfl, Nat.le_of_ble_eq_true rfl⟩) hK hF hP hD hS hA 0 rfl rfl rfl [0, 1] [] [0, 1] rfl (by decide) rfl (by decide) (by decide) rfl (by decide) rfl hl.1 rfl (Nat.le_of_ble_eq_true rfl) dX4_turn_130 ⟨Nat.zero_le _, Nat.zero_le _⟩ (fun H locs hP hD hS => ?_)
      refine W.eq (g2 := F0 m 133 ls [.int r_20]) rfl ?_
      refine lv_pop hx hb dX4_turn_133 rfl ?_
      refine lv_goto (tgt := 162) hx hb dX4_turn_134 (by decide) ?_
      replace hf := Option.some.inj hf
      subst hf
      exact hret H locs ls _ dX4_turn_162 hP hD hS
    replace hf := it_f c19 hf
    by_cases c23 : sw_13 = (6 : Int32)
    · replace hf := it_t c23 hf
      refine lv_tableIn (tgt := 137) (off := 95) hx hb dX4_turn_42 (by rw [c23]; decide) (by rw [c23]; decide) (by rw [c23]; rfl) (by decide) ?_
      refine lv_aload_n hx hb dX4_turn_137 rfl (lv_at hl 2 rfl) ?_
      refine lv_iconst (v := 5) hx hb dX4_turn_138 (by decide) ?_
      refine lv_iload_n hx hb dX4_turn_139 rfl (lv_at hl 0 rfl) ?_
      refine lv_iconst (v := 3) hx hb dX4_turn_140 (by decide) ?_
      refine lv_irem hx hb dX4_turn_141 (by decide) ?_
      obtain ⟨r_24, v_cells_25, hq26, hf⟩ := bd2_el hf
      refine mc_V (As := [.int (5 : Int32), .int (irem x2_6 (3 : Int32))]) (rest := []) (wr := []) (wn := [(a0, .inr (4, [.ref a1])), (a1, .inl (cI, 117, .inl v_cells_25))]) ⟨hx, hb, hml, hown, hT⟩ (c_X4_changeSetting l dC dI cI cJ cP cS a0 a1 (upd v_cells 7 (Int64.toInt32 ((((Int32.toInt64 r_1) * (1103515245 : Int64)) + (12345 : Int64)) &&& (2147483647 : Int64)))) (5 : Int32) (irem x2_6 (3 : Int32)) r_24 v_cells_25 hq26) (cwV 2 hT (gdV q_ml_X4_71 q_im_X4_changeSetting q_se_X4_changeSetting q_in_X4 q_co_X4_changeSetting) rfl rfl rfl hd_X4_changeSetting ⟨Nat.le_of_ble_eq_true rfl, Nat.le_of_ble_eq_true rfl⟩) hK hF hP hD hS hA 0 rfl rfl rfl [0, 1] [] [0, 1] rfl (by decide) rfl (by decide) (by decide) rfl (by decide) rfl hl.1 rfl (Nat.le_of_ble_eq_true rfl) dX4_turn_142 ⟨Nat.zero_le _, Nat.zero_le _⟩ (fun H locs hP hD hS => ?_)
      refine W.eq (g2 := F0 m 145 ls [.int r_24]) rfl ?_
      refine lv_pop hx hb dX4_turn_145 rfl ?_
      refine lv_goto (tgt := 162) hx hb dX4_turn_146 (by decide) ?_
      replace hf := Option.some.inj hf
      subst hf
      exact hret H locs ls _ dX4_turn_162 hP hD hS
    replace hf := it_f c23 hf
    refine lv_tableOut (tgt := 149) hx hb dX4_turn_42 (by have ec14 := ne_ti (n := 0) (by decide) c14; have ec15 := ne_ti (n := 1) (by decide) c15; have ec16 := ne_ti (n := 2) (by decide) c16; have ec17 := ne_ti (n := 3) (by decide) c17; have ec18 := ne_ti (n := 4) (by decide) c18; have ec19 := ne_ti (n := 5) (by decide) c19; have ec23 := ne_ti (n := 6) (by decide) c23; omega) (by decide) ?_
    refine lv_aload_n hx hb dX4_turn_149 rfl (lv_at hl 2 rfl) ?_
    refine lv_iconst (v := 0) hx hb dX4_turn_150 (by decide) ?_
    refine lv_iload_n hx hb dX4_turn_151 rfl (lv_at hl 0 rfl) ?_
    refine lv_bipush (v := 35) hx hb dX4_turn_152 (by decide) ?_
    refine lv_irem hx hb dX4_turn_154 (by decide) ?_
    refine lv_bipush (v := 6) hx hb dX4_turn_155 (by decide) ?_
    refine lv_iadd hx hb dX4_turn_157 ?_
    obtain ⟨r_27, v_cells_28, hq29, hf⟩ := bd2_el hf
    refine mc_V (As := [.int (0 : Int32), .int ((irem x2_6 (35 : Int32)) + (6 : Int32))]) (rest := []) (wr := []) (wn := [(a0, .inr (4, [.ref a1])), (a1, .inl (cI, 117, .inl v_cells_28))]) ⟨hx, hb, hml, hown, hT⟩ (c_X4_changeSetting l dC dI cI cJ cP cS a0 a1 (upd v_cells 7 (Int64.toInt32 ((((Int32.toInt64 r_1) * (1103515245 : Int64)) + (12345 : Int64)) &&& (2147483647 : Int64)))) (0 : Int32) ((irem x2_6 (35 : Int32)) + (6 : Int32)) r_27 v_cells_28 hq29) (cwV 2 hT (gdV q_ml_X4_71 q_im_X4_changeSetting q_se_X4_changeSetting q_in_X4 q_co_X4_changeSetting) rfl rfl rfl hd_X4_changeSetting ⟨Nat.le_of_ble_eq_true rfl, Nat.le_of_ble_eq_true rfl⟩) hK hF hP hD hS hA 0 rfl rfl rfl [0, 1] [] [0, 1] rfl (by decide) rfl (by decide) (by decide) rfl (by decide) rfl hl.1 rfl (Nat.le_of_ble_eq_true rfl) dX4_turn_158 ⟨Nat.zero_le _, Nat.zero_le _⟩ (fun H locs hP hD hS => ?_)
    refine W.eq (g2 := F0 m 161 ls [.int r_27]) rfl ?_
    refine lv_pop hx hb dX4_turn_161 rfl ?_
    replace hf := Option.some.inj hf
    subst hf
    exact hret H locs ls _ dX4_turn_162 hP hD hS
  refine key _ ?_ _ _ _ hP hD hS hl
  intro H locs ls pc d hP hD hS
  exact W.vret hx hb hr (fun t ht hW => ⟨⟨rfl, by rw [ht]; exact hP, hD⟩, hS.F ht⟩) hS.2.2 d
def p_X4_setRandomNumber (v_cells : (Nat → Int32)) (x1 : Int32) : Option ((Nat → Int32)) :=
  (some (upd v_cells 7 x1))
set_option maxHeartbeats 4000000 in
set_option maxRecDepth 100000 in
theorem c_X4_setRandomNumber (l : Launch) (dC : Nat → ClassId) (dI : Nat → Nat → Nat) (cI cJ cP cS : ClassId) (a0 : Nat) (a1 : Nat) (v_cells : (Nat → Int32))  (x1 : Int32)  (v_cells_o : (Nat → Int32)) (hf : p_X4_setRandomNumber v_cells x1 = some v_cells_o) : MC l (dC, dI) (tyl cI cJ cP cS) yX4_setRandomNumber (Cond.code yX4_setRandomNumber cX4_setRandomNumber 2 none :: TBG) ({ frames := 0, cells := 0, slots := 0, locals := 0 } : Room) [.ref a0, .int x1] [(a0, .inr (4, [.ref a1])), (a1, .inl (cI, 117, .inl v_cells))] [(a0, .inr (4, [.ref a1])), (a1, .inl (cI, 117, .inl v_cells_o))] none := by
  intro sz
  unfold MPost
  refine Met.ofW (cc := cX4_setRandomNumber) (maxL := 2) (ret := none) (by decide) rfl ?_
  intro p e s m args below meth c s₁ B hml hv
  obtain ⟨rfl, hsz, hP, hK, hD0, hF⟩ := hv
  have hx := B.exec
  have hb := B.bytes
  have hr := B.returns
  have hT : ∀ w ∈ TBG, w.before _ s = true := fun w h => atoms_spec B.pre w (List.mem_cons_of_mem _ h)
  have hown : s.vm.findClass RX4 = some m.cls := findClass_of_methodNamed B.named
  have hlocks := B.notSynchronized
  subst hsz
  have hD := hD0.self (sz := s.heap.size)
  generalize hAe : va_A [(a0, .inr (4, [.ref a1])), (a1, .inl (cI, 117, .inl v_cells))] s.heap.size = A at hD hF ⊢
  have hA : ∀ q : Nat, s.heap.size ≤ q → A q := fun q h => by rw [← hAe]; exact Or.inr h
  have hS : va_S A s.heap s.heap [] := va_S.rf
  have hl := lv_entry ([.ref a0, .int x1]) (n := 2) (Nat.le_of_ble_eq_true rfl)
  rw [lg_entry_eq]
  generalize (lg_sl ([.ref a0, .int x1]) ++ List.replicate (2 - (lg_sl ([.ref a0, .int x1])).length) Slot.unset).toArray = ls at hl ⊢
  have hl : lv_has ls 2 [(0, .ref a0), (1, .int x1)] := hl
  generalize ([.ref a0, .int x1] : List Value).toArray = args at hT ⊢
  have key : ∀ (Q : State → Prop), (∀ (H : Heap) (locs : List Loc) (ls : Array Slot) (pc : Nat), decode cX4_setRandomNumber pc = .ok (.return_, 1) → va_P (dC, dI) vwCl [(a0, .inr (4, [.ref a1])), (a1, .inl (cI, 117, .inl v_cells_o))] H → va_D A [(a0, .inr (4, [.ref a1])), (a1, .inl (cI, 117, .inl v_cells_o))] → va_S A s.heap H locs → W p l e ({ frames := 0, cells := 0, slots := 0, locals := 0 } : Room) s m args below meth c H locs 0 0 Q (F0 m pc ls [])) → ∀ (H : Heap) (locs : List Loc) (ls : Array Slot), va_P (dC, dI) vwCl [(a0, .inr (4, [.ref a1])), (a1, .inl (cI, 117, .inl v_cells))] H → va_D A [(a0, .inr (4, [.ref a1])), (a1, .inl (cI, 117, .inl v_cells))] → va_S A s.heap H locs → lv_has ls 2 [(0, .ref a0), (1, .int x1)] → W p l e ({ frames := 0, cells := 0, slots := 0, locals := 0 } : Room) s m args below meth c H locs 0 0 Q (F0 m 0 ls []) := by
    intro Q hret H locs ls hP hD hS hl
    refine lv_aload_n hx hb dX4_setRandomNumber_0 rfl (lv_at hl 0 rfl) ?_
    refine va_get (D := (dC, dI)) (ci := 4) (v := .ref a1) (C := RX4) (T := TX4) (N := 1) hx hb hT in_X4 hown hK hP 0 rfl rfl 0 (by decide) (hT _ q_fl_X4_11) (fun _ h9 => h9) rfl dX4_setRandomNumber_1 ?_
    refine lv_bipush (v := 7) hx hb dX4_setRandomNumber_4 (by decide) ?_
    refine lv_iload_n hx hb dX4_setRandomNumber_6 rfl (lv_at hl 1 rfl) ?_
    refine ia_st hx hb hK hP hD hS 1 0 rfl rfl (ib_in (by decide)) (j := 7) (by decide) dX4_setRandomNumber_7 (fun H locs hP hD hS => ?_)
    have hP : va_P (dC, dI) vwCl [(a0, .inr (4, [.ref a1])), (a1, .inl (cI, 117, .inl (upd v_cells 7 x1)))] H := hP
    have hD : va_D A [(a0, .inr (4, [.ref a1])), (a1, .inl (cI, 117, .inl (upd v_cells 7 x1)))] := hD
    replace hf := Option.some.inj hf
    subst hf
    exact hret H locs ls _ dX4_setRandomNumber_8 hP hD hS
  refine key _ ?_ _ _ _ hP hD hS hl
  intro H locs ls pc d hP hD hS
  exact W.vret hx hb hr (fun t ht hW => ⟨⟨rfl, by rw [ht]; exact hP, hD⟩, hS.F ht⟩) hS.2.2 d
def p_X4_stanzaOf_L4 (v_cells : (Nat → Int32)) (x1 : Int32) (s : Int32 × Int32) : Option ((Int32 × Int32) ⊕ (Int32 × Int32)) := match s with
  | (i2_1, i3_2) => (if x1 < i3_2 then (some (.inr (i2_1, i3_2))) else (bd1 (p_X4_beginsStanza v_cells i3_2) fun r_4 => (if r_4 = (0 : Int32) then (nm (i2_1 + (0 : Int32)) fun x2_7 => (some (.inl (x2_7, (i3_2 + (1 : Int32)))))) else (nm (i2_1 + (1 : Int32)) fun x2_8 => (some (.inl (x2_8, (i3_2 + (1 : Int32)))))))))
def p_X4_stanzaOf (v_cells : (Nat → Int32)) (x1 : Int32) : Option (Int32) :=
  (bd2 (loopN (p_X4_stanzaOf_L4 v_cells x1) fuel ((0 : Int32), (1 : Int32))) fun f2_11 f3_12 => (some f2_11))
set_option maxHeartbeats 4000000 in
set_option maxRecDepth 100000 in
theorem c_X4_stanzaOf (l : Launch) (dC : Nat → ClassId) (dI : Nat → Nat → Nat) (cI cJ cP cS : ClassId) (a0 : Nat) (a1 : Nat) (v_cells : (Nat → Int32))  (x1 : Int32) (rv : Int32)  (hf : p_X4_stanzaOf v_cells x1 = some rv) : MC l (dC, dI) (tyl cI cJ cP cS) yX4_stanzaOf (Cond.code yX4_stanzaOf cX4_stanzaOf 4 (some .int) :: TBG) ({ frames := 1, cells := 0, slots := 0, locals := 21 } : Room) [.ref a0, .int x1] [(a0, .inr (4, [.ref a1])), (a1, .inl (cI, 117, .inl v_cells))] [(a0, .inr (4, [.ref a1])), (a1, .inl (cI, 117, .inl v_cells))] (some (.int rv)) := by
  intro sz
  unfold MPost
  refine Met.ofW (cc := cX4_stanzaOf) (maxL := 4) (ret := (some .int)) (by decide) rfl ?_
  intro p e s m args below meth c s₁ B hml hv
  obtain ⟨rfl, hsz, hP, hK, hD0, hF⟩ := hv
  have hx := B.exec
  have hb := B.bytes
  have hr := B.returns
  have hT : ∀ w ∈ TBG, w.before _ s = true := fun w h => atoms_spec B.pre w (List.mem_cons_of_mem _ h)
  have hown : s.vm.findClass RX4 = some m.cls := findClass_of_methodNamed B.named
  have hlocks := B.notSynchronized
  subst hsz
  have hD := hD0.self (sz := s.heap.size)
  generalize hAe : va_A [(a0, .inr (4, [.ref a1])), (a1, .inl (cI, 117, .inl v_cells))] s.heap.size = A at hD hF ⊢
  have hA : ∀ q : Nat, s.heap.size ≤ q → A q := fun q h => by rw [← hAe]; exact Or.inr h
  have hS : va_S A s.heap s.heap [] := va_S.rf
  have hl := lv_entry ([.ref a0, .int x1]) (n := 4) (Nat.le_of_ble_eq_true rfl)
  rw [lg_entry_eq]
  generalize (lg_sl ([.ref a0, .int x1]) ++ List.replicate (4 - (lg_sl ([.ref a0, .int x1])).length) Slot.unset).toArray = ls at hl ⊢
  have hl : lv_has ls 4 [(0, .ref a0), (1, .int x1)] := hl
  generalize ([.ref a0, .int x1] : List Value).toArray = args at hT ⊢
  have key : ∀ (Q : State → Prop), (∀ (H : Heap) (locs : List Loc) (ls : Array Slot) (pc : Nat), decode cX4_stanzaOf pc = .ok (.ireturn, 1) → va_P (dC, dI) vwCl [(a0, .inr (4, [.ref a1])), (a1, .inl (cI, 117, .inl v_cells))] H → va_D A [(a0, .inr (4, [.ref a1])), (a1, .inl (cI, 117, .inl v_cells))] → va_S A s.heap H locs → W p l e ({ frames := 1, cells := 0, slots := 0, locals := 21 } : Room) s m args below meth c H locs 0 0 Q (F0 m pc ls [.int rv])) → ∀ (H : Heap) (locs : List Loc) (ls : Array Slot), va_P (dC, dI) vwCl [(a0, .inr (4, [.ref a1])), (a1, .inl (cI, 117, .inl v_cells))] H → va_D A [(a0, .inr (4, [.ref a1])), (a1, .inl (cI, 117, .inl v_cells))] → va_S A s.heap H locs → lv_has ls 4 [(0, .ref a0), (1, .int x1)] → W p l e ({ frames := 1, cells := 0, slots := 0, locals := 21 } : Room) s m args below meth c H locs 0 0 Q (F0 m 0 ls []) := by
    intro Q hret H locs ls hP hD hS hl
    refine lv_iconst (v := 0) hx hb dX4_stanzaOf_0 (by decide) ?_
    refine lv_istore_n (lv' := [(2, .int (0 : Int32)), (0, .ref a0), (1, .int x1)]) hx hb dX4_stanzaOf_1 rfl hl (by decide) rfl (fun ls hl => ?_)
    refine lv_iconst (v := 1) hx hb dX4_stanzaOf_2 (by decide) ?_
    refine lv_istore_n (lv' := [(3, .int (1 : Int32)), (2, .int (0 : Int32)), (0, .ref a0), (1, .int x1)]) hx hb dX4_stanzaOf_3 rfl hl (by decide) rfl (fun ls hl => ?_)
    have hL4 : ∀ (rr : Int32 × Int32), (∀ (z_9 : Int32) (z_10 : Int32), rr = (z_9, z_10) → ∀ (H : Heap) (locs : List Loc) (ls : Array Slot), va_P (dC, dI) vwCl [(a0, .inr (4, [.ref a1])), (a1, .inl (cI, 117, .inl v_cells))] H → va_D A [(a0, .inr (4, [.ref a1])), (a1, .inl (cI, 117, .inl v_cells))] → va_S A s.heap H locs → lv_has ls 4 [(2, .int z_9)] → W p l e ({ frames := 1, cells := 0, slots := 0, locals := 21 } : Room) s m args below meth c H locs 0 0 Q (F0 m 31 ls [])) → ∀ (n : Nat) (i2_1 : Int32) (i3_2 : Int32), loopN (p_X4_stanzaOf_L4 v_cells x1) n (i2_1, i3_2) = some rr → ∀ (H : Heap) (locs : List Loc) (ls : Array Slot), va_P (dC, dI) vwCl [(a0, .inr (4, [.ref a1])), (a1, .inl (cI, 117, .inl v_cells))] H → va_D A [(a0, .inr (4, [.ref a1])), (a1, .inl (cI, 117, .inl v_cells))] → va_S A s.heap H locs → lv_has ls 4 [(0, .ref a0), (1, .int x1), (2, .int i2_1), (3, .int i3_2)] → W p l e ({ frames := 1, cells := 0, slots := 0, locals := 21 } : Room) s m args below meth c H locs 0 0 Q (F0 m 4 ls []) := by
      intro rr hk4 n
      induction n with
      | zero => intro i2_1 i3_2 hf; cases hf
      | succ n ih4 =>
        intro i2_1 i3_2 hf H locs ls hP hD hS hl
        obtain ⟨o4, hf, hi, he⟩ := loopN_el hf
        refine lv_iload_n hx hb dX4_stanzaOf_4 rfl (lv_at hl 3 rfl) ?_
        refine lv_iload_n hx hb dX4_stanzaOf_5 rfl (lv_at hl 1 rfl) ?_
        refine lv_icmp_gt (tgt := 31) hx hb dX4_stanzaOf_6 (by decide) (fun c3 => ?_) (fun c3 => ?_)
        · replace hf := it_t c3 hf
          exact hk4 _ _ (he _ (Option.some.inj hf).symm).symm H locs ls hP hD hS (lv_sub hl [2] rfl)
        · replace hf := it_f c3 hf
          refine lv_iload_n hx hb dX4_stanzaOf_9 rfl (lv_at hl 2 rfl) ?_
          refine lv_aload_n hx hb dX4_stanzaOf_10 rfl (lv_at hl 0 rfl) ?_
          refine lv_iload_n hx hb dX4_stanzaOf_11 rfl (lv_at hl 3 rfl) ?_
          obtain ⟨r_4, hq5, hf⟩ := bd1_el hf
          refine mc_V (As := [.int i3_2]) (rest := [.int i2_1]) (wr := []) (wn := [(a0, .inr (4, [.ref a1])), (a1, .inl (cI, 117, .inl v_cells))]) ⟨hx, hb, hml, hown, hT⟩ (c_X4_beginsStanza l dC dI cI cJ cP cS a0 a1 v_cells i3_2 r_4 hq5) (cwV 1 hT (gdV q_ml_X4_77 q_im_X4_beginsStanza q_se_X4_beginsStanza q_in_X4 q_co_X4_beginsStanza) rfl rfl rfl hd_X4_beginsStanza ⟨Nat.le_of_ble_eq_true rfl, Nat.le_of_ble_eq_true rfl⟩) hK hF hP hD hS hA 0 rfl rfl rfl [0, 1] [] [0, 1] rfl (by decide) rfl (by decide) (by decide) rfl (by decide) rfl hl.1 rfl (Nat.le_of_ble_eq_true rfl) dX4_stanzaOf_12 ⟨Nat.zero_le _, Nat.zero_le _⟩ (fun H locs hP hD hS => ?_)
          refine W.eq (g2 := F0 m 15 ls [.int r_4, .int i2_1]) rfl ?_
          refine lv_if_eq (tgt := 22) hx hb dX4_stanzaOf_15 (by decide) (fun c6 => ?_) (fun c6 => ?_)
          · replace hf := it_t c6 hf
            refine lv_iconst (v := 0) hx hb dX4_stanzaOf_22 (by decide) ?_
            refine lv_iadd hx hb dX4_stanzaOf_23 ?_
            obtain ⟨x2_7, ex2_7, hf⟩ := nm_el hf
            refine lv_as (congrArg Value.int ex2_7) ?_
            refine lv_istore_n (lv' := [(2, .int x2_7), (0, .ref a0), (1, .int x1), (3, .int i3_2)]) hx hb dX4_stanzaOf_24 rfl hl (by decide) rfl (fun ls hl => ?_)
            refine lv_iinc (v := (i3_2 + (1 : Int32))) (lv' := [(3, .int (i3_2 + (1 : Int32))), (2, .int x2_7), (0, .ref a0), (1, .int x1)]) hx hb dX4_stanzaOf_25 hl (k := 3) rfl rfl (by decide) rfl (fun ls hl => ?_)
            refine lv_goto (tgt := 4) hx hb dX4_stanzaOf_28 (by decide) ?_
            exact ih4 x2_7 (i3_2 + (1 : Int32)) (hi _ (Option.some.inj hf).symm) H locs ls hP hD hS (lv_sub hl [2, 3, 1, 0] rfl)
          · replace hf := it_f c6 hf
            refine lv_iconst (v := 1) hx hb dX4_stanzaOf_18 (by decide) ?_
            refine lv_goto (tgt := 23) hx hb dX4_stanzaOf_19 (by decide) ?_
            refine lv_iadd hx hb dX4_stanzaOf_23 ?_
            obtain ⟨x2_8, ex2_8, hf⟩ := nm_el hf
            refine lv_as (congrArg Value.int ex2_8) ?_
            refine lv_istore_n (lv' := [(2, .int x2_8), (0, .ref a0), (1, .int x1), (3, .int i3_2)]) hx hb dX4_stanzaOf_24 rfl hl (by decide) rfl (fun ls hl => ?_)
            refine lv_iinc (v := (i3_2 + (1 : Int32))) (lv' := [(3, .int (i3_2 + (1 : Int32))), (2, .int x2_8), (0, .ref a0), (1, .int x1)]) hx hb dX4_stanzaOf_25 hl (k := 3) rfl rfl (by decide) rfl (fun ls hl => ?_)
            refine lv_goto (tgt := 4) hx hb dX4_stanzaOf_28 (by decide) ?_
            exact ih4 x2_8 (i3_2 + (1 : Int32)) (hi _ (Option.some.inj hf).symm) H locs ls hP hD hS (lv_sub hl [2, 3, 1, 0] rfl)
    obtain ⟨f2_11, f3_12, hq, hf⟩ := bd2_el hf
    refine hL4 (f2_11, f3_12) (fun z_9 z_10 h9 H locs ls hP hD hS hl => ?_) fuel (0 : Int32) (1 : Int32) hq H locs ls hP hD hS (lv_sub hl [2, 3, 1, 0] rfl)
    simp only [Prod.mk.injEq] at h9
    obtain ⟨h9_0, h9_1⟩ := h9
    subst h9_0; subst h9_1
    refine lv_iload_n hx hb dX4_stanzaOf_31 rfl (lv_at hl 0 rfl) ?_
    replace hf := Option.some.inj hf
    subst hf
    exact hret H locs ls _ dX4_stanzaOf_32 hP hD hS
  refine key _ ?_ _ _ _ hP hD hS hl
  intro H locs ls pc d hP hD hS
  exact W.iret (v := rv) hx hb hr (fun t ht hW => ⟨⟨rfl, by rw [ht]; exact hP, hD⟩, hS.F ht⟩) hS.2.2 d
def p_X4_stanzas (v_cells : (Nat → Int32)) : Option (Int32) :=
  (bd1 (p_X4_lines v_cells) fun r_1 => (if r_1 = (0 : Int32) then (some (0 : Int32)) else (bd1 (p_X4_lines v_cells) fun r_4 => (bd1 (p_X4_stanzaOf v_cells (r_4 - (1 : Int32))) fun r_6 => (some (r_6 + (1 : Int32)))))))
set_option maxHeartbeats 4000000 in
set_option maxRecDepth 100000 in
theorem c_X4_stanzas (l : Launch) (dC : Nat → ClassId) (dI : Nat → Nat → Nat) (cI cJ cP cS : ClassId) (a0 : Nat) (a1 : Nat) (v_cells : (Nat → Int32))   (rv : Int32)  (hf : p_X4_stanzas v_cells = some rv) : MC l (dC, dI) (tyl cI cJ cP cS) yX4_stanzas (Cond.code yX4_stanzas cX4_stanzas 1 (some .int) :: TBG) ({ frames := 2, cells := 0, slots := 0, locals := 44 } : Room) [.ref a0] [(a0, .inr (4, [.ref a1])), (a1, .inl (cI, 117, .inl v_cells))] [(a0, .inr (4, [.ref a1])), (a1, .inl (cI, 117, .inl v_cells))] (some (.int rv)) := by
  intro sz
  unfold MPost
  refine Met.ofW (cc := cX4_stanzas) (maxL := 1) (ret := (some .int)) (by decide) rfl ?_
  intro p e s m args below meth c s₁ B hml hv
  obtain ⟨rfl, hsz, hP, hK, hD0, hF⟩ := hv
  have hx := B.exec
  have hb := B.bytes
  have hr := B.returns
  have hT : ∀ w ∈ TBG, w.before _ s = true := fun w h => atoms_spec B.pre w (List.mem_cons_of_mem _ h)
  have hown : s.vm.findClass RX4 = some m.cls := findClass_of_methodNamed B.named
  have hlocks := B.notSynchronized
  subst hsz
  have hD := hD0.self (sz := s.heap.size)
  generalize hAe : va_A [(a0, .inr (4, [.ref a1])), (a1, .inl (cI, 117, .inl v_cells))] s.heap.size = A at hD hF ⊢
  have hA : ∀ q : Nat, s.heap.size ≤ q → A q := fun q h => by rw [← hAe]; exact Or.inr h
  have hS : va_S A s.heap s.heap [] := va_S.rf
  have hl := lv_entry ([.ref a0]) (n := 1) (Nat.le_of_ble_eq_true rfl)
  rw [lg_entry_eq]
  generalize (lg_sl ([.ref a0]) ++ List.replicate (1 - (lg_sl ([.ref a0])).length) Slot.unset).toArray = ls at hl ⊢
  have hl : lv_has ls 1 [(0, .ref a0)] := hl
  generalize ([.ref a0] : List Value).toArray = args at hT ⊢
  have key : ∀ (Q : State → Prop), (∀ (H : Heap) (locs : List Loc) (ls : Array Slot) (pc : Nat), decode cX4_stanzas pc = .ok (.ireturn, 1) → va_P (dC, dI) vwCl [(a0, .inr (4, [.ref a1])), (a1, .inl (cI, 117, .inl v_cells))] H → va_D A [(a0, .inr (4, [.ref a1])), (a1, .inl (cI, 117, .inl v_cells))] → va_S A s.heap H locs → W p l e ({ frames := 2, cells := 0, slots := 0, locals := 44 } : Room) s m args below meth c H locs 0 0 Q (F0 m pc ls [.int rv])) → ∀ (H : Heap) (locs : List Loc) (ls : Array Slot), va_P (dC, dI) vwCl [(a0, .inr (4, [.ref a1])), (a1, .inl (cI, 117, .inl v_cells))] H → va_D A [(a0, .inr (4, [.ref a1])), (a1, .inl (cI, 117, .inl v_cells))] → va_S A s.heap H locs → lv_has ls 1 [(0, .ref a0)] → W p l e ({ frames := 2, cells := 0, slots := 0, locals := 44 } : Room) s m args below meth c H locs 0 0 Q (F0 m 0 ls []) := by
    intro Q hret H locs ls hP hD hS hl
    refine lv_aload_n hx hb dX4_stanzas_0 rfl (lv_at hl 0 rfl) ?_
    obtain ⟨r_1, hq2, hf⟩ := bd1_el hf
    refine mc_V (As := []) (rest := []) (wr := []) (wn := [(a0, .inr (4, [.ref a1])), (a1, .inl (cI, 117, .inl v_cells))]) ⟨hx, hb, hml, hown, hT⟩ (c_X4_lines l dC dI cI cJ cP cS a0 a1 v_cells r_1 hq2) (cwV 0 hT (gdV q_ml_X4_28 q_im_X4_lines q_se_X4_lines q_in_X4 q_co_X4_lines) rfl rfl rfl hd_X4_lines ⟨Nat.le_of_ble_eq_true rfl, Nat.le_of_ble_eq_true rfl⟩) hK hF hP hD hS hA 0 rfl rfl rfl [0, 1] [] [0, 1] rfl (by decide) rfl (by decide) (by decide) rfl (by decide) rfl hl.1 rfl (Nat.le_of_ble_eq_true rfl) dX4_stanzas_1 ⟨Nat.zero_le _, Nat.zero_le _⟩ (fun H locs hP hD hS => ?_)
    refine W.eq (g2 := F0 m 4 ls [.int r_1]) rfl ?_
    refine lv_if_ne (tgt := 11) hx hb dX4_stanzas_4 (by decide) (fun c3 => ?_) (fun c3 => ?_)
    · replace hf := it_f c3 hf
      refine lv_aload_n hx hb dX4_stanzas_11 rfl (lv_at hl 0 rfl) ?_
      refine lv_aload_n hx hb dX4_stanzas_12 rfl (lv_at hl 0 rfl) ?_
      obtain ⟨r_4, hq5, hf⟩ := bd1_el hf
      refine mc_V (As := []) (rest := [.ref a0]) (wr := []) (wn := [(a0, .inr (4, [.ref a1])), (a1, .inl (cI, 117, .inl v_cells))]) ⟨hx, hb, hml, hown, hT⟩ (c_X4_lines l dC dI cI cJ cP cS a0 a1 v_cells r_4 hq5) (cwV 0 hT (gdV q_ml_X4_28 q_im_X4_lines q_se_X4_lines q_in_X4 q_co_X4_lines) rfl rfl rfl hd_X4_lines ⟨Nat.le_of_ble_eq_true rfl, Nat.le_of_ble_eq_true rfl⟩) hK hF hP hD hS hA 0 rfl rfl rfl [0, 1] [] [0, 1] rfl (by decide) rfl (by decide) (by decide) rfl (by decide) rfl hl.1 rfl (Nat.le_of_ble_eq_true rfl) dX4_stanzas_13 ⟨Nat.zero_le _, Nat.zero_le _⟩ (fun H locs hP hD hS => ?_)
      refine W.eq (g2 := F0 m 16 ls [.int r_4, .ref a0]) rfl ?_
      refine lv_iconst (v := 1) hx hb dX4_stanzas_16 (by decide) ?_
      refine lv_isub hx hb dX4_stanzas_17 ?_
      obtain ⟨r_6, hq7, hf⟩ := bd1_el hf
      refine mc_V (As := [.int (r_4 - (1 : Int32))]) (rest := []) (wr := []) (wn := [(a0, .inr (4, [.ref a1])), (a1, .inl (cI, 117, .inl v_cells))]) ⟨hx, hb, hml, hown, hT⟩ (c_X4_stanzaOf l dC dI cI cJ cP cS a0 a1 v_cells (r_4 - (1 : Int32)) r_6 hq7) (cwV 1 hT (gdV q_ml_X4_74 q_im_X4_stanzaOf q_se_X4_stanzaOf q_in_X4 q_co_X4_stanzaOf) rfl rfl rfl hd_X4_stanzaOf ⟨Nat.le_of_ble_eq_true rfl, Nat.le_of_ble_eq_true rfl⟩) hK hF hP hD hS hA 0 rfl rfl rfl [0, 1] [] [0, 1] rfl (by decide) rfl (by decide) (by decide) rfl (by decide) rfl hl.1 rfl (Nat.le_of_ble_eq_true rfl) dX4_stanzas_18 ⟨Nat.zero_le _, Nat.zero_le _⟩ (fun H locs hP hD hS => ?_)
      refine W.eq (g2 := F0 m 21 ls [.int r_6]) rfl ?_
      refine lv_iconst (v := 1) hx hb dX4_stanzas_21 (by decide) ?_
      refine lv_iadd hx hb dX4_stanzas_22 ?_
      replace hf := Option.some.inj hf
      subst hf
      exact hret H locs ls _ dX4_stanzas_23 hP hD hS
    · replace hf := it_t c3 hf
      refine lv_iconst (v := 0) hx hb dX4_stanzas_7 (by decide) ?_
      refine lv_goto (tgt := 23) hx hb dX4_stanzas_8 (by decide) ?_
      replace hf := Option.some.inj hf
      subst hf
      exact hret H locs ls _ dX4_stanzas_23 hP hD hS
  refine key _ ?_ _ _ _ hP hD hS hl
  intro H locs ls pc d hP hD hS
  exact W.iret (v := rv) hx hb hr (fun t ht hW => ⟨⟨rfl, by rw [ht]; exact hP, hD⟩, hS.F ht⟩) hS.2.2 d
def p_X4_firstLineOf_L2 (v_cells : (Nat → Int32)) (x1 : Int32) (i2_1 : Int32) : Option ((Int32) ⊕ (Int32)) :=
  (bd1 (p_X4_lines v_cells) fun r_2 => (if r_2 ≤ i2_1 then (some (.inr i2_1)) else (bd1 (p_X4_stanzaOf v_cells i2_1) fun r_5 => (if x1 ≤ r_5 then (some (.inr i2_1)) else (some (.inl (i2_1 + (1 : Int32))))))))
def p_X4_firstLineOf (v_cells : (Nat → Int32)) (x1 : Int32) : Option (Int32) :=
  (bd1 (loopN (p_X4_firstLineOf_L2 v_cells x1) fuel (0 : Int32)) fun f2_9 => (some f2_9))
set_option maxHeartbeats 4000000 in
set_option maxRecDepth 100000 in
theorem c_X4_firstLineOf (l : Launch) (dC : Nat → ClassId) (dI : Nat → Nat → Nat) (cI cJ cP cS : ClassId) (a0 : Nat) (a1 : Nat) (v_cells : (Nat → Int32))  (x1 : Int32) (rv : Int32)  (hf : p_X4_firstLineOf v_cells x1 = some rv) : MC l (dC, dI) (tyl cI cJ cP cS) yX4_firstLineOf (Cond.code yX4_firstLineOf cX4_firstLineOf 3 (some .int) :: TBG) ({ frames := 2, cells := 0, slots := 0, locals := 44 } : Room) [.ref a0, .int x1] [(a0, .inr (4, [.ref a1])), (a1, .inl (cI, 117, .inl v_cells))] [(a0, .inr (4, [.ref a1])), (a1, .inl (cI, 117, .inl v_cells))] (some (.int rv)) := by
  intro sz
  unfold MPost
  refine Met.ofW (cc := cX4_firstLineOf) (maxL := 3) (ret := (some .int)) (by decide) rfl ?_
  intro p e s m args below meth c s₁ B hml hv
  obtain ⟨rfl, hsz, hP, hK, hD0, hF⟩ := hv
  have hx := B.exec
  have hb := B.bytes
  have hr := B.returns
  have hT : ∀ w ∈ TBG, w.before _ s = true := fun w h => atoms_spec B.pre w (List.mem_cons_of_mem _ h)
  have hown : s.vm.findClass RX4 = some m.cls := findClass_of_methodNamed B.named
  have hlocks := B.notSynchronized
  subst hsz
  have hD := hD0.self (sz := s.heap.size)
  generalize hAe : va_A [(a0, .inr (4, [.ref a1])), (a1, .inl (cI, 117, .inl v_cells))] s.heap.size = A at hD hF ⊢
  have hA : ∀ q : Nat, s.heap.size ≤ q → A q := fun q h => by rw [← hAe]; exact Or.inr h
  have hS : va_S A s.heap s.heap [] := va_S.rf
  have hl := lv_entry ([.ref a0, .int x1]) (n := 3) (Nat.le_of_ble_eq_true rfl)
  rw [lg_entry_eq]
  generalize (lg_sl ([.ref a0, .int x1]) ++ List.replicate (3 - (lg_sl ([.ref a0, .int x1])).length) Slot.unset).toArray = ls at hl ⊢
  have hl : lv_has ls 3 [(0, .ref a0), (1, .int x1)] := hl
  generalize ([.ref a0, .int x1] : List Value).toArray = args at hT ⊢
  have key : ∀ (Q : State → Prop), (∀ (H : Heap) (locs : List Loc) (ls : Array Slot) (pc : Nat), decode cX4_firstLineOf pc = .ok (.ireturn, 1) → va_P (dC, dI) vwCl [(a0, .inr (4, [.ref a1])), (a1, .inl (cI, 117, .inl v_cells))] H → va_D A [(a0, .inr (4, [.ref a1])), (a1, .inl (cI, 117, .inl v_cells))] → va_S A s.heap H locs → W p l e ({ frames := 2, cells := 0, slots := 0, locals := 44 } : Room) s m args below meth c H locs 0 0 Q (F0 m pc ls [.int rv])) → ∀ (H : Heap) (locs : List Loc) (ls : Array Slot), va_P (dC, dI) vwCl [(a0, .inr (4, [.ref a1])), (a1, .inl (cI, 117, .inl v_cells))] H → va_D A [(a0, .inr (4, [.ref a1])), (a1, .inl (cI, 117, .inl v_cells))] → va_S A s.heap H locs → lv_has ls 3 [(0, .ref a0), (1, .int x1)] → W p l e ({ frames := 2, cells := 0, slots := 0, locals := 44 } : Room) s m args below meth c H locs 0 0 Q (F0 m 0 ls []) := by
    intro Q hret H locs ls hP hD hS hl
    refine lv_iconst (v := 0) hx hb dX4_firstLineOf_0 (by decide) ?_
    refine lv_istore_n (lv' := [(2, .int (0 : Int32)), (0, .ref a0), (1, .int x1)]) hx hb dX4_firstLineOf_1 rfl hl (by decide) rfl (fun ls hl => ?_)
    have hL2 : ∀ (rr : Int32), (∀ (z_8 : Int32), rr = z_8 → ∀ (H : Heap) (locs : List Loc) (ls : Array Slot), va_P (dC, dI) vwCl [(a0, .inr (4, [.ref a1])), (a1, .inl (cI, 117, .inl v_cells))] H → va_D A [(a0, .inr (4, [.ref a1])), (a1, .inl (cI, 117, .inl v_cells))] → va_S A s.heap H locs → lv_has ls 3 [(2, .int z_8)] → W p l e ({ frames := 2, cells := 0, slots := 0, locals := 44 } : Room) s m args below meth c H locs 0 0 Q (F0 m 25 ls [])) → ∀ (n : Nat) (i2_1 : Int32), loopN (p_X4_firstLineOf_L2 v_cells x1) n i2_1 = some rr → ∀ (H : Heap) (locs : List Loc) (ls : Array Slot), va_P (dC, dI) vwCl [(a0, .inr (4, [.ref a1])), (a1, .inl (cI, 117, .inl v_cells))] H → va_D A [(a0, .inr (4, [.ref a1])), (a1, .inl (cI, 117, .inl v_cells))] → va_S A s.heap H locs → lv_has ls 3 [(0, .ref a0), (1, .int x1), (2, .int i2_1)] → W p l e ({ frames := 2, cells := 0, slots := 0, locals := 44 } : Room) s m args below meth c H locs 0 0 Q (F0 m 2 ls []) := by
      intro rr hk2 n
      induction n with
      | zero => intro i2_1 hf; cases hf
      | succ n ih2 =>
        intro i2_1 hf H locs ls hP hD hS hl
        obtain ⟨o2, hf, hi, he⟩ := loopN_el hf
        refine lv_iload_n hx hb dX4_firstLineOf_2 rfl (lv_at hl 2 rfl) ?_
        refine lv_aload_n hx hb dX4_firstLineOf_3 rfl (lv_at hl 0 rfl) ?_
        obtain ⟨r_2, hq3, hf⟩ := bd1_el hf
        refine mc_V (As := []) (rest := [.int i2_1]) (wr := []) (wn := [(a0, .inr (4, [.ref a1])), (a1, .inl (cI, 117, .inl v_cells))]) ⟨hx, hb, hml, hown, hT⟩ (c_X4_lines l dC dI cI cJ cP cS a0 a1 v_cells r_2 hq3) (cwV 0 hT (gdV q_ml_X4_28 q_im_X4_lines q_se_X4_lines q_in_X4 q_co_X4_lines) rfl rfl rfl hd_X4_lines ⟨Nat.le_of_ble_eq_true rfl, Nat.le_of_ble_eq_true rfl⟩) hK hF hP hD hS hA 0 rfl rfl rfl [0, 1] [] [0, 1] rfl (by decide) rfl (by decide) (by decide) rfl (by decide) rfl hl.1 rfl (Nat.le_of_ble_eq_true rfl) dX4_firstLineOf_4 ⟨Nat.zero_le _, Nat.zero_le _⟩ (fun H locs hP hD hS => ?_)
        refine W.eq (g2 := F0 m 7 ls [.int r_2, .int i2_1]) rfl ?_
        refine lv_icmp_ge (tgt := 25) hx hb dX4_firstLineOf_7 (by decide) (fun c4 => ?_) (fun c4 => ?_)
        · replace hf := it_t c4 hf
          exact hk2 _ (he _ (Option.some.inj hf).symm).symm H locs ls hP hD hS (lv_sub hl [2] rfl)
        · replace hf := it_f c4 hf
          refine lv_aload_n hx hb dX4_firstLineOf_10 rfl (lv_at hl 0 rfl) ?_
          refine lv_iload_n hx hb dX4_firstLineOf_11 rfl (lv_at hl 2 rfl) ?_
          obtain ⟨r_5, hq6, hf⟩ := bd1_el hf
          refine mc_V (As := [.int i2_1]) (rest := []) (wr := []) (wn := [(a0, .inr (4, [.ref a1])), (a1, .inl (cI, 117, .inl v_cells))]) ⟨hx, hb, hml, hown, hT⟩ (c_X4_stanzaOf l dC dI cI cJ cP cS a0 a1 v_cells i2_1 r_5 hq6) (cwV 1 hT (gdV q_ml_X4_74 q_im_X4_stanzaOf q_se_X4_stanzaOf q_in_X4 q_co_X4_stanzaOf) rfl rfl rfl hd_X4_stanzaOf ⟨Nat.le_of_ble_eq_true rfl, Nat.le_of_ble_eq_true rfl⟩) hK hF hP hD hS hA 0 rfl rfl rfl [0, 1] [] [0, 1] rfl (by decide) rfl (by decide) (by decide) rfl (by decide) rfl hl.1 rfl (Nat.le_of_ble_eq_true rfl) dX4_firstLineOf_12 ⟨Nat.zero_le _, Nat.zero_le _⟩ (fun H locs hP hD hS => ?_)
          refine W.eq (g2 := F0 m 15 ls [.int r_5]) rfl ?_
          refine lv_iload_n hx hb dX4_firstLineOf_15 rfl (lv_at hl 1 rfl) ?_
          refine lv_icmp_ge (tgt := 25) hx hb dX4_firstLineOf_16 (by decide) (fun c7 => ?_) (fun c7 => ?_)
          · replace hf := it_t c7 hf
            exact hk2 _ (he _ (Option.some.inj hf).symm).symm H locs ls hP hD hS (lv_sub hl [2] rfl)
          · replace hf := it_f c7 hf
            refine lv_iinc (v := (i2_1 + (1 : Int32))) (lv' := [(2, .int (i2_1 + (1 : Int32))), (0, .ref a0), (1, .int x1)]) hx hb dX4_firstLineOf_19 hl (k := 2) rfl rfl (by decide) rfl (fun ls hl => ?_)
            refine lv_goto (tgt := 2) hx hb dX4_firstLineOf_22 (by decide) ?_
            exact ih2 (i2_1 + (1 : Int32)) (hi _ (Option.some.inj hf).symm) H locs ls hP hD hS (lv_sub hl [1, 2, 0] rfl)
    obtain ⟨f2_9, hq, hf⟩ := bd1_el hf
    refine hL2 f2_9 (fun z_8 h9 H locs ls hP hD hS hl => ?_) fuel (0 : Int32) hq H locs ls hP hD hS (lv_sub hl [1, 2, 0] rfl)
    subst h9
    refine lv_iload_n hx hb dX4_firstLineOf_25 rfl (lv_at hl 0 rfl) ?_
    replace hf := Option.some.inj hf
    subst hf
    exact hret H locs ls _ dX4_firstLineOf_26 hP hD hS
  refine key _ ?_ _ _ _ hP hD hS hl
  intro H locs ls pc d hP hD hS
  exact W.iret (v := rv) hx hb hr (fun t ht hW => ⟨⟨rfl, by rw [ht]; exact hP, hD⟩, hS.F ht⟩) hS.2.2 d
def p_X4_rhymesIn_L11 (v_cells : (Nat → Int32)) (r_1 : Int32) (s : Int32 × Int32) : Option ((Int32 × Int32) ⊕ (Int32 × Int32)) := match s with
  | (i2_3, i4_4) => (if r_1 ≤ i4_4 then (some (.inr (i2_3, i4_4))) else (bd1 (p_X4_rhymeOf v_cells i4_4) fun r_6 => (nm (i2_3 ||| ((1 : Int32) <<< (r_6 &&& 31))) fun x2_8 => (some (.inl (x2_8, (i4_4 + (1 : Int32))))))))
def p_X4_rhymesIn (v_cells : (Nat → Int32)) (x1 : Int32) : Option (Int32) :=
  (bd1 (p_X4_stanzaEnd v_cells x1) fun r_1 => (bd2 (loopN (p_X4_rhymesIn_L11 v_cells r_1) fuel ((0 : Int32), x1)) fun f2_11 f4_12 => (bd1 (p_J6_bitCount_0f7a4 f2_11) fun r_13 => (some r_13))))
set_option maxHeartbeats 4000000 in
set_option maxRecDepth 100000 in
theorem c_X4_rhymesIn (l : Launch) (dC : Nat → ClassId) (dI : Nat → Nat → Nat) (cI cJ cP cS : ClassId) (a0 : Nat) (a1 : Nat) (v_cells : (Nat → Int32))  (x1 : Int32) (rv : Int32)  (hf : p_X4_rhymesIn v_cells x1 = some rv) : MC l (dC, dI) (tyl cI cJ cP cS) yX4_rhymesIn (Cond.code yX4_rhymesIn cX4_rhymesIn 5 (some .int) :: TBG) ({ frames := 1, cells := 0, slots := 0, locals := 22 } : Room) [.ref a0, .int x1] [(a0, .inr (4, [.ref a1])), (a1, .inl (cI, 117, .inl v_cells))] [(a0, .inr (4, [.ref a1])), (a1, .inl (cI, 117, .inl v_cells))] (some (.int rv)) := by
  intro sz
  unfold MPost
  refine Met.ofW (cc := cX4_rhymesIn) (maxL := 5) (ret := (some .int)) (by decide) rfl ?_
  intro p e s m args below meth c s₁ B hml hv
  obtain ⟨rfl, hsz, hP, hK, hD0, hF⟩ := hv
  have hx := B.exec
  have hb := B.bytes
  have hr := B.returns
  have hT : ∀ w ∈ TBG, w.before _ s = true := fun w h => atoms_spec B.pre w (List.mem_cons_of_mem _ h)
  have hown : s.vm.findClass RX4 = some m.cls := findClass_of_methodNamed B.named
  have hlocks := B.notSynchronized
  subst hsz
  have hD := hD0.self (sz := s.heap.size)
  generalize hAe : va_A [(a0, .inr (4, [.ref a1])), (a1, .inl (cI, 117, .inl v_cells))] s.heap.size = A at hD hF ⊢
  have hA : ∀ q : Nat, s.heap.size ≤ q → A q := fun q h => by rw [← hAe]; exact Or.inr h
  have hS : va_S A s.heap s.heap [] := va_S.rf
  have hl := lv_entry ([.ref a0, .int x1]) (n := 5) (Nat.le_of_ble_eq_true rfl)
  rw [lg_entry_eq]
  generalize (lg_sl ([.ref a0, .int x1]) ++ List.replicate (5 - (lg_sl ([.ref a0, .int x1])).length) Slot.unset).toArray = ls at hl ⊢
  have hl : lv_has ls 5 [(0, .ref a0), (1, .int x1)] := hl
  generalize ([.ref a0, .int x1] : List Value).toArray = args at hT ⊢
  have key : ∀ (Q : State → Prop), (∀ (H : Heap) (locs : List Loc) (ls : Array Slot) (pc : Nat), decode cX4_rhymesIn pc = .ok (.ireturn, 1) → va_P (dC, dI) vwCl [(a0, .inr (4, [.ref a1])), (a1, .inl (cI, 117, .inl v_cells))] H → va_D A [(a0, .inr (4, [.ref a1])), (a1, .inl (cI, 117, .inl v_cells))] → va_S A s.heap H locs → W p l e ({ frames := 1, cells := 0, slots := 0, locals := 22 } : Room) s m args below meth c H locs 0 0 Q (F0 m pc ls [.int rv])) → ∀ (H : Heap) (locs : List Loc) (ls : Array Slot), va_P (dC, dI) vwCl [(a0, .inr (4, [.ref a1])), (a1, .inl (cI, 117, .inl v_cells))] H → va_D A [(a0, .inr (4, [.ref a1])), (a1, .inl (cI, 117, .inl v_cells))] → va_S A s.heap H locs → lv_has ls 5 [(0, .ref a0), (1, .int x1)] → W p l e ({ frames := 1, cells := 0, slots := 0, locals := 22 } : Room) s m args below meth c H locs 0 0 Q (F0 m 0 ls []) := by
    intro Q hret H locs ls hP hD hS hl
    refine lv_iconst (v := 0) hx hb dX4_rhymesIn_0 (by decide) ?_
    refine lv_istore_n (lv' := [(2, .int (0 : Int32)), (0, .ref a0), (1, .int x1)]) hx hb dX4_rhymesIn_1 rfl hl (by decide) rfl (fun ls hl => ?_)
    refine lv_aload_n hx hb dX4_rhymesIn_2 rfl (lv_at hl 1 rfl) ?_
    refine lv_iload_n hx hb dX4_rhymesIn_3 rfl (lv_at hl 2 rfl) ?_
    obtain ⟨r_1, hq2, hf⟩ := bd1_el hf
    refine mc_V (As := [.int x1]) (rest := []) (wr := []) (wn := [(a0, .inr (4, [.ref a1])), (a1, .inl (cI, 117, .inl v_cells))]) ⟨hx, hb, hml, hown, hT⟩ (c_X4_stanzaEnd l dC dI cI cJ cP cS a0 a1 v_cells x1 r_1 hq2) (cwV 1 hT (gdV q_ml_X4_88 q_im_X4_stanzaEnd q_se_X4_stanzaEnd q_in_X4 q_co_X4_stanzaEnd) rfl rfl rfl hd_X4_stanzaEnd ⟨Nat.le_of_ble_eq_true rfl, Nat.le_of_ble_eq_true rfl⟩) hK hF hP hD hS hA 0 rfl rfl rfl [0, 1] [] [0, 1] rfl (by decide) rfl (by decide) (by decide) rfl (by decide) rfl hl.1 rfl (Nat.le_of_ble_eq_true rfl) dX4_rhymesIn_4 ⟨Nat.zero_le _, Nat.zero_le _⟩ (fun H locs hP hD hS => ?_)
    refine W.eq (g2 := F0 m 7 ls [.int r_1]) rfl ?_
    refine lv_istore_n (lv' := [(3, .int r_1), (2, .int (0 : Int32)), (0, .ref a0), (1, .int x1)]) hx hb dX4_rhymesIn_7 rfl hl (by decide) rfl (fun ls hl => ?_)
    refine lv_iload_n hx hb dX4_rhymesIn_8 rfl (lv_at hl 3 rfl) ?_
    refine lv_istore (lv' := [(4, .int x1), (3, .int r_1), (2, .int (0 : Int32)), (0, .ref a0), (1, .int x1)]) hx hb dX4_rhymesIn_9 hl (by decide) rfl (fun ls hl => ?_)
    have hL11 : ∀ (rr : Int32 × Int32), (∀ (z_9 : Int32) (z_10 : Int32), rr = (z_9, z_10) → ∀ (H : Heap) (locs : List Loc) (ls : Array Slot), va_P (dC, dI) vwCl [(a0, .inr (4, [.ref a1])), (a1, .inl (cI, 117, .inl v_cells))] H → va_D A [(a0, .inr (4, [.ref a1])), (a1, .inl (cI, 117, .inl v_cells))] → va_S A s.heap H locs → lv_has ls 5 [(2, .int z_9)] → W p l e ({ frames := 1, cells := 0, slots := 0, locals := 22 } : Room) s m args below meth c H locs 0 0 Q (F0 m 34 ls [])) → ∀ (n : Nat) (i2_3 : Int32) (i4_4 : Int32), loopN (p_X4_rhymesIn_L11 v_cells r_1) n (i2_3, i4_4) = some rr → ∀ (H : Heap) (locs : List Loc) (ls : Array Slot), va_P (dC, dI) vwCl [(a0, .inr (4, [.ref a1])), (a1, .inl (cI, 117, .inl v_cells))] H → va_D A [(a0, .inr (4, [.ref a1])), (a1, .inl (cI, 117, .inl v_cells))] → va_S A s.heap H locs → lv_has ls 5 [(0, .ref a0), (2, .int i2_3), (3, .int r_1), (4, .int i4_4)] → W p l e ({ frames := 1, cells := 0, slots := 0, locals := 22 } : Room) s m args below meth c H locs 0 0 Q (F0 m 11 ls []) := by
      intro rr hk11 n
      induction n with
      | zero => intro i2_3 i4_4 hf; cases hf
      | succ n ih11 =>
        intro i2_3 i4_4 hf H locs ls hP hD hS hl
        obtain ⟨o11, hf, hi, he⟩ := loopN_el hf
        refine lv_iload hx hb dX4_rhymesIn_11 (lv_at hl 3 rfl) ?_
        refine lv_iload_n hx hb dX4_rhymesIn_13 rfl (lv_at hl 2 rfl) ?_
        refine lv_icmp_ge (tgt := 34) hx hb dX4_rhymesIn_14 (by decide) (fun c5 => ?_) (fun c5 => ?_)
        · replace hf := it_t c5 hf
          exact hk11 _ _ (he _ (Option.some.inj hf).symm).symm H locs ls hP hD hS (lv_sub hl [1] rfl)
        · replace hf := it_f c5 hf
          refine lv_iload_n hx hb dX4_rhymesIn_17 rfl (lv_at hl 1 rfl) ?_
          refine lv_iconst (v := 1) hx hb dX4_rhymesIn_18 (by decide) ?_
          refine lv_aload_n hx hb dX4_rhymesIn_19 rfl (lv_at hl 0 rfl) ?_
          refine lv_iload hx hb dX4_rhymesIn_20 (lv_at hl 3 rfl) ?_
          obtain ⟨r_6, hq7, hf⟩ := bd1_el hf
          refine mc_V (As := [.int i4_4]) (rest := [.int (1 : Int32), .int i2_3]) (wr := []) (wn := [(a0, .inr (4, [.ref a1])), (a1, .inl (cI, 117, .inl v_cells))]) ⟨hx, hb, hml, hown, hT⟩ (c_X4_rhymeOf l dC dI cI cJ cP cS a0 a1 v_cells i4_4 r_6 hq7) (cwV 1 hT (gdV q_ml_X4_43 q_im_X4_rhymeOf q_se_X4_rhymeOf q_in_X4 q_co_X4_rhymeOf) rfl rfl rfl hd_X4_rhymeOf ⟨Nat.le_of_ble_eq_true rfl, Nat.le_of_ble_eq_true rfl⟩) hK hF hP hD hS hA 0 rfl rfl rfl [0, 1] [] [0, 1] rfl (by decide) rfl (by decide) (by decide) rfl (by decide) rfl hl.1 rfl (Nat.le_of_ble_eq_true rfl) dX4_rhymesIn_22 ⟨Nat.zero_le _, Nat.zero_le _⟩ (fun H locs hP hD hS => ?_)
          refine W.eq (g2 := F0 m 25 ls [.int r_6, .int (1 : Int32), .int i2_3]) rfl ?_
          refine lv_ishl hx hb dX4_rhymesIn_25 ?_
          refine lv_ior hx hb dX4_rhymesIn_26 ?_
          obtain ⟨x2_8, ex2_8, hf⟩ := nm_el hf
          refine lv_as (congrArg Value.int ex2_8) ?_
          refine lv_istore_n (lv' := [(2, .int x2_8), (0, .ref a0), (3, .int r_1), (4, .int i4_4)]) hx hb dX4_rhymesIn_27 rfl hl (by decide) rfl (fun ls hl => ?_)
          refine lv_iinc (v := (i4_4 + (1 : Int32))) (lv' := [(4, .int (i4_4 + (1 : Int32))), (2, .int x2_8), (0, .ref a0), (3, .int r_1)]) hx hb dX4_rhymesIn_28 hl (k := 3) rfl rfl (by decide) rfl (fun ls hl => ?_)
          refine lv_goto (tgt := 11) hx hb dX4_rhymesIn_31 (by decide) ?_
          exact ih11 x2_8 (i4_4 + (1 : Int32)) (hi _ (Option.some.inj hf).symm) H locs ls hP hD hS (lv_sub hl [2, 1, 3, 0] rfl)
    obtain ⟨f2_11, f4_12, hq, hf⟩ := bd2_el hf
    refine hL11 (f2_11, f4_12) (fun z_9 z_10 h9 H locs ls hP hD hS hl => ?_) fuel (0 : Int32) x1 hq H locs ls hP hD hS (lv_sub hl [3, 2, 1, 0] rfl)
    simp only [Prod.mk.injEq] at h9
    obtain ⟨h9_0, h9_1⟩ := h9
    subst h9_0; subst h9_1
    refine lv_iload_n hx hb dX4_rhymesIn_34 rfl (lv_at hl 0 rfl) ?_
    obtain ⟨r_13, hq14, hf⟩ := bd1_el hf
    refine mc_S (As := [.int f2_11]) (rest := []) (wr := [(a0, .inr (4, [.ref a1])), (a1, .inl (cI, 117, .inl v_cells))]) (wn := [(a0, .inr (4, [.ref a1])), (a1, .inl (cI, 117, .inl v_cells))]) ⟨hx, hb, hml, hown, hT⟩ (c_J6_bitCount_0f7a4 l dC dI cI cJ cP cS f2_11 r_13 hq14) (va_cwS 1 hT (gdS q_ml_X4_83 q_st_J6_bitCount_0f7a4 q_in_J6 q_co_J6_bitCount_0f7a4) rfl rfl rfl hd_J6_bitCount_0f7a4 ⟨Nat.le_of_ble_eq_true rfl, Nat.le_of_ble_eq_true rfl⟩) hK hF hP hD hS hA [] [0, 1] [0, 1] rfl (by decide) rfl (by decide) (by decide) rfl (by decide) rfl hl.1 rfl (Nat.le_of_ble_eq_true rfl) dX4_rhymesIn_35 ⟨Nat.zero_le _, Nat.zero_le _⟩ (fun H locs hP hD hS => ?_)
    refine W.eq (g2 := F0 m 38 ls [.int r_13]) rfl ?_
    replace hf := Option.some.inj hf
    subst hf
    exact hret H locs ls _ dX4_rhymesIn_38 hP hD hS
  refine key _ ?_ _ _ _ hP hD hS hl
  intro H locs ls pc d hP hD hS
  exact W.iret (v := rv) hx hb hr (fun t ht hW => ⟨⟨rfl, by rw [ht]; exact hP, hD⟩, hS.F ht⟩) hS.2.2 d
def p_X4_shapeOf_L12 (v_cells : (Nat → Int32)) (r_1 : Int32) (s : Int64 × Int32) : Option ((Int64 × Int32) ⊕ (Int64 × Int32)) := match s with
  | (i2_3, i5_4) => (if r_1 ≤ i5_4 then (some (.inr (i2_3, i5_4))) else (bd1 (p_X4_rankOf v_cells i5_4) fun r_6 => (nm (((10 : Int64) * i2_3) + (Int32.toInt64 r_6)) fun x2_8 => (some (.inl (x2_8, (i5_4 + (1 : Int32))))))))
def p_X4_shapeOf (v_cells : (Nat → Int32)) (x1 : Int32) : Option (Int64) :=
  (bd1 (p_X4_stanzaEnd v_cells x1) fun r_1 => (bd2 (loopN (p_X4_shapeOf_L12 v_cells r_1) fuel ((0 : Int64), x1)) fun f2_11 f5_12 => (some f2_11)))
set_option maxHeartbeats 4000000 in
set_option maxRecDepth 100000 in
theorem c_X4_shapeOf (l : Launch) (dC : Nat → ClassId) (dI : Nat → Nat → Nat) (cI cJ cP cS : ClassId) (a0 : Nat) (a1 : Nat) (v_cells : (Nat → Int32))  (x1 : Int32) (rv : Int64)  (hf : p_X4_shapeOf v_cells x1 = some rv) : MC l (dC, dI) (tyl cI cJ cP cS) yX4_shapeOf (Cond.code yX4_shapeOf cX4_shapeOf 6 (some .long) :: TBG) ({ frames := 2, cells := 0, slots := 0, locals := 45 } : Room) [.ref a0, .int x1] [(a0, .inr (4, [.ref a1])), (a1, .inl (cI, 117, .inl v_cells))] [(a0, .inr (4, [.ref a1])), (a1, .inl (cI, 117, .inl v_cells))] (some (.long rv)) := by
  intro sz
  unfold MPost
  refine Met.ofW (cc := cX4_shapeOf) (maxL := 6) (ret := (some .long)) (by decide) rfl ?_
  intro p e s m args below meth c s₁ B hml hv
  obtain ⟨rfl, hsz, hP, hK, hD0, hF⟩ := hv
  have hx := B.exec
  have hb := B.bytes
  have hr := B.returns
  have hT : ∀ w ∈ TBG, w.before _ s = true := fun w h => atoms_spec B.pre w (List.mem_cons_of_mem _ h)
  have hown : s.vm.findClass RX4 = some m.cls := findClass_of_methodNamed B.named
  have hlocks := B.notSynchronized
  subst hsz
  have hD := hD0.self (sz := s.heap.size)
  generalize hAe : va_A [(a0, .inr (4, [.ref a1])), (a1, .inl (cI, 117, .inl v_cells))] s.heap.size = A at hD hF ⊢
  have hA : ∀ q : Nat, s.heap.size ≤ q → A q := fun q h => by rw [← hAe]; exact Or.inr h
  have hS : va_S A s.heap s.heap [] := va_S.rf
  have hl := lv_entry ([.ref a0, .int x1]) (n := 6) (Nat.le_of_ble_eq_true rfl)
  rw [lg_entry_eq]
  generalize (lg_sl ([.ref a0, .int x1]) ++ List.replicate (6 - (lg_sl ([.ref a0, .int x1])).length) Slot.unset).toArray = ls at hl ⊢
  have hl : lv_has ls 6 [(0, .ref a0), (1, .int x1)] := hl
  generalize ([.ref a0, .int x1] : List Value).toArray = args at hT ⊢
  have key : ∀ (Q : State → Prop), (∀ (H : Heap) (locs : List Loc) (ls : Array Slot) (pc : Nat), decode cX4_shapeOf pc = .ok (.lreturn, 1) → va_P (dC, dI) vwCl [(a0, .inr (4, [.ref a1])), (a1, .inl (cI, 117, .inl v_cells))] H → va_D A [(a0, .inr (4, [.ref a1])), (a1, .inl (cI, 117, .inl v_cells))] → va_S A s.heap H locs → W p l e ({ frames := 2, cells := 0, slots := 0, locals := 45 } : Room) s m args below meth c H locs 0 0 Q (F0 m pc ls [.long rv])) → ∀ (H : Heap) (locs : List Loc) (ls : Array Slot), va_P (dC, dI) vwCl [(a0, .inr (4, [.ref a1])), (a1, .inl (cI, 117, .inl v_cells))] H → va_D A [(a0, .inr (4, [.ref a1])), (a1, .inl (cI, 117, .inl v_cells))] → va_S A s.heap H locs → lv_has ls 6 [(0, .ref a0), (1, .int x1)] → W p l e ({ frames := 2, cells := 0, slots := 0, locals := 45 } : Room) s m args below meth c H locs 0 0 Q (F0 m 0 ls []) := by
    intro Q hret H locs ls hP hD hS hl
    refine lv_lconst (v := 0) hx hb dX4_shapeOf_0 (by decide) ?_
    refine lv_lstore_n (lv' := [(2, .long (0 : Int64)), (0, .ref a0), (1, .int x1)]) hx hb dX4_shapeOf_1 rfl hl (by decide) rfl (fun ls hl => ?_)
    refine lv_aload_n hx hb dX4_shapeOf_2 rfl (lv_at hl 1 rfl) ?_
    refine lv_iload_n hx hb dX4_shapeOf_3 rfl (lv_at hl 2 rfl) ?_
    obtain ⟨r_1, hq2, hf⟩ := bd1_el hf
    refine mc_V (As := [.int x1]) (rest := []) (wr := []) (wn := [(a0, .inr (4, [.ref a1])), (a1, .inl (cI, 117, .inl v_cells))]) ⟨hx, hb, hml, hown, hT⟩ (c_X4_stanzaEnd l dC dI cI cJ cP cS a0 a1 v_cells x1 r_1 hq2) (cwV 1 hT (gdV q_ml_X4_88 q_im_X4_stanzaEnd q_se_X4_stanzaEnd q_in_X4 q_co_X4_stanzaEnd) rfl rfl rfl hd_X4_stanzaEnd ⟨Nat.le_of_ble_eq_true rfl, Nat.le_of_ble_eq_true rfl⟩) hK hF hP hD hS hA 0 rfl rfl rfl [0, 1] [] [0, 1] rfl (by decide) rfl (by decide) (by decide) rfl (by decide) rfl hl.1 rfl (Nat.le_of_ble_eq_true rfl) dX4_shapeOf_4 ⟨Nat.zero_le _, Nat.zero_le _⟩ (fun H locs hP hD hS => ?_)
    refine W.eq (g2 := F0 m 7 ls [.int r_1]) rfl ?_
    refine lv_istore (lv' := [(4, .int r_1), (2, .long (0 : Int64)), (0, .ref a0), (1, .int x1)]) hx hb dX4_shapeOf_7 hl (by decide) rfl (fun ls hl => ?_)
    refine lv_iload_n hx hb dX4_shapeOf_9 rfl (lv_at hl 3 rfl) ?_
    refine lv_istore (lv' := [(5, .int x1), (4, .int r_1), (2, .long (0 : Int64)), (0, .ref a0), (1, .int x1)]) hx hb dX4_shapeOf_10 hl (by decide) rfl (fun ls hl => ?_)
    have hL12 : ∀ (rr : Int64 × Int32), (∀ (z_9 : Int64) (z_10 : Int32), rr = (z_9, z_10) → ∀ (H : Heap) (locs : List Loc) (ls : Array Slot), va_P (dC, dI) vwCl [(a0, .inr (4, [.ref a1])), (a1, .inl (cI, 117, .inl v_cells))] H → va_D A [(a0, .inr (4, [.ref a1])), (a1, .inl (cI, 117, .inl v_cells))] → va_S A s.heap H locs → lv_has ls 6 [(2, .long z_9)] → W p l e ({ frames := 2, cells := 0, slots := 0, locals := 45 } : Room) s m args below meth c H locs 0 0 Q (F0 m 39 ls [])) → ∀ (n : Nat) (i2_3 : Int64) (i5_4 : Int32), loopN (p_X4_shapeOf_L12 v_cells r_1) n (i2_3, i5_4) = some rr → ∀ (H : Heap) (locs : List Loc) (ls : Array Slot), va_P (dC, dI) vwCl [(a0, .inr (4, [.ref a1])), (a1, .inl (cI, 117, .inl v_cells))] H → va_D A [(a0, .inr (4, [.ref a1])), (a1, .inl (cI, 117, .inl v_cells))] → va_S A s.heap H locs → lv_has ls 6 [(0, .ref a0), (2, .long i2_3), (4, .int r_1), (5, .int i5_4)] → W p l e ({ frames := 2, cells := 0, slots := 0, locals := 45 } : Room) s m args below meth c H locs 0 0 Q (F0 m 12 ls []) := by
      intro rr hk12 n
      induction n with
      | zero => intro i2_3 i5_4 hf; cases hf
      | succ n ih12 =>
        intro i2_3 i5_4 hf H locs ls hP hD hS hl
        obtain ⟨o12, hf, hi, he⟩ := loopN_el hf
        refine lv_iload hx hb dX4_shapeOf_12 (lv_at hl 3 rfl) ?_
        refine lv_iload hx hb dX4_shapeOf_14 (lv_at hl 2 rfl) ?_
        refine lv_icmp_ge (tgt := 39) hx hb dX4_shapeOf_16 (by decide) (fun c5 => ?_) (fun c5 => ?_)
        · replace hf := it_t c5 hf
          exact hk12 _ _ (he _ (Option.some.inj hf).symm).symm H locs ls hP hD hS (lv_sub hl [1] rfl)
        · replace hf := it_f c5 hf
          refine lv_ldc2 hx hb hown (hT _ q_kl_X4_91) dX4_shapeOf_19 ?_
          refine lv_lload_n hx hb dX4_shapeOf_22 rfl (lv_at hl 1 rfl) ?_
          refine lv_lmul hx hb dX4_shapeOf_23 ?_
          refine lv_aload_n hx hb dX4_shapeOf_24 rfl (lv_at hl 0 rfl) ?_
          refine lv_iload hx hb dX4_shapeOf_25 (lv_at hl 3 rfl) ?_
          obtain ⟨r_6, hq7, hf⟩ := bd1_el hf
          refine mc_V (As := [.int i5_4]) (rest := [.long ((10 : Int64) * i2_3)]) (wr := []) (wn := [(a0, .inr (4, [.ref a1])), (a1, .inl (cI, 117, .inl v_cells))]) ⟨hx, hb, hml, hown, hT⟩ (c_X4_rankOf l dC dI cI cJ cP cS a0 a1 v_cells i5_4 r_6 hq7) (cwV 1 hT (gdV q_ml_X4_93 q_im_X4_rankOf q_se_X4_rankOf q_in_X4 q_co_X4_rankOf) rfl rfl rfl hd_X4_rankOf ⟨Nat.le_of_ble_eq_true rfl, Nat.le_of_ble_eq_true rfl⟩) hK hF hP hD hS hA 0 rfl rfl rfl [0, 1] [] [0, 1] rfl (by decide) rfl (by decide) (by decide) rfl (by decide) rfl hl.1 rfl (Nat.le_of_ble_eq_true rfl) dX4_shapeOf_27 ⟨Nat.zero_le _, Nat.zero_le _⟩ (fun H locs hP hD hS => ?_)
          refine W.eq (g2 := F0 m 30 ls [.int r_6, .long ((10 : Int64) * i2_3)]) rfl ?_
          refine lv_i2l hx hb dX4_shapeOf_30 rfl ?_
          refine lv_ladd hx hb dX4_shapeOf_31 ?_
          obtain ⟨x2_8, ex2_8, hf⟩ := nm_el hf
          refine lv_as (congrArg Value.long ex2_8) ?_
          refine lv_lstore_n (lv' := [(2, .long x2_8), (0, .ref a0), (4, .int r_1), (5, .int i5_4)]) hx hb dX4_shapeOf_32 rfl hl (by decide) rfl (fun ls hl => ?_)
          refine lv_iinc (v := (i5_4 + (1 : Int32))) (lv' := [(5, .int (i5_4 + (1 : Int32))), (2, .long x2_8), (0, .ref a0), (4, .int r_1)]) hx hb dX4_shapeOf_33 hl (k := 3) rfl rfl (by decide) rfl (fun ls hl => ?_)
          refine lv_goto (tgt := 12) hx hb dX4_shapeOf_36 (by decide) ?_
          exact ih12 x2_8 (i5_4 + (1 : Int32)) (hi _ (Option.some.inj hf).symm) H locs ls hP hD hS (lv_sub hl [2, 1, 3, 0] rfl)
    obtain ⟨f2_11, f5_12, hq, hf⟩ := bd2_el hf
    refine hL12 (f2_11, f5_12) (fun z_9 z_10 h9 H locs ls hP hD hS hl => ?_) fuel (0 : Int64) x1 hq H locs ls hP hD hS (lv_sub hl [3, 2, 1, 0] rfl)
    simp only [Prod.mk.injEq] at h9
    obtain ⟨h9_0, h9_1⟩ := h9
    subst h9_0; subst h9_1
    refine lv_lload_n hx hb dX4_shapeOf_39 rfl (lv_at hl 0 rfl) ?_
    replace hf := Option.some.inj hf
    subst hf
    exact hret H locs ls _ dX4_shapeOf_40 hP hD hS
  refine key _ ?_ _ _ _ hP hD hS hl
  intro H locs ls pc d hP hD hS
  exact W.lret (v := rv) hx hb hr (fun t ht hW => ⟨⟨rfl, by rw [ht]; exact hP, hD⟩, hS.F ht⟩) hS.2.2 d
