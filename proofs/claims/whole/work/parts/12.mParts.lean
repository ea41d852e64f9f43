def p_X0_remember (v_next : Int32) (v_size : Int32) (v_cells : (Nat → Nat → Int32)) (v_cellsq1 : (Nat → Int32)) : Option (Int32 × Int32 × (Nat → Nat → Int32)) :=
  (gd (ib v_next 6) (bd1 (p_X4_takeOver (v_cells (tn v_next)) v_cellsq1) fun v_cells_2 => (some ((irem (v_next + (1 : Int32)) (6 : Int32)), (if (6 : Int32) < (v_size + (1 : Int32)) then (6 : Int32) else (v_size + (1 : Int32))), (va_up v_cells (tn v_next) v_cells_2)))))
set_option maxHeartbeats 4000000 in
set_option maxRecDepth 100000 in
theorem c_X0_remember (l : Launch) (dC : Nat → ClassId) (dI : Nat → Nat → Nat) (cI cJ cP cS : ClassId) (a0 : Nat) (a1 : Nat) (a2 : Nat → Nat) (a3 : Nat → Nat) (a4 : Nat) (a5 : Nat) (v_next : Int32) (v_size : Int32) (v_cells : (Nat → Nat → Int32)) (v_cellsq1 : (Nat → Int32))    (v_next_o : Int32) (v_size_o : Int32) (v_cells_o : (Nat → Nat → Int32)) (hf : p_X0_remember v_next v_size v_cells v_cellsq1 = some (v_next_o, v_size_o, v_cells_o)) : MC l (dC, dI) (tyl cI cJ cP cS) yX0_remember (Cond.code yX0_remember cX0_remember 2 none :: TBG) ({ frames := 2, cells := 0, slots := 0, locals := 61 } : Room) [.ref a0, .ref a4] [(a0, .inr (0, [.ref a1, .int v_next, .int v_size])), (a1, .inl (cP, 6, .inr (.inr (.inr (.inr (fun i => some (a2 i))))))), ((a2 0), .inr (4, [.ref (a3 0)])), ((a2 1), .inr (4, [.ref (a3 1)])), ((a2 2), .inr (4, [.ref (a3 2)])), ((a2 3), .inr (4, [.ref (a3 3)])), ((a2 4), .inr (4, [.ref (a3 4)])), ((a2 5), .inr (4, [.ref (a3 5)])), ((a3 0), .inl (cI, 117, .inl (v_cells 0))), ((a3 1), .inl (cI, 117, .inl (v_cells 1))), ((a3 2), .inl (cI, 117, .inl (v_cells 2))), ((a3 3), .inl (cI, 117, .inl (v_cells 3))), ((a3 4), .inl (cI, 117, .inl (v_cells 4))), ((a3 5), .inl (cI, 117, .inl (v_cells 5))), (a4, .inr (4, [.ref a5])), (a5, .inl (cI, 117, .inl v_cellsq1))] [(a0, .inr (0, [.ref a1, .int v_next_o, .int v_size_o])), (a1, .inl (cP, 6, .inr (.inr (.inr (.inr (fun i => some (a2 i))))))), ((a2 0), .inr (4, [.ref (a3 0)])), ((a2 1), .inr (4, [.ref (a3 1)])), ((a2 2), .inr (4, [.ref (a3 2)])), ((a2 3), .inr (4, [.ref (a3 3)])), ((a2 4), .inr (4, [.ref (a3 4)])), ((a2 5), .inr (4, [.ref (a3 5)])), ((a3 0), .inl (cI, 117, .inl (v_cells_o 0))), ((a3 1), .inl (cI, 117, .inl (v_cells_o 1))), ((a3 2), .inl (cI, 117, .inl (v_cells_o 2))), ((a3 3), .inl (cI, 117, .inl (v_cells_o 3))), ((a3 4), .inl (cI, 117, .inl (v_cells_o 4))), ((a3 5), .inl (cI, 117, .inl (v_cells_o 5))), (a4, .inr (4, [.ref a5])), (a5, .inl (cI, 117, .inl v_cellsq1))] none := by
  intro sz
  unfold MPost
  refine Met.ofW (cc := cX0_remember) (maxL := 2) (ret := none) (by decide) rfl ?_
  intro p e s m args below meth c s₁ B hml hv
  obtain ⟨rfl, hsz, hP, hK, hD0, hF⟩ := hv
  have hx := B.exec
  have hb := B.bytes
  have hr := B.returns
  have hT : ∀ w ∈ TBG, w.before _ s = true := fun w h => atoms_spec B.pre w (List.mem_cons_of_mem _ h)
  have hown : s.vm.findClass RX0 = some m.cls := findClass_of_methodNamed B.named
  have hlocks := B.notSynchronized
  subst hsz
  have hD := hD0.self (sz := s.heap.size)
  generalize hAe : va_A [(a0, .inr (0, [.ref a1, .int v_next, .int v_size])), (a1, .inl (cP, 6, .inr (.inr (.inr (.inr (fun i => some (a2 i))))))), ((a2 0), .inr (4, [.ref (a3 0)])), ((a2 1), .inr (4, [.ref (a3 1)])), ((a2 2), .inr (4, [.ref (a3 2)])), ((a2 3), .inr (4, [.ref (a3 3)])), ((a2 4), .inr (4, [.ref (a3 4)])), ((a2 5), .inr (4, [.ref (a3 5)])), ((a3 0), .inl (cI, 117, .inl (v_cells 0))), ((a3 1), .inl (cI, 117, .inl (v_cells 1))), ((a3 2), .inl (cI, 117, .inl (v_cells 2))), ((a3 3), .inl (cI, 117, .inl (v_cells 3))), ((a3 4), .inl (cI, 117, .inl (v_cells 4))), ((a3 5), .inl (cI, 117, .inl (v_cells 5))), (a4, .inr (4, [.ref a5])), (a5, .inl (cI, 117, .inl v_cellsq1))] s.heap.size = A at hD hF ⊢
  have hA : ∀ q : Nat, s.heap.size ≤ q → A q := fun q h => by rw [← hAe]; exact Or.inr h
  have hS : va_S A s.heap s.heap [] := va_S.rf
  have hl := lv_entry ([.ref a0, .ref a4]) (n := 2) (Nat.le_of_ble_eq_true rfl)
  rw [lg_entry_eq]
  generalize (lg_sl ([.ref a0, .ref a4]) ++ List.replicate (2 - (lg_sl ([.ref a0, .ref a4])).length) Slot.unset).toArray = ls at hl ⊢
  have hl : lv_has ls 2 [(0, .ref a0), (1, .ref a4)] := hl
  generalize ([.ref a0, .ref a4] : List Value).toArray = args at hT ⊢
  have key : ∀ (Q : State → Prop), (∀ (H : Heap) (locs : List Loc) (ls : Array Slot) (pc : Nat), decode cX0_remember pc = .ok (.return_, 1) → va_P (dC, dI) vwCl [(a0, .inr (0, [.ref a1, .int v_next_o, .int v_size_o])), (a1, .inl (cP, 6, .inr (.inr (.inr (.inr (fun i => some (a2 i))))))), ((a2 0), .inr (4, [.ref (a3 0)])), ((a2 1), .inr (4, [.ref (a3 1)])), ((a2 2), .inr (4, [.ref (a3 2)])), ((a2 3), .inr (4, [.ref (a3 3)])), ((a2 4), .inr (4, [.ref (a3 4)])), ((a2 5), .inr (4, [.ref (a3 5)])), ((a3 0), .inl (cI, 117, .inl (v_cells_o 0))), ((a3 1), .inl (cI, 117, .inl (v_cells_o 1))), ((a3 2), .inl (cI, 117, .inl (v_cells_o 2))), ((a3 3), .inl (cI, 117, .inl (v_cells_o 3))), ((a3 4), .inl (cI, 117, .inl (v_cells_o 4))), ((a3 5), .inl (cI, 117, .inl (v_cells_o 5))), (a4, .inr (4, [.ref a5])), (a5, .inl (cI, 117, .inl v_cellsq1))] H → va_D A [(a0, .inr (0, [.ref a1, .int v_next_o, .int v_size_o])), (a1, .inl (cP, 6, .inr (.inr (.inr (.inr (fun i => some (a2 i))))))), ((a2 0), .inr (4, [.ref (a3 0)])), ((a2 1), .inr (4, [.ref (a3 1)])), ((a2 2), .inr (4, [.ref (a3 2)])), ((a2 3), .inr (4, [.ref (a3 3)])), ((a2 4), .inr (4, [.ref (a3 4)])), ((a2 5), .inr (4, [.ref (a3 5)])), ((a3 0), .inl (cI, 117, .inl (v_cells_o 0))), ((a3 1), .inl (cI, 117, .inl (v_cells_o 1))), ((a3 2), .inl (cI, 117, .inl (v_cells_o 2))), ((a3 3), .inl (cI, 117, .inl (v_cells_o 3))), ((a3 4), .inl (cI, 117, .inl (v_cells_o 4))), ((a3 5), .inl (cI, 117, .inl (v_cells_o 5))), (a4, .inr (4, [.ref a5])), (a5, .inl (cI, 117, .inl v_cellsq1))] → va_S A s.heap H locs → W p l e ({ frames := 2, cells := 0, slots := 0, locals := 61 } : Room) s m args below meth c H locs 0 0 Q (F0 m pc ls [])) → ∀ (H : Heap) (locs : List Loc) (ls : Array Slot), va_P (dC, dI) vwCl [(a0, .inr (0, [.ref a1, .int v_next, .int v_size])), (a1, .inl (cP, 6, .inr (.inr (.inr (.inr (fun i => some (a2 i))))))), ((a2 0), .inr (4, [.ref (a3 0)])), ((a2 1), .inr (4, [.ref (a3 1)])), ((a2 2), .inr (4, [.ref (a3 2)])), ((a2 3), .inr (4, [.ref (a3 3)])), ((a2 4), .inr (4, [.ref (a3 4)])), ((a2 5), .inr (4, [.ref (a3 5)])), ((a3 0), .inl (cI, 117, .inl (v_cells 0))), ((a3 1), .inl (cI, 117, .inl (v_cells 1))), ((a3 2), .inl (cI, 117, .inl (v_cells 2))), ((a3 3), .inl (cI, 117, .inl (v_cells 3))), ((a3 4), .inl (cI, 117, .inl (v_cells 4))), ((a3 5), .inl (cI, 117, .inl (v_cells 5))), (a4, .inr (4, [.ref a5])), (a5, .inl (cI, 117, .inl v_cellsq1))] H → va_D A [(a0, .inr (0, [.ref a1, .int v_next, .int v_size])), (a1, .inl (cP, 6, .inr (.inr (.inr (.inr (fun i => some (a2 i))))))), ((a2 0), .inr (4, [.ref (a3 0)])), ((a2 1), .inr (4, [.ref (a3 1)])), ((a2 2), .inr (4, [.ref (a3 2)])), ((a2 3), .inr (4, [.ref (a3 3)])), ((a2 4), .inr (4, [.ref (a3 4)])), ((a2 5), .inr (4, [.ref (a3 5)])), ((a3 0), .inl (cI, 117, .inl (v_cells 0))), ((a3 1), .inl (cI, 117, .inl (v_cells 1))), ((a3 2), .inl (cI, 117, .inl (v_cells 2))), ((a3 3), .inl (cI, 117, .inl (v_cells 3))), ((a3 4), .inl (cI, 117, .inl (v_cells 4))), ((a3 5), .inl (cI, 117, .inl (v_cells 5))), (a4, .inr (4, [.ref a5])), (a5, .inl (cI, 117, .inl v_cellsq1))] → va_S A s.heap H locs → lv_has ls 2 [(0, .ref a0), (1, .ref a4)] → W p l e ({ frames := 2, cells := 0, slots := 0, locals := 61 } : Room) s m args below meth c H locs 0 0 Q (F0 m 0 ls []) := by
    intro Q hret H locs ls hP hD hS hl
    refine lv_aload_n hx hb dX0_remember_0 rfl (lv_at hl 0 rfl) ?_
    refine va_get (D := (dC, dI)) (ci := 0) (v := .ref a1) (C := RX0) (T := TX0) (N := 3) hx hb hT in_X0 hown hK hP 0 rfl rfl 0 (by decide) (hT _ q_fl_X0_11) (fun _ h9 => h9) rfl dX0_remember_1 ?_
    refine lv_aload_n hx hb dX0_remember_4 rfl (lv_at hl 0 rfl) ?_
    refine va_get (D := (dC, dI)) (ci := 0) (v := .int v_next) (C := RX0) (T := TX0) (N := 3) hx hb hT in_X0 hown hK hP 0 rfl rfl 1 (by decide) (hT _ q_fl_X0_17) (fun _ h9 => h9) rfl dX0_remember_5 ?_
    obtain ⟨h1, hf⟩ := gd_el hf
    rcases in6 (ib_in h1) with ejh1 | ejh1 | ejh1 | ejh1 | ejh1 | ejh1
    · try rw [ejh1] at hf
      refine aa_ld hx hb hK hP 1 2 rfl rfl (ib_in h1) ejh1 dX0_remember_8 ?_
      refine lv_aload_n hx hb dX0_remember_9 rfl (lv_at hl 1 rfl) ?_
      obtain ⟨v_cells_2, hq3, hf⟩ := bd1_el hf
      refine mc_V (As := [.ref a4]) (rest := []) (wr := [(a0, .inr (0, [.ref a1, .int v_next, .int v_size])), (a1, .inl (cP, 6, .inr (.inr (.inr (.inr (fun i => some (a2 i))))))), ((a2 1), .inr (4, [.ref (a3 1)])), ((a2 2), .inr (4, [.ref (a3 2)])), ((a2 3), .inr (4, [.ref (a3 3)])), ((a2 4), .inr (4, [.ref (a3 4)])), ((a2 5), .inr (4, [.ref (a3 5)])), ((a3 1), .inl (cI, 117, .inl ((va_up v_cells 0 v_cells_2) 1))), ((a3 2), .inl (cI, 117, .inl ((va_up v_cells 0 v_cells_2) 2))), ((a3 3), .inl (cI, 117, .inl ((va_up v_cells 0 v_cells_2) 3))), ((a3 4), .inl (cI, 117, .inl ((va_up v_cells 0 v_cells_2) 4))), ((a3 5), .inl (cI, 117, .inl ((va_up v_cells 0 v_cells_2) 5)))]) (wn := [(a0, .inr (0, [.ref a1, .int v_next, .int v_size])), (a1, .inl (cP, 6, .inr (.inr (.inr (.inr (fun i => some (a2 i))))))), ((a2 0), .inr (4, [.ref (a3 0)])), ((a2 1), .inr (4, [.ref (a3 1)])), ((a2 2), .inr (4, [.ref (a3 2)])), ((a2 3), .inr (4, [.ref (a3 3)])), ((a2 4), .inr (4, [.ref (a3 4)])), ((a2 5), .inr (4, [.ref (a3 5)])), ((a3 0), .inl (cI, 117, .inl ((va_up v_cells 0 v_cells_2) 0))), ((a3 1), .inl (cI, 117, .inl ((va_up v_cells 0 v_cells_2) 1))), ((a3 2), .inl (cI, 117, .inl ((va_up v_cells 0 v_cells_2) 2))), ((a3 3), .inl (cI, 117, .inl ((va_up v_cells 0 v_cells_2) 3))), ((a3 4), .inl (cI, 117, .inl ((va_up v_cells 0 v_cells_2) 4))), ((a3 5), .inl (cI, 117, .inl ((va_up v_cells 0 v_cells_2) 5))), (a4, .inr (4, [.ref a5])), (a5, .inl (cI, 117, .inl v_cellsq1))]) ⟨hx, hb, hml, hown, hT⟩ (c_X4_takeOver l dC dI cI cJ cP cS (a2 0) (a3 0) a4 a5 (v_cells 0) v_cellsq1 v_cells_2 hq3) (cwV 1 hT (gdV q_ml_X0_25 q_im_X4_takeOver q_se_X4_takeOver q_in_X4 q_co_X4_takeOver) rfl rfl rfl hd_X4_takeOver ⟨Nat.le_of_ble_eq_true rfl, Nat.le_of_ble_eq_true rfl⟩) hK hF hP hD hS hA 2 rfl rfl rfl [2, 8, 14, 15] [0, 1, 3, 4, 5, 6, 7, 9, 10, 11, 12, 13] [0, 1, 12, 2, 3, 4, 5, 6, 13, 7, 8, 9, 10, 11, 14, 15] rfl (by decide) rfl (by decide) (by decide) rfl (by decide) rfl hl.1 rfl (Nat.le_of_ble_eq_true rfl) dX0_remember_10 ⟨Nat.zero_le _, Nat.zero_le _⟩ (fun H locs hP hD hS => ?_)
      refine W.eq (g2 := F0 m 13 ls []) rfl ?_
      refine lv_aload_n hx hb dX0_remember_13 rfl (lv_at hl 0 rfl) ?_
      refine lv_aload_n hx hb dX0_remember_14 rfl (lv_at hl 0 rfl) ?_
      refine va_get (D := (dC, dI)) (ci := 0) (v := .int v_next) (C := RX0) (T := TX0) (N := 3) hx hb hT in_X0 hown hK hP 0 rfl rfl 1 (by decide) (hT _ q_fl_X0_17) (fun _ h9 => h9) rfl dX0_remember_15 ?_
      refine lv_iconst (v := 1) hx hb dX0_remember_18 (by decide) ?_
      refine lv_iadd hx hb dX0_remember_19 ?_
      refine lv_bipush (v := 6) hx hb dX0_remember_20 (by decide) ?_
      refine lv_irem hx hb dX0_remember_22 (by decide) ?_
      refine va_put (D := (dC, dI)) (ci := 0) (v := .int (irem (v_next + (1 : Int32)) (6 : Int32))) (ty := .int) (C := RX0) (T := TX0) (N := 3) hx hb hT in_X0 tyX0 tyX0_ok nmX0 hown hK hP hD hS 0 rfl rfl 1 (by decide) (hT _ q_fl_X0_17) (fun _ h9 => h9) rfl (tyX0_ok 1 (by decide)) rfl rfl (Nat.le_of_ble_eq_true rfl) dX0_remember_23 (fun H locs hP hD hS => ?_)
      have hP : va_P (dC, dI) vwCl [(a0, .inr (0, [.ref a1, .int (irem (v_next + (1 : Int32)) (6 : Int32)), .int v_size])), (a1, .inl (cP, 6, .inr (.inr (.inr (.inr (fun i => some (a2 i))))))), ((a2 0), .inr (4, [.ref (a3 0)])), ((a2 1), .inr (4, [.ref (a3 1)])), ((a2 2), .inr (4, [.ref (a3 2)])), ((a2 3), .inr (4, [.ref (a3 3)])), ((a2 4), .inr (4, [.ref (a3 4)])), ((a2 5), .inr (4, [.ref (a3 5)])), ((a3 0), .inl (cI, 117, .inl ((va_up v_cells 0 v_cells_2) 0))), ((a3 1), .inl (cI, 117, .inl ((va_up v_cells 0 v_cells_2) 1))), ((a3 2), .inl (cI, 117, .inl ((va_up v_cells 0 v_cells_2) 2))), ((a3 3), .inl (cI, 117, .inl ((va_up v_cells 0 v_cells_2) 3))), ((a3 4), .inl (cI, 117, .inl ((va_up v_cells 0 v_cells_2) 4))), ((a3 5), .inl (cI, 117, .inl ((va_up v_cells 0 v_cells_2) 5))), (a4, .inr (4, [.ref a5])), (a5, .inl (cI, 117, .inl v_cellsq1))] H := hP
      have hD : va_D A [(a0, .inr (0, [.ref a1, .int (irem (v_next + (1 : Int32)) (6 : Int32)), .int v_size])), (a1, .inl (cP, 6, .inr (.inr (.inr (.inr (fun i => some (a2 i))))))), ((a2 0), .inr (4, [.ref (a3 0)])), ((a2 1), .inr (4, [.ref (a3 1)])), ((a2 2), .inr (4, [.ref (a3 2)])), ((a2 3), .inr (4, [.ref (a3 3)])), ((a2 4), .inr (4, [.ref (a3 4)])), ((a2 5), .inr (4, [.ref (a3 5)])), ((a3 0), .inl (cI, 117, .inl ((va_up v_cells 0 v_cells_2) 0))), ((a3 1), .inl (cI, 117, .inl ((va_up v_cells 0 v_cells_2) 1))), ((a3 2), .inl (cI, 117, .inl ((va_up v_cells 0 v_cells_2) 2))), ((a3 3), .inl (cI, 117, .inl ((va_up v_cells 0 v_cells_2) 3))), ((a3 4), .inl (cI, 117, .inl ((va_up v_cells 0 v_cells_2) 4))), ((a3 5), .inl (cI, 117, .inl ((va_up v_cells 0 v_cells_2) 5))), (a4, .inr (4, [.ref a5])), (a5, .inl (cI, 117, .inl v_cellsq1))] := hD
      refine lv_aload_n hx hb dX0_remember_26 rfl (lv_at hl 0 rfl) ?_
      refine lv_aload_n hx hb dX0_remember_27 rfl (lv_at hl 0 rfl) ?_
      refine va_get (D := (dC, dI)) (ci := 0) (v := .int v_size) (C := RX0) (T := TX0) (N := 3) hx hb hT in_X0 hown hK hP 0 rfl rfl 2 (by decide) (hT _ q_fl_X0_21) (fun _ h9 => h9) rfl dX0_remember_28 ?_
      refine lv_iconst (v := 1) hx hb dX0_remember_31 (by decide) ?_
      refine lv_iadd hx hb dX0_remember_32 ?_
      refine lv_bipush (v := 6) hx hb dX0_remember_33 (by decide) ?_
      refine va_mmin hx hb (hml.trans hl.1.symm) hown (hT _ q_ml_X0_29) (hT _ q_st_J9_min_7cf53) (hT _ q_in_J9) (hT _ q_co_J9_min_7cf53) (Nat.le_of_ble_eq_true rfl) (Nat.le_of_ble_eq_true rfl) (Nat.zero_le _) (Nat.zero_le _) dX0_remember_35 ?_
      refine va_put (D := (dC, dI)) (ci := 0) (v := .int (if (6 : Int32) < (v_size + (1 : Int32)) then (6 : Int32) else (v_size + (1 : Int32)))) (ty := .int) (C := RX0) (T := TX0) (N := 3) hx hb hT in_X0 tyX0 tyX0_ok nmX0 hown hK hP hD hS 0 rfl rfl 2 (by decide) (hT _ q_fl_X0_21) (fun _ h9 => h9) rfl (tyX0_ok 2 (by decide)) rfl rfl (Nat.le_of_ble_eq_true rfl) dX0_remember_38 (fun H locs hP hD hS => ?_)
      have hP : va_P (dC, dI) vwCl [(a0, .inr (0, [.ref a1, .int (irem (v_next + (1 : Int32)) (6 : Int32)), .int (if (6 : Int32) < (v_size + (1 : Int32)) then (6 : Int32) else (v_size + (1 : Int32)))])), (a1, .inl (cP, 6, .inr (.inr (.inr (.inr (fun i => some (a2 i))))))), ((a2 0), .inr (4, [.ref (a3 0)])), ((a2 1), .inr (4, [.ref (a3 1)])), ((a2 2), .inr (4, [.ref (a3 2)])), ((a2 3), .inr (4, [.ref (a3 3)])), ((a2 4), .inr (4, [.ref (a3 4)])), ((a2 5), .inr (4, [.ref (a3 5)])), ((a3 0), .inl (cI, 117, .inl ((va_up v_cells 0 v_cells_2) 0))), ((a3 1), .inl (cI, 117, .inl ((va_up v_cells 0 v_cells_2) 1))), ((a3 2), .inl (cI, 117, .inl ((va_up v_cells 0 v_cells_2) 2))), ((a3 3), .inl (cI, 117, .inl ((va_up v_cells 0 v_cells_2) 3))), ((a3 4), .inl (cI, 117, .inl ((va_up v_cells 0 v_cells_2) 4))), ((a3 5), .inl (cI, 117, .inl ((va_up v_cells 0 v_cells_2) 5))), (a4, .inr (4, [.ref a5])), (a5, .inl (cI, 117, .inl v_cellsq1))] H := hP
      have hD : va_D A [(a0, .inr (0, [.ref a1, .int (irem (v_next + (1 : Int32)) (6 : Int32)), .int (if (6 : Int32) < (v_size + (1 : Int32)) then (6 : Int32) else (v_size + (1 : Int32)))])), (a1, .inl (cP, 6, .inr (.inr (.inr (.inr (fun i => some (a2 i))))))), ((a2 0), .inr (4, [.ref (a3 0)])), ((a2 1), .inr (4, [.ref (a3 1)])), ((a2 2), .inr (4, [.ref (a3 2)])), ((a2 3), .inr (4, [.ref (a3 3)])), ((a2 4), .inr (4, [.ref (a3 4)])), ((a2 5), .inr (4, [.ref (a3 5)])), ((a3 0), .inl (cI, 117, .inl ((va_up v_cells 0 v_cells_2) 0))), ((a3 1), .inl (cI, 117, .inl ((va_up v_cells 0 v_cells_2) 1))), ((a3 2), .inl (cI, 117, .inl ((va_up v_cells 0 v_cells_2) 2))), ((a3 3), .inl (cI, 117, .inl ((va_up v_cells 0 v_cells_2) 3))), ((a3 4), .inl (cI, 117, .inl ((va_up v_cells 0 v_cells_2) 4))), ((a3 5), .inl (cI, 117, .inl ((va_up v_cells 0 v_cells_2) 5))), (a4, .inr (4, [.ref a5])), (a5, .inl (cI, 117, .inl v_cellsq1))] := hD
      replace hf := Option.some.inj hf
      simp only [Prod.mk.injEq] at hf
      obtain ⟨hf0, hf1, hf2⟩ := hf
      subst hf0; subst hf1; subst hf2
      exact hret H locs ls _ dX0_remember_41 hP hD hS
    · try rw [ejh1] at hf
      refine aa_ld hx hb hK hP 1 2 rfl rfl (ib_in h1) ejh1 dX0_remember_8 ?_
      refine lv_aload_n hx hb dX0_remember_9 rfl (lv_at hl 1 rfl) ?_
      obtain ⟨v_cells_2, hq3, hf⟩ := bd1_el hf
      refine mc_V (As := [.ref a4]) (rest := []) (wr := [(a0, .inr (0, [.ref a1, .int v_next, .int v_size])), (a1, .inl (cP, 6, .inr (.inr (.inr (.inr (fun i => some (a2 i))))))), ((a2 0), .inr (4, [.ref (a3 0)])), ((a2 2), .inr (4, [.ref (a3 2)])), ((a2 3), .inr (4, [.ref (a3 3)])), ((a2 4), .inr (4, [.ref (a3 4)])), ((a2 5), .inr (4, [.ref (a3 5)])), ((a3 0), .inl (cI, 117, .inl ((va_up v_cells 1 v_cells_2) 0))), ((a3 2), .inl (cI, 117, .inl ((va_up v_cells 1 v_cells_2) 2))), ((a3 3), .inl (cI, 117, .inl ((va_up v_cells 1 v_cells_2) 3))), ((a3 4), .inl (cI, 117, .inl ((va_up v_cells 1 v_cells_2) 4))), ((a3 5), .inl (cI, 117, .inl ((va_up v_cells 1 v_cells_2) 5)))]) (wn := [(a0, .inr (0, [.ref a1, .int v_next, .int v_size])), (a1, .inl (cP, 6, .inr (.inr (.inr (.inr (fun i => some (a2 i))))))), ((a2 0), .inr (4, [.ref (a3 0)])), ((a2 1), .inr (4, [.ref (a3 1)])), ((a2 2), .inr (4, [.ref (a3 2)])), ((a2 3), .inr (4, [.ref (a3 3)])), ((a2 4), .inr (4, [.ref (a3 4)])), ((a2 5), .inr (4, [.ref (a3 5)])), ((a3 0), .inl (cI, 117, .inl ((va_up v_cells 1 v_cells_2) 0))), ((a3 1), .inl (cI, 117, .inl ((va_up v_cells 1 v_cells_2) 1))), ((a3 2), .inl (cI, 117, .inl ((va_up v_cells 1 v_cells_2) 2))), ((a3 3), .inl (cI, 117, .inl ((va_up v_cells 1 v_cells_2) 3))), ((a3 4), .inl (cI, 117, .inl ((va_up v_cells 1 v_cells_2) 4))), ((a3 5), .inl (cI, 117, .inl ((va_up v_cells 1 v_cells_2) 5))), (a4, .inr (4, [.ref a5])), (a5, .inl (cI, 117, .inl v_cellsq1))]) ⟨hx, hb, hml, hown, hT⟩ (c_X4_takeOver l dC dI cI cJ cP cS (a2 1) (a3 1) a4 a5 (v_cells 1) v_cellsq1 v_cells_2 hq3) (cwV 1 hT (gdV q_ml_X0_25 q_im_X4_takeOver q_se_X4_takeOver q_in_X4 q_co_X4_takeOver) rfl rfl rfl hd_X4_takeOver ⟨Nat.le_of_ble_eq_true rfl, Nat.le_of_ble_eq_true rfl⟩) hK hF hP hD hS hA 3 rfl rfl rfl [3, 9, 14, 15] [0, 1, 2, 4, 5, 6, 7, 8, 10, 11, 12, 13] [0, 1, 2, 12, 3, 4, 5, 6, 7, 13, 8, 9, 10, 11, 14, 15] rfl (by decide) rfl (by decide) (by decide) rfl (by decide) rfl hl.1 rfl (Nat.le_of_ble_eq_true rfl) dX0_remember_10 ⟨Nat.zero_le _, Nat.zero_le _⟩ (fun H locs hP hD hS => ?_)
      refine W.eq (g2 := F0 m 13 ls []) rfl ?_
      refine lv_aload_n hx hb dX0_remember_13 rfl (lv_at hl 0 rfl) ?_
      refine lv_aload_n hx hb dX0_remember_14 rfl (lv_at hl 0 rfl) ?_
      refine va_get (D := (dC, dI)) (ci := 0) (v := .int v_next) (C := RX0) (T := TX0) (N := 3) hx hb hT in_X0 hown hK hP 0 rfl rfl 1 (by decide) (hT _ q_fl_X0_17) (fun _ h9 => h9) rfl dX0_remember_15 ?_
      refine lv_iconst (v := 1) hx hb dX0_remember_18 (by decide) ?_
      refine lv_iadd hx hb dX0_remember_19 ?_
      refine lv_bipush (v := 6) hx hb dX0_remember_20 (by decide) ?_
      refine lv_irem hx hb dX0_remember_22 (by decide) ?_
      refine va_put (D := (dC, dI)) (ci := 0) (v := .int (irem (v_next + (1 : Int32)) (6 : Int32))) (ty := .int) (C := RX0) (T := TX0) (N := 3) hx hb hT in_X0 tyX0 tyX0_ok nmX0 hown hK hP hD hS 0 rfl rfl 1 (by decide) (hT _ q_fl_X0_17) (fun _ h9 => h9) rfl (tyX0_ok 1 (by decide)) rfl rfl (Nat.le_of_ble_eq_true rfl) dX0_remember_23 (fun H locs hP hD hS => ?_)
      have hP : va_P (dC, dI) vwCl [(a0, .inr (0, [.ref a1, .int (irem (v_next + (1 : Int32)) (6 : Int32)), .int v_size])), (a1, .inl (cP, 6, .inr (.inr (.inr (.inr (fun i => some (a2 i))))))), ((a2 0), .inr (4, [.ref (a3 0)])), ((a2 1), .inr (4, [.ref (a3 1)])), ((a2 2), .inr (4, [.ref (a3 2)])), ((a2 3), .inr (4, [.ref (a3 3)])), ((a2 4), .inr (4, [.ref (a3 4)])), ((a2 5), .inr (4, [.ref (a3 5)])), ((a3 0), .inl (cI, 117, .inl ((va_up v_cells 1 v_cells_2) 0))), ((a3 1), .inl (cI, 117, .inl ((va_up v_cells 1 v_cells_2) 1))), ((a3 2), .inl (cI, 117, .inl ((va_up v_cells 1 v_cells_2) 2))), ((a3 3), .inl (cI, 117, .inl ((va_up v_cells 1 v_cells_2) 3))), ((a3 4), .inl (cI, 117, .inl ((va_up v_cells 1 v_cells_2) 4))), ((a3 5), .inl (cI, 117, .inl ((va_up v_cells 1 v_cells_2) 5))), (a4, .inr (4, [.ref a5])), (a5, .inl (cI, 117, .inl v_cellsq1))] H := hP
      have hD : va_D A [(a0, .inr (0, [.ref a1, .int (irem (v_next + (1 : Int32)) (6 : Int32)), .int v_size])), (a1, .inl (cP, 6, .inr (.inr (.inr (.inr (fun i => some (a2 i))))))), ((a2 0), .inr (4, [.ref (a3 0)])), ((a2 1), .inr (4, [.ref (a3 1)])), ((a2 2), .inr (4, [.ref (a3 2)])), ((a2 3), .inr (4, [.ref (a3 3)])), ((a2 4), .inr (4, [.ref (a3 4)])), ((a2 5), .inr (4, [.ref (a3 5)])), ((a3 0), .inl (cI, 117, .inl ((va_up v_cells 1 v_cells_2) 0))), ((a3 1), .inl (cI, 117, .inl ((va_up v_cells 1 v_cells_2) 1))), ((a3 2), .inl (cI, 117, .inl ((va_up v_cells 1 v_cells_2) 2))), ((a3 3), .inl (cI, 117, .inl ((va_up v_cells 1 v_cells_2) 3))), ((a3 4), .inl (cI, 117, .inl ((va_up v_cells 1 v_cells_2) 4))), ((a3 5), .inl (cI, 117, .inl ((va_up v_cells 1 v_cells_2) 5))), (a4, .inr (4, [.ref a5])), (a5, .inl (cI, 117, .inl v_cellsq1))] := hD
      refine lv_aload_n hx hb dX0_remember_26 rfl (lv_at hl 0 rfl) ?_
      refine lv_aload_n hx hb dX0_remember_27 rfl (lv_at hl 0 rfl) ?_
      refine va_get (D := (dC, dI)) (ci := 0) (v := .int v_size) (C := RX0) (T := TX0) (N := 3) hx hb hT in_X0 hown hK hP 0 rfl rfl 2 (by decide) (hT _ q_fl_X0_21) (fun _ h9 => h9) rfl dX0_remember_28 ?_
      refine lv_iconst (v := 1) hx hb dX0_remember_31 (by decide) ?_
      refine lv_iadd hx hb dX0_remember_32 ?_
      refine lv_bipush (v := 6) hx hb dX0_remember_33 (by decide) ?_
      refine va_mmin hx hb (hml.trans hl.1.symm) hown (hT _ q_ml_X0_29) (hT _ q_st_J9_min_7cf53) (hT _ q_in_J9) (hT _ q_co_J9_min_7cf53) (Nat.le_of_ble_eq_true rfl) (Nat.le_of_ble_eq_true rfl) (Nat.zero_le _) (Nat.zero_le _) dX0_remember_35 ?_
      refine va_put (D := (dC, dI)) (ci := 0) (v := .int (if (6 : Int32) < (v_size + (1 : Int32)) then (6 : Int32) else (v_size + (1 : Int32)))) (ty := .int) (C := RX0) (T := TX0) (N := 3) hx hb hT in_X0 tyX0 tyX0_ok nmX0 hown hK hP hD hS 0 rfl rfl 2 (by decide) (hT _ q_fl_X0_21) (fun _ h9 => h9) rfl (tyX0_ok 2 (by decide)) rfl rfl (Nat.le_of_ble_eq_true rfl) dX0_remember_38 (fun H locs hP hD hS => ?_)
      have hP : va_P (dC, dI) vwCl [(a0, .inr (0, [.ref a1, .int (irem (v_next + (1 : Int32)) (6 : Int32)), .int (if (6 : Int32) < (v_size + (1 : Int32)) then (6 : Int32) else (v_size + (1 : Int32)))])), (a1, .inl (cP, 6, .inr (.inr (.inr (.inr (fun i => some (a2 i))))))), ((a2 0), .inr (4, [.ref (a3 0)])), ((a2 1), .inr (4, [.ref (a3 1)])), ((a2 2), .inr (4, [.ref (a3 2)])), ((a2 3), .inr (4, [.ref (a3 3)])), ((a2 4), .inr (4, [.ref (a3 4)])), ((a2 5), .inr (4, [.ref (a3 5)])), ((a3 0), .inl (cI, 117, .inl ((va_up v_cells 1 v_cells_2) 0))), ((a3 1), .inl (cI, 117, .inl ((va_up v_cells 1 v_cells_2) 1))), ((a3 2), .inl (cI, 117, .inl ((va_up v_cells 1 v_cells_2) 2))), ((a3 3), .inl (cI, 117, .inl ((va_up v_cells 1 v_cells_2) 3))), ((a3 4), .inl (cI, 117, .inl ((va_up v_cells 1 v_cells_2) 4))), ((a3 5), .inl (cI, 117, .inl ((va_up v_cells 1 v_cells_2) 5))), (a4, .inr (4, [.ref a5])), (a5, .inl (cI, 117, .inl v_cellsq1))] H := hP
      have hD : va_D A [(a0, .inr (0, [.ref a1, .int (irem (v_next + (1 : Int32)) (6 : Int32)), .int (if (6 : Int32) < (v_size + (1 : Int32)) then (6 : Int32) else (v_size + (1 : Int32)))])), (a1, .inl (cP, 6, .inr (.inr (.inr (.inr (fun i => some (a2 i))))))), ((a2 0), .inr (4, [.ref (a3 0)])), ((a2 1), .inr (4, [.ref (a3 1)])), ((a2 2), .inr (4, [.ref (a3 2)])), ((a2 3), .inr (4, [.ref (a3 3)])), ((a2 4), .inr (4, [.ref (a3 4)])), ((a2 5), .inr (4, [.ref (a3 5)])), ((a3 0), .inl (cI, 117, .inl ((va_up v_cells 1 v_cells_2) 0))), ((a3 1), .inl (cI, 117, .inl ((va_up v_cells 1 v_cells_2) 1))), ((a3 2), .inl (cI, 117, .inl ((va_up v_cells 1 v_cells_2) 2))), ((a3 3), .inl (cI, 117, .inl ((va_up v_cells 1 v_cells_2) 3))), ((a3 4), .inl (cI, 117, .inl ((va_up v_cells 1 v_cells_2) 4))), ((a3 5), .inl (cI, 117, .inl ((va_up v_cells 1 v_cells_2) 5))), (a4, .inr (4, [.ref a5])), (a5, .inl (cI, 117, .inl v_cellsq1))] := hD
      replace hf := Option.some.inj hf
      simp only [Prod.mk.injEq] at hf
      obtain ⟨hf0, hf1, hf2⟩ := hf
      subst hf0; subst hf1; subst hf2
      exact hret H locs ls _ dX0_remember_41 hP hD hS
    · try rw [ejh1] at hf
      refine aa_ld hx hb hK hP 1 2 rfl rfl (ib_in h1) ejh1 dX0_remember_8 ?_
      refine lv_aload_n hx hb dX0_remember_9 rfl (lv_at hl 1 rfl) ?_
      obtain ⟨v_cells_2, hq3, hf⟩ := bd1_el hf
      refine mc_V (As := [.ref a4]) (rest := []) (wr := [(a0, .inr (0, [.ref a1, .int v_next, .int v_size])), (a1, .inl (cP, 6, .inr (.inr (.inr (.inr (fun i => some (a2 i))))))), ((a2 0), .inr (4, [.ref (a3 0)])), ((a2 1), .inr (4, [.ref (a3 1)])), ((a2 3), .inr (4, [.ref (a3 3)])), ((a2 4), .inr (4, [.ref (a3 4)])), ((a2 5), .inr (4, [.ref (a3 5)])), ((a3 0), .inl (cI, 117, .inl ((va_up v_cells 2 v_cells_2) 0))), ((a3 1), .inl (cI, 117, .inl ((va_up v_cells 2 v_cells_2) 1))), ((a3 3), .inl (cI, 117, .inl ((va_up v_cells 2 v_cells_2) 3))), ((a3 4), .inl (cI, 117, .inl ((va_up v_cells 2 v_cells_2) 4))), ((a3 5), .inl (cI, 117, .inl ((va_up v_cells 2 v_cells_2) 5)))]) (wn := [(a0, .inr (0, [.ref a1, .int v_next, .int v_size])), (a1, .inl (cP, 6, .inr (.inr (.inr (.inr (fun i => some (a2 i))))))), ((a2 0), .inr (4, [.ref (a3 0)])), ((a2 1), .inr (4, [.ref (a3 1)])), ((a2 2), .inr (4, [.ref (a3 2)])), ((a2 3), .inr (4, [.ref (a3 3)])), ((a2 4), .inr (4, [.ref (a3 4)])), ((a2 5), .inr (4, [.ref (a3 5)])), ((a3 0), .inl (cI, 117, .inl ((va_up v_cells 2 v_cells_2) 0))), ((a3 1), .inl (cI, 117, .inl ((va_up v_cells 2 v_cells_2) 1))), ((a3 2), .inl (cI, 117, .inl ((va_up v_cells 2 v_cells_2) 2))), ((a3 3), .inl (cI, 117, .inl ((va_up v_cells 2 v_cells_2) 3))), ((a3 4), .inl (cI, 117, .inl ((va_up v_cells 2 v_cells_2) 4))), ((a3 5), .inl (cI, 117, .inl ((va_up v_cells 2 v_cells_2) 5))), (a4, .inr (4, [.ref a5])), (a5, .inl (cI, 117, .inl v_cellsq1))]) ⟨hx, hb, hml, hown, hT⟩ (c_X4_takeOver l dC dI cI cJ cP cS (a2 2) (a3 2) a4 a5 (v_cells 2) v_cellsq1 v_cells_2 hq3) (cwV 1 hT (gdV q_ml_X0_25 q_im_X4_takeOver q_se_X4_takeOver q_in_X4 q_co_X4_takeOver) rfl rfl rfl hd_X4_takeOver ⟨Nat.le_of_ble_eq_true rfl, Nat.le_of_ble_eq_true rfl⟩) hK hF hP hD hS hA 4 rfl rfl rfl [4, 10, 14, 15] [0, 1, 2, 3, 5, 6, 7, 8, 9, 11, 12, 13] [0, 1, 2, 3, 12, 4, 5, 6, 7, 8, 13, 9, 10, 11, 14, 15] rfl (by decide) rfl (by decide) (by decide) rfl (by decide) rfl hl.1 rfl (Nat.le_of_ble_eq_true rfl) dX0_remember_10 ⟨Nat.zero_le _, Nat.zero_le _⟩ (fun H locs hP hD hS => ?_)
      refine W.eq (g2 := F0 m 13 ls []) rfl ?_
      refine lv_aload_n hx hb dX0_remember_13 rfl (lv_at hl 0 rfl) ?_
      refine lv_aload_n hx hb dX0_remember_14 rfl (lv_at hl 0 rfl) ?_
      refine va_get (D := (dC, dI)) (ci := 0) (v := .int v_next) (C := RX0) (T := TX0) (N := 3) hx hb hT in_X0 hown hK hP 0 rfl rfl 1 (by decide) (hT _ q_fl_X0_17) (fun _ h9 => h9) rfl dX0_remember_15 ?_
      refine lv_iconst (v := 1) hx hb dX0_remember_18 (by decide) ?_
      refine lv_iadd hx hb dX0_remember_19 ?_
      refine lv_bipush (v := 6) hx hb dX0_remember_20 (by decide) ?_
      refine lv_irem hx hb dX0_remember_22 (by decide) ?_
      refine va_put (D := (dC, dI)) (ci := 0) (v := .int (irem (v_next + (1 : Int32)) (6 : Int32))) (ty := .int) (C := RX0) (T := TX0) (N := 3) hx hb hT in_X0 tyX0 tyX0_ok nmX0 hown hK hP hD hS 0 rfl rfl 1 (by decide) (hT _ q_fl_X0_17) (fun _ h9 => h9) rfl (tyX0_ok 1 (by decide)) rfl rfl (Nat.le_of_ble_eq_true rfl) dX0_remember_23 (fun H locs hP hD hS => ?_)
      have hP : va_P (dC, dI) vwCl [(a0, .inr (0, [.ref a1, .int (irem (v_next + (1 : Int32)) (6 : Int32)), .int v_size])), (a1, .inl (cP, 6, .inr (.inr (.inr (.inr (fun i => some (a2 i))))))), ((a2 0), .inr (4, [.ref (a3 0)])), ((a2 1), .inr (4, [.ref (a3 1)])), ((a2 2), .inr (4, [.ref (a3 2)])), ((a2 3), .inr (4, [.ref (a3 3)])), ((a2 4), .inr (4, [.ref (a3 4)])), ((a2 5), .inr (4, [.ref (a3 5)])), ((a3 0), .inl (cI, 117, .inl ((va_up v_cells 2 v_cells_2) 0))), ((a3 1), .inl (cI, 117, .inl ((va_up v_cells 2 v_cells_2) 1))), ((a3 2), .inl (cI, 117, .inl ((va_up v_cells 2 v_cells_2) 2))), ((a3 3), .inl (cI, 117, .inl ((va_up v_cells 2 v_cells_2) 3))), ((a3 4), .inl (cI, 117, .inl ((va_up v_cells 2 v_cells_2) 4))), ((a3 5), .inl (cI, 117, .inl ((va_up v_cells 2 v_cells_2) 5))), (a4, .inr (4, [.ref a5])), (a5, .inl (cI, 117, .inl v_cellsq1))] H := hP
      have hD : va_D A [(a0, .inr (0, [.ref a1, .int (irem (v_next + (1 : Int32)) (6 : Int32)), .int v_size])), (a1, .inl (cP, 6, .inr (.inr (.inr (.inr (fun i => some (a2 i))))))), ((a2 0), .inr (4, [.ref (a3 0)])), ((a2 1), .inr (4, [.ref (a3 1)])), ((a2 2), .inr (4, [.ref (a3 2)])), ((a2 3), .inr (4, [.ref (a3 3)])), ((a2 4), .inr (4, [.ref (a3 4)])), ((a2 5), .inr (4, [.ref (a3 5)])), ((a3 0), .inl (cI, 117, .inl ((va_up v_cells 2 v_cells_2) 0))), ((a3 1), .inl (cI, 117, .inl ((va_up v_cells 2 v_cells_2) 1))), ((a3 2), .inl (cI, 117, .inl ((va_up v_cells 2 v_cells_2) 2))), ((a3 3), .inl (cI, 117, .inl ((va_up v_cells 2 v_cells_2) 3))), ((a3 4), .inl (cI, 117, .inl ((va_up v_cells 2 v_cells_2) 4))), ((a3 5), .inl (cI, 117, .inl ((va_up v_cells 2 v_cells_2) 5))), (a4, .inr (4, [.ref a5])), (a5, .inl (cI, 117, .inl v_cellsq1))] := hD
      refine lv_aload_n hx hb dX0_remember_26 rfl (lv_at hl 0 rfl) ?_
      refine lv_aload_n hx hb dX0_remember_27 rfl (lv_at hl 0 rfl) ?_
      refine va_get (D := (dC, dI)) (ci := 0) (v := .int v_size) (C := RX0) (T := TX0) (N := 3) hx hb hT in_X0 hown hK hP 0 rfl rfl 2 (by decide) (hT _ q_fl_X0_21) (fun _ h9 => h9) rfl dX0_remember_28 ?_
      refine lv_iconst (v := 1) hx hb dX0_remember_31 (by decide) ?_
      refine lv_iadd hx hb dX0_remember_32 ?_
      refine lv_bipush (v := 6) hx hb dX0_remember_33 (by decide) ?_
      refine va_mmin hx hb (hml.trans hl.1.symm) hown (hT _ q_ml_X0_29) (hT _ q_st_J9_min_7cf53) (hT _ q_in_J9) (hT _ q_co_J9_min_7cf53) (Nat.le_of_ble_eq_true rfl) (Nat.le_of_ble_eq_true rfl) (Nat.zero_le _) (Nat.zero_le _) dX0_remember_35 ?_
      refine va_put (D := (dC, dI)) (ci := 0) (v := .int (if (6 : Int32) < (v_size + (1 : Int32)) then (6 : Int32) else (v_size + (1 : Int32)))) (ty := .int) (C := RX0) (T := TX0) (N := 3) hx hb hT in_X0 tyX0 tyX0_ok nmX0 hown hK hP hD hS 0 rfl rfl 2 (by decide) (hT _ q_fl_X0_21) (fun _ h9 => h9) rfl (tyX0_ok 2 (by decide)) rfl rfl (Nat.le_of_ble_eq_true rfl) dX0_remember_38 (fun H locs hP hD hS => ?_)
      have hP : va_P (dC, dI) vwCl [(a0, .inr (0, [.ref a1, .int (irem (v_next + (1 : Int32)) (6 : Int32)), .int (if (6 : Int32) < (v_size + (1 : Int32)) then (6 : Int32) else (v_size + (1 : Int32)))])), (a1, .inl (cP, 6, .inr (.inr (.inr (.inr (fun i => some (a2 i))))))), ((a2 0), .inr (4, [.ref (a3 0)])), ((a2 1), .inr (4, [.ref (a3 1)])), ((a2 2), .inr (4, [.ref (a3 2)])), ((a2 3), .inr (4, [.ref (a3 3)])), ((a2 4), .inr (4, [.ref (a3 4)])), ((a2 5), .inr (4, [.ref (a3 5)])), ((a3 0), .inl (cI, 117, .inl ((va_up v_cells 2 v_cells_2) 0))), ((a3 1), .inl (cI, 117, .inl ((va_up v_cells 2 v_cells_2) 1))), ((a3 2), .inl (cI, 117, .inl ((va_up v_cells 2 v_cells_2) 2))), ((a3 3), .inl (cI, 117, .inl ((va_up v_cells 2 v_cells_2) 3))), ((a3 4), .inl (cI, 117, .inl ((va_up v_cells 2 v_cells_2) 4))), ((a3 5), .inl (cI, 117, .inl ((va_up v_cells 2 v_cells_2) 5))), (a4, .inr (4, [.ref a5])), (a5, .inl (cI, 117, .inl v_cellsq1))] H := hP
      have hD : va_D A [(a0, .inr (0, [.ref a1, .int (irem (v_next + (1 : Int32)) (6 : Int32)), .int (if (6 : Int32) < (v_size + (1 : Int32)) then (6 : Int32) else (v_size + (1 : Int32)))])), (a1, .inl (cP, 6, .inr (.inr (.inr (.inr (fun i => some (a2 i))))))), ((a2 0), .inr (4, [.ref (a3 0)])), ((a2 1), .inr (4, [.ref (a3 1)])), ((a2 2), .inr (4, [.ref (a3 2)])), ((a2 3), .inr (4, [.ref (a3 3)])), ((a2 4), .inr (4, [.ref (a3 4)])), ((a2 5), .inr (4, [.ref (a3 5)])), ((a3 0), .inl (cI, 117, .inl ((va_up v_cells 2 v_cells_2) 0))), ((a3 1), .inl (cI, 117, .inl ((va_up v_cells 2 v_cells_2) 1))), ((a3 2), .inl (cI, 117, .inl ((va_up v_cells 2 v_cells_2) 2))), ((a3 3), .inl (cI, 117, .inl ((va_up v_cells 2 v_cells_2) 3))), ((a3 4), .inl (cI, 117, .inl ((va_up v_cells 2 v_cells_2) 4))), ((a3 5), .inl (cI, 117, .inl ((va_up v_cells 2 v_cells_2) 5))), (a4, .inr (4, [.ref a5])), (a5, .inl (cI, 117, .inl v_cellsq1))] := hD
      replace hf := Option.some.inj hf
      simp only [Prod.mk.injEq] at hf
      obtain ⟨hf0, hf1, hf2⟩ := hf
      subst hf0; subst hf1; subst hf2
      exact hret H locs ls _ dX0_remember_41 hP hD hS
    · try rw [ejh1] at hf
      refine aa_ld hx hb hK hP 1 2 rfl rfl (ib_in h1) ejh1 dX0_remember_8 ?_
      refine lv_aload_n hx hb dX0_remember_9 rfl (lv_at hl 1 rfl) ?_
      obtain ⟨v_cells_2, hq3, hf⟩ := bd1_el hf
      refine mc_V (As := [.ref a4]) (rest := []) (wr := [(a0, .inr (0, [.ref a1, .int v_next, .int v_size])), (a1, .inl (cP, 6, .inr (.inr (.inr (.inr (fun i => some (a2 i))))))), ((a2 0), .inr (4, [.ref (a3 0)])), ((a2 1), .inr (4, [.ref (a3 1)])), ((a2 2), .inr (4, [.ref (a3 2)])), ((a2 4), .inr (4, [.ref (a3 4)])), ((a2 5), .inr (4, [.ref (a3 5)])), ((a3 0), .inl (cI, 117, .inl ((va_up v_cells 3 v_cells_2) 0))), ((a3 1), .inl (cI, 117, .inl ((va_up v_cells 3 v_cells_2) 1))), ((a3 2), .inl (cI, 117, .inl ((va_up v_cells 3 v_cells_2) 2))), ((a3 4), .inl (cI, 117, .inl ((va_up v_cells 3 v_cells_2) 4))), ((a3 5), .inl (cI, 117, .inl ((va_up v_cells 3 v_cells_2) 5)))]) (wn := [(a0, .inr (0, [.ref a1, .int v_next, .int v_size])), (a1, .inl (cP, 6, .inr (.inr (.inr (.inr (fun i => some (a2 i))))))), ((a2 0), .inr (4, [.ref (a3 0)])), ((a2 1), .inr (4, [.ref (a3 1)])), ((a2 2), .inr (4, [.ref (a3 2)])), ((a2 3), .inr (4, [.ref (a3 3)])), ((a2 4), .inr (4, [.ref (a3 4)])), ((a2 5), .inr (4, [.ref (a3 5)])), ((a3 0), .inl (cI, 117, .inl ((va_up v_cells 3 v_cells_2) 0))), ((a3 1), .inl (cI, 117, .inl ((va_up v_cells 3 v_cells_2) 1))), ((a3 2), .inl (cI, 117, .inl ((va_up v_cells 3 v_cells_2) 2))), ((a3 3), .inl (cI, 117, .inl ((va_up v_cells 3 v_cells_2) 3))), ((a3 4), .inl (cI, 117, .inl ((va_up v_cells 3 v_cells_2) 4))), ((a3 5), .inl (cI, 117, .inl ((va_up v_cells 3 v_cells_2) 5))), (a4, .inr (4, [.ref a5])), (a5, .inl (cI, 117, .inl v_cellsq1))]) ⟨hx, hb, hml, hown, hT⟩ (c_X4_takeOver l dC dI cI cJ cP cS (a2 3) (a3 3) a4 a5 (v_cells 3) v_cellsq1 v_cells_2 hq3) (cwV 1 hT (gdV q_ml_X0_25 q_im_X4_takeOver q_se_X4_takeOver q_in_X4 q_co_X4_takeOver) rfl rfl rfl hd_X4_takeOver ⟨Nat.le_of_ble_eq_true rfl, Nat.le_of_ble_eq_true rfl⟩) hK hF hP hD hS hA 5 rfl rfl rfl [5, 11, 14, 15] [0, 1, 2, 3, 4, 6, 7, 8, 9, 10, 12, 13] [0, 1, 2, 3, 4, 12, 5, 6, 7, 8, 9, 13, 10, 11, 14, 15] rfl (by decide) rfl (by decide) (by decide) rfl (by decide) rfl hl.1 rfl (Nat.le_of_ble_eq_true rfl) dX0_remember_10 ⟨Nat.zero_le _, Nat.zero_le _⟩ (fun H locs hP hD hS => ?_)
      refine W.eq (g2 := F0 m 13 ls []) rfl ?_
      refine lv_aload_n hx hb dX0_remember_13 rfl (lv_at hl 0 rfl) ?_
      refine lv_aload_n hx hb dX0_remember_14 rfl (lv_at hl 0 rfl) ?_
      refine va_get (D := (dC, dI)) (ci := 0) (v := .int v_next) (C := RX0) (T := TX0) (N := 3) hx hb hT in_X0 hown hK hP 0 rfl rfl 1 (by decide) (hT _ q_fl_X0_17) (fun _ h9 => h9) rfl dX0_remember_15 ?_
      refine lv_iconst (v := 1) hx hb dX0_remember_18 (by decide) ?_
      refine lv_iadd hx hb dX0_remember_19 ?_
      refine lv_bipush (v := 6) hx hb dX0_remember_20 (by decide) ?_
      refine lv_irem hx hb dX0_remember_22 (by decide) ?_
      refine va_put (D := (dC, dI)) (ci := 0) (v := .int (irem (v_next + (1 : Int32)) (6 : Int32))) (ty := .int) (C := RX0) (T := TX0) (N := 3) hx hb hT in_X0 tyX0 tyX0_ok nmX0 hown hK hP hD hS 0 rfl rfl 1 (by decide) (hT _ q_fl_X0_17) (fun _ h9 => h9) rfl (tyX0_ok 1 (by decide)) rfl rfl (Nat.le_of_ble_eq_true rfl) dX0_remember_23 (fun H locs hP hD hS => ?_)
      have hP : va_P (dC, dI) vwCl [(a0, .inr (0, [.ref a1, .int (irem (v_next + (1 : Int32)) (6 : Int32)), .int v_size])), (a1, .inl (cP, 6, .inr (.inr (.inr (.inr (fun i => some (a2 i))))))), ((a2 0), .inr (4, [.ref (a3 0)])), ((a2 1), .inr (4, [.ref (a3 1)])), ((a2 2), .inr (4, [.ref (a3 2)])), ((a2 3), .inr (4, [.ref (a3 3)])), ((a2 4), .inr (4, [.ref (a3 4)])), ((a2 5), .inr (4, [.ref (a3 5)])), ((a3 0), .inl (cI, 117, .inl ((va_up v_cells 3 v_cells_2) 0))), ((a3 1), .inl (cI, 117, .inl ((va_up v_cells 3 v_cells_2) 1))), ((a3 2), .inl (cI, 117, .inl ((va_up v_cells 3 v_cells_2) 2))), ((a3 3), .inl (cI, 117, .inl ((va_up v_cells 3 v_cells_2) 3))), ((a3 4), .inl (cI, 117, .inl ((va_up v_cells 3 v_cells_2) 4))), ((a3 5), .inl (cI, 117, .inl ((va_up v_cells 3 v_cells_2) 5))), (a4, .inr (4, [.ref a5])), (a5, .inl (cI, 117, .inl v_cellsq1))] H := hP
      have hD : va_D A [(a0, .inr (0, [.ref a1, .int (irem (v_next + (1 : Int32)) (6 : Int32)), .int v_size])), (a1, .inl (cP, 6, .inr (.inr (.inr (.inr (fun i => some (a2 i))))))), ((a2 0), .inr (4, [.ref (a3 0)])), ((a2 1), .inr (4, [.ref (a3 1)])), ((a2 2), .inr (4, [.ref (a3 2)])), ((a2 3), .inr (4, [.ref (a3 3)])), ((a2 4), .inr (4, [.ref (a3 4)])), ((a2 5), .inr (4, [.ref (a3 5)])), ((a3 0), .inl (cI, 117, .inl ((va_up v_cells 3 v_cells_2) 0))), ((a3 1), .inl (cI, 117, .inl ((va_up v_cells 3 v_cells_2) 1))), ((a3 2), .inl (cI, 117, .inl ((va_up v_cells 3 v_cells_2) 2))), ((a3 3), .inl (cI, 117, .inl ((va_up v_cells 3 v_cells_2) 3))), ((a3 4), .inl (cI, 117, .inl ((va_up v_cells 3 v_cells_2) 4))), ((a3 5), .inl (cI, 117, .inl ((va_up v_cells 3 v_cells_2) 5))), (a4, .inr (4, [.ref a5])), (a5, .inl (cI, 117, .inl v_cellsq1))] := hD
      refine lv_aload_n hx hb dX0_remember_26 rfl (lv_at hl 0 rfl) ?_
      refine lv_aload_n hx hb dX0_remember_27 rfl (lv_at hl 0 rfl) ?_
      refine va_get (D := (dC, dI)) (ci := 0) (v := .int v_size) (C := RX0) (T := TX0) (N := 3) hx hb hT in_X0 hown hK hP 0 rfl rfl 2 (by decide) (hT _ q_fl_X0_21) (fun _ h9 => h9) rfl dX0_remember_28 ?_
      refine lv_iconst (v := 1) hx hb dX0_remember_31 (by decide) ?_
      refine lv_iadd hx hb dX0_remember_32 ?_
      refine lv_bipush (v := 6) hx hb dX0_remember_33 (by decide) ?_
      refine va_mmin hx hb (hml.trans hl.1.symm) hown (hT _ q_ml_X0_29) (hT _ q_st_J9_min_7cf53) (hT _ q_in_J9) (hT _ q_co_J9_min_7cf53) (Nat.le_of_ble_eq_true rfl) (Nat.le_of_ble_eq_true rfl) (Nat.zero_le _) (Nat.zero_le _) dX0_remember_35 ?_
      refine va_put (D := (dC, dI)) (ci := 0) (v := .int (if (6 : Int32) < (v_size + (1 : Int32)) then (6 : Int32) else (v_size + (1 : Int32)))) (ty := .int) (C := RX0) (T := TX0) (N := 3) hx hb hT in_X0 tyX0 tyX0_ok nmX0 hown hK hP hD hS 0 rfl rfl 2 (by decide) (hT _ q_fl_X0_21) (fun _ h9 => h9) rfl (tyX0_ok 2 (by decide)) rfl rfl (Nat.le_of_ble_eq_true rfl) dX0_remember_38 (fun H locs hP hD hS => ?_)
      have hP : va_P (dC, dI) vwCl [(a0, .inr (0, [.ref a1, .int (irem (v_next + (1 : Int32)) (6 : Int32)), .int (if (6 : Int32) < (v_size + (1 : Int32)) then (6 : Int32) else (v_size + (1 : Int32)))])), (a1, .inl (cP, 6, .inr (.inr (.inr (.inr (fun i => some (a2 i))))))), ((a2 0), .inr (4, [.ref (a3 0)])), ((a2 1), .inr (4, [.ref (a3 1)])), ((a2 2), .inr (4, [.ref (a3 2)])), ((a2 3), .inr (4, [.ref (a3 3)])), ((a2 4), .inr (4, [.ref (a3 4)])), ((a2 5), .inr (4, [.ref (a3 5)])), ((a3 0), .inl (cI, 117, .inl ((va_up v_cells 3 v_cells_2) 0))), ((a3 1), .inl (cI, 117, .inl ((va_up v_cells 3 v_cells_2) 1))), ((a3 2), .inl (cI, 117, .inl ((va_up v_cells 3 v_cells_2) 2))), ((a3 3), .inl (cI, 117, .inl ((va_up v_cells 3 v_cells_2) 3))), ((a3 4), .inl (cI, 117, .inl ((va_up v_cells 3 v_cells_2) 4))), ((a3 5), .inl (cI, 117, .inl ((va_up v_cells 3 v_cells_2) 5))), (a4, .inr (4, [.ref a5])), (a5, .inl (cI, 117, .inl v_cellsq1))] H := hP
      have hD : va_D A [(a0, .inr (0, [.ref a1, .int (irem (v_next + (1 : Int32)) (6 : Int32)), .int (if (6 : Int32) < (v_size + (1 : Int32)) then (6 : Int32) else (v_size + (1 : Int32)))])), (a1, .inl (cP, 6, .inr (.inr (.inr (.inr (fun i => some (a2 i))))))), ((a2 0), .inr (4, [.ref (a3 0)])), ((a2 1), .inr (4, [.ref (a3 1)])), ((a2 2), .inr (4, [.ref (a3 2)])), ((a2 3), .inr (4, [.ref (a3 3)])), ((a2 4), .inr (4, [.ref (a3 4)])), ((a2 5), .inr (4, [.ref (a3 5)])), ((a3 0), .inl (cI, 117, .inl ((va_up v_cells 3 v_cells_2) 0))), ((a3 1), .inl (cI, 117, .inl ((va_up v_cells 3 v_cells_2) 1))), ((a3 2), .inl (cI, 117, .inl ((va_up v_cells 3 v_cells_2) 2))), ((a3 3), .inl (cI, 117, .inl ((va_up v_cells 3 v_cells_2) 3))), ((a3 4), .inl (cI, 117, .inl ((va_up v_cells 3 v_cells_2) 4))), ((a3 5), .inl (cI, 117, .inl ((va_up v_cells 3 v_cells_2) 5))), (a4, .inr (4, [.ref a5])), (a5, .inl (cI, 117, .inl v_cellsq1))] := hD
      replace hf := Option.some.inj hf
      simp only [Prod.mk.injEq] at hf
      obtain ⟨hf0, hf1, hf2⟩ := hf
      subst hf0; subst hf1; subst hf2
      exact hret H locs ls _ dX0_remember_41 hP hD hS
    · try rw [ejh1] at hf
      refine aa_ld hx hb hK hP 1 2 rfl rfl (ib_in h1) ejh1 dX0_remember_8 ?_
      refine lv_aload_n hx hb dX0_remember_9 rfl (lv_at hl 1 rfl) ?_
      obtain ⟨v_cells_2, hq3, hf⟩ := bd1_el hf
      refine mc_V (As := [.ref a4]) (rest := []) (wr := [(a0, .inr (0, [.ref a1, .int v_next, .int v_size])), (a1, .inl (cP, 6, .inr (.inr (.inr (.inr (fun i => some (a2 i))))))), ((a2 0), .inr (4, [.ref (a3 0)])), ((a2 1), .inr (4, [.ref (a3 1)])), ((a2 2), .inr (4, [.ref (a3 2)])), ((a2 3), .inr (4, [.ref (a3 3)])), ((a2 5), .inr (4, [.ref (a3 5)])), ((a3 0), .inl (cI, 117, .inl ((va_up v_cells 4 v_cells_2) 0))), ((a3 1), .inl (cI, 117, .inl ((va_up v_cells 4 v_cells_2) 1))), ((a3 2), .inl (cI, 117, .inl ((va_up v_cells 4 v_cells_2) 2))), ((a3 3), .inl (cI, 117, .inl ((va_up v_cells 4 v_cells_2) 3))), ((a3 5), .inl (cI, 117, .inl ((va_up v_cells 4 v_cells_2) 5)))]) (wn := [(a0, .inr (0, [.ref a1, .int v_next, .int v_size])), (a1, .inl (cP, 6, .inr (.inr (.inr (.inr (fun i => some (a2 i))))))), ((a2 0), .inr (4, [.ref (a3 0)])), ((a2 1), .inr (4, [.ref (a3 1)])), ((a2 2), .inr (4, [.ref (a3 2)])), ((a2 3), .inr (4, [.ref (a3 3)])), ((a2 4), .inr (4, [.ref (a3 4)])), ((a2 5), .inr (4, [.ref (a3 5)])), ((a3 0), .inl (cI, 117, .inl ((va_up v_cells 4 v_cells_2) 0))), ((a3 1), .inl (cI, 117, .inl ((va_up v_cells 4 v_cells_2) 1))), ((a3 2), .inl (cI, 117, .inl ((va_up v_cells 4 v_cells_2) 2))), ((a3 3), .inl (cI, 117, .inl ((va_up v_cells 4 v_cells_2) 3))), ((a3 4), .inl (cI, 117, .inl ((va_up v_cells 4 v_cells_2) 4))), ((a3 5), .inl (cI, 117, .inl ((va_up v_cells 4 v_cells_2) 5))), (a4, .inr (4, [.ref a5])), (a5, .inl (cI, 117, .inl v_cellsq1))]) ⟨hx, hb, hml, hown, hT⟩ (c_X4_takeOver l dC dI cI cJ cP cS (a2 4) (a3 4) a4 a5 (v_cells 4) v_cellsq1 v_cells_2 hq3) (cwV 1 hT (gdV q_ml_X0_25 q_im_X4_takeOver q_se_X4_takeOver q_in_X4 q_co_X4_takeOver) rfl rfl rfl hd_X4_takeOver ⟨Nat.le_of_ble_eq_true rfl, Nat.le_of_ble_eq_true rfl⟩) hK hF hP hD hS hA 6 rfl rfl rfl [6, 12, 14, 15] [0, 1, 2, 3, 4, 5, 7, 8, 9, 10, 11, 13] [0, 1, 2, 3, 4, 5, 12, 6, 7, 8, 9, 10, 13, 11, 14, 15] rfl (by decide) rfl (by decide) (by decide) rfl (by decide) rfl hl.1 rfl (Nat.le_of_ble_eq_true rfl) dX0_remember_10 ⟨Nat.zero_le _, Nat.zero_le _⟩ (fun H locs hP hD hS => ?_)
      refine W.eq (g2 := F0 m 13 ls []) rfl ?_
      refine lv_aload_n hx hb dX0_remember_13 rfl (lv_at hl 0 rfl) ?_
      refine lv_aload_n hx hb dX0_remember_14 rfl (lv_at hl 0 rfl) ?_
      refine va_get (D := (dC, dI)) (ci := 0) (v := .int v_next) (C := RX0) (T := TX0) (N := 3) hx hb hT in_X0 hown hK hP 0 rfl rfl 1 (by decide) (hT _ q_fl_X0_17) (fun _ h9 => h9) rfl dX0_remember_15 ?_
      refine lv_iconst (v := 1) hx hb dX0_remember_18 (by decide) ?_
      refine lv_iadd hx hb dX0_remember_19 ?_
      refine lv_bipush (v := 6) hx hb dX0_remember_20 (by decide) ?_
      refine lv_irem hx hb dX0_remember_22 (by decide) ?_
      refine va_put (D := (dC, dI)) (ci := 0) (v := .int (irem (v_next + (1 : Int32)) (6 : Int32))) (ty := .int) (C := RX0) (T := TX0) (N := 3) hx hb hT in_X0 tyX0 tyX0_ok nmX0 hown hK hP hD hS 0 rfl rfl 1 (by decide) (hT _ q_fl_X0_17) (fun _ h9 => h9) rfl (tyX0_ok 1 (by decide)) rfl rfl (Nat.le_of_ble_eq_true rfl) dX0_remember_23 (fun H locs hP hD hS => ?_)
      have hP : va_P (dC, dI) vwCl [(a0, .inr (0, [.ref a1, .int (irem (v_next + (1 : Int32)) (6 : Int32)), .int v_size])), (a1, .inl (cP, 6, .inr (.inr (.inr (.inr (fun i => some (a2 i))))))), ((a2 0), .inr (4, [.ref (a3 0)])), ((a2 1), .inr (4, [.ref (a3 1)])), ((a2 2), .inr (4, [.ref (a3 2)])), ((a2 3), .inr (4, [.ref (a3 3)])), ((a2 4), .inr (4, [.ref (a3 4)])), ((a2 5), .inr (4, [.ref (a3 5)])), ((a3 0), .inl (cI, 117, .inl ((va_up v_cells 4 v_cells_2) 0))), ((a3 1), .inl (cI, 117, .inl ((va_up v_cells 4 v_cells_2) 1))), ((a3 2), .inl (cI, 117, .inl ((va_up v_cells 4 v_cells_2) 2))), ((a3 3), .inl (cI, 117, .inl ((va_up v_cells 4 v_cells_2) 3))), ((a3 4), .inl (cI, 117, .inl ((va_up v_cells 4 v_cells_2) 4))), ((a3 5), .inl (cI, 117, .inl ((va_up v_cells 4 v_cells_2) 5))), (a4, .inr (4, [.ref a5])), (a5, .inl (cI, 117, .inl v_cellsq1))] H := hP
      have hD : va_D A [(a0, .inr (0, [.ref a1, .int (irem (v_next + (1 : Int32)) (6 : Int32)), .int v_size])), (a1, .inl (cP, 6, .inr (.inr (.inr (.inr (fun i => some (a2 i))))))), ((a2 0), .inr (4, [.ref (a3 0)])), ((a2 1), .inr (4, [.ref (a3 1)])), ((a2 2), .inr (4, [.ref (a3 2)])), ((a2 3), .inr (4, [.ref (a3 3)])), ((a2 4), .inr (4, [.ref (a3 4)])), ((a2 5), .inr (4, [.ref (a3 5)])), ((a3 0), .inl (cI, 117, .inl ((va_up v_cells 4 v_cells_2) 0))), ((a3 1), .inl (cI, 117, .inl ((va_up v_cells 4 v_cells_2) 1))), ((a3 2), .inl (cI, 117, .inl ((va_up v_cells 4 v_cells_2) 2))), ((a3 3), .inl (cI, 117, .inl ((va_up v_cells 4 v_cells_2) 3))), ((a3 4), .inl (cI, 117, .inl ((va_up v_cells 4 v_cells_2) 4))), ((a3 5), .inl (cI, 117, .inl ((va_up v_cells 4 v_cells_2) 5))), (a4, .inr (4, [.ref a5])), (a5, .inl (cI, 117, .inl v_cellsq1))] := hD
      refine lv_aload_n hx hb dX0_remember_26 rfl (lv_at hl 0 rfl) ?_
      refine lv_aload_n hx hb dX0_remember_27 rfl (lv_at hl 0 rfl) ?_
      refine va_get (D := (dC, dI)) (ci := 0) (v := .int v_size) (C := RX0) (T := TX0) (N := 3) hx hb hT in_X0 hown hK hP 0 rfl rfl 2 (by decide) (hT _ q_fl_X0_21) (fun _ h9 => h9) rfl dX0_remember_28 ?_
      refine lv_iconst (v := 1) hx hb dX0_remember_31 (by decide) ?_
      refine lv_iadd hx hb dX0_remember_32 ?_
      refine lv_bipush (v := 6) hx hb dX0_remember_33 (by decide) ?_
      refine va_mmin hx hb (hml.trans hl.1.symm) hown (hT _ q_ml_X0_29) (hT _ q_st_J9_min_7cf53) (hT _ q_in_J9) (hT _ q_co_J9_min_7cf53) (Nat.le_of_ble_eq_true rfl) (Nat.le_of_ble_eq_true rfl) (Nat.zero_le _) (Nat.zero_le _) dX0_remember_35 ?_
      refine va_put (D := (dC, dI)) (ci := 0) (v := .int (if (6 : Int32) < (v_size + (1 : Int32)) then (6 : Int32) else (v_size + (1 : Int32)))) (ty := .int) (C := RX0) (T := TX0) (N := 3) hx hb hT in_X0 tyX0 tyX0_ok nmX0 hown hK hP hD hS 0 rfl rfl 2 (by decide) (hT _ q_fl_X0_21) (fun _ h9 => h9) rfl (tyX0_ok 2 (by decide)) rfl rfl (Nat.le_of_ble_eq_true rfl) dX0_remember_38 (fun H locs hP hD hS => ?_)
      have hP : va_P (dC, dI) vwCl [(a0, .inr (0, [.ref a1, .int (irem (v_next + (1 : Int32)) (6 : Int32)), .int (if (6 : Int32) < (v_size + (1 : Int32)) then (6 : Int32) else (v_size + (1 : Int32)))])), (a1, .inl (cP, 6, .inr (.inr (.inr (.inr (fun i => some (a2 i))))))), ((a2 0), .inr (4, [.ref (a3 0)])), ((a2 1), .inr (4, [.ref (a3 1)])), ((a2 2), .inr (4, [.ref (a3 2)])), ((a2 3), .inr (4, [.ref (a3 3)])), ((a2 4), .inr (4, [.ref (a3 4)])), ((a2 5), .inr (4, [.ref (a3 5)])), ((a3 0), .inl (cI, 117, .inl ((va_up v_cells 4 v_cells_2) 0))), ((a3 1), .inl (cI, 117, .inl ((va_up v_cells 4 v_cells_2) 1))), ((a3 2), .inl (cI, 117, .inl ((va_up v_cells 4 v_cells_2) 2))), ((a3 3), .inl (cI, 117, .inl ((va_up v_cells 4 v_cells_2) 3))), ((a3 4), .inl (cI, 117, .inl ((va_up v_cells 4 v_cells_2) 4))), ((a3 5), .inl (cI, 117, .inl ((va_up v_cells 4 v_cells_2) 5))), (a4, .inr (4, [.ref a5])), (a5, .inl (cI, 117, .inl v_cellsq1))] H := hP
      have hD : va_D A [(a0, .inr (0, [.ref a1, .int (irem (v_next + (1 : Int32)) (6 : Int32)), .int (if (6 : Int32) < (v_size + (1 : Int32)) then (6 : Int32) else (v_size + (1 : Int32)))])), (a1, .inl (cP, 6, .inr (.inr (.inr (.inr (fun i => some (a2 i))))))), ((a2 0), .inr (4, [.ref (a3 0)])), ((a2 1), .inr (4, [.ref (a3 1)])), ((a2 2), .inr (4, [.ref (a3 2)])), ((a2 3), .inr (4, [.ref (a3 3)])), ((a2 4), .inr (4, [.ref (a3 4)])), ((a2 5), .inr (4, [.ref (a3 5)])), ((a3 0), .inl (cI, 117, .inl ((va_up v_cells 4 v_cells_2) 0))), ((a3 1), .inl (cI, 117, .inl ((va_up v_cells 4 v_cells_2) 1))), ((a3 2), .inl (cI, 117, .inl ((va_up v_cells 4 v_cells_2) 2))), ((a3 3), .inl (cI, 117, .inl ((va_up v_cells 4 v_cells_2) 3))), ((a3 4), .inl (cI, 117, .inl ((va_up v_cells 4 v_cells_2) 4))), ((a3 5), .inl (cI, 117, .inl ((va_up v_cells 4 v_cells_2) 5))), (a4, .inr (4, [.ref a5])), (a5, .inl (cI, 117, .inl v_cellsq1))] := hD
      replace hf := Option.some.inj hf
      simp only [Prod.mk.injEq] at hf
      obtain ⟨hf0, hf1, hf2⟩ := hf
      subst hf0; subst hf1; subst hf2
      exact hret H locs ls _ dX0_remember_41 hP hD hS
    · try rw [ejh1] at hf
      refine aa_ld hx hb hK hP 1 2 rfl rfl (ib_in h1) ejh1 dX0_remember_8 ?_
      refine lv_aload_n hx hb dX0_remember_9 rfl (lv_at hl 1 rfl) ?_
      obtain ⟨v_cells_2, hq3, hf⟩ := bd1_el hf
      refine mc_V (As := [.ref a4]) (rest := []) (wr := [(a0, .inr (0, [.ref a1, .int v_next, .int v_size])), (a1, .inl (cP, 6, .inr (.inr (.inr (.inr (fun i => some (a2 i))))))), ((a2 0), .inr (4, [.ref (a3 0)])), ((a2 1), .inr (4, [.ref (a3 1)])), ((a2 2), .inr (4, [.ref (a3 2)])), ((a2 3), .inr (4, [.ref (a3 3)])), ((a2 4), .inr (4, [.ref (a3 4)])), ((a3 0), .inl (cI, 117, .inl ((va_up v_cells 5 v_cells_2) 0))), ((a3 1), .inl (cI, 117, .inl ((va_up v_cells 5 v_cells_2) 1))), ((a3 2), .inl (cI, 117, .inl ((va_up v_cells 5 v_cells_2) 2))), ((a3 3), .inl (cI, 117, .inl ((va_up v_cells 5 v_cells_2) 3))), ((a3 4), .inl (cI, 117, .inl ((va_up v_cells 5 v_cells_2) 4)))]) (wn := [(a0, .inr (0, [.ref a1, .int v_next, .int v_size])), (a1, .inl (cP, 6, .inr (.inr (.inr (.inr (fun i => some (a2 i))))))), ((a2 0), .inr (4, [.ref (a3 0)])), ((a2 1), .inr (4, [.ref (a3 1)])), ((a2 2), .inr (4, [.ref (a3 2)])), ((a2 3), .inr (4, [.ref (a3 3)])), ((a2 4), .inr (4, [.ref (a3 4)])), ((a2 5), .inr (4, [.ref (a3 5)])), ((a3 0), .inl (cI, 117, .inl ((va_up v_cells 5 v_cells_2) 0))), ((a3 1), .inl (cI, 117, .inl ((va_up v_cells 5 v_cells_2) 1))), ((a3 2), .inl (cI, 117, .inl ((va_up v_cells 5 v_cells_2) 2))), ((a3 3), .inl (cI, 117, .inl ((va_up v_cells 5 v_cells_2) 3))), ((a3 4), .inl (cI, 117, .inl ((va_up v_cells 5 v_cells_2) 4))), ((a3 5), .inl (cI, 117, .inl ((va_up v_cells 5 v_cells_2) 5))), (a4, .inr (4, [.ref a5])), (a5, .inl (cI, 117, .inl v_cellsq1))]) ⟨hx, hb, hml, hown, hT⟩ (c_X4_takeOver l dC dI cI cJ cP cS (a2 5) (a3 5) a4 a5 (v_cells 5) v_cellsq1 v_cells_2 hq3) (cwV 1 hT (gdV q_ml_X0_25 q_im_X4_takeOver q_se_X4_takeOver q_in_X4 q_co_X4_takeOver) rfl rfl rfl hd_X4_takeOver ⟨Nat.le_of_ble_eq_true rfl, Nat.le_of_ble_eq_true rfl⟩) hK hF hP hD hS hA 7 rfl rfl rfl [7, 13, 14, 15] [0, 1, 2, 3, 4, 5, 6, 8, 9, 10, 11, 12] [0, 1, 2, 3, 4, 5, 6, 12, 7, 8, 9, 10, 11, 13, 14, 15] rfl (by decide) rfl (by decide) (by decide) rfl (by decide) rfl hl.1 rfl (Nat.le_of_ble_eq_true rfl) dX0_remember_10 ⟨Nat.zero_le _, Nat.zero_le _⟩ (fun H locs hP hD hS => ?_)
      refine W.eq (g2 := F0 m 13 ls []) rfl ?_
      refine lv_aload_n hx hb dX0_remember_13 rfl (lv_at hl 0 rfl) ?_
      refine lv_aload_n hx hb dX0_remember_14 rfl (lv_at hl 0 rfl) ?_
      refine va_get (D := (dC, dI)) (ci := 0) (v := .int v_next) (C := RX0) (T := TX0) (N := 3) hx hb hT in_X0 hown hK hP 0 rfl rfl 1 (by decide) (hT _ q_fl_X0_17) (fun _ h9 => h9) rfl dX0_remember_15 ?_
      refine lv_iconst (v := 1) hx hb dX0_remember_18 (by decide) ?_
      refine lv_iadd hx hb dX0_remember_19 ?_
      refine lv_bipush (v := 6) hx hb dX0_remember_20 (by decide) ?_
      refine lv_irem hx hb dX0_remember_22 (by decide) ?_
      refine va_put (D := (dC, dI)) (ci := 0) (v := .int (irem (v_next + (1 : Int32)) (6 : Int32))) (ty := .int) (C := RX0) (T := TX0) (N := 3) hx hb hT in_X0 tyX0 tyX0_ok nmX0 hown hK hP hD hS 0 rfl rfl 1 (by decide) (hT _ q_fl_X0_17) (fun _ h9 => h9) rfl (tyX0_ok 1 (by decide)) rfl rfl (Nat.le_of_ble_eq_true rfl) dX0_remember_23 (fun H locs hP hD hS => ?_)
      have hP : va_P (dC, dI) vwCl [(a0, .inr (0, [.ref a1, .int (irem (v_next + (1 : Int32)) (6 : Int32)), .int v_size])), (a1, .inl (cP, 6, .inr (.inr (.inr (.inr (fun i => some (a2 i))))))), ((a2 0), .inr (4, [.ref (a3 0)])), ((a2 1), .inr (4, [.ref (a3 1)])), ((a2 2), .inr (4, [.ref (a3 2)])), ((a2 3), .inr (4, [.ref (a3 3)])), ((a2 4), .inr (4, [.ref (a3 4)])), ((a2 5), .inr (4, [.ref (a3 5)])), ((a3 0), .inl (cI, 117, .inl ((va_up v_cells 5 v_cells_2) 0))), ((a3 1), .inl (cI, 117, .inl ((va_up v_cells 5 v_cells_2) 1))), ((a3 2), .inl (cI, 117, .inl ((va_up v_cells 5 v_cells_2) 2))), ((a3 3), .inl (cI, 117, .inl ((va_up v_cells 5 v_cells_2) 3))), ((a3 4), .inl (cI, 117, .inl ((va_up v_cells 5 v_cells_2) 4))), ((a3 5), .inl (cI, 117, .inl ((va_up v_cells 5 v_cells_2) 5))), (a4, .inr (4, [.ref a5])), (a5, .inl (cI, 117, .inl v_cellsq1))] H := hP
      have hD : va_D A [(a0, .inr (0, [.ref a1, .int (irem (v_next + (1 : Int32)) (6 : Int32)), .int v_size])), (a1, .inl (cP, 6, .inr (.inr (.inr (.inr (fun i => some (a2 i))))))), ((a2 0), .inr (4, [.ref (a3 0)])), ((a2 1), .inr (4, [.ref (a3 1)])), ((a2 2), .inr (4, [.ref (a3 2)])), ((a2 3), .inr (4, [.ref (a3 3)])), ((a2 4), .inr (4, [.ref (a3 4)])), ((a2 5), .inr (4, [.ref (a3 5)])), ((a3 0), .inl (cI, 117, .inl ((va_up v_cells 5 v_cells_2) 0))), ((a3 1), .inl (cI, 117, .inl ((va_up v_cells 5 v_cells_2) 1))), ((a3 2), .inl (cI, 117, .inl ((va_up v_cells 5 v_cells_2) 2))), ((a3 3), .inl (cI, 117, .inl ((va_up v_cells 5 v_cells_2) 3))), ((a3 4), .inl (cI, 117, .inl ((va_up v_cells 5 v_cells_2) 4))), ((a3 5), .inl (cI, 117, .inl ((va_up v_cells 5 v_cells_2) 5))), (a4, .inr (4, [.ref a5])), (a5, .inl (cI, 117, .inl v_cellsq1))] := hD
      refine lv_aload_n hx hb dX0_remember_26 rfl (lv_at hl 0 rfl) ?_
      refine lv_aload_n hx hb dX0_remember_27 rfl (lv_at hl 0 rfl) ?_
      refine va_get (D := (dC, dI)) (ci := 0) (v := .int v_size) (C := RX0) (T := TX0) (N := 3) hx hb hT in_X0 hown hK hP 0 rfl rfl 2 (by decide) (hT _ q_fl_X0_21) (fun _ h9 => h9) rfl dX0_remember_28 ?_
      refine lv_iconst (v := 1) hx hb dX0_remember_31 (by decide) ?_
      refine lv_iadd hx hb dX0_remember_32 ?_
      refine lv_bipush (v := 6) hx hb dX0_remember_33 (by decide) ?_
      refine va_mmin hx hb (hml.trans hl.1.symm) hown (hT _ q_ml_X0_29) (hT _ q_st_J9_min_7cf53) (hT _ q_in_J9) (hT _ q_co_J9_min_7cf53) (Nat.le_of_ble_eq_true rfl) (Nat.le_of_ble_eq_true rfl) (Nat.zero_le _) (Nat.zero_le _) dX0_remember_35 ?_
      refine va_put (D := (dC, dI)) (ci := 0) (v := .int (if (6 : Int32) < (v_size + (1 : Int32)) then (6 : Int32) else (v_size + (1 : Int32)))) (ty := .int) (C := RX0) (T := TX0) (N := 3) hx hb hT in_X0 tyX0 tyX0_ok nmX0 hown hK hP hD hS 0 rfl rfl 2 (by decide) (hT _ q_fl_X0_21) (fun _ h9 => h9) rfl (tyX0_ok 2 (by decide)) rfl rfl (Nat.le_of_ble_eq_true rfl) dX0_remember_38 (fun H locs hP hD hS => ?_)
      have hP : va_P (dC, dI) vwCl [(a0, .inr (0, [.ref a1, .int (irem (v_next + (1 : Int32)) (6 : Int32)), .int (if (6 : Int32) < (v_size + (1 : Int32)) then (6 : Int32) else (v_size + (1 : Int32)))])), (a1, .inl (cP, 6, .inr (.inr (.inr (.inr (fun i => some (a2 i))))))), ((a2 0), .inr (4, [.ref (a3 0)])), ((a2 1), .inr (4, [.ref (a3 1)])), ((a2 2), .inr (4, [.ref (a3 2)])), ((a2 3), .inr (4, [.ref (a3 3)])), ((a2 4), .inr (4, [.ref (a3 4)])), ((a2 5), .inr (4, [.ref (a3 5)])), ((a3 0), .inl (cI, 117, .inl ((va_up v_cells 5 v_cells_2) 0))), ((a3 1), .inl (cI, 117, .inl ((va_up v_cells 5 v_cells_2) 1))), ((a3 2), .inl (cI, 117, .inl ((va_up v_cells 5 v_cells_2) 2))), ((a3 3), .inl (cI, 117, .inl ((va_up v_cells 5 v_cells_2) 3))), ((a3 4), .inl (cI, 117, .inl ((va_up v_cells 5 v_cells_2) 4))), ((a3 5), .inl (cI, 117, .inl ((va_up v_cells 5 v_cells_2) 5))), (a4, .inr (4, [.ref a5])), (a5, .inl (cI, 117, .inl v_cellsq1))] H := hP
      have hD : va_D A [(a0, .inr (0, [.ref a1, .int (irem (v_next + (1 : Int32)) (6 : Int32)), .int (if (6 : Int32) < (v_size + (1 : Int32)) then (6 : Int32) else (v_size + (1 : Int32)))])), (a1, .inl (cP, 6, .inr (.inr (.inr (.inr (fun i => some (a2 i))))))), ((a2 0), .inr (4, [.ref (a3 0)])), ((a2 1), .inr (4, [.ref (a3 1)])), ((a2 2), .inr (4, [.ref (a3 2)])), ((a2 3), .inr (4, [.ref (a3 3)])), ((a2 4), .inr (4, [.ref (a3 4)])), ((a2 5), .inr (4, [.ref (a3 5)])), ((a3 0), .inl (cI, 117, .inl ((va_up v_cells 5 v_cells_2) 0))), ((a3 1), .inl (cI, 117, .inl ((va_up v_cells 5 v_cells_2) 1))), ((a3 2), .inl (cI, 117, .inl ((va_up v_cells 5 v_cells_2) 2))), ((a3 3), .inl (cI, 117, .inl ((va_up v_cells 5 v_cells_2) 3))), ((a3 4), .inl (cI, 117, .inl ((va_up v_cells 5 v_cells_2) 4))), ((a3 5), .inl (cI, 117, .inl ((va_up v_cells 5 v_cells_2) 5))), (a4, .inr (4, [.ref a5])), (a5, .inl (cI, 117, .inl v_cellsq1))] := hD
      replace hf := Option.some.inj hf
      simp only [Prod.mk.injEq] at hf
      obtain ⟨hf0, hf1, hf2⟩ := hf
      subst hf0; subst hf1; subst hf2
      exact hret H locs ls _ dX0_remember_41 hP hD hS
  refine key _ ?_ _ _ _ hP hD hS hl
  intro H locs ls pc d hP hD hS
  exact W.vret hx hb hr (fun t ht hW => ⟨⟨rfl, by rw [ht]; exact hP, hD⟩, hS.F ht⟩) hS.2.2 d
def p_X0_takeBack (v_next : Int32) (v_size : Int32) (v_cells : (Nat → Nat → Int32)) (v_cellsq1 : (Nat → Int32)) : Option (Int32 × Int32 × (Nat → Int32)) :=
  (gd (ib (irem ((v_next + (6 : Int32)) - (1 : Int32)) (6 : Int32)) 6) (bd1 (p_X4_takeOver v_cellsq1 (v_cells (tn (irem ((v_next + (6 : Int32)) - (1 : Int32)) (6 : Int32))))) fun v_cellsq1_2 => (some ((irem ((v_next + (6 : Int32)) - (1 : Int32)) (6 : Int32)), (v_size - (1 : Int32)), v_cellsq1_2))))
set_option maxHeartbeats 4000000 in
set_option maxRecDepth 100000 in
theorem c_X0_takeBack (l : Launch) (dC : Nat → ClassId) (dI : Nat → Nat → Nat) (cI cJ cP cS : ClassId) (a0 : Nat) (a1 : Nat) (a2 : Nat → Nat) (a3 : Nat → Nat) (a4 : Nat) (a5 : Nat) (v_next : Int32) (v_size : Int32) (v_cells : (Nat → Nat → Int32)) (v_cellsq1 : (Nat → Int32))    (v_next_o : Int32) (v_size_o : Int32) (v_cellsq1_o : (Nat → Int32)) (hf : p_X0_takeBack v_next v_size v_cells v_cellsq1 = some (v_next_o, v_size_o, v_cellsq1_o)) : MC l (dC, dI) (tyl cI cJ cP cS) yX0_takeBack (Cond.code yX0_takeBack cX0_takeBack 2 none :: TBG) ({ frames := 2, cells := 0, slots := 0, locals := 61 } : Room) [.ref a0, .ref a4] [(a0, .inr (0, [.ref a1, .int v_next, .int v_size])), (a1, .inl (cP, 6, .inr (.inr (.inr (.inr (fun i => some (a2 i))))))), ((a2 0), .inr (4, [.ref (a3 0)])), ((a2 1), .inr (4, [.ref (a3 1)])), ((a2 2), .inr (4, [.ref (a3 2)])), ((a2 3), .inr (4, [.ref (a3 3)])), ((a2 4), .inr (4, [.ref (a3 4)])), ((a2 5), .inr (4, [.ref (a3 5)])), ((a3 0), .inl (cI, 117, .inl (v_cells 0))), ((a3 1), .inl (cI, 117, .inl (v_cells 1))), ((a3 2), .inl (cI, 117, .inl (v_cells 2))), ((a3 3), .inl (cI, 117, .inl (v_cells 3))), ((a3 4), .inl (cI, 117, .inl (v_cells 4))), ((a3 5), .inl (cI, 117, .inl (v_cells 5))), (a4, .inr (4, [.ref a5])), (a5, .inl (cI, 117, .inl v_cellsq1))] [(a0, .inr (0, [.ref a1, .int v_next_o, .int v_size_o])), (a1, .inl (cP, 6, .inr (.inr (.inr (.inr (fun i => some (a2 i))))))), ((a2 0), .inr (4, [.ref (a3 0)])), ((a2 1), .inr (4, [.ref (a3 1)])), ((a2 2), .inr (4, [.ref (a3 2)])), ((a2 3), .inr (4, [.ref (a3 3)])), ((a2 4), .inr (4, [.ref (a3 4)])), ((a2 5), .inr (4, [.ref (a3 5)])), ((a3 0), .inl (cI, 117, .inl (v_cells 0))), ((a3 1), .inl (cI, 117, .inl (v_cells 1))), ((a3 2), .inl (cI, 117, .inl (v_cells 2))), ((a3 3), .inl (cI, 117, .inl (v_cells 3))), ((a3 4), .inl (cI, 117, .inl (v_cells 4))), ((a3 5), .inl (cI, 117, .inl (v_cells 5))), (a4, .inr (4, [.ref a5])), (a5, .inl (cI, 117, .inl v_cellsq1_o))] none := by
  intro sz
  unfold MPost
  refine Met.ofW (cc := cX0_takeBack) (maxL := 2) (ret := none) (by decide) rfl ?_
  intro p e s m args below meth c s₁ B hml hv
  obtain ⟨rfl, hsz, hP, hK, hD0, hF⟩ := hv
  have hx := B.exec
  have hb := B.bytes
  have hr := B.returns
  have hT : ∀ w ∈ TBG, w.before _ s = true := fun w h => atoms_spec B.pre w (List.mem_cons_of_mem _ h)
  have hown : s.vm.findClass RX0 = some m.cls := findClass_of_methodNamed B.named
  have hlocks := B.notSynchronized
  subst hsz
  have hD := hD0.self (sz := s.heap.size)
  generalize hAe : va_A [(a0, .inr (0, [.ref a1, .int v_next, .int v_size])), (a1, .inl (cP, 6, .inr (.inr (.inr (.inr (fun i => some (a2 i))))))), ((a2 0), .inr (4, [.ref (a3 0)])), ((a2 1), .inr (4, [.ref (a3 1)])), ((a2 2), .inr (4, [.ref (a3 2)])), ((a2 3), .inr (4, [.ref (a3 3)])), ((a2 4), .inr (4, [.ref (a3 4)])), ((a2 5), .inr (4, [.ref (a3 5)])), ((a3 0), .inl (cI, 117, .inl (v_cells 0))), ((a3 1), .inl (cI, 117, .inl (v_cells 1))), ((a3 2), .inl (cI, 117, .inl (v_cells 2))), ((a3 3), .inl (cI, 117, .inl (v_cells 3))), ((a3 4), .inl (cI, 117, .inl (v_cells 4))), ((a3 5), .inl (cI, 117, .inl (v_cells 5))), (a4, .inr (4, [.ref a5])), (a5, .inl (cI, 117, .inl v_cellsq1))] s.heap.size = A at hD hF ⊢
  have hA : ∀ q : Nat, s.heap.size ≤ q → A q := fun q h => by rw [← hAe]; exact Or.inr h
  have hS : va_S A s.heap s.heap [] := va_S.rf
  have hl := lv_entry ([.ref a0, .ref a4]) (n := 2) (Nat.le_of_ble_eq_true rfl)
  rw [lg_entry_eq]
  generalize (lg_sl ([.ref a0, .ref a4]) ++ List.replicate (2 - (lg_sl ([.ref a0, .ref a4])).length) Slot.unset).toArray = ls at hl ⊢
  have hl : lv_has ls 2 [(0, .ref a0), (1, .ref a4)] := hl
  generalize ([.ref a0, .ref a4] : List Value).toArray = args at hT ⊢
  have key : ∀ (Q : State → Prop), (∀ (H : Heap) (locs : List Loc) (ls : Array Slot) (pc : Nat), decode cX0_takeBack pc = .ok (.return_, 1) → va_P (dC, dI) vwCl [(a0, .inr (0, [.ref a1, .int v_next_o, .int v_size_o])), (a1, .inl (cP, 6, .inr (.inr (.inr (.inr (fun i => some (a2 i))))))), ((a2 0), .inr (4, [.ref (a3 0)])), ((a2 1), .inr (4, [.ref (a3 1)])), ((a2 2), .inr (4, [.ref (a3 2)])), ((a2 3), .inr (4, [.ref (a3 3)])), ((a2 4), .inr (4, [.ref (a3 4)])), ((a2 5), .inr (4, [.ref (a3 5)])), ((a3 0), .inl (cI, 117, .inl (v_cells 0))), ((a3 1), .inl (cI, 117, .inl (v_cells 1))), ((a3 2), .inl (cI, 117, .inl (v_cells 2))), ((a3 3), .inl (cI, 117, .inl (v_cells 3))), ((a3 4), .inl (cI, 117, .inl (v_cells 4))), ((a3 5), .inl (cI, 117, .inl (v_cells 5))), (a4, .inr (4, [.ref a5])), (a5, .inl (cI, 117, .inl v_cellsq1_o))] H → va_D A [(a0, .inr (0, [.ref a1, .int v_next_o, .int v_size_o])), (a1, .inl (cP, 6, .inr (.inr (.inr (.inr (fun i => some (a2 i))))))), ((a2 0), .inr (4, [.ref (a3 0)])), ((a2 1), .inr (4, [.ref (a3 1)])), ((a2 2), .inr (4, [.ref (a3 2)])), ((a2 3), .inr (4, [.ref (a3 3)])), ((a2 4), .inr (4, [.ref (a3 4)])), ((a2 5), .inr (4, [.ref (a3 5)])), ((a3 0), .inl (cI, 117, .inl (v_cells 0))), ((a3 1), .inl (cI, 117, .inl (v_cells 1))), ((a3 2), .inl (cI, 117, .inl (v_cells 2))), ((a3 3), .inl (cI, 117, .inl (v_cells 3))), ((a3 4), .inl (cI, 117, .inl (v_cells 4))), ((a3 5), .inl (cI, 117, .inl (v_cells 5))), (a4, .inr (4, [.ref a5])), (a5, .inl (cI, 117, .inl v_cellsq1_o))] → va_S A s.heap H locs → W p l e ({ frames := 2, cells := 0, slots := 0, locals := 61 } : Room) s m args below meth c H locs 0 0 Q (F0 m pc ls [])) → ∀ (H : Heap) (locs : List Loc) (ls : Array Slot), va_P (dC, dI) vwCl [(a0, .inr (0, [.ref a1, .int v_next, .int v_size])), (a1, .inl (cP, 6, .inr (.inr (.inr (.inr (fun i => some (a2 i))))))), ((a2 0), .inr (4, [.ref (a3 0)])), ((a2 1), .inr (4, [.ref (a3 1)])), ((a2 2), .inr (4, [.ref (a3 2)])), ((a2 3), .inr (4, [.ref (a3 3)])), ((a2 4), .inr (4, [.ref (a3 4)])), ((a2 5), .inr (4, [.ref (a3 5)])), ((a3 0), .inl (cI, 117, .inl (v_cells 0))), ((a3 1), .inl (cI, 117, .inl (v_cells 1))), ((a3 2), .inl (cI, 117, .inl (v_cells 2))), ((a3 3), .inl (cI, 117, .inl (v_cells 3))), ((a3 4), .inl (cI, 117, .inl (v_cells 4))), ((a3 5), .inl (cI, 117, .inl (v_cells 5))), (a4, .inr (4, [.ref a5])), (a5, .inl (cI, 117, .inl v_cellsq1))] H → va_D A [(a0, .inr (0, [.ref a1, .int v_next, .int v_size])), (a1, .inl (cP, 6, .inr (.inr (.inr (.inr (fun i => some (a2 i))))))), ((a2 0), .inr (4, [.ref (a3 0)])), ((a2 1), .inr (4, [.ref (a3 1)])), ((a2 2), .inr (4, [.ref (a3 2)])), ((a2 3), .inr (4, [.ref (a3 3)])), ((a2 4), .inr (4, [.ref (a3 4)])), ((a2 5), .inr (4, [.ref (a3 5)])), ((a3 0), .inl (cI, 117, .inl (v_cells 0))), ((a3 1), .inl (cI, 117, .inl (v_cells 1))), ((a3 2), .inl (cI, 117, .inl (v_cells 2))), ((a3 3), .inl (cI, 117, .inl (v_cells 3))), ((a3 4), .inl (cI, 117, .inl (v_cells 4))), ((a3 5), .inl (cI, 117, .inl (v_cells 5))), (a4, .inr (4, [.ref a5])), (a5, .inl (cI, 117, .inl v_cellsq1))] → va_S A s.heap H locs → lv_has ls 2 [(0, .ref a0), (1, .ref a4)] → W p l e ({ frames := 2, cells := 0, slots := 0, locals := 61 } : Room) s m args below meth c H locs 0 0 Q (F0 m 0 ls []) := by
    intro Q hret H locs ls hP hD hS hl
    refine lv_aload_n hx hb dX0_takeBack_0 rfl (lv_at hl 0 rfl) ?_
    refine lv_aload_n hx hb dX0_takeBack_1 rfl (lv_at hl 0 rfl) ?_
    refine va_get (D := (dC, dI)) (ci := 0) (v := .int v_next) (C := RX0) (T := TX0) (N := 3) hx hb hT in_X0 hown hK hP 0 rfl rfl 1 (by decide) (hT _ q_fl_X0_17) (fun _ h9 => h9) rfl dX0_takeBack_2 ?_
    refine lv_bipush (v := 6) hx hb dX0_takeBack_5 (by decide) ?_
    refine lv_iadd hx hb dX0_takeBack_7 ?_
    refine lv_iconst (v := 1) hx hb dX0_takeBack_8 (by decide) ?_
    refine lv_isub hx hb dX0_takeBack_9 ?_
    refine lv_bipush (v := 6) hx hb dX0_takeBack_10 (by decide) ?_
    refine lv_irem hx hb dX0_takeBack_12 (by decide) ?_
    refine va_put (D := (dC, dI)) (ci := 0) (v := .int (irem ((v_next + (6 : Int32)) - (1 : Int32)) (6 : Int32))) (ty := .int) (C := RX0) (T := TX0) (N := 3) hx hb hT in_X0 tyX0 tyX0_ok nmX0 hown hK hP hD hS 0 rfl rfl 1 (by decide) (hT _ q_fl_X0_17) (fun _ h9 => h9) rfl (tyX0_ok 1 (by decide)) rfl rfl (Nat.le_of_ble_eq_true rfl) dX0_takeBack_13 (fun H locs hP hD hS => ?_)
    have hP : va_P (dC, dI) vwCl [(a0, .inr (0, [.ref a1, .int (irem ((v_next + (6 : Int32)) - (1 : Int32)) (6 : Int32)), .int v_size])), (a1, .inl (cP, 6, .inr (.inr (.inr (.inr (fun i => some (a2 i))))))), ((a2 0), .inr (4, [.ref (a3 0)])), ((a2 1), .inr (4, [.ref (a3 1)])), ((a2 2), .inr (4, [.ref (a3 2)])), ((a2 3), .inr (4, [.ref (a3 3)])), ((a2 4), .inr (4, [.ref (a3 4)])), ((a2 5), .inr (4, [.ref (a3 5)])), ((a3 0), .inl (cI, 117, .inl (v_cells 0))), ((a3 1), .inl (cI, 117, .inl (v_cells 1))), ((a3 2), .inl (cI, 117, .inl (v_cells 2))), ((a3 3), .inl (cI, 117, .inl (v_cells 3))), ((a3 4), .inl (cI, 117, .inl (v_cells 4))), ((a3 5), .inl (cI, 117, .inl (v_cells 5))), (a4, .inr (4, [.ref a5])), (a5, .inl (cI, 117, .inl v_cellsq1))] H := hP
    have hD : va_D A [(a0, .inr (0, [.ref a1, .int (irem ((v_next + (6 : Int32)) - (1 : Int32)) (6 : Int32)), .int v_size])), (a1, .inl (cP, 6, .inr (.inr (.inr (.inr (fun i => some (a2 i))))))), ((a2 0), .inr (4, [.ref (a3 0)])), ((a2 1), .inr (4, [.ref (a3 1)])), ((a2 2), .inr (4, [.ref (a3 2)])), ((a2 3), .inr (4, [.ref (a3 3)])), ((a2 4), .inr (4, [.ref (a3 4)])), ((a2 5), .inr (4, [.ref (a3 5)])), ((a3 0), .inl (cI, 117, .inl (v_cells 0))), ((a3 1), .inl (cI, 117, .inl (v_cells 1))), ((a3 2), .inl (cI, 117, .inl (v_cells 2))), ((a3 3), .inl (cI, 117, .inl (v_cells 3))), ((a3 4), .inl (cI, 117, .inl (v_cells 4))), ((a3 5), .inl (cI, 117, .inl (v_cells 5))), (a4, .inr (4, [.ref a5])), (a5, .inl (cI, 117, .inl v_cellsq1))] := hD
    refine lv_aload_n hx hb dX0_takeBack_16 rfl (lv_at hl 1 rfl) ?_
    refine lv_aload_n hx hb dX0_takeBack_17 rfl (lv_at hl 0 rfl) ?_
    refine va_get (D := (dC, dI)) (ci := 0) (v := .ref a1) (C := RX0) (T := TX0) (N := 3) hx hb hT in_X0 hown hK hP 0 rfl rfl 0 (by decide) (hT _ q_fl_X0_11) (fun _ h9 => h9) rfl dX0_takeBack_18 ?_
    refine lv_aload_n hx hb dX0_takeBack_21 rfl (lv_at hl 0 rfl) ?_
    refine va_get (D := (dC, dI)) (ci := 0) (v := .int (irem ((v_next + (6 : Int32)) - (1 : Int32)) (6 : Int32))) (C := RX0) (T := TX0) (N := 3) hx hb hT in_X0 hown hK hP 0 rfl rfl 1 (by decide) (hT _ q_fl_X0_17) (fun _ h9 => h9) rfl dX0_takeBack_22 ?_
    obtain ⟨h1, hf⟩ := gd_el hf
    rcases in6 (ib_in h1) with ejh1 | ejh1 | ejh1 | ejh1 | ejh1 | ejh1
    · try rw [ejh1] at hf
      refine aa_ld hx hb hK hP 1 2 rfl rfl (ib_in h1) ejh1 dX0_takeBack_25 ?_
      obtain ⟨v_cellsq1_2, hq3, hf⟩ := bd1_el hf
      refine mc_V (As := [.ref (a2 0)]) (rest := []) (wr := [(a0, .inr (0, [.ref a1, .int (irem ((v_next + (6 : Int32)) - (1 : Int32)) (6 : Int32)), .int v_size])), (a1, .inl (cP, 6, .inr (.inr (.inr (.inr (fun i => some (a2 i))))))), ((a2 1), .inr (4, [.ref (a3 1)])), ((a2 2), .inr (4, [.ref (a3 2)])), ((a2 3), .inr (4, [.ref (a3 3)])), ((a2 4), .inr (4, [.ref (a3 4)])), ((a2 5), .inr (4, [.ref (a3 5)])), ((a3 1), .inl (cI, 117, .inl (v_cells 1))), ((a3 2), .inl (cI, 117, .inl (v_cells 2))), ((a3 3), .inl (cI, 117, .inl (v_cells 3))), ((a3 4), .inl (cI, 117, .inl (v_cells 4))), ((a3 5), .inl (cI, 117, .inl (v_cells 5)))]) (wn := [(a0, .inr (0, [.ref a1, .int (irem ((v_next + (6 : Int32)) - (1 : Int32)) (6 : Int32)), .int v_size])), (a1, .inl (cP, 6, .inr (.inr (.inr (.inr (fun i => some (a2 i))))))), ((a2 0), .inr (4, [.ref (a3 0)])), ((a2 1), .inr (4, [.ref (a3 1)])), ((a2 2), .inr (4, [.ref (a3 2)])), ((a2 3), .inr (4, [.ref (a3 3)])), ((a2 4), .inr (4, [.ref (a3 4)])), ((a2 5), .inr (4, [.ref (a3 5)])), ((a3 0), .inl (cI, 117, .inl (v_cells 0))), ((a3 1), .inl (cI, 117, .inl (v_cells 1))), ((a3 2), .inl (cI, 117, .inl (v_cells 2))), ((a3 3), .inl (cI, 117, .inl (v_cells 3))), ((a3 4), .inl (cI, 117, .inl (v_cells 4))), ((a3 5), .inl (cI, 117, .inl (v_cells 5))), (a4, .inr (4, [.ref a5])), (a5, .inl (cI, 117, .inl v_cellsq1_2))]) ⟨hx, hb, hml, hown, hT⟩ (c_X4_takeOver l dC dI cI cJ cP cS a4 a5 (a2 0) (a3 0) v_cellsq1 (v_cells 0) v_cellsq1_2 hq3) (cwV 1 hT (gdV q_ml_X0_25 q_im_X4_takeOver q_se_X4_takeOver q_in_X4 q_co_X4_takeOver) rfl rfl rfl hd_X4_takeOver ⟨Nat.le_of_ble_eq_true rfl, Nat.le_of_ble_eq_true rfl⟩) hK hF hP hD hS hA 14 rfl rfl rfl [14, 15, 2, 8] [0, 1, 3, 4, 5, 6, 7, 9, 10, 11, 12, 13] [0, 1, 14, 2, 3, 4, 5, 6, 15, 7, 8, 9, 10, 11, 12, 13] rfl (by decide) rfl (by decide) (by decide) rfl (by decide) rfl hl.1 rfl (Nat.le_of_ble_eq_true rfl) dX0_takeBack_26 ⟨Nat.zero_le _, Nat.zero_le _⟩ (fun H locs hP hD hS => ?_)
      refine W.eq (g2 := F0 m 29 ls []) rfl ?_
      refine lv_aload_n hx hb dX0_takeBack_29 rfl (lv_at hl 0 rfl) ?_
      refine lv_dup hx hb dX0_takeBack_30 rfl ?_
      refine va_get (D := (dC, dI)) (ci := 0) (v := .int v_size) (C := RX0) (T := TX0) (N := 3) hx hb hT in_X0 hown hK hP 0 rfl rfl 2 (by decide) (hT _ q_fl_X0_21) (fun _ h9 => h9) rfl dX0_takeBack_31 ?_
      refine lv_iconst (v := 1) hx hb dX0_takeBack_34 (by decide) ?_
      refine lv_isub hx hb dX0_takeBack_35 ?_
      refine va_put (D := (dC, dI)) (ci := 0) (v := .int (v_size - (1 : Int32))) (ty := .int) (C := RX0) (T := TX0) (N := 3) hx hb hT in_X0 tyX0 tyX0_ok nmX0 hown hK hP hD hS 0 rfl rfl 2 (by decide) (hT _ q_fl_X0_21) (fun _ h9 => h9) rfl (tyX0_ok 2 (by decide)) rfl rfl (Nat.le_of_ble_eq_true rfl) dX0_takeBack_36 (fun H locs hP hD hS => ?_)
      have hP : va_P (dC, dI) vwCl [(a0, .inr (0, [.ref a1, .int (irem ((v_next + (6 : Int32)) - (1 : Int32)) (6 : Int32)), .int (v_size - (1 : Int32))])), (a1, .inl (cP, 6, .inr (.inr (.inr (.inr (fun i => some (a2 i))))))), ((a2 0), .inr (4, [.ref (a3 0)])), ((a2 1), .inr (4, [.ref (a3 1)])), ((a2 2), .inr (4, [.ref (a3 2)])), ((a2 3), .inr (4, [.ref (a3 3)])), ((a2 4), .inr (4, [.ref (a3 4)])), ((a2 5), .inr (4, [.ref (a3 5)])), ((a3 0), .inl (cI, 117, .inl (v_cells 0))), ((a3 1), .inl (cI, 117, .inl (v_cells 1))), ((a3 2), .inl (cI, 117, .inl (v_cells 2))), ((a3 3), .inl (cI, 117, .inl (v_cells 3))), ((a3 4), .inl (cI, 117, .inl (v_cells 4))), ((a3 5), .inl (cI, 117, .inl (v_cells 5))), (a4, .inr (4, [.ref a5])), (a5, .inl (cI, 117, .inl v_cellsq1_2))] H := hP
      have hD : va_D A [(a0, .inr (0, [.ref a1, .int (irem ((v_next + (6 : Int32)) - (1 : Int32)) (6 : Int32)), .int (v_size - (1 : Int32))])), (a1, .inl (cP, 6, .inr (.inr (.inr (.inr (fun i => some (a2 i))))))), ((a2 0), .inr (4, [.ref (a3 0)])), ((a2 1), .inr (4, [.ref (a3 1)])), ((a2 2), .inr (4, [.ref (a3 2)])), ((a2 3), .inr (4, [.ref (a3 3)])), ((a2 4), .inr (4, [.ref (a3 4)])), ((a2 5), .inr (4, [.ref (a3 5)])), ((a3 0), .inl (cI, 117, .inl (v_cells 0))), ((a3 1), .inl (cI, 117, .inl (v_cells 1))), ((a3 2), .inl (cI, 117, .inl (v_cells 2))), ((a3 3), .inl (cI, 117, .inl (v_cells 3))), ((a3 4), .inl (cI, 117, .inl (v_cells 4))), ((a3 5), .inl (cI, 117, .inl (v_cells 5))), (a4, .inr (4, [.ref a5])), (a5, .inl (cI, 117, .inl v_cellsq1_2))] := hD
      replace hf := Option.some.inj hf
      simp only [Prod.mk.injEq] at hf
      obtain ⟨hf0, hf1, hf2⟩ := hf
      subst hf0; subst hf1; subst hf2
      exact hret H locs ls _ dX0_takeBack_39 hP hD hS
    · try rw [ejh1] at hf
      refine aa_ld hx hb hK hP 1 2 rfl rfl (ib_in h1) ejh1 dX0_takeBack_25 ?_
      obtain ⟨v_cellsq1_2, hq3, hf⟩ := bd1_el hf
      refine mc_V (As := [.ref (a2 1)]) (rest := []) (wr := [(a0, .inr (0, [.ref a1, .int (irem ((v_next + (6 : Int32)) - (1 : Int32)) (6 : Int32)), .int v_size])), (a1, .inl (cP, 6, .inr (.inr (.inr (.inr (fun i => some (a2 i))))))), ((a2 0), .inr (4, [.ref (a3 0)])), ((a2 2), .inr (4, [.ref (a3 2)])), ((a2 3), .inr (4, [.ref (a3 3)])), ((a2 4), .inr (4, [.ref (a3 4)])), ((a2 5), .inr (4, [.ref (a3 5)])), ((a3 0), .inl (cI, 117, .inl (v_cells 0))), ((a3 2), .inl (cI, 117, .inl (v_cells 2))), ((a3 3), .inl (cI, 117, .inl (v_cells 3))), ((a3 4), .inl (cI, 117, .inl (v_cells 4))), ((a3 5), .inl (cI, 117, .inl (v_cells 5)))]) (wn := [(a0, .inr (0, [.ref a1, .int (irem ((v_next + (6 : Int32)) - (1 : Int32)) (6 : Int32)), .int v_size])), (a1, .inl (cP, 6, .inr (.inr (.inr (.inr (fun i => some (a2 i))))))), ((a2 0), .inr (4, [.ref (a3 0)])), ((a2 1), .inr (4, [.ref (a3 1)])), ((a2 2), .inr (4, [.ref (a3 2)])), ((a2 3), .inr (4, [.ref (a3 3)])), ((a2 4), .inr (4, [.ref (a3 4)])), ((a2 5), .inr (4, [.ref (a3 5)])), ((a3 0), .inl (cI, 117, .inl (v_cells 0))), ((a3 1), .inl (cI, 117, .inl (v_cells 1))), ((a3 2), .inl (cI, 117, .inl (v_cells 2))), ((a3 3), .inl (cI, 117, .inl (v_cells 3))), ((a3 4), .inl (cI, 117, .inl (v_cells 4))), ((a3 5), .inl (cI, 117, .inl (v_cells 5))), (a4, .inr (4, [.ref a5])), (a5, .inl (cI, 117, .inl v_cellsq1_2))]) ⟨hx, hb, hml, hown, hT⟩ (c_X4_takeOver l dC dI cI cJ cP cS a4 a5 (a2 1) (a3 1) v_cellsq1 (v_cells 1) v_cellsq1_2 hq3) (cwV 1 hT (gdV q_ml_X0_25 q_im_X4_takeOver q_se_X4_takeOver q_in_X4 q_co_X4_takeOver) rfl rfl rfl hd_X4_takeOver ⟨Nat.le_of_ble_eq_true rfl, Nat.le_of_ble_eq_true rfl⟩) hK hF hP hD hS hA 14 rfl rfl rfl [14, 15, 3, 9] [0, 1, 2, 4, 5, 6, 7, 8, 10, 11, 12, 13] [0, 1, 2, 14, 3, 4, 5, 6, 7, 15, 8, 9, 10, 11, 12, 13] rfl (by decide) rfl (by decide) (by decide) rfl (by decide) rfl hl.1 rfl (Nat.le_of_ble_eq_true rfl) dX0_takeBack_26 ⟨Nat.zero_le _, Nat.zero_le _⟩ (fun H locs hP hD hS => ?_)
      refine W.eq (g2 := F0 m 29 ls []) rfl ?_
      refine lv_aload_n hx hb dX0_takeBack_29 rfl (lv_at hl 0 rfl) ?_
      refine lv_dup hx hb dX0_takeBack_30 rfl ?_
      refine va_get (D := (dC, dI)) (ci := 0) (v := .int v_size) (C := RX0) (T := TX0) (N := 3) hx hb hT in_X0 hown hK hP 0 rfl rfl 2 (by decide) (hT _ q_fl_X0_21) (fun _ h9 => h9) rfl dX0_takeBack_31 ?_
      refine lv_iconst (v := 1) hx hb dX0_takeBack_34 (by decide) ?_
      refine lv_isub hx hb dX0_takeBack_35 ?_
      refine va_put (D := (dC, dI)) (ci := 0) (v := .int (v_size - (1 : Int32))) (ty := .int) (C := RX0) (T := TX0) (N := 3) hx hb hT in_X0 tyX0 tyX0_ok nmX0 hown hK hP hD hS 0 rfl rfl 2 (by decide) (hT _ q_fl_X0_21) (fun _ h9 => h9) rfl (tyX0_ok 2 (by decide)) rfl rfl (Nat.le_of_ble_eq_true rfl) dX0_takeBack_36 (fun H locs hP hD hS => ?_)
      have hP : va_P (dC, dI) vwCl [(a0, .inr (0, [.ref a1, .int (irem ((v_next + (6 : Int32)) - (1 : Int32)) (6 : Int32)), .int (v_size - (1 : Int32))])), (a1, .inl (cP, 6, .inr (.inr (.inr (.inr (fun i => some (a2 i))))))), ((a2 0), .inr (4, [.ref (a3 0)])), ((a2 1), .inr (4, [.ref (a3 1)])), ((a2 2), .inr (4, [.ref (a3 2)])), ((a2 3), .inr (4, [.ref (a3 3)])), ((a2 4), .inr (4, [.ref (a3 4)])), ((a2 5), .inr (4, [.ref (a3 5)])), ((a3 0), .inl (cI, 117, .inl (v_cells 0))), ((a3 1), .inl (cI, 117, .inl (v_cells 1))), ((a3 2), .inl (cI, 117, .inl (v_cells 2))), ((a3 3), .inl (cI, 117, .inl (v_cells 3))), ((a3 4), .inl (cI, 117, .inl (v_cells 4))), ((a3 5), .inl (cI, 117, .inl (v_cells 5))), (a4, .inr (4, [.ref a5])), (a5, .inl (cI, 117, .inl v_cellsq1_2))] H := hP
      have hD : va_D A [(a0, .inr (0, [.ref a1, .int (irem ((v_next + (6 : Int32)) - (1 : Int32)) (6 : Int32)), .int (v_size - (1 : Int32))])), (a1, .inl (cP, 6, .inr (.inr (.inr (.inr (fun i => some (a2 i))))))), ((a2 0), .inr (4, [.ref (a3 0)])), ((a2 1), .inr (4, [.ref (a3 1)])), ((a2 2), .inr (4, [.ref (a3 2)])), ((a2 3), .inr (4, [.ref (a3 3)])), ((a2 4), .inr (4, [.ref (a3 4)])), ((a2 5), .inr (4, [.ref (a3 5)])), ((a3 0), .inl (cI, 117, .inl (v_cells 0))), ((a3 1), .inl (cI, 117, .inl (v_cells 1))), ((a3 2), .inl (cI, 117, .inl (v_cells 2))), ((a3 3), .inl (cI, 117, .inl (v_cells 3))), ((a3 4), .inl (cI, 117, .inl (v_cells 4))), ((a3 5), .inl (cI, 117, .inl (v_cells 5))), (a4, .inr (4, [.ref a5])), (a5, .inl (cI, 117, .inl v_cellsq1_2))] := hD
      replace hf := Option.some.inj hf
      simp only [Prod.mk.injEq] at hf
      obtain ⟨hf0, hf1, hf2⟩ := hf
      subst hf0; subst hf1; subst hf2
      exact hret H locs ls _ dX0_takeBack_39 hP hD hS
    · try rw [ejh1] at hf
      refine aa_ld hx hb hK hP 1 2 rfl rfl (ib_in h1) ejh1 dX0_takeBack_25 ?_
      obtain ⟨v_cellsq1_2, hq3, hf⟩ := bd1_el hf
      refine mc_V (As := [.ref (a2 2)]) (rest := []) (wr := [(a0, .inr (0, [.ref a1, .int (irem ((v_next + (6 : Int32)) - (1 : Int32)) (6 : Int32)), .int v_size])), (a1, .inl (cP, 6, .inr (.inr (.inr (.inr (fun i => some (a2 i))))))), ((a2 0), .inr (4, [.ref (a3 0)])), ((a2 1), .inr (4, [.ref (a3 1)])), ((a2 3), .inr (4, [.ref (a3 3)])), ((a2 4), .inr (4, [.ref (a3 4)])), ((a2 5), .inr (4, [.ref (a3 5)])), ((a3 0), .inl (cI, 117, .inl (v_cells 0))), ((a3 1), .inl (cI, 117, .inl (v_cells 1))), ((a3 3), .inl (cI, 117, .inl (v_cells 3))), ((a3 4), .inl (cI, 117, .inl (v_cells 4))), ((a3 5), .inl (cI, 117, .inl (v_cells 5)))]) (wn := [(a0, .inr (0, [.ref a1, .int (irem ((v_next + (6 : Int32)) - (1 : Int32)) (6 : Int32)), .int v_size])), (a1, .inl (cP, 6, .inr (.inr (.inr (.inr (fun i => some (a2 i))))))), ((a2 0), .inr (4, [.ref (a3 0)])), ((a2 1), .inr (4, [.ref (a3 1)])), ((a2 2), .inr (4, [.ref (a3 2)])), ((a2 3), .inr (4, [.ref (a3 3)])), ((a2 4), .inr (4, [.ref (a3 4)])), ((a2 5), .inr (4, [.ref (a3 5)])), ((a3 0), .inl (cI, 117, .inl (v_cells 0))), ((a3 1), .inl (cI, 117, .inl (v_cells 1))), ((a3 2), .inl (cI, 117, .inl (v_cells 2))), ((a3 3), .inl (cI, 117, .inl (v_cells 3))), ((a3 4), .inl (cI, 117, .inl (v_cells 4))), ((a3 5), .inl (cI, 117, .inl (v_cells 5))), (a4, .inr (4, [.ref a5])), (a5, .inl (cI, 117, .inl v_cellsq1_2))]) ⟨hx, hb, hml, hown, hT⟩ (c_X4_takeOver l dC dI cI cJ cP cS a4 a5 (a2 2) (a3 2) v_cellsq1 (v_cells 2) v_cellsq1_2 hq3) (cwV 1 hT (gdV q_ml_X0_25 q_im_X4_takeOver q_se_X4_takeOver q_in_X4 q_co_X4_takeOver) rfl rfl rfl hd_X4_takeOver ⟨Nat.le_of_ble_eq_true rfl, Nat.le_of_ble_eq_true rfl⟩) hK hF hP hD hS hA 14 rfl rfl rfl [14, 15, 4, 10] [0, 1, 2, 3, 5, 6, 7, 8, 9, 11, 12, 13] [0, 1, 2, 3, 14, 4, 5, 6, 7, 8, 15, 9, 10, 11, 12, 13] rfl (by decide) rfl (by decide) (by decide) rfl (by decide) rfl hl.1 rfl (Nat.le_of_ble_eq_true rfl) dX0_takeBack_26 ⟨Nat.zero_le _, Nat.zero_le _⟩ (fun H locs hP hD hS => ?_)
      refine W.eq (g2 := F0 m 29 ls []) rfl ?_
      refine lv_aload_n hx hb dX0_takeBack_29 rfl (lv_at hl 0 rfl) ?_
      refine lv_dup hx hb dX0_takeBack_30 rfl ?_
      refine va_get (D := (dC, dI)) (ci := 0) (v := .int v_size) (C := RX0) (T := TX0) (N := 3) hx hb hT in_X0 hown hK hP 0 rfl rfl 2 (by decide) (hT _ q_fl_X0_21) (fun _ h9 => h9) rfl dX0_takeBack_31 ?_
      refine lv_iconst (v := 1) hx hb dX0_takeBack_34 (by decide) ?_
      refine lv_isub hx hb dX0_takeBack_35 ?_
      refine va_put (D := (dC, dI)) (ci := 0) (v := .int (v_size - (1 : Int32))) (ty := .int) (C := RX0) (T := TX0) (N := 3) hx hb hT in_X0 tyX0 tyX0_ok nmX0 hown hK hP hD hS 0 rfl rfl 2 (by decide) (hT _ q_fl_X0_21) (fun _ h9 => h9) rfl (tyX0_ok 2 (by decide)) rfl rfl (Nat.le_of_ble_eq_true rfl) dX0_takeBack_36 (fun H locs hP hD hS => ?_)
      have hP : va_P (dC, dI) vwCl [(a0, .inr (0, [.ref a1, .int (irem ((v_next + (6 : Int32)) - (1 : Int32)) (6 : Int32)), .int (v_size - (1 : Int32))])), (a1, .inl (cP, 6, .inr (.inr (.inr (.inr (fun i => some (a2 i))))))), ((a2 0), .inr (4, [.ref (a3 0)])), ((a2 1), .inr (4, [.ref (a3 1)])), ((a2 2), .inr (4, [.ref (a3 2)])), ((a2 3), .inr (4, [.ref (a3 3)])), ((a2 4), .inr (4, [.ref (a3 4)])), ((a2 5), .inr (4, [.ref (a3 5)])), ((a3 0), .inl (cI, 117, .inl (v_cells 0))), ((a3 1), .inl (cI, 117, .inl (v_cells 1))), ((a3 2), .inl (cI, 117, .inl (v_cells 2))), ((a3 3), .inl (cI, 117, .inl (v_cells 3))), ((a3 4), .inl (cI, 117, .inl (v_cells 4))), ((a3 5), .inl (cI, 117, .inl (v_cells 5))), (a4, .inr (4, [.ref a5])), (a5, .inl (cI, 117, .inl v_cellsq1_2))] H := hP
      have hD : va_D A [(a0, .inr (0, [.ref a1, .int (irem ((v_next + (6 : Int32)) - (1 : Int32)) (6 : Int32)), .int (v_size - (1 : Int32))])), (a1, .inl (cP, 6, .inr (.inr (.inr (.inr (fun i => some (a2 i))))))), ((a2 0), .inr (4, [.ref (a3 0)])), ((a2 1), .inr (4, [.ref (a3 1)])), ((a2 2), .inr (4, [.ref (a3 2)])), ((a2 3), .inr (4, [.ref (a3 3)])), ((a2 4), .inr (4, [.ref (a3 4)])), ((a2 5), .inr (4, [.ref (a3 5)])), ((a3 0), .inl (cI, 117, .inl (v_cells 0))), ((a3 1), .inl (cI, 117, .inl (v_cells 1))), ((a3 2), .inl (cI, 117, .inl (v_cells 2))), ((a3 3), .inl (cI, 117, .inl (v_cells 3))), ((a3 4), .inl (cI, 117, .inl (v_cells 4))), ((a3 5), .inl (cI, 117, .inl (v_cells 5))), (a4, .inr (4, [.ref a5])), (a5, .inl (cI, 117, .inl v_cellsq1_2))] := hD
      replace hf := Option.some.inj hf
      simp only [Prod.mk.injEq] at hf
      obtain ⟨hf0, hf1, hf2⟩ := hf
      subst hf0; subst hf1; subst hf2
      exact hret H locs ls _ dX0_takeBack_39 hP hD hS
    · try rw [ejh1] at hf
      refine aa_ld hx hb hK hP 1 2 rfl rfl (ib_in h1) ejh1 dX0_takeBack_25 ?_
      obtain ⟨v_cellsq1_2, hq3, hf⟩ := bd1_el hf
      refine mc_V (As := [.ref (a2 3)]) (rest := []) (wr := [(a0, .inr (0, [.ref a1, .int (irem ((v_next + (6 : Int32)) - (1 : Int32)) (6 : Int32)), .int v_size])), (a1, .inl (cP, 6, .inr (.inr (.inr (.inr (fun i => some (a2 i))))))), ((a2 0), .inr (4, [.ref (a3 0)])), ((a2 1), .inr (4, [.ref (a3 1)])), ((a2 2), .inr (4, [.ref (a3 2)])), ((a2 4), .inr (4, [.ref (a3 4)])), ((a2 5), .inr (4, [.ref (a3 5)])), ((a3 0), .inl (cI, 117, .inl (v_cells 0))), ((a3 1), .inl (cI, 117, .inl (v_cells 1))), ((a3 2), .inl (cI, 117, .inl (v_cells 2))), ((a3 4), .inl (cI, 117, .inl (v_cells 4))), ((a3 5), .inl (cI, 117, .inl (v_cells 5)))]) (wn := [(a0, .inr (0, [.ref a1, .int (irem ((v_next + (6 : Int32)) - (1 : Int32)) (6 : Int32)), .int v_size])), (a1, .inl (cP, 6, .inr (.inr (.inr (.inr (fun i => some (a2 i))))))), ((a2 0), .inr (4, [.ref (a3 0)])), ((a2 1), .inr (4, [.ref (a3 1)])), ((a2 2), .inr (4, [.ref (a3 2)])), ((a2 3), .inr (4, [.ref (a3 3)])), ((a2 4), .inr (4, [.ref (a3 4)])), ((a2 5), .inr (4, [.ref (a3 5)])), ((a3 0), .inl (cI, 117, .inl (v_cells 0))), ((a3 1), .inl (cI, 117, .inl (v_cells 1))), ((a3 2), .inl (cI, 117, .inl (v_cells 2))), ((a3 3), .inl (cI, 117, .inl (v_cells 3))), ((a3 4), .inl (cI, 117, .inl (v_cells 4))), ((a3 5), .inl (cI, 117, .inl (v_cells 5))), (a4, .inr (4, [.ref a5])), (a5, .inl (cI, 117, .inl v_cellsq1_2))]) ⟨hx, hb, hml, hown, hT⟩ (c_X4_takeOver l dC dI cI cJ cP cS a4 a5 (a2 3) (a3 3) v_cellsq1 (v_cells 3) v_cellsq1_2 hq3) (cwV 1 hT (gdV q_ml_X0_25 q_im_X4_takeOver q_se_X4_takeOver q_in_X4 q_co_X4_takeOver) rfl rfl rfl hd_X4_takeOver ⟨Nat.le_of_ble_eq_true rfl, Nat.le_of_ble_eq_true rfl⟩) hK hF hP hD hS hA 14 rfl rfl rfl [14, 15, 5, 11] [0, 1, 2, 3, 4, 6, 7, 8, 9, 10, 12, 13] [0, 1, 2, 3, 4, 14, 5, 6, 7, 8, 9, 15, 10, 11, 12, 13] rfl (by decide) rfl (by decide) (by decide) rfl (by decide) rfl hl.1 rfl (Nat.le_of_ble_eq_true rfl) dX0_takeBack_26 ⟨Nat.zero_le _, Nat.zero_le _⟩ (fun H locs hP hD hS => ?_)
      refine W.eq (g2 := F0 m 29 ls []) rfl ?_
      refine lv_aload_n hx hb dX0_takeBack_29 rfl (lv_at hl 0 rfl) ?_
      refine lv_dup hx hb dX0_takeBack_30 rfl ?_
      refine va_get (D := (dC, dI)) (ci := 0) (v := .int v_size) (C := RX0) (T := TX0) (N := 3) hx hb hT in_X0 hown hK hP 0 rfl rfl 2 (by decide) (hT _ q_fl_X0_21) (fun _ h9 => h9) rfl dX0_takeBack_31 ?_
      refine lv_iconst (v := 1) hx hb dX0_takeBack_34 (by decide) ?_
      refine lv_isub hx hb dX0_takeBack_35 ?_
      refine va_put (D := (dC, dI)) (ci := 0) (v := .int (v_size - (1 : Int32))) (ty := .int) (C := RX0) (T := TX0) (N := 3) hx hb hT in_X0 tyX0 tyX0_ok nmX0 hown hK hP hD hS 0 rfl rfl 2 (by decide) (hT _ q_fl_X0_21) (fun _ h9 => h9) rfl (tyX0_ok 2 (by decide)) rfl rfl (Nat.le_of_ble_eq_true rfl) dX0_takeBack_36 (fun H locs hP hD hS => ?_)
      have hP : va_P (dC, dI) vwCl [(a0, .inr (0, [.ref a1, .int (irem ((v_next + (6 : Int32)) - (1 : Int32)) (6 : Int32)), .int (v_size - (1 : Int32))])), (a1, .inl (cP, 6, .inr (.inr (.inr (.inr (fun i => some (a2 i))))))), ((a2 0), .inr (4, [.ref (a3 0)])), ((a2 1), .inr (4, [.ref (a3 1)])), ((a2 2), .inr (4, [.ref (a3 2)])), ((a2 3), .inr (4, [.ref (a3 3)])), ((a2 4), .inr (4, [.ref (a3 4)])), ((a2 5), .inr (4, [.ref (a3 5)])), ((a3 0), .inl (cI, 117, .inl (v_cells 0))), ((a3 1), .inl (cI, 117, .inl (v_cells 1))), ((a3 2), .inl (cI, 117, .inl (v_cells 2))), ((a3 3), .inl (cI, 117, .inl (v_cells 3))), ((a3 4), .inl (cI, 117, .inl (v_cells 4))), ((a3 5), .inl (cI, 117, .inl (v_cells 5))), (a4, .inr (4, [.ref a5])), (a5, .inl (cI, 117, .inl v_cellsq1_2))] H := hP
      have hD : va_D A [(a0, .inr (0, [.ref a1, .int (irem ((v_next + (6 : Int32)) - (1 : Int32)) (6 : Int32)), .int (v_size - (1 : Int32))])), (a1, .inl (cP, 6, .inr (.inr (.inr (.inr (fun i => some (a2 i))))))), ((a2 0), .inr (4, [.ref (a3 0)])), ((a2 1), .inr (4, [.ref (a3 1)])), ((a2 2), .inr (4, [.ref (a3 2)])), ((a2 3), .inr (4, [.ref (a3 3)])), ((a2 4), .inr (4, [.ref (a3 4)])), ((a2 5), .inr (4, [.ref (a3 5)])), ((a3 0), .inl (cI, 117, .inl (v_cells 0))), ((a3 1), .inl (cI, 117, .inl (v_cells 1))), ((a3 2), .inl (cI, 117, .inl (v_cells 2))), ((a3 3), .inl (cI, 117, .inl (v_cells 3))), ((a3 4), .inl (cI, 117, .inl (v_cells 4))), ((a3 5), .inl (cI, 117, .inl (v_cells 5))), (a4, .inr (4, [.ref a5])), (a5, .inl (cI, 117, .inl v_cellsq1_2))] := hD
      replace hf := Option.some.inj hf
      simp only [Prod.mk.injEq] at hf
      obtain ⟨hf0, hf1, hf2⟩ := hf
      subst hf0; subst hf1; subst hf2
      exact hret H locs ls _ dX0_takeBack_39 hP hD hS
    · try rw [ejh1] at hf
      refine aa_ld hx hb hK hP 1 2 rfl rfl (ib_in h1) ejh1 dX0_takeBack_25 ?_
      obtain ⟨v_cellsq1_2, hq3, hf⟩ := bd1_el hf
      refine mc_V (As := [.ref (a2 4)]) (rest := []) (wr := [(a0, .inr (0, [.ref a1, .int (irem ((v_next + (6 : Int32)) - (1 : Int32)) (6 : Int32)), .int v_size])), (a1, .inl (cP, 6, .inr (.inr (.inr (.inr (fun i => some (a2 i))))))), ((a2 0), .inr (4, [.ref (a3 0)])), ((a2 1), .inr (4, [.ref (a3 1)])), ((a2 2), .inr (4, [.ref (a3 2)])), ((a2 3), .inr (4, [.ref (a3 3)])), ((a2 5), .inr (4, [.ref (a3 5)])), ((a3 0), .inl (cI, 117, .inl (v_cells 0))), ((a3 1), .inl (cI, 117, .inl (v_cells 1))), ((a3 2), .inl (cI, 117, .inl (v_cells 2))), ((a3 3), .inl (cI, 117, .inl (v_cells 3))), ((a3 5), .inl (cI, 117, .inl (v_cells 5)))]) (wn := [(a0, .inr (0, [.ref a1, .int (irem ((v_next + (6 : Int32)) - (1 : Int32)) (6 : Int32)), .int v_size])), (a1, .inl (cP, 6, .inr (.inr (.inr (.inr (fun i => some (a2 i))))))), ((a2 0), .inr (4, [.ref (a3 0)])), ((a2 1), .inr (4, [.ref (a3 1)])), ((a2 2), .inr (4, [.ref (a3 2)])), ((a2 3), .inr (4, [.ref (a3 3)])), ((a2 4), .inr (4, [.ref (a3 4)])), ((a2 5), .inr (4, [.ref (a3 5)])), ((a3 0), .inl (cI, 117, .inl (v_cells 0))), ((a3 1), .inl (cI, 117, .inl (v_cells 1))), ((a3 2), .inl (cI, 117, .inl (v_cells 2))), ((a3 3), .inl (cI, 117, .inl (v_cells 3))), ((a3 4), .inl (cI, 117, .inl (v_cells 4))), ((a3 5), .inl (cI, 117, .inl (v_cells 5))), (a4, .inr (4, [.ref a5])), (a5, .inl (cI, 117, .inl v_cellsq1_2))]) ⟨hx, hb, hml, hown, hT⟩ (c_X4_takeOver l dC dI cI cJ cP cS a4 a5 (a2 4) (a3 4) v_cellsq1 (v_cells 4) v_cellsq1_2 hq3) (cwV 1 hT (gdV q_ml_X0_25 q_im_X4_takeOver q_se_X4_takeOver q_in_X4 q_co_X4_takeOver) rfl rfl rfl hd_X4_takeOver ⟨Nat.le_of_ble_eq_true rfl, Nat.le_of_ble_eq_true rfl⟩) hK hF hP hD hS hA 14 rfl rfl rfl [14, 15, 6, 12] [0, 1, 2, 3, 4, 5, 7, 8, 9, 10, 11, 13] [0, 1, 2, 3, 4, 5, 14, 6, 7, 8, 9, 10, 15, 11, 12, 13] rfl (by decide) rfl (by decide) (by decide) rfl (by decide) rfl hl.1 rfl (Nat.le_of_ble_eq_true rfl) dX0_takeBack_26 ⟨Nat.zero_le _, Nat.zero_le _⟩ (fun H locs hP hD hS => ?_)
      refine W.eq (g2 := F0 m 29 ls []) rfl ?_
      refine lv_aload_n hx hb dX0_takeBack_29 rfl (lv_at hl 0 rfl) ?_
      refine lv_dup hx hb dX0_takeBack_30 rfl ?_
      refine va_get (D := (dC, dI)) (ci := 0) (v := .int v_size) (C := RX0) (T := TX0) (N := 3) hx hb hT in_X0 hown hK hP 0 rfl rfl 2 (by decide) (hT _ q_fl_X0_21) (fun _ h9 => h9) rfl dX0_takeBack_31 ?_
      refine lv_iconst (v := 1) hx hb dX0_takeBack_34 (by decide) ?_
      refine lv_isub hx hb dX0_takeBack_35 ?_
      refine va_put (D := (dC, dI)) (ci := 0) (v := .int (v_size - (1 : Int32))) (ty := .int) (C := RX0) (T := TX0) (N := 3) hx hb hT in_X0 tyX0 tyX0_ok nmX0 hown hK hP hD hS 0 rfl rfl 2 (by decide) (hT _ q_fl_X0_21) (fun _ h9 => h9) rfl (tyX0_ok 2 (by decide)) rfl rfl (Nat.le_of_ble_eq_true rfl) dX0_takeBack_36 (fun H locs hP hD hS => ?_)
      have hP : va_P (dC, dI) vwCl [(a0, .inr (0, [.ref a1, .int (irem ((v_next + (6 : Int32)) - (1 : Int32)) (6 : Int32)), .int (v_size - (1 : Int32))])), (a1, .inl (cP, 6, .inr (.inr (.inr (.inr (fun i => some (a2 i))))))), ((a2 0), .inr (4, [.ref (a3 0)])), ((a2 1), .inr (4, [.ref (a3 1)])), ((a2 2), .inr (4, [.ref (a3 2)])), ((a2 3), .inr (4, [.ref (a3 3)])), ((a2 4), .inr (4, [.ref (a3 4)])), ((a2 5), .inr (4, [.ref (a3 5)])), ((a3 0), .inl (cI, 117, .inl (v_cells 0))), ((a3 1), .inl (cI, 117, .inl (v_cells 1))), ((a3 2), .inl (cI, 117, .inl (v_cells 2))), ((a3 3), .inl (cI, 117, .inl (v_cells 3))), ((a3 4), .inl (cI, 117, .inl (v_cells 4))), ((a3 5), .inl (cI, 117, .inl (v_cells 5))), (a4, .inr (4, [.ref a5])), (a5, .inl (cI, 117, .inl v_cellsq1_2))] H := hP
      have hD : va_D A [(a0, .inr (0, [.ref a1, .int (irem ((v_next + (6 : Int32)) - (1 : Int32)) (6 : Int32)), .int (v_size - (1 : Int32))])), (a1, .inl (cP, 6, .inr (.inr (.inr (.inr (fun i => some (a2 i))))))), ((a2 0), .inr (4, [.ref (a3 0)])), ((a2 1), .inr (4, [.ref (a3 1)])), ((a2 2), .inr (4, [.ref (a3 2)])), ((a2 3), .inr (4, [.ref (a3 3)])), ((a2 4), .inr (4, [.ref (a3 4)])), ((a2 5), .inr (4, [.ref (a3 5)])), ((a3 0), .inl (cI, 117, .inl (v_cells 0))), ((a3 1), .inl (cI, 117, .inl (v_cells 1))), ((a3 2), .inl (cI, 117, .inl (v_cells 2))), ((a3 3), .inl (cI, 117, .inl (v_cells 3))), ((a3 4), .inl (cI, 117, .inl (v_cells 4))), ((a3 5), .inl (cI, 117, .inl (v_cells 5))), (a4, .inr (4, [.ref a5])), (a5, .inl (cI, 117, .inl v_cellsq1_2))] := hD
      replace hf := Option.some.inj hf
      simp only [Prod.mk.injEq] at hf
      obtain ⟨hf0, hf1, hf2⟩ := hf
      subst hf0; subst hf1; subst hf2
      exact hret H locs ls _ dX0_takeBack_39 hP hD hS
    · try rw [ejh1] at hf
      refine aa_ld hx hb hK hP 1 2 rfl rfl (ib_in h1) ejh1 dX0_takeBack_25 ?_
      obtain ⟨v_cellsq1_2, hq3, hf⟩ := bd1_el hf
      refine mc_V (As := [.ref (a2 5)]) (rest := []) (wr := [(a0, .inr (0, [.ref a1, .int (irem ((v_next + (6 : Int32)) - (1 : Int32)) (6 : Int32)), .int v_size])), (a1, .inl (cP, 6, .inr (.inr (.inr (.inr (fun i => some (a2 i))))))), ((a2 0), .inr (4, [.ref (a3 0)])), ((a2 1), .inr (4, [.ref (a3 1)])), ((a2 2), .inr (4, [.ref (a3 2)])), ((a2 3), .inr (4, [.ref (a3 3)])), ((a2 4), .inr (4, [.ref (a3 4)])), ((a3 0), .inl (cI, 117, .inl (v_cells 0))), ((a3 1), .inl (cI, 117, .inl (v_cells 1))), ((a3 2), .inl (cI, 117, .inl (v_cells 2))), ((a3 3), .inl (cI, 117, .inl (v_cells 3))), ((a3 4), .inl (cI, 117, .inl (v_cells 4)))]) (wn := [(a0, .inr (0, [.ref a1, .int (irem ((v_next + (6 : Int32)) - (1 : Int32)) (6 : Int32)), .int v_size])), (a1, .inl (cP, 6, .inr (.inr (.inr (.inr (fun i => some (a2 i))))))), ((a2 0), .inr (4, [.ref (a3 0)])), ((a2 1), .inr (4, [.ref (a3 1)])), ((a2 2), .inr (4, [.ref (a3 2)])), ((a2 3), .inr (4, [.ref (a3 3)])), ((a2 4), .inr (4, [.ref (a3 4)])), ((a2 5), .inr (4, [.ref (a3 5)])), ((a3 0), .inl (cI, 117, .inl (v_cells 0))), ((a3 1), .inl (cI, 117, .inl (v_cells 1))), ((a3 2), .inl (cI, 117, .inl (v_cells 2))), ((a3 3), .inl (cI, 117, .inl (v_cells 3))), ((a3 4), .inl (cI, 117, .inl (v_cells 4))), ((a3 5), .inl (cI, 117, .inl (v_cells 5))), (a4, .inr (4, [.ref a5])), (a5, .inl (cI, 117, .inl v_cellsq1_2))]) ⟨hx, hb, hml, hown, hT⟩ (c_X4_takeOver l dC dI cI cJ cP cS a4 a5 (a2 5) (a3 5) v_cellsq1 (v_cells 5) v_cellsq1_2 hq3) (cwV 1 hT (gdV q_ml_X0_25 q_im_X4_takeOver q_se_X4_takeOver q_in_X4 q_co_X4_takeOver) rfl rfl rfl hd_X4_takeOver ⟨Nat.le_of_ble_eq_true rfl, Nat.le_of_ble_eq_true rfl⟩) hK hF hP hD hS hA 14 rfl rfl rfl [14, 15, 7, 13] [0, 1, 2, 3, 4, 5, 6, 8, 9, 10, 11, 12] [0, 1, 2, 3, 4, 5, 6, 14, 7, 8, 9, 10, 11, 15, 12, 13] rfl (by decide) rfl (by decide) (by decide) rfl (by decide) rfl hl.1 rfl (Nat.le_of_ble_eq_true rfl) dX0_takeBack_26 ⟨Nat.zero_le _, Nat.zero_le _⟩ (fun H locs hP hD hS => ?_)
      refine W.eq (g2 := F0 m 29 ls []) rfl ?_
      refine lv_aload_n hx hb dX0_takeBack_29 rfl (lv_at hl 0 rfl) ?_
      refine lv_dup hx hb dX0_takeBack_30 rfl ?_
      refine va_get (D := (dC, dI)) (ci := 0) (v := .int v_size) (C := RX0) (T := TX0) (N := 3) hx hb hT in_X0 hown hK hP 0 rfl rfl 2 (by decide) (hT _ q_fl_X0_21) (fun _ h9 => h9) rfl dX0_takeBack_31 ?_
      refine lv_iconst (v := 1) hx hb dX0_takeBack_34 (by decide) ?_
      refine lv_isub hx hb dX0_takeBack_35 ?_
      refine va_put (D := (dC, dI)) (ci := 0) (v := .int (v_size - (1 : Int32))) (ty := .int) (C := RX0) (T := TX0) (N := 3) hx hb hT in_X0 tyX0 tyX0_ok nmX0 hown hK hP hD hS 0 rfl rfl 2 (by decide) (hT _ q_fl_X0_21) (fun _ h9 => h9) rfl (tyX0_ok 2 (by decide)) rfl rfl (Nat.le_of_ble_eq_true rfl) dX0_takeBack_36 (fun H locs hP hD hS => ?_)
      have hP : va_P (dC, dI) vwCl [(a0, .inr (0, [.ref a1, .int (irem ((v_next + (6 : Int32)) - (1 : Int32)) (6 : Int32)), .int (v_size - (1 : Int32))])), (a1, .inl (cP, 6, .inr (.inr (.inr (.inr (fun i => some (a2 i))))))), ((a2 0), .inr (4, [.ref (a3 0)])), ((a2 1), .inr (4, [.ref (a3 1)])), ((a2 2), .inr (4, [.ref (a3 2)])), ((a2 3), .inr (4, [.ref (a3 3)])), ((a2 4), .inr (4, [.ref (a3 4)])), ((a2 5), .inr (4, [.ref (a3 5)])), ((a3 0), .inl (cI, 117, .inl (v_cells 0))), ((a3 1), .inl (cI, 117, .inl (v_cells 1))), ((a3 2), .inl (cI, 117, .inl (v_cells 2))), ((a3 3), .inl (cI, 117, .inl (v_cells 3))), ((a3 4), .inl (cI, 117, .inl (v_cells 4))), ((a3 5), .inl (cI, 117, .inl (v_cells 5))), (a4, .inr (4, [.ref a5])), (a5, .inl (cI, 117, .inl v_cellsq1_2))] H := hP
      have hD : va_D A [(a0, .inr (0, [.ref a1, .int (irem ((v_next + (6 : Int32)) - (1 : Int32)) (6 : Int32)), .int (v_size - (1 : Int32))])), (a1, .inl (cP, 6, .inr (.inr (.inr (.inr (fun i => some (a2 i))))))), ((a2 0), .inr (4, [.ref (a3 0)])), ((a2 1), .inr (4, [.ref (a3 1)])), ((a2 2), .inr (4, [.ref (a3 2)])), ((a2 3), .inr (4, [.ref (a3 3)])), ((a2 4), .inr (4, [.ref (a3 4)])), ((a2 5), .inr (4, [.ref (a3 5)])), ((a3 0), .inl (cI, 117, .inl (v_cells 0))), ((a3 1), .inl (cI, 117, .inl (v_cells 1))), ((a3 2), .inl (cI, 117, .inl (v_cells 2))), ((a3 3), .inl (cI, 117, .inl (v_cells 3))), ((a3 4), .inl (cI, 117, .inl (v_cells 4))), ((a3 5), .inl (cI, 117, .inl (v_cells 5))), (a4, .inr (4, [.ref a5])), (a5, .inl (cI, 117, .inl v_cellsq1_2))] := hD
      replace hf := Option.some.inj hf
      simp only [Prod.mk.injEq] at hf
      obtain ⟨hf0, hf1, hf2⟩ := hf
      subst hf0; subst hf1; subst hf2
      exact hret H locs ls _ dX0_takeBack_39 hP hD hS
  refine key _ ?_ _ _ _ hP hD hS hl
  intro H locs ls pc d hP hD hS
  exact W.vret hx hb hr (fun t ht hW => ⟨⟨rfl, by rw [ht]; exact hP, hD⟩, hS.F ht⟩) hS.2.2 d
def p_X0_takeOver_L2 (v_cellsq1 : (Nat → Nat → Int32)) (s : Int32 × (Nat → Nat → Int32)) : Option ((Int32 × (Nat → Nat → Int32)) ⊕ (Int32 × (Nat → Nat → Int32))) := match s with
  | (i2_1, v_cells_2) => (if (6 : Int32) ≤ i2_1 then (some (.inr (i2_1, v_cells_2))) else (gd (ib i2_1 6) (bd1 (p_X4_takeOver (v_cells_2 (tn i2_1)) (v_cellsq1 (tn i2_1))) fun v_cells_5 => (some (.inl ((i2_1 + (1 : Int32)), (va_up v_cells_2 (tn i2_1) v_cells_5)))))))
def p_X0_takeOver (v_next : Int32) (v_size : Int32) (v_cells : (Nat → Nat → Int32)) (v_nextq1 : Int32) (v_sizeq1 : Int32) (v_cellsq1 : (Nat → Nat → Int32)) : Option (Int32 × Int32 × (Nat → Nat → Int32)) :=
  (bd2 (loopN (p_X0_takeOver_L2 v_cellsq1) fuel ((0 : Int32), v_cells)) fun f2_9 v_cells_10 => (some (v_nextq1, v_sizeq1, v_cells_10)))
set_option maxHeartbeats 4000000 in
set_option maxRecDepth 100000 in
theorem c_X0_takeOver (l : Launch) (dC : Nat → ClassId) (dI : Nat → Nat → Nat) (cI cJ cP cS : ClassId) (a0 : Nat) (a1 : Nat) (a2 : Nat → Nat) (a3 : Nat → Nat) (a4 : Nat) (a5 : Nat) (a6 : Nat → Nat) (a7 : Nat → Nat) (v_next : Int32) (v_size : Int32) (v_cells : (Nat → Nat → Int32)) (v_nextq1 : Int32) (v_sizeq1 : Int32) (v_cellsq1 : (Nat → Nat → Int32))    (v_next_o : Int32) (v_size_o : Int32) (v_cells_o : (Nat → Nat → Int32)) (hf : p_X0_takeOver v_next v_size v_cells v_nextq1 v_sizeq1 v_cellsq1 = some (v_next_o, v_size_o, v_cells_o)) : MC l (dC, dI) (tyl cI cJ cP cS) yX0_takeOver (Cond.code yX0_takeOver cX0_takeOver 3 none :: TBG) ({ frames := 2, cells := 0, slots := 0, locals := 61 } : Room) [.ref a0, .ref a4] [(a0, .inr (0, [.ref a1, .int v_next, .int v_size])), (a1, .inl (cP, 6, .inr (.inr (.inr (.inr (fun i => some (a2 i))))))), ((a2 0), .inr (4, [.ref (a3 0)])), ((a2 1), .inr (4, [.ref (a3 1)])), ((a2 2), .inr (4, [.ref (a3 2)])), ((a2 3), .inr (4, [.ref (a3 3)])), ((a2 4), .inr (4, [.ref (a3 4)])), ((a2 5), .inr (4, [.ref (a3 5)])), ((a3 0), .inl (cI, 117, .inl (v_cells 0))), ((a3 1), .inl (cI, 117, .inl (v_cells 1))), ((a3 2), .inl (cI, 117, .inl (v_cells 2))), ((a3 3), .inl (cI, 117, .inl (v_cells 3))), ((a3 4), .inl (cI, 117, .inl (v_cells 4))), ((a3 5), .inl (cI, 117, .inl (v_cells 5))), (a4, .inr (0, [.ref a5, .int v_nextq1, .int v_sizeq1])), (a5, .inl (cP, 6, .inr (.inr (.inr (.inr (fun i => some (a6 i))))))), ((a6 0), .inr (4, [.ref (a7 0)])), ((a6 1), .inr (4, [.ref (a7 1)])), ((a6 2), .inr (4, [.ref (a7 2)])), ((a6 3), .inr (4, [.ref (a7 3)])), ((a6 4), .inr (4, [.ref (a7 4)])), ((a6 5), .inr (4, [.ref (a7 5)])), ((a7 0), .inl (cI, 117, .inl (v_cellsq1 0))), ((a7 1), .inl (cI, 117, .inl (v_cellsq1 1))), ((a7 2), .inl (cI, 117, .inl (v_cellsq1 2))), ((a7 3), .inl (cI, 117, .inl (v_cellsq1 3))), ((a7 4), .inl (cI, 117, .inl (v_cellsq1 4))), ((a7 5), .inl (cI, 117, .inl (v_cellsq1 5)))] [(a0, .inr (0, [.ref a1, .int v_next_o, .int v_size_o])), (a1, .inl (cP, 6, .inr (.inr (.inr (.inr (fun i => some (a2 i))))))), ((a2 0), .inr (4, [.ref (a3 0)])), ((a2 1), .inr (4, [.ref (a3 1)])), ((a2 2), .inr (4, [.ref (a3 2)])), ((a2 3), .inr (4, [.ref (a3 3)])), ((a2 4), .inr (4, [.ref (a3 4)])), ((a2 5), .inr (4, [.ref (a3 5)])), ((a3 0), .inl (cI, 117, .inl (v_cells_o 0))), ((a3 1), .inl (cI, 117, .inl (v_cells_o 1))), ((a3 2), .inl (cI, 117, .inl (v_cells_o 2))), ((a3 3), .inl (cI, 117, .inl (v_cells_o 3))), ((a3 4), .inl (cI, 117, .inl (v_cells_o 4))), ((a3 5), .inl (cI, 117, .inl (v_cells_o 5))), (a4, .inr (0, [.ref a5, .int v_nextq1, .int v_sizeq1])), (a5, .inl (cP, 6, .inr (.inr (.inr (.inr (fun i => some (a6 i))))))), ((a6 0), .inr (4, [.ref (a7 0)])), ((a6 1), .inr (4, [.ref (a7 1)])), ((a6 2), .inr (4, [.ref (a7 2)])), ((a6 3), .inr (4, [.ref (a7 3)])), ((a6 4), .inr (4, [.ref (a7 4)])), ((a6 5), .inr (4, [.ref (a7 5)])), ((a7 0), .inl (cI, 117, .inl (v_cellsq1 0))), ((a7 1), .inl (cI, 117, .inl (v_cellsq1 1))), ((a7 2), .inl (cI, 117, .inl (v_cellsq1 2))), ((a7 3), .inl (cI, 117, .inl (v_cellsq1 3))), ((a7 4), .inl (cI, 117, .inl (v_cellsq1 4))), ((a7 5), .inl (cI, 117, .inl (v_cellsq1 5)))] none := by
  intro sz
  unfold MPost
  refine Met.ofW (cc := cX0_takeOver) (maxL := 3) (ret := none) (by decide) rfl ?_
  intro p e s m args below meth c s₁ B hml hv
  obtain ⟨rfl, hsz, hP, hK, hD0, hF⟩ := hv
  have hx := B.exec
  have hb := B.bytes
  have hr := B.returns
  have hT : ∀ w ∈ TBG, w.before _ s = true := fun w h => atoms_spec B.pre w (List.mem_cons_of_mem _ h)
  have hown : s.vm.findClass RX0 = some m.cls := findClass_of_methodNamed B.named
  have hlocks := B.notSynchronized
  subst hsz
  have hD := hD0.self (sz := s.heap.size)
  generalize hAe : va_A [(a0, .inr (0, [.ref a1, .int v_next, .int v_size])), (a1, .inl (cP, 6, .inr (.inr (.inr (.inr (fun i => some (a2 i))))))), ((a2 0), .inr (4, [.ref (a3 0)])), ((a2 1), .inr (4, [.ref (a3 1)])), ((a2 2), .inr (4, [.ref (a3 2)])), ((a2 3), .inr (4, [.ref (a3 3)])), ((a2 4), .inr (4, [.ref (a3 4)])), ((a2 5), .inr (4, [.ref (a3 5)])), ((a3 0), .inl (cI, 117, .inl (v_cells 0))), ((a3 1), .inl (cI, 117, .inl (v_cells 1))), ((a3 2), .inl (cI, 117, .inl (v_cells 2))), ((a3 3), .inl (cI, 117, .inl (v_cells 3))), ((a3 4), .inl (cI, 117, .inl (v_cells 4))), ((a3 5), .inl (cI, 117, .inl (v_cells 5))), (a4, .inr (0, [.ref a5, .int v_nextq1, .int v_sizeq1])), (a5, .inl (cP, 6, .inr (.inr (.inr (.inr (fun i => some (a6 i))))))), ((a6 0), .inr (4, [.ref (a7 0)])), ((a6 1), .inr (4, [.ref (a7 1)])), ((a6 2), .inr (4, [.ref (a7 2)])), ((a6 3), .inr (4, [.ref (a7 3)])), ((a6 4), .inr (4, [.ref (a7 4)])), ((a6 5), .inr (4, [.ref (a7 5)])), ((a7 0), .inl (cI, 117, .inl (v_cellsq1 0))), ((a7 1), .inl (cI, 117, .inl (v_cellsq1 1))), ((a7 2), .inl (cI, 117, .inl (v_cellsq1 2))), ((a7 3), .inl (cI, 117, .inl (v_cellsq1 3))), ((a7 4), .inl (cI, 117, .inl (v_cellsq1 4))), ((a7 5), .inl (cI, 117, .inl (v_cellsq1 5)))] s.heap.size = A at hD hF ⊢
  have hA : ∀ q : Nat, s.heap.size ≤ q → A q := fun q h => by rw [← hAe]; exact Or.inr h
  have hS : va_S A s.heap s.heap [] := va_S.rf
  have hl := lv_entry ([.ref a0, .ref a4]) (n := 3) (Nat.le_of_ble_eq_true rfl)
  rw [lg_entry_eq]
  generalize (lg_sl ([.ref a0, .ref a4]) ++ List.replicate (3 - (lg_sl ([.ref a0, .ref a4])).length) Slot.unset).toArray = ls at hl ⊢
  have hl : lv_has ls 3 [(0, .ref a0), (1, .ref a4)] := hl
  generalize ([.ref a0, .ref a4] : List Value).toArray = args at hT ⊢
  have key : ∀ (Q : State → Prop), (∀ (H : Heap) (locs : List Loc) (ls : Array Slot) (pc : Nat), decode cX0_takeOver pc = .ok (.return_, 1) → va_P (dC, dI) vwCl [(a0, .inr (0, [.ref a1, .int v_next_o, .int v_size_o])), (a1, .inl (cP, 6, .inr (.inr (.inr (.inr (fun i => some (a2 i))))))), ((a2 0), .inr (4, [.ref (a3 0)])), ((a2 1), .inr (4, [.ref (a3 1)])), ((a2 2), .inr (4, [.ref (a3 2)])), ((a2 3), .inr (4, [.ref (a3 3)])), ((a2 4), .inr (4, [.ref (a3 4)])), ((a2 5), .inr (4, [.ref (a3 5)])), ((a3 0), .inl (cI, 117, .inl (v_cells_o 0))), ((a3 1), .inl (cI, 117, .inl (v_cells_o 1))), ((a3 2), .inl (cI, 117, .inl (v_cells_o 2))), ((a3 3), .inl (cI, 117, .inl (v_cells_o 3))), ((a3 4), .inl (cI, 117, .inl (v_cells_o 4))), ((a3 5), .inl (cI, 117, .inl (v_cells_o 5))), (a4, .inr (0, [.ref a5, .int v_nextq1, .int v_sizeq1])), (a5, .inl (cP, 6, .inr (.inr (.inr (.inr (fun i => some (a6 i))))))), ((a6 0), .inr (4, [.ref (a7 0)])), ((a6 1), .inr (4, [.ref (a7 1)])), ((a6 2), .inr (4, [.ref (a7 2)])), ((a6 3), .inr (4, [.ref (a7 3)])), ((a6 4), .inr (4, [.ref (a7 4)])), ((a6 5), .inr (4, [.ref (a7 5)])), ((a7 0), .inl (cI, 117, .inl (v_cellsq1 0))), ((a7 1), .inl (cI, 117, .inl (v_cellsq1 1))), ((a7 2), .inl (cI, 117, .inl (v_cellsq1 2))), ((a7 3), .inl (cI, 117, .inl (v_cellsq1 3))), ((a7 4), .inl (cI, 117, .inl (v_cellsq1 4))), ((a7 5), .inl (cI, 117, .inl (v_cellsq1 5)))] H → va_D A [(a0, .inr (0, [.ref a1, .int v_next_o, .int v_size_o])), (a1, .inl (cP, 6, .inr (.inr (.inr (.inr (fun i => some (a2 i))))))), ((a2 0), .inr (4, [.ref (a3 0)])), ((a2 1), .inr (4, [.ref (a3 1)])), ((a2 2), .inr (4, [.ref (a3 2)])), ((a2 3), .inr (4, [.ref (a3 3)])), ((a2 4), .inr (4, [.ref (a3 4)])), ((a2 5), .inr (4, [.ref (a3 5)])), ((a3 0), .inl (cI, 117, .inl (v_cells_o 0))), ((a3 1), .inl (cI, 117, .inl (v_cells_o 1))), ((a3 2), .inl (cI, 117, .inl (v_cells_o 2))), ((a3 3), .inl (cI, 117, .inl (v_cells_o 3))), ((a3 4), .inl (cI, 117, .inl (v_cells_o 4))), ((a3 5), .inl (cI, 117, .inl (v_cells_o 5))), (a4, .inr (0, [.ref a5, .int v_nextq1, .int v_sizeq1])), (a5, .inl (cP, 6, .inr (.inr (.inr (.inr (fun i => some (a6 i))))))), ((a6 0), .inr (4, [.ref (a7 0)])), ((a6 1), .inr (4, [.ref (a7 1)])), ((a6 2), .inr (4, [.ref (a7 2)])), ((a6 3), .inr (4, [.ref (a7 3)])), ((a6 4), .inr (4, [.ref (a7 4)])), ((a6 5), .inr (4, [.ref (a7 5)])), ((a7 0), .inl (cI, 117, .inl (v_cellsq1 0))), ((a7 1), .inl (cI, 117, .inl (v_cellsq1 1))), ((a7 2), .inl (cI, 117, .inl (v_cellsq1 2))), ((a7 3), .inl (cI, 117, .inl (v_cellsq1 3))), ((a7 4), .inl (cI, 117, .inl (v_cellsq1 4))), ((a7 5), .inl (cI, 117, .inl (v_cellsq1 5)))] → va_S A s.heap H locs → W p l e ({ frames := 2, cells := 0, slots := 0, locals := 61 } : Room) s m args below meth c H locs 0 0 Q (F0 m pc ls [])) → ∀ (H : Heap) (locs : List Loc) (ls : Array Slot), va_P (dC, dI) vwCl [(a0, .inr (0, [.ref a1, .int v_next, .int v_size])), (a1, .inl (cP, 6, .inr (.inr (.inr (.inr (fun i => some (a2 i))))))), ((a2 0), .inr (4, [.ref (a3 0)])), ((a2 1), .inr (4, [.ref (a3 1)])), ((a2 2), .inr (4, [.ref (a3 2)])), ((a2 3), .inr (4, [.ref (a3 3)])), ((a2 4), .inr (4, [.ref (a3 4)])), ((a2 5), .inr (4, [.ref (a3 5)])), ((a3 0), .inl (cI, 117, .inl (v_cells 0))), ((a3 1), .inl (cI, 117, .inl (v_cells 1))), ((a3 2), .inl (cI, 117, .inl (v_cells 2))), ((a3 3), .inl (cI, 117, .inl (v_cells 3))), ((a3 4), .inl (cI, 117, .inl (v_cells 4))), ((a3 5), .inl (cI, 117, .inl (v_cells 5))), (a4, .inr (0, [.ref a5, .int v_nextq1, .int v_sizeq1])), (a5, .inl (cP, 6, .inr (.inr (.inr (.inr (fun i => some (a6 i))))))), ((a6 0), .inr (4, [.ref (a7 0)])), ((a6 1), .inr (4, [.ref (a7 1)])), ((a6 2), .inr (4, [.ref (a7 2)])), ((a6 3), .inr (4, [.ref (a7 3)])), ((a6 4), .inr (4, [.ref (a7 4)])), ((a6 5), .inr (4, [.ref (a7 5)])), ((a7 0), .inl (cI, 117, .inl (v_cellsq1 0))), ((a7 1), .inl (cI, 117, .inl (v_cellsq1 1))), ((a7 2), .inl (cI, 117, .inl (v_cellsq1 2))), ((a7 3), .inl (cI, 117, .inl (v_cellsq1 3))), ((a7 4), .inl (cI, 117, .inl (v_cellsq1 4))), ((a7 5), .inl (cI, 117, .inl (v_cellsq1 5)))] H → va_D A [(a0, .inr (0, [.ref a1, .int v_next, .int v_size])), (a1, .inl (cP, 6, .inr (.inr (.inr (.inr (fun i => some (a2 i))))))), ((a2 0), .inr (4, [.ref (a3 0)])), ((a2 1), .inr (4, [.ref (a3 1)])), ((a2 2), .inr (4, [.ref (a3 2)])), ((a2 3), .inr (4, [.ref (a3 3)])), ((a2 4), .inr (4, [.ref (a3 4)])), ((a2 5), .inr (4, [.ref (a3 5)])), ((a3 0), .inl (cI, 117, .inl (v_cells 0))), ((a3 1), .inl (cI, 117, .inl (v_cells 1))), ((a3 2), .inl (cI, 117, .inl (v_cells 2))), ((a3 3), .inl (cI, 117, .inl (v_cells 3))), ((a3 4), .inl (cI, 117, .inl (v_cells 4))), ((a3 5), .inl (cI, 117, .inl (v_cells 5))), (a4, .inr (0, [.ref a5, .int v_nextq1, .int v_sizeq1])), (a5, .inl (cP, 6, .inr (.inr (.inr (.inr (fun i => some (a6 i))))))), ((a6 0), .inr (4, [.ref (a7 0)])), ((a6 1), .inr (4, [.ref (a7 1)])), ((a6 2), .inr (4, [.ref (a7 2)])), ((a6 3), .inr (4, [.ref (a7 3)])), ((a6 4), .inr (4, [.ref (a7 4)])), ((a6 5), .inr (4, [.ref (a7 5)])), ((a7 0), .inl (cI, 117, .inl (v_cellsq1 0))), ((a7 1), .inl (cI, 117, .inl (v_cellsq1 1))), ((a7 2), .inl (cI, 117, .inl (v_cellsq1 2))), ((a7 3), .inl (cI, 117, .inl (v_cellsq1 3))), ((a7 4), .inl (cI, 117, .inl (v_cellsq1 4))), ((a7 5), .inl (cI, 117, .inl (v_cellsq1 5)))] → va_S A s.heap H locs → lv_has ls 3 [(0, .ref a0), (1, .ref a4)] → W p l e ({ frames := 2, cells := 0, slots := 0, locals := 61 } : Room) s m args below meth c H locs 0 0 Q (F0 m 0 ls []) := by
    intro Q hret H locs ls hP hD hS hl
    refine lv_iconst (v := 0) hx hb dX0_takeOver_0 (by decide) ?_
    refine lv_istore_n (lv' := [(2, .int (0 : Int32)), (0, .ref a0), (1, .ref a4)]) hx hb dX0_takeOver_1 rfl hl (by decide) rfl (fun ls hl => ?_)
    have hL2 : ∀ (rr : Int32 × (Nat → Nat → Int32)), (∀ (z_7 : Int32) (z_8 : (Nat → Nat → Int32)), rr = (z_7, z_8) → ∀ (H : Heap) (locs : List Loc) (ls : Array Slot), va_P (dC, dI) vwCl [(a0, .inr (0, [.ref a1, .int v_next, .int v_size])), (a1, .inl (cP, 6, .inr (.inr (.inr (.inr (fun i => some (a2 i))))))), ((a2 0), .inr (4, [.ref (a3 0)])), ((a2 1), .inr (4, [.ref (a3 1)])), ((a2 2), .inr (4, [.ref (a3 2)])), ((a2 3), .inr (4, [.ref (a3 3)])), ((a2 4), .inr (4, [.ref (a3 4)])), ((a2 5), .inr (4, [.ref (a3 5)])), ((a3 0), .inl (cI, 117, .inl (z_8 0))), ((a3 1), .inl (cI, 117, .inl (z_8 1))), ((a3 2), .inl (cI, 117, .inl (z_8 2))), ((a3 3), .inl (cI, 117, .inl (z_8 3))), ((a3 4), .inl (cI, 117, .inl (z_8 4))), ((a3 5), .inl (cI, 117, .inl (z_8 5))), (a4, .inr (0, [.ref a5, .int v_nextq1, .int v_sizeq1])), (a5, .inl (cP, 6, .inr (.inr (.inr (.inr (fun i => some (a6 i))))))), ((a6 0), .inr (4, [.ref (a7 0)])), ((a6 1), .inr (4, [.ref (a7 1)])), ((a6 2), .inr (4, [.ref (a7 2)])), ((a6 3), .inr (4, [.ref (a7 3)])), ((a6 4), .inr (4, [.ref (a7 4)])), ((a6 5), .inr (4, [.ref (a7 5)])), ((a7 0), .inl (cI, 117, .inl (v_cellsq1 0))), ((a7 1), .inl (cI, 117, .inl (v_cellsq1 1))), ((a7 2), .inl (cI, 117, .inl (v_cellsq1 2))), ((a7 3), .inl (cI, 117, .inl (v_cellsq1 3))), ((a7 4), .inl (cI, 117, .inl (v_cellsq1 4))), ((a7 5), .inl (cI, 117, .inl (v_cellsq1 5)))] H → va_D A [(a0, .inr (0, [.ref a1, .int v_next, .int v_size])), (a1, .inl (cP, 6, .inr (.inr (.inr (.inr (fun i => some (a2 i))))))), ((a2 0), .inr (4, [.ref (a3 0)])), ((a2 1), .inr (4, [.ref (a3 1)])), ((a2 2), .inr (4, [.ref (a3 2)])), ((a2 3), .inr (4, [.ref (a3 3)])), ((a2 4), .inr (4, [.ref (a3 4)])), ((a2 5), .inr (4, [.ref (a3 5)])), ((a3 0), .inl (cI, 117, .inl (z_8 0))), ((a3 1), .inl (cI, 117, .inl (z_8 1))), ((a3 2), .inl (cI, 117, .inl (z_8 2))), ((a3 3), .inl (cI, 117, .inl (z_8 3))), ((a3 4), .inl (cI, 117, .inl (z_8 4))), ((a3 5), .inl (cI, 117, .inl (z_8 5))), (a4, .inr (0, [.ref a5, .int v_nextq1, .int v_sizeq1])), (a5, .inl (cP, 6, .inr (.inr (.inr (.inr (fun i => some (a6 i))))))), ((a6 0), .inr (4, [.ref (a7 0)])), ((a6 1), .inr (4, [.ref (a7 1)])), ((a6 2), .inr (4, [.ref (a7 2)])), ((a6 3), .inr (4, [.ref (a7 3)])), ((a6 4), .inr (4, [.ref (a7 4)])), ((a6 5), .inr (4, [.ref (a7 5)])), ((a7 0), .inl (cI, 117, .inl (v_cellsq1 0))), ((a7 1), .inl (cI, 117, .inl (v_cellsq1 1))), ((a7 2), .inl (cI, 117, .inl (v_cellsq1 2))), ((a7 3), .inl (cI, 117, .inl (v_cellsq1 3))), ((a7 4), .inl (cI, 117, .inl (v_cellsq1 4))), ((a7 5), .inl (cI, 117, .inl (v_cellsq1 5)))] → va_S A s.heap H locs → lv_has ls 3 [(0, .ref a0), (1, .ref a4)] → W p l e ({ frames := 2, cells := 0, slots := 0, locals := 61 } : Room) s m args below meth c H locs 0 0 Q (F0 m 29 ls [])) → ∀ (n : Nat) (i2_1 : Int32) (v_cells_2 : (Nat → Nat → Int32)), loopN (p_X0_takeOver_L2 v_cellsq1) n (i2_1, v_cells_2) = some rr → ∀ (H : Heap) (locs : List Loc) (ls : Array Slot), va_P (dC, dI) vwCl [(a0, .inr (0, [.ref a1, .int v_next, .int v_size])), (a1, .inl (cP, 6, .inr (.inr (.inr (.inr (fun i => some (a2 i))))))), ((a2 0), .inr (4, [.ref (a3 0)])), ((a2 1), .inr (4, [.ref (a3 1)])), ((a2 2), .inr (4, [.ref (a3 2)])), ((a2 3), .inr (4, [.ref (a3 3)])), ((a2 4), .inr (4, [.ref (a3 4)])), ((a2 5), .inr (4, [.ref (a3 5)])), ((a3 0), .inl (cI, 117, .inl (v_cells_2 0))), ((a3 1), .inl (cI, 117, .inl (v_cells_2 1))), ((a3 2), .inl (cI, 117, .inl (v_cells_2 2))), ((a3 3), .inl (cI, 117, .inl (v_cells_2 3))), ((a3 4), .inl (cI, 117, .inl (v_cells_2 4))), ((a3 5), .inl (cI, 117, .inl (v_cells_2 5))), (a4, .inr (0, [.ref a5, .int v_nextq1, .int v_sizeq1])), (a5, .inl (cP, 6, .inr (.inr (.inr (.inr (fun i => some (a6 i))))))), ((a6 0), .inr (4, [.ref (a7 0)])), ((a6 1), .inr (4, [.ref (a7 1)])), ((a6 2), .inr (4, [.ref (a7 2)])), ((a6 3), .inr (4, [.ref (a7 3)])), ((a6 4), .inr (4, [.ref (a7 4)])), ((a6 5), .inr (4, [.ref (a7 5)])), ((a7 0), .inl (cI, 117, .inl (v_cellsq1 0))), ((a7 1), .inl (cI, 117, .inl (v_cellsq1 1))), ((a7 2), .inl (cI, 117, .inl (v_cellsq1 2))), ((a7 3), .inl (cI, 117, .inl (v_cellsq1 3))), ((a7 4), .inl (cI, 117, .inl (v_cellsq1 4))), ((a7 5), .inl (cI, 117, .inl (v_cellsq1 5)))] H → va_D A [(a0, .inr (0, [.ref a1, .int v_next, .int v_size])), (a1, .inl (cP, 6, .inr (.inr (.inr (.inr (fun i => some (a2 i))))))), ((a2 0), .inr (4, [.ref (a3 0)])), ((a2 1), .inr (4, [.ref (a3 1)])), ((a2 2), .inr (4, [.ref (a3 2)])), ((a2 3), .inr (4, [.ref (a3 3)])), ((a2 4), .inr (4, [.ref (a3 4)])), ((a2 5), .inr (4, [.ref (a3 5)])), ((a3 0), .inl (cI, 117, .inl (v_cells_2 0))), ((a3 1), .inl (cI, 117, .inl (v_cells_2 1))), ((a3 2), .inl (cI, 117, .inl (v_cells_2 2))), ((a3 3), .inl (cI, 117, .inl (v_cells_2 3))), ((a3 4), .inl (cI, 117, .inl (v_cells_2 4))), ((a3 5), .inl (cI, 117, .inl (v_cells_2 5))), (a4, .inr (0, [.ref a5, .int v_nextq1, .int v_sizeq1])), (a5, .inl (cP, 6, .inr (.inr (.inr (.inr (fun i => some (a6 i))))))), ((a6 0), .inr (4, [.ref (a7 0)])), ((a6 1), .inr (4, [.ref (a7 1)])), ((a6 2), .inr (4, [.ref (a7 2)])), ((a6 3), .inr (4, [.ref (a7 3)])), ((a6 4), .inr (4, [.ref (a7 4)])), ((a6 5), .inr (4, [.ref (a7 5)])), ((a7 0), .inl (cI, 117, .inl (v_cellsq1 0))), ((a7 1), .inl (cI, 117, .inl (v_cellsq1 1))), ((a7 2), .inl (cI, 117, .inl (v_cellsq1 2))), ((a7 3), .inl (cI, 117, .inl (v_cellsq1 3))), ((a7 4), .inl (cI, 117, .inl (v_cellsq1 4))), ((a7 5), .inl (cI, 117, .inl (v_cellsq1 5)))] → va_S A s.heap H locs → lv_has ls 3 [(0, .ref a0), (1, .ref a4), (2, .int i2_1)] → W p l e ({ frames := 2, cells := 0, slots := 0, locals := 61 } : Room) s m args below meth c H locs 0 0 Q (F0 m 2 ls []) := by
      intro rr hk2 n
      induction n with
      | zero => intro i2_1 v_cells_2 hf; cases hf
      | succ n ih2 =>
        intro i2_1 v_cells_2 hf H locs ls hP hD hS hl
        obtain ⟨o2, hf, hi, he⟩ := loopN_el hf
        refine lv_iload_n hx hb dX0_takeOver_2 rfl (lv_at hl 2 rfl) ?_
        refine lv_bipush (v := 6) hx hb dX0_takeOver_3 (by decide) ?_
        refine lv_icmp_ge (tgt := 29) hx hb dX0_takeOver_5 (by decide) (fun c3 => ?_) (fun c3 => ?_)
        · replace hf := it_t c3 hf
          exact hk2 _ _ (he _ (Option.some.inj hf).symm).symm H locs ls hP hD hS (lv_sub hl [0, 1] rfl)
        · replace hf := it_f c3 hf
          refine lv_aload_n hx hb dX0_takeOver_8 rfl (lv_at hl 0 rfl) ?_
          refine va_get (D := (dC, dI)) (ci := 0) (v := .ref a1) (C := RX0) (T := TX0) (N := 3) hx hb hT in_X0 hown hK hP 0 rfl rfl 0 (by decide) (hT _ q_fl_X0_11) (fun _ h9 => h9) rfl dX0_takeOver_9 ?_
          refine lv_iload_n hx hb dX0_takeOver_12 rfl (lv_at hl 2 rfl) ?_
          obtain ⟨h4, hf⟩ := gd_el hf
          rcases in6 (ib_in h4) with ejh4 | ejh4 | ejh4 | ejh4 | ejh4 | ejh4
          · try rw [ejh4] at hf
            refine aa_ld hx hb hK hP 1 2 rfl rfl (ib_in h4) ejh4 dX0_takeOver_13 ?_
            refine lv_aload_n hx hb dX0_takeOver_14 rfl (lv_at hl 1 rfl) ?_
            refine va_get (D := (dC, dI)) (ci := 0) (v := .ref a5) (C := RX0) (T := TX0) (N := 3) hx hb hT in_X0 hown hK hP 14 rfl rfl 0 (by decide) (hT _ q_fl_X0_11) (fun _ h9 => h9) rfl dX0_takeOver_15 ?_
            refine lv_iload_n hx hb dX0_takeOver_18 rfl (lv_at hl 2 rfl) ?_
            refine aa_ld hx hb hK hP 15 2 rfl rfl (ib_in h4) ejh4 dX0_takeOver_19 ?_
            obtain ⟨v_cells_5, hq6, hf⟩ := bd1_el hf
            refine mc_V (As := [.ref (a6 0)]) (rest := []) (wr := [(a0, .inr (0, [.ref a1, .int v_next, .int v_size])), (a1, .inl (cP, 6, .inr (.inr (.inr (.inr (fun i => some (a2 i))))))), ((a2 1), .inr (4, [.ref (a3 1)])), ((a2 2), .inr (4, [.ref (a3 2)])), ((a2 3), .inr (4, [.ref (a3 3)])), ((a2 4), .inr (4, [.ref (a3 4)])), ((a2 5), .inr (4, [.ref (a3 5)])), ((a3 1), .inl (cI, 117, .inl ((va_up v_cells_2 0 v_cells_5) 1))), ((a3 2), .inl (cI, 117, .inl ((va_up v_cells_2 0 v_cells_5) 2))), ((a3 3), .inl (cI, 117, .inl ((va_up v_cells_2 0 v_cells_5) 3))), ((a3 4), .inl (cI, 117, .inl ((va_up v_cells_2 0 v_cells_5) 4))), ((a3 5), .inl (cI, 117, .inl ((va_up v_cells_2 0 v_cells_5) 5))), (a4, .inr (0, [.ref a5, .int v_nextq1, .int v_sizeq1])), (a5, .inl (cP, 6, .inr (.inr (.inr (.inr (fun i => some (a6 i))))))), ((a6 1), .inr (4, [.ref (a7 1)])), ((a6 2), .inr (4, [.ref (a7 2)])), ((a6 3), .inr (4, [.ref (a7 3)])), ((a6 4), .inr (4, [.ref (a7 4)])), ((a6 5), .inr (4, [.ref (a7 5)])), ((a7 1), .inl (cI, 117, .inl (v_cellsq1 1))), ((a7 2), .inl (cI, 117, .inl (v_cellsq1 2))), ((a7 3), .inl (cI, 117, .inl (v_cellsq1 3))), ((a7 4), .inl (cI, 117, .inl (v_cellsq1 4))), ((a7 5), .inl (cI, 117, .inl (v_cellsq1 5)))]) (wn := [(a0, .inr (0, [.ref a1, .int v_next, .int v_size])), (a1, .inl (cP, 6, .inr (.inr (.inr (.inr (fun i => some (a2 i))))))), ((a2 0), .inr (4, [.ref (a3 0)])), ((a2 1), .inr (4, [.ref (a3 1)])), ((a2 2), .inr (4, [.ref (a3 2)])), ((a2 3), .inr (4, [.ref (a3 3)])), ((a2 4), .inr (4, [.ref (a3 4)])), ((a2 5), .inr (4, [.ref (a3 5)])), ((a3 0), .inl (cI, 117, .inl ((va_up v_cells_2 0 v_cells_5) 0))), ((a3 1), .inl (cI, 117, .inl ((va_up v_cells_2 0 v_cells_5) 1))), ((a3 2), .inl (cI, 117, .inl ((va_up v_cells_2 0 v_cells_5) 2))), ((a3 3), .inl (cI, 117, .inl ((va_up v_cells_2 0 v_cells_5) 3))), ((a3 4), .inl (cI, 117, .inl ((va_up v_cells_2 0 v_cells_5) 4))), ((a3 5), .inl (cI, 117, .inl ((va_up v_cells_2 0 v_cells_5) 5))), (a4, .inr (0, [.ref a5, .int v_nextq1, .int v_sizeq1])), (a5, .inl (cP, 6, .inr (.inr (.inr (.inr (fun i => some (a6 i))))))), ((a6 0), .inr (4, [.ref (a7 0)])), ((a6 1), .inr (4, [.ref (a7 1)])), ((a6 2), .inr (4, [.ref (a7 2)])), ((a6 3), .inr (4, [.ref (a7 3)])), ((a6 4), .inr (4, [.ref (a7 4)])), ((a6 5), .inr (4, [.ref (a7 5)])), ((a7 0), .inl (cI, 117, .inl (v_cellsq1 0))), ((a7 1), .inl (cI, 117, .inl (v_cellsq1 1))), ((a7 2), .inl (cI, 117, .inl (v_cellsq1 2))), ((a7 3), .inl (cI, 117, .inl (v_cellsq1 3))), ((a7 4), .inl (cI, 117, .inl (v_cellsq1 4))), ((a7 5), .inl (cI, 117, .inl (v_cellsq1 5)))]) ⟨hx, hb, hml, hown, hT⟩ (c_X4_takeOver l dC dI cI cJ cP cS (a2 0) (a3 0) (a6 0) (a7 0) (v_cells_2 0) (v_cellsq1 0) v_cells_5 hq6) (cwV 1 hT (gdV q_ml_X0_25 q_im_X4_takeOver q_se_X4_takeOver q_in_X4 q_co_X4_takeOver) rfl rfl rfl hd_X4_takeOver ⟨Nat.le_of_ble_eq_true rfl, Nat.le_of_ble_eq_true rfl⟩) hK hF hP hD hS hA 2 rfl rfl rfl [2, 8, 16, 22] [0, 1, 3, 4, 5, 6, 7, 9, 10, 11, 12, 13, 14, 15, 17, 18, 19, 20, 21, 23, 24, 25, 26, 27] [0, 1, 24, 2, 3, 4, 5, 6, 25, 7, 8, 9, 10, 11, 12, 13, 26, 14, 15, 16, 17, 18, 27, 19, 20, 21, 22, 23] rfl (by decide) rfl (by decide) (by decide) rfl (by decide) rfl hl.1 rfl (Nat.le_of_ble_eq_true rfl) dX0_takeOver_20 ⟨Nat.zero_le _, Nat.zero_le _⟩ (fun H locs hP hD hS => ?_)
            refine W.eq (g2 := F0 m 23 ls []) rfl ?_
            refine lv_iinc (v := (i2_1 + (1 : Int32))) (lv' := [(2, .int (i2_1 + (1 : Int32))), (0, .ref a0), (1, .ref a4)]) hx hb dX0_takeOver_23 hl (k := 2) rfl rfl (by decide) rfl (fun ls hl => ?_)
            refine lv_goto (tgt := 2) hx hb dX0_takeOver_26 (by decide) ?_
            exact ih2 (i2_1 + (1 : Int32)) (va_up v_cells_2 0 v_cells_5) (hi _ (Option.some.inj hf).symm) H locs ls hP hD hS (lv_sub hl [1, 2, 0] rfl)
          · try rw [ejh4] at hf
            refine aa_ld hx hb hK hP 1 2 rfl rfl (ib_in h4) ejh4 dX0_takeOver_13 ?_
            refine lv_aload_n hx hb dX0_takeOver_14 rfl (lv_at hl 1 rfl) ?_
            refine va_get (D := (dC, dI)) (ci := 0) (v := .ref a5) (C := RX0) (T := TX0) (N := 3) hx hb hT in_X0 hown hK hP 14 rfl rfl 0 (by decide) (hT _ q_fl_X0_11) (fun _ h9 => h9) rfl dX0_takeOver_15 ?_
            refine lv_iload_n hx hb dX0_takeOver_18 rfl (lv_at hl 2 rfl) ?_
            refine aa_ld hx hb hK hP 15 2 rfl rfl (ib_in h4) ejh4 dX0_takeOver_19 ?_
            obtain ⟨v_cells_5, hq6, hf⟩ := bd1_el hf
            refine mc_V (As := [.ref (a6 1)]) (rest := []) (wr := [(a0, .inr (0, [.ref a1, .int v_next, .int v_size])), (a1, .inl (cP, 6, .inr (.inr (.inr (.inr (fun i => some (a2 i))))))), ((a2 0), .inr (4, [.ref (a3 0)])), ((a2 2), .inr (4, [.ref (a3 2)])), ((a2 3), .inr (4, [.ref (a3 3)])), ((a2 4), .inr (4, [.ref (a3 4)])), ((a2 5), .inr (4, [.ref (a3 5)])), ((a3 0), .inl (cI, 117, .inl ((va_up v_cells_2 1 v_cells_5) 0))), ((a3 2), .inl (cI, 117, .inl ((va_up v_cells_2 1 v_cells_5) 2))), ((a3 3), .inl (cI, 117, .inl ((va_up v_cells_2 1 v_cells_5) 3))), ((a3 4), .inl (cI, 117, .inl ((va_up v_cells_2 1 v_cells_5) 4))), ((a3 5), .inl (cI, 117, .inl ((va_up v_cells_2 1 v_cells_5) 5))), (a4, .inr (0, [.ref a5, .int v_nextq1, .int v_sizeq1])), (a5, .inl (cP, 6, .inr (.inr (.inr (.inr (fun i => some (a6 i))))))), ((a6 0), .inr (4, [.ref (a7 0)])), ((a6 2), .inr (4, [.ref (a7 2)])), ((a6 3), .inr (4, [.ref (a7 3)])), ((a6 4), .inr (4, [.ref (a7 4)])), ((a6 5), .inr (4, [.ref (a7 5)])), ((a7 0), .inl (cI, 117, .inl (v_cellsq1 0))), ((a7 2), .inl (cI, 117, .inl (v_cellsq1 2))), ((a7 3), .inl (cI, 117, .inl (v_cellsq1 3))), ((a7 4), .inl (cI, 117, .inl (v_cellsq1 4))), ((a7 5), .inl (cI, 117, .inl (v_cellsq1 5)))]) (wn := [(a0, .inr (0, [.ref a1, .int v_next, .int v_size])), (a1, .inl (cP, 6, .inr (.inr (.inr (.inr (fun i => some (a2 i))))))), ((a2 0), .inr (4, [.ref (a3 0)])), ((a2 1), .inr (4, [.ref (a3 1)])), ((a2 2), .inr (4, [.ref (a3 2)])), ((a2 3), .inr (4, [.ref (a3 3)])), ((a2 4), .inr (4, [.ref (a3 4)])), ((a2 5), .inr (4, [.ref (a3 5)])), ((a3 0), .inl (cI, 117, .inl ((va_up v_cells_2 1 v_cells_5) 0))), ((a3 1), .inl (cI, 117, .inl ((va_up v_cells_2 1 v_cells_5) 1))), ((a3 2), .inl (cI, 117, .inl ((va_up v_cells_2 1 v_cells_5) 2))), ((a3 3), .inl (cI, 117, .inl ((va_up v_cells_2 1 v_cells_5) 3))), ((a3 4), .inl (cI, 117, .inl ((va_up v_cells_2 1 v_cells_5) 4))), ((a3 5), .inl (cI, 117, .inl ((va_up v_cells_2 1 v_cells_5) 5))), (a4, .inr (0, [.ref a5, .int v_nextq1, .int v_sizeq1])), (a5, .inl (cP, 6, .inr (.inr (.inr (.inr (fun i => some (a6 i))))))), ((a6 0), .inr (4, [.ref (a7 0)])), ((a6 1), .inr (4, [.ref (a7 1)])), ((a6 2), .inr (4, [.ref (a7 2)])), ((a6 3), .inr (4, [.ref (a7 3)])), ((a6 4), .inr (4, [.ref (a7 4)])), ((a6 5), .inr (4, [.ref (a7 5)])), ((a7 0), .inl (cI, 117, .inl (v_cellsq1 0))), ((a7 1), .inl (cI, 117, .inl (v_cellsq1 1))), ((a7 2), .inl (cI, 117, .inl (v_cellsq1 2))), ((a7 3), .inl (cI, 117, .inl (v_cellsq1 3))), ((a7 4), .inl (cI, 117, .inl (v_cellsq1 4))), ((a7 5), .inl (cI, 117, .inl (v_cellsq1 5)))]) ⟨hx, hb, hml, hown, hT⟩ (c_X4_takeOver l dC dI cI cJ cP cS (a2 1) (a3 1) (a6 1) (a7 1) (v_cells_2 1) (v_cellsq1 1) v_cells_5 hq6) (cwV 1 hT (gdV q_ml_X0_25 q_im_X4_takeOver q_se_X4_takeOver q_in_X4 q_co_X4_takeOver) rfl rfl rfl hd_X4_takeOver ⟨Nat.le_of_ble_eq_true rfl, Nat.le_of_ble_eq_true rfl⟩) hK hF hP hD hS hA 3 rfl rfl rfl [3, 9, 17, 23] [0, 1, 2, 4, 5, 6, 7, 8, 10, 11, 12, 13, 14, 15, 16, 18, 19, 20, 21, 22, 24, 25, 26, 27] [0, 1, 2, 24, 3, 4, 5, 6, 7, 25, 8, 9, 10, 11, 12, 13, 14, 26, 15, 16, 17, 18, 19, 27, 20, 21, 22, 23] rfl (by decide) rfl (by decide) (by decide) rfl (by decide) rfl hl.1 rfl (Nat.le_of_ble_eq_true rfl) dX0_takeOver_20 ⟨Nat.zero_le _, Nat.zero_le _⟩ (fun H locs hP hD hS => ?_)
            refine W.eq (g2 := F0 m 23 ls []) rfl ?_
            refine lv_iinc (v := (i2_1 + (1 : Int32))) (lv' := [(2, .int (i2_1 + (1 : Int32))), (0, .ref a0), (1, .ref a4)]) hx hb dX0_takeOver_23 hl (k := 2) rfl rfl (by decide) rfl (fun ls hl => ?_)
            refine lv_goto (tgt := 2) hx hb dX0_takeOver_26 (by decide) ?_
            exact ih2 (i2_1 + (1 : Int32)) (va_up v_cells_2 1 v_cells_5) (hi _ (Option.some.inj hf).symm) H locs ls hP hD hS (lv_sub hl [1, 2, 0] rfl)
          · try rw [ejh4] at hf
            refine aa_ld hx hb hK hP 1 2 rfl rfl (ib_in h4) ejh4 dX0_takeOver_13 ?_
            refine lv_aload_n hx hb dX0_takeOver_14 rfl (lv_at hl 1 rfl) ?_
            refine va_get (D := (dC, dI)) (ci := 0) (v := .ref a5) (C := RX0) (T := TX0) (N := 3) hx hb hT in_X0 hown hK hP 14 rfl rfl 0 (by decide) (hT _ q_fl_X0_11) (fun _ h9 => h9) rfl dX0_takeOver_15 ?_
            refine lv_iload_n hx hb dX0_takeOver_18 rfl (lv_at hl 2 rfl) ?_
            refine aa_ld hx hb hK hP 15 2 rfl rfl (ib_in h4) ejh4 dX0_takeOver_19 ?_
            obtain ⟨v_cells_5, hq6, hf⟩ := bd1_el hf
            refine mc_V (As := [.ref (a6 2)]) (rest := []) (wr := [(a0, .inr (0, [.ref a1, .int v_next, .int v_size])), (a1, .inl (cP, 6, .inr (.inr (.inr (.inr (fun i => some (a2 i))))))), ((a2 0), .inr (4, [.ref (a3 0)])), ((a2 1), .inr (4, [.ref (a3 1)])), ((a2 3), .inr (4, [.ref (a3 3)])), ((a2 4), .inr (4, [.ref (a3 4)])), ((a2 5), .inr (4, [.ref (a3 5)])), ((a3 0), .inl (cI, 117, .inl ((va_up v_cells_2 2 v_cells_5) 0))), ((a3 1), .inl (cI, 117, .inl ((va_up v_cells_2 2 v_cells_5) 1))), ((a3 3), .inl (cI, 117, .inl ((va_up v_cells_2 2 v_cells_5) 3))), ((a3 4), .inl (cI, 117, .inl ((va_up v_cells_2 2 v_cells_5) 4))), ((a3 5), .inl (cI, 117, .inl ((va_up v_cells_2 2 v_cells_5) 5))), (a4, .inr (0, [.ref a5, .int v_nextq1, .int v_sizeq1])), (a5, .inl (cP, 6, .inr (.inr (.inr (.inr (fun i => some (a6 i))))))), ((a6 0), .inr (4, [.ref (a7 0)])), ((a6 1), .inr (4, [.ref (a7 1)])), ((a6 3), .inr (4, [.ref (a7 3)])), ((a6 4), .inr (4, [.ref (a7 4)])), ((a6 5), .inr (4, [.ref (a7 5)])), ((a7 0), .inl (cI, 117, .inl (v_cellsq1 0))), ((a7 1), .inl (cI, 117, .inl (v_cellsq1 1))), ((a7 3), .inl (cI, 117, .inl (v_cellsq1 3))), ((a7 4), .inl (cI, 117, .inl (v_cellsq1 4))), ((a7 5), .inl (cI, 117, .inl (v_cellsq1 5)))]) (wn := [(a0, .inr (0, [.ref a1, .int v_next, .int v_size])), (a1, .inl (cP, 6, .inr (.inr (.inr (.inr (fun i => some (a2 i))))))), ((a2 0), .inr (4, [.ref (a3 0)])), ((a2 1), .inr (4, [.ref (a3 1)])), ((a2 2), .inr (4, [.ref (a3 2)])), ((a2 3), .inr (4, [.ref (a3 3)])), ((a2 4), .inr (4, [.ref (a3 4)])), ((a2 5), .inr (4, [.ref (a3 5)])), ((a3 0), .inl (cI, 117, .inl ((va_up v_cells_2 2 v_cells_5) 0))), ((a3 1), .inl (cI, 117, .inl ((va_up v_cells_2 2 v_cells_5) 1))), ((a3 2), .inl (cI, 117, .inl ((va_up v_cells_2 2 v_cells_5) 2))), ((a3 3), .inl (cI, 117, .inl ((va_up v_cells_2 2 v_cells_5) 3))), ((a3 4), .inl (cI, 117, .inl ((va_up v_cells_2 2 v_cells_5) 4))), ((a3 5), .inl (cI, 117, .inl ((va_up v_cells_2 2 v_cells_5) 5))), (a4, .inr (0, [.ref a5, .int v_nextq1, .int v_sizeq1])), (a5, .inl (cP, 6, .inr (.inr (.inr (.inr (fun i => some (a6 i))))))), ((a6 0), .inr (4, [.ref (a7 0)])), ((a6 1), .inr (4, [.ref (a7 1)])), ((a6 2), .inr (4, [.ref (a7 2)])), ((a6 3), .inr (4, [.ref (a7 3)])), ((a6 4), .inr (4, [.ref (a7 4)])), ((a6 5), .inr (4, [.ref (a7 5)])), ((a7 0), .inl (cI, 117, .inl (v_cellsq1 0))), ((a7 1), .inl (cI, 117, .inl (v_cellsq1 1))), ((a7 2), .inl (cI, 117, .inl (v_cellsq1 2))), ((a7 3), .inl (cI, 117, .inl (v_cellsq1 3))), ((a7 4), .inl (cI, 117, .inl (v_cellsq1 4))), ((a7 5), .inl (cI, 117, .inl (v_cellsq1 5)))]) ⟨hx, hb, hml, hown, hT⟩ (c_X4_takeOver l dC dI cI cJ cP cS (a2 2) (a3 2) (a6 2) (a7 2) (v_cells_2 2) (v_cellsq1 2) v_cells_5 hq6) (cwV 1 hT (gdV q_ml_X0_25 q_im_X4_takeOver q_se_X4_takeOver q_in_X4 q_co_X4_takeOver) rfl rfl rfl hd_X4_takeOver ⟨Nat.le_of_ble_eq_true rfl, Nat.le_of_ble_eq_true rfl⟩) hK hF hP hD hS hA 4 rfl rfl rfl [4, 10, 18, 24] [0, 1, 2, 3, 5, 6, 7, 8, 9, 11, 12, 13, 14, 15, 16, 17, 19, 20, 21, 22, 23, 25, 26, 27] [0, 1, 2, 3, 24, 4, 5, 6, 7, 8, 25, 9, 10, 11, 12, 13, 14, 15, 26, 16, 17, 18, 19, 20, 27, 21, 22, 23] rfl (by decide) rfl (by decide) (by decide) rfl (by decide) rfl hl.1 rfl (Nat.le_of_ble_eq_true rfl) dX0_takeOver_20 ⟨Nat.zero_le _, Nat.zero_le _⟩ (fun H locs hP hD hS => ?_)
            refine W.eq (g2 := F0 m 23 ls []) rfl ?_
            refine lv_iinc (v := (i2_1 + (1 : Int32))) (lv' := [(2, .int (i2_1 + (1 : Int32))), (0, .ref a0), (1, .ref a4)]) hx hb dX0_takeOver_23 hl (k := 2) rfl rfl (by decide) rfl (fun ls hl => ?_)
            refine lv_goto (tgt := 2) hx hb dX0_takeOver_26 (by decide) ?_
            exact ih2 (i2_1 + (1 : Int32)) (va_up v_cells_2 2 v_cells_5) (hi _ (Option.some.inj hf).symm) H locs ls hP hD hS (lv_sub hl [1, 2, 0] rfl)
          · try rw [ejh4] at hf
            refine aa_ld hx hb hK hP 1 2 rfl rfl (ib_in h4) ejh4 dX0_takeOver_13 ?_
            refine lv_aload_n hx hb dX0_takeOver_14 rfl (lv_at hl 1 rfl) ?_
            refine va_get (D := (dC, dI)) (ci := 0) (v := .ref a5) (C := RX0) (T := TX0) (N := 3) hx hb hT in_X0 hown hK hP 14 rfl rfl 0 (by decide) (hT _ q_fl_X0_11) (fun _ h9 => h9) rfl dX0_takeOver_15 ?_
            refine lv_iload_n hx hb dX0_takeOver_18 rfl (lv_at hl 2 rfl) ?_
            refine aa_ld hx hb hK hP 15 2 rfl rfl (ib_in h4) ejh4 dX0_takeOver_19 ?_
            obtain ⟨v_cells_5, hq6, hf⟩ := bd1_el hf
            refine mc_V (As := [.ref (a6 3)]) (rest := []) (wr := [(a0, .inr (0, [.ref a1, .int v_next, .int v_size])), (a1, .inl (cP, 6, .inr (.inr (.inr (.inr (fun i => some (a2 i))))))), ((a2 0), .inr (4, [.ref (a3 0)])), ((a2 1), .inr (4, [.ref (a3 1)])), ((a2 2), .inr (4, [.ref (a3 2)])), ((a2 4), .inr (4, [.ref (a3 4)])), ((a2 5), .inr (4, [.ref (a3 5)])), ((a3 0), .inl (cI, 117, .inl ((va_up v_cells_2 3 v_cells_5) 0))), ((a3 1), .inl (cI, 117, .inl ((va_up v_cells_2 3 v_cells_5) 1))), ((a3 2), .inl (cI, 117, .inl ((va_up v_cells_2 3 v_cells_5) 2))), ((a3 4), .inl (cI, 117, .inl ((va_up v_cells_2 3 v_cells_5) 4))), ((a3 5), .inl (cI, 117, .inl ((va_up v_cells_2 3 v_cells_5) 5))), (a4, .inr (0, [.ref a5, .int v_nextq1, .int v_sizeq1])), (a5, .inl (cP, 6, .inr (.inr (.inr (.inr (fun i => some (a6 i))))))), ((a6 0), .inr (4, [.ref (a7 0)])), ((a6 1), .inr (4, [.ref (a7 1)])), ((a6 2), .inr (4, [.ref (a7 2)])), ((a6 4), .inr (4, [.ref (a7 4)])), ((a6 5), .inr (4, [.ref (a7 5)])), ((a7 0), .inl (cI, 117, .inl (v_cellsq1 0))), ((a7 1), .inl (cI, 117, .inl (v_cellsq1 1))), ((a7 2), .inl (cI, 117, .inl (v_cellsq1 2))), ((a7 4), .inl (cI, 117, .inl (v_cellsq1 4))), ((a7 5), .inl (cI, 117, .inl (v_cellsq1 5)))]) (wn := [(a0, .inr (0, [.ref a1, .int v_next, .int v_size])), (a1, .inl (cP, 6, .inr (.inr (.inr (.inr (fun i => some (a2 i))))))), ((a2 0), .inr (4, [.ref (a3 0)])), ((a2 1), .inr (4, [.ref (a3 1)])), ((a2 2), .inr (4, [.ref (a3 2)])), ((a2 3), .inr (4, [.ref (a3 3)])), ((a2 4), .inr (4, [.ref (a3 4)])), ((a2 5), .inr (4, [.ref (a3 5)])), ((a3 0), .inl (cI, 117, .inl ((va_up v_cells_2 3 v_cells_5) 0))), ((a3 1), .inl (cI, 117, .inl ((va_up v_cells_2 3 v_cells_5) 1))), ((a3 2), .inl (cI, 117, .inl ((va_up v_cells_2 3 v_cells_5) 2))), ((a3 3), .inl (cI, 117, .inl ((va_up v_cells_2 3 v_cells_5) 3))), ((a3 4), .inl (cI, 117, .inl ((va_up v_cells_2 3 v_cells_5) 4))), ((a3 5), .inl (cI, 117, .inl ((va_up v_cells_2 3 v_cells_5) 5))), (a4, .inr (0, [.ref a5, .int v_nextq1, .int v_sizeq1])), (a5, .inl (cP, 6, .inr (.inr (.inr (.inr (fun i => some (a6 i))))))), ((a6 0), .inr (4, [.ref (a7 0)])), ((a6 1), .inr (4, [.ref (a7 1)])), ((a6 2), .inr (4, [.ref (a7 2)])), ((a6 3), .inr (4, [.ref (a7 3)])), ((a6 4), .inr (4, [.ref (a7 4)])), ((a6 5), .inr (4, [.ref (a7 5)])), ((a7 0), .inl (cI, 117, .inl (v_cellsq1 0))), ((a7 1), .inl (cI, 117, .inl (v_cellsq1 1))), ((a7 2), .inl (cI, 117, .inl (v_cellsq1 2))), ((a7 3), .inl (cI, 117, .inl (v_cellsq1 3))), ((a7 4), .inl (cI, 117, .inl (v_cellsq1 4))), ((a7 5), .inl (cI, 117, .inl (v_cellsq1 5)))]) ⟨hx, hb, hml, hown, hT⟩ (c_X4_takeOver l dC dI cI cJ cP cS (a2 3) (a3 3) (a6 3) (a7 3) (v_cells_2 3) (v_cellsq1 3) v_cells_5 hq6) (cwV 1 hT (gdV q_ml_X0_25 q_im_X4_takeOver q_se_X4_takeOver q_in_X4 q_co_X4_takeOver) rfl rfl rfl hd_X4_takeOver ⟨Nat.le_of_ble_eq_true rfl, Nat.le_of_ble_eq_true rfl⟩) hK hF hP hD hS hA 5 rfl rfl rfl [5, 11, 19, 25] [0, 1, 2, 3, 4, 6, 7, 8, 9, 10, 12, 13, 14, 15, 16, 17, 18, 20, 21, 22, 23, 24, 26, 27] [0, 1, 2, 3, 4, 24, 5, 6, 7, 8, 9, 25, 10, 11, 12, 13, 14, 15, 16, 26, 17, 18, 19, 20, 21, 27, 22, 23] rfl (by decide) rfl (by decide) (by decide) rfl (by decide) rfl hl.1 rfl (Nat.le_of_ble_eq_true rfl) dX0_takeOver_20 ⟨Nat.zero_le _, Nat.zero_le _⟩ (fun H locs hP hD hS => ?_)
            refine W.eq (g2 := F0 m 23 ls []) rfl ?_
            refine lv_iinc (v := (i2_1 + (1 : Int32))) (lv' := [(2, .int (i2_1 + (1 : Int32))), (0, .ref a0), (1, .ref a4)]) hx hb dX0_takeOver_23 hl (k := 2) rfl rfl (by decide) rfl (fun ls hl => ?_)
            refine lv_goto (tgt := 2) hx hb dX0_takeOver_26 (by decide) ?_
            exact ih2 (i2_1 + (1 : Int32)) (va_up v_cells_2 3 v_cells_5) (hi _ (Option.some.inj hf).symm) H locs ls hP hD hS (lv_sub hl [1, 2, 0] rfl)
          · try rw [ejh4] at hf
            refine aa_ld hx hb hK hP 1 2 rfl rfl (ib_in h4) ejh4 dX0_takeOver_13 ?_
            refine lv_aload_n hx hb dX0_takeOver_14 rfl (lv_at hl 1 rfl) ?_
            refine va_get (D := (dC, dI)) (ci := 0) (v := .ref a5) (C := RX0) (T := TX0) (N := 3) hx hb hT in_X0 hown hK hP 14 rfl rfl 0 (by decide) (hT _ q_fl_X0_11) (fun _ h9 => h9) rfl dX0_takeOver_15 ?_
            refine lv_iload_n hx hb dX0_takeOver_18 rfl (lv_at hl 2 rfl) ?_
            refine aa_ld hx hb hK hP 15 2 rfl rfl (ib_in h4) ejh4 dX0_takeOver_19 ?_
            obtain ⟨v_cells_5, hq6, hf⟩ := bd1_el hf
            refine mc_V (As := [.ref (a6 4)]) (rest := []) (wr := [(a0, .inr (0, [.ref a1, .int v_next, .int v_size])), (a1, .inl (cP, 6, .inr (.inr (.inr (.inr (fun i => some (a2 i))))))), ((a2 0), .inr (4, [.ref (a3 0)])), ((a2 1), .inr (4, [.ref (a3 1)])), ((a2 2), .inr (4, [.ref (a3 2)])), ((a2 3), .inr (4, [.ref (a3 3)])), ((a2 5), .inr (4, [.ref (a3 5)])), ((a3 0), .inl (cI, 117, .inl ((va_up v_cells_2 4 v_cells_5) 0))), ((a3 1), .inl (cI, 117, .inl ((va_up v_cells_2 4 v_cells_5) 1))), ((a3 2), .inl (cI, 117, .inl ((va_up v_cells_2 4 v_cells_5) 2))), ((a3 3), .inl (cI, 117, .inl ((va_up v_cells_2 4 v_cells_5) 3))), ((a3 5), .inl (cI, 117, .inl ((va_up v_cells_2 4 v_cells_5) 5))), (a4, .inr (0, [.ref a5, .int v_nextq1, .int v_sizeq1])), (a5, .inl (cP, 6, .inr (.inr (.inr (.inr (fun i => some (a6 i))))))), ((a6 0), .inr (4, [.ref (a7 0)])), ((a6 1), .inr (4, [.ref (a7 1)])), ((a6 2), .inr (4, [.ref (a7 2)])), ((a6 3), .inr (4, [.ref (a7 3)])), ((a6 5), .inr (4, [.ref (a7 5)])), ((a7 0), .inl (cI, 117, .inl (v_cellsq1 0))), ((a7 1), .inl (cI, 117, .inl (v_cellsq1 1))), ((a7 2), .inl (cI, 117, .inl (v_cellsq1 2))), ((a7 3), .inl (cI, 117, .inl (v_cellsq1 3))), ((a7 5), .inl (cI, 117, .inl (v_cellsq1 5)))]) (wn := [(a0, .inr (0, [.ref a1, .int v_next, .int v_size])), (a1, .inl (cP, 6, .inr (.inr (.inr (.inr (fun i => some (a2 i))))))), ((a2 0), .inr (4, [.ref (a3 0)])), ((a2 1), .inr (4, [.ref (a3 1)])), ((a2 2), .inr (4, [.ref (a3 2)])), ((a2 3), .inr (4, [.ref (a3 3)])), ((a2 4), .inr (4, [.ref (a3 4)])), ((a2 5), .inr (4, [.ref (a3 5)])), ((a3 0), .inl (cI, 117, .inl ((va_up v_cells_2 4 v_cells_5) 0))), ((a3 1), .inl (cI, 117, .inl ((va_up v_cells_2 4 v_cells_5) 1))), ((a3 2), .inl (cI, 117, .inl ((va_up v_cells_2 4 v_cells_5) 2))), ((a3 3), .inl (cI, 117, .inl ((va_up v_cells_2 4 v_cells_5) 3))), ((a3 4), .inl (cI, 117, .inl ((va_up v_cells_2 4 v_cells_5) 4))), ((a3 5), .inl (cI, 117, .inl ((va_up v_cells_2 4 v_cells_5) 5))), (a4, .inr (0, [.ref a5, .int v_nextq1, .int v_sizeq1])), (a5, .inl (cP, 6, .inr (.inr (.inr (.inr (fun i => some (a6 i))))))), ((a6 0), .inr (4, [.ref (a7 0)])), ((a6 1), .inr (4, [.ref (a7 1)])), ((a6 2), .inr (4, [.ref (a7 2)])), ((a6 3), .inr (4, [.ref (a7 3)])), ((a6 4), .inr (4, [.ref (a7 4)])), ((a6 5), .inr (4, [.ref (a7 5)])), ((a7 0), .inl (cI, 117, .inl (v_cellsq1 0))), ((a7 1), .inl (cI, 117, .inl (v_cellsq1 1))), ((a7 2), .inl (cI, 117, .inl (v_cellsq1 2))), ((a7 3), .inl (cI, 117, .inl (v_cellsq1 3))), ((a7 4), .inl (cI, 117, .inl (v_cellsq1 4))), ((a7 5), .inl (cI, 117, .inl (v_cellsq1 5)))]) ⟨hx, hb, hml, hown, hT⟩ (c_X4_takeOver l dC dI cI cJ cP cS (a2 4) (a3 4) (a6 4) (a7 4) (v_cells_2 4) (v_cellsq1 4) v_cells_5 hq6) (cwV 1 hT (gdV q_ml_X0_25 q_im_X4_takeOver q_se_X4_takeOver q_in_X4 q_co_X4_takeOver) rfl rfl rfl hd_X4_takeOver ⟨Nat.le_of_ble_eq_true rfl, Nat.le_of_ble_eq_true rfl⟩) hK hF hP hD hS hA 6 rfl rfl rfl [6, 12, 20, 26] [0, 1, 2, 3, 4, 5, 7, 8, 9, 10, 11, 13, 14, 15, 16, 17, 18, 19, 21, 22, 23, 24, 25, 27] [0, 1, 2, 3, 4, 5, 24, 6, 7, 8, 9, 10, 25, 11, 12, 13, 14, 15, 16, 17, 26, 18, 19, 20, 21, 22, 27, 23] rfl (by decide) rfl (by decide) (by decide) rfl (by decide) rfl hl.1 rfl (Nat.le_of_ble_eq_true rfl) dX0_takeOver_20 ⟨Nat.zero_le _, Nat.zero_le _⟩ (fun H locs hP hD hS => ?_)
            refine W.eq (g2 := F0 m 23 ls []) rfl ?_
            refine lv_iinc (v := (i2_1 + (1 : Int32))) (lv' := [(2, .int (i2_1 + (1 : Int32))), (0, .ref a0), (1, .ref a4)]) hx hb dX0_takeOver_23 hl (k := 2) rfl rfl (by decide) rfl (fun ls hl => ?_)
            refine lv_goto (tgt := 2) hx hb dX0_takeOver_26 (by decide) ?_
            exact ih2 (i2_1 + (1 : Int32)) (va_up v_cells_2 4 v_cells_5) (hi _ (Option.some.inj hf).symm) H locs ls hP hD hS (lv_sub hl [1, 2, 0] rfl)
          · try rw [ejh4] at hf
            refine aa_ld hx hb hK hP 1 2 rfl rfl (ib_in h4) ejh4 dX0_takeOver_13 ?_
            refine lv_aload_n hx hb dX0_takeOver_14 rfl (lv_at hl 1 rfl) ?_
            refine va_get (D := (dC, dI)) (ci := 0) (v := .ref a5) (C := RX0) (T := TX0) (N := 3) hx hb hT in_X0 hown hK hP 14 rfl rfl 0 (by decide) (hT _ q_fl_X0_11) (fun _ h9 => h9) rfl dX0_takeOver_15 ?_
            refine lv_iload_n hx hb dX0_takeOver_18 rfl (lv_at hl 2 rfl) ?_
            refine aa_ld hx hb hK hP 15 2 rfl rfl (ib_in h4) ejh4 dX0_takeOver_19 ?_
            obtain ⟨v_cells_5, hq6, hf⟩ := bd1_el hf
            refine mc_V (As := [.ref (a6 5)]) (rest := []) (wr := [(a0, .inr (0, [.ref a1, .int v_next, .int v_size])), (a1, .inl (cP, 6, .inr (.inr (.inr (.inr (fun i => some (a2 i))))))), ((a2 0), .inr (4, [.ref (a3 0)])), ((a2 1), .inr (4, [.ref (a3 1)])), ((a2 2), .inr (4, [.ref (a3 2)])), ((a2 3), .inr (4, [.ref (a3 3)])), ((a2 4), .inr (4, [.ref (a3 4)])), ((a3 0), .inl (cI, 117, .inl ((va_up v_cells_2 5 v_cells_5) 0))), ((a3 1), .inl (cI, 117, .inl ((va_up v_cells_2 5 v_cells_5) 1))), ((a3 2), .inl (cI, 117, .inl ((va_up v_cells_2 5 v_cells_5) 2))), ((a3 3), .inl (cI, 117, .inl ((va_up v_cells_2 5 v_cells_5) 3))), ((a3 4), .inl (cI, 117, .inl ((va_up v_cells_2 5 v_cells_5) 4))), (a4, .inr (0, [.ref a5, .int v_nextq1, .int v_sizeq1])), (a5, .inl (cP, 6, .inr (.inr (.inr (.inr (fun i => some (a6 i))))))), ((a6 0), .inr (4, [.ref (a7 0)])), ((a6 1), .inr (4, [.ref (a7 1)])), ((a6 2), .inr (4, [.ref (a7 2)])), ((a6 3), .inr (4, [.ref (a7 3)])), ((a6 4), .inr (4, [.ref (a7 4)])), ((a7 0), .inl (cI, 117, .inl (v_cellsq1 0))), ((a7 1), .inl (cI, 117, .inl (v_cellsq1 1))), ((a7 2), .inl (cI, 117, .inl (v_cellsq1 2))), ((a7 3), .inl (cI, 117, .inl (v_cellsq1 3))), ((a7 4), .inl (cI, 117, .inl (v_cellsq1 4)))]) (wn := [(a0, .inr (0, [.ref a1, .int v_next, .int v_size])), (a1, .inl (cP, 6, .inr (.inr (.inr (.inr (fun i => some (a2 i))))))), ((a2 0), .inr (4, [.ref (a3 0)])), ((a2 1), .inr (4, [.ref (a3 1)])), ((a2 2), .inr (4, [.ref (a3 2)])), ((a2 3), .inr (4, [.ref (a3 3)])), ((a2 4), .inr (4, [.ref (a3 4)])), ((a2 5), .inr (4, [.ref (a3 5)])), ((a3 0), .inl (cI, 117, .inl ((va_up v_cells_2 5 v_cells_5) 0))), ((a3 1), .inl (cI, 117, .inl ((va_up v_cells_2 5 v_cells_5) 1))), ((a3 2), .inl (cI, 117, .inl ((va_up v_cells_2 5 v_cells_5) 2))), ((a3 3), .inl (cI, 117, .inl ((va_up v_cells_2 5 v_cells_5) 3))), ((a3 4), .inl (cI, 117, .inl ((va_up v_cells_2 5 v_cells_5) 4))), ((a3 5), .inl (cI, 117, .inl ((va_up v_cells_2 5 v_cells_5) 5))), (a4, .inr (0, [.ref a5, .int v_nextq1, .int v_sizeq1])), (a5, .inl (cP, 6, .inr (.inr (.inr (.inr (fun i => some (a6 i))))))), ((a6 0), .inr (4, [.ref (a7 0)])), ((a6 1), .inr (4, [.ref (a7 1)])), ((a6 2), .inr (4, [.ref (a7 2)])), ((a6 3), .inr (4, [.ref (a7 3)])), ((a6 4), .inr (4, [.ref (a7 4)])), ((a6 5), .inr (4, [.ref (a7 5)])), ((a7 0), .inl (cI, 117, .inl (v_cellsq1 0))), ((a7 1), .inl (cI, 117, .inl (v_cellsq1 1))), ((a7 2), .inl (cI, 117, .inl (v_cellsq1 2))), ((a7 3), .inl (cI, 117, .inl (v_cellsq1 3))), ((a7 4), .inl (cI, 117, .inl (v_cellsq1 4))), ((a7 5), .inl (cI, 117, .inl (v_cellsq1 5)))]) ⟨hx, hb, hml, hown, hT⟩ (c_X4_takeOver l dC dI cI cJ cP cS (a2 5) (a3 5) (a6 5) (a7 5) (v_cells_2 5) (v_cellsq1 5) v_cells_5 hq6) (cwV 1 hT (gdV q_ml_X0_25 q_im_X4_takeOver q_se_X4_takeOver q_in_X4 q_co_X4_takeOver) rfl rfl rfl hd_X4_takeOver ⟨Nat.le_of_ble_eq_true rfl, Nat.le_of_ble_eq_true rfl⟩) hK hF hP hD hS hA 7 rfl rfl rfl [7, 13, 21, 27] [0, 1, 2, 3, 4, 5, 6, 8, 9, 10, 11, 12, 14, 15, 16, 17, 18, 19, 20, 22, 23, 24, 25, 26] [0, 1, 2, 3, 4, 5, 6, 24, 7, 8, 9, 10, 11, 25, 12, 13, 14, 15, 16, 17, 18, 26, 19, 20, 21, 22, 23, 27] rfl (by decide) rfl (by decide) (by decide) rfl (by decide) rfl hl.1 rfl (Nat.le_of_ble_eq_true rfl) dX0_takeOver_20 ⟨Nat.zero_le _, Nat.zero_le _⟩ (fun H locs hP hD hS => ?_)
            refine W.eq (g2 := F0 m 23 ls []) rfl ?_
            refine lv_iinc (v := (i2_1 + (1 : Int32))) (lv' := [(2, .int (i2_1 + (1 : Int32))), (0, .ref a0), (1, .ref a4)]) hx hb dX0_takeOver_23 hl (k := 2) rfl rfl (by decide) rfl (fun ls hl => ?_)
            refine lv_goto (tgt := 2) hx hb dX0_takeOver_26 (by decide) ?_
            exact ih2 (i2_1 + (1 : Int32)) (va_up v_cells_2 5 v_cells_5) (hi _ (Option.some.inj hf).symm) H locs ls hP hD hS (lv_sub hl [1, 2, 0] rfl)
    obtain ⟨f2_9, v_cells_10, hq, hf⟩ := bd2_el hf
    refine hL2 (f2_9, v_cells_10) (fun z_7 z_8 h9 H locs ls hP hD hS hl => ?_) fuel (0 : Int32) v_cells hq H locs ls hP hD hS (lv_sub hl [1, 2, 0] rfl)
    simp only [Prod.mk.injEq] at h9
    obtain ⟨h9_0, h9_1⟩ := h9
    subst h9_0; subst h9_1
    refine lv_aload_n hx hb dX0_takeOver_29 rfl (lv_at hl 0 rfl) ?_
    refine lv_aload_n hx hb dX0_takeOver_30 rfl (lv_at hl 1 rfl) ?_
    refine va_get (D := (dC, dI)) (ci := 0) (v := .int v_nextq1) (C := RX0) (T := TX0) (N := 3) hx hb hT in_X0 hown hK hP 14 rfl rfl 1 (by decide) (hT _ q_fl_X0_17) (fun _ h9 => h9) rfl dX0_takeOver_31 ?_
    refine va_put (D := (dC, dI)) (ci := 0) (v := .int v_nextq1) (ty := .int) (C := RX0) (T := TX0) (N := 3) hx hb hT in_X0 tyX0 tyX0_ok nmX0 hown hK hP hD hS 0 rfl rfl 1 (by decide) (hT _ q_fl_X0_17) (fun _ h9 => h9) rfl (tyX0_ok 1 (by decide)) rfl rfl (Nat.le_of_ble_eq_true rfl) dX0_takeOver_34 (fun H locs hP hD hS => ?_)
    have hP : va_P (dC, dI) vwCl [(a0, .inr (0, [.ref a1, .int v_nextq1, .int v_size])), (a1, .inl (cP, 6, .inr (.inr (.inr (.inr (fun i => some (a2 i))))))), ((a2 0), .inr (4, [.ref (a3 0)])), ((a2 1), .inr (4, [.ref (a3 1)])), ((a2 2), .inr (4, [.ref (a3 2)])), ((a2 3), .inr (4, [.ref (a3 3)])), ((a2 4), .inr (4, [.ref (a3 4)])), ((a2 5), .inr (4, [.ref (a3 5)])), ((a3 0), .inl (cI, 117, .inl (v_cells_10 0))), ((a3 1), .inl (cI, 117, .inl (v_cells_10 1))), ((a3 2), .inl (cI, 117, .inl (v_cells_10 2))), ((a3 3), .inl (cI, 117, .inl (v_cells_10 3))), ((a3 4), .inl (cI, 117, .inl (v_cells_10 4))), ((a3 5), .inl (cI, 117, .inl (v_cells_10 5))), (a4, .inr (0, [.ref a5, .int v_nextq1, .int v_sizeq1])), (a5, .inl (cP, 6, .inr (.inr (.inr (.inr (fun i => some (a6 i))))))), ((a6 0), .inr (4, [.ref (a7 0)])), ((a6 1), .inr (4, [.ref (a7 1)])), ((a6 2), .inr (4, [.ref (a7 2)])), ((a6 3), .inr (4, [.ref (a7 3)])), ((a6 4), .inr (4, [.ref (a7 4)])), ((a6 5), .inr (4, [.ref (a7 5)])), ((a7 0), .inl (cI, 117, .inl (v_cellsq1 0))), ((a7 1), .inl (cI, 117, .inl (v_cellsq1 1))), ((a7 2), .inl (cI, 117, .inl (v_cellsq1 2))), ((a7 3), .inl (cI, 117, .inl (v_cellsq1 3))), ((a7 4), .inl (cI, 117, .inl (v_cellsq1 4))), ((a7 5), .inl (cI, 117, .inl (v_cellsq1 5)))] H := hP
    have hD : va_D A [(a0, .inr (0, [.ref a1, .int v_nextq1, .int v_size])), (a1, .inl (cP, 6, .inr (.inr (.inr (.inr (fun i => some (a2 i))))))), ((a2 0), .inr (4, [.ref (a3 0)])), ((a2 1), .inr (4, [.ref (a3 1)])), ((a2 2), .inr (4, [.ref (a3 2)])), ((a2 3), .inr (4, [.ref (a3 3)])), ((a2 4), .inr (4, [.ref (a3 4)])), ((a2 5), .inr (4, [.ref (a3 5)])), ((a3 0), .inl (cI, 117, .inl (v_cells_10 0))), ((a3 1), .inl (cI, 117, .inl (v_cells_10 1))), ((a3 2), .inl (cI, 117, .inl (v_cells_10 2))), ((a3 3), .inl (cI, 117, .inl (v_cells_10 3))), ((a3 4), .inl (cI, 117, .inl (v_cells_10 4))), ((a3 5), .inl (cI, 117, .inl (v_cells_10 5))), (a4, .inr (0, [.ref a5, .int v_nextq1, .int v_sizeq1])), (a5, .inl (cP, 6, .inr (.inr (.inr (.inr (fun i => some (a6 i))))))), ((a6 0), .inr (4, [.ref (a7 0)])), ((a6 1), .inr (4, [.ref (a7 1)])), ((a6 2), .inr (4, [.ref (a7 2)])), ((a6 3), .inr (4, [.ref (a7 3)])), ((a6 4), .inr (4, [.ref (a7 4)])), ((a6 5), .inr (4, [.ref (a7 5)])), ((a7 0), .inl (cI, 117, .inl (v_cellsq1 0))), ((a7 1), .inl (cI, 117, .inl (v_cellsq1 1))), ((a7 2), .inl (cI, 117, .inl (v_cellsq1 2))), ((a7 3), .inl (cI, 117, .inl (v_cellsq1 3))), ((a7 4), .inl (cI, 117, .inl (v_cellsq1 4))), ((a7 5), .inl (cI, 117, .inl (v_cellsq1 5)))] := hD
    refine lv_aload_n hx hb dX0_takeOver_37 rfl (lv_at hl 0 rfl) ?_
    refine lv_aload_n hx hb dX0_takeOver_38 rfl (lv_at hl 1 rfl) ?_
    refine va_get (D := (dC, dI)) (ci := 0) (v := .int v_sizeq1) (C := RX0) (T := TX0) (N := 3) hx hb hT in_X0 hown hK hP 14 rfl rfl 2 (by decide) (hT _ q_fl_X0_21) (fun _ h9 => h9) rfl dX0_takeOver_39 ?_
    refine va_put (D := (dC, dI)) (ci := 0) (v := .int v_sizeq1) (ty := .int) (C := RX0) (T := TX0) (N := 3) hx hb hT in_X0 tyX0 tyX0_ok nmX0 hown hK hP hD hS 0 rfl rfl 2 (by decide) (hT _ q_fl_X0_21) (fun _ h9 => h9) rfl (tyX0_ok 2 (by decide)) rfl rfl (Nat.le_of_ble_eq_true rfl) dX0_takeOver_42 (fun H locs hP hD hS => ?_)
    have hP : va_P (dC, dI) vwCl [(a0, .inr (0, [.ref a1, .int v_nextq1, .int v_sizeq1])), (a1, .inl (cP, 6, .inr (.inr (.inr (.inr (fun i => some (a2 i))))))), ((a2 0), .inr (4, [.ref (a3 0)])), ((a2 1), .inr (4, [.ref (a3 1)])), ((a2 2), .inr (4, [.ref (a3 2)])), ((a2 3), .inr (4, [.ref (a3 3)])), ((a2 4), .inr (4, [.ref (a3 4)])), ((a2 5), .inr (4, [.ref (a3 5)])), ((a3 0), .inl (cI, 117, .inl (v_cells_10 0))), ((a3 1), .inl (cI, 117, .inl (v_cells_10 1))), ((a3 2), .inl (cI, 117, .inl (v_cells_10 2))), ((a3 3), .inl (cI, 117, .inl (v_cells_10 3))), ((a3 4), .inl (cI, 117, .inl (v_cells_10 4))), ((a3 5), .inl (cI, 117, .inl (v_cells_10 5))), (a4, .inr (0, [.ref a5, .int v_nextq1, .int v_sizeq1])), (a5, .inl (cP, 6, .inr (.inr (.inr (.inr (fun i => some (a6 i))))))), ((a6 0), .inr (4, [.ref (a7 0)])), ((a6 1), .inr (4, [.ref (a7 1)])), ((a6 2), .inr (4, [.ref (a7 2)])), ((a6 3), .inr (4, [.ref (a7 3)])), ((a6 4), .inr (4, [.ref (a7 4)])), ((a6 5), .inr (4, [.ref (a7 5)])), ((a7 0), .inl (cI, 117, .inl (v_cellsq1 0))), ((a7 1), .inl (cI, 117, .inl (v_cellsq1 1))), ((a7 2), .inl (cI, 117, .inl (v_cellsq1 2))), ((a7 3), .inl (cI, 117, .inl (v_cellsq1 3))), ((a7 4), .inl (cI, 117, .inl (v_cellsq1 4))), ((a7 5), .inl (cI, 117, .inl (v_cellsq1 5)))] H := hP
    have hD : va_D A [(a0, .inr (0, [.ref a1, .int v_nextq1, .int v_sizeq1])), (a1, .inl (cP, 6, .inr (.inr (.inr (.inr (fun i => some (a2 i))))))), ((a2 0), .inr (4, [.ref (a3 0)])), ((a2 1), .inr (4, [.ref (a3 1)])), ((a2 2), .inr (4, [.ref (a3 2)])), ((a2 3), .inr (4, [.ref (a3 3)])), ((a2 4), .inr (4, [.ref (a3 4)])), ((a2 5), .inr (4, [.ref (a3 5)])), ((a3 0), .inl (cI, 117, .inl (v_cells_10 0))), ((a3 1), .inl (cI, 117, .inl (v_cells_10 1))), ((a3 2), .inl (cI, 117, .inl (v_cells_10 2))), ((a3 3), .inl (cI, 117, .inl (v_cells_10 3))), ((a3 4), .inl (cI, 117, .inl (v_cells_10 4))), ((a3 5), .inl (cI, 117, .inl (v_cells_10 5))), (a4, .inr (0, [.ref a5, .int v_nextq1, .int v_sizeq1])), (a5, .inl (cP, 6, .inr (.inr (.inr (.inr (fun i => some (a6 i))))))), ((a6 0), .inr (4, [.ref (a7 0)])), ((a6 1), .inr (4, [.ref (a7 1)])), ((a6 2), .inr (4, [.ref (a7 2)])), ((a6 3), .inr (4, [.ref (a7 3)])), ((a6 4), .inr (4, [.ref (a7 4)])), ((a6 5), .inr (4, [.ref (a7 5)])), ((a7 0), .inl (cI, 117, .inl (v_cellsq1 0))), ((a7 1), .inl (cI, 117, .inl (v_cellsq1 1))), ((a7 2), .inl (cI, 117, .inl (v_cellsq1 2))), ((a7 3), .inl (cI, 117, .inl (v_cellsq1 3))), ((a7 4), .inl (cI, 117, .inl (v_cellsq1 4))), ((a7 5), .inl (cI, 117, .inl (v_cellsq1 5)))] := hD
    replace hf := Option.some.inj hf
    simp only [Prod.mk.injEq] at hf
    obtain ⟨hf0, hf1, hf2⟩ := hf
    subst hf0; subst hf1; subst hf2
    exact hret H locs ls _ dX0_takeOver_45 hP hD hS
  refine key _ ?_ _ _ _ hP hD hS hl
  intro H locs ls pc d hP hD hS
  exact W.vret hx hb hr (fun t ht hW => ⟨⟨rfl, by rw [ht]; exact hP, hD⟩, hS.F ht⟩) hS.2.2 d
def p_X1_beginningOf (v_indentation : Int32) (v_cells : (Nat → Int32)) (x2 : Int32) : Option (Int32) :=
  (if x2 = (0 : Int32) then (some v_indentation) else (bd1 (p_X4_setting v_cells (2 : Int32)) fun r_2 => (some (v_indentation + r_2))))
set_option maxHeartbeats 4000000 in
set_option maxRecDepth 100000 in
theorem c_X1_beginningOf (l : Launch) (dC : Nat → ClassId) (dI : Nat → Nat → Nat) (cI cJ cP cS : ClassId) (a0 : Nat) (a1 : Nat) (a2 : Nat) (a3 : Nat) (a4 : Nat) (a5 : Nat) (a6 : Nat) (a7 : Nat) (v_indentation : Int32) (v_number : Int32) (v_cost : Int32) (v_rows : Int32) (v_cells : (Nat → Int32))  (x2 : Int32) (rv : Int32)  (hf : p_X1_beginningOf v_indentation v_cells x2 = some rv) : MC l (dC, dI) (tyl cI cJ cP cS) yX1_beginningOf (Cond.code yX1_beginningOf cX1_beginningOf 3 (some .int) :: TBG) ({ frames := 1, cells := 0, slots := 0, locals := 21 } : Room) [.ref a0, .ref a6, .int x2] [(a0, .inr (1, [.ref a1, .ref a2, .ref a3, .ref a4, .ref a5, .int v_indentation, .int v_number, .int v_cost, .int v_rows])), (a6, .inr (4, [.ref a7])), (a7, .inl (cI, 117, .inl v_cells))] [(a0, .inr (1, [.ref a1, .ref a2, .ref a3, .ref a4, .ref a5, .int v_indentation, .int v_number, .int v_cost, .int v_rows])), (a6, .inr (4, [.ref a7])), (a7, .inl (cI, 117, .inl v_cells))] (some (.int rv)) := by
  intro sz
  unfold MPost
  refine Met.ofW (cc := cX1_beginningOf) (maxL := 3) (ret := (some .int)) (by decide) rfl ?_
  intro p e s m args below meth c s₁ B hml hv
  obtain ⟨rfl, hsz, hP, hK, hD0, hF⟩ := hv
  have hx := B.exec
  have hb := B.bytes
  have hr := B.returns
  have hT : ∀ w ∈ TBG, w.before _ s = true := fun w h => atoms_spec B.pre w (List.mem_cons_of_mem _ h)
  have hown : s.vm.findClass RX1 = some m.cls := findClass_of_methodNamed B.named
  have hlocks := B.notSynchronized
  subst hsz
  have hD := hD0.self (sz := s.heap.size)
  generalize hAe : va_A [(a0, .inr (1, [.ref a1, .ref a2, .ref a3, .ref a4, .ref a5, .int v_indentation, .int v_number, .int v_cost, .int v_rows])), (a6, .inr (4, [.ref a7])), (a7, .inl (cI, 117, .inl v_cells))] s.heap.size = A at hD hF ⊢
  have hA : ∀ q : Nat, s.heap.size ≤ q → A q := fun q h => by rw [← hAe]; exact Or.inr h
  have hS : va_S A s.heap s.heap [] := va_S.rf
  have hl := lv_entry ([.ref a0, .ref a6, .int x2]) (n := 3) (Nat.le_of_ble_eq_true rfl)
  rw [lg_entry_eq]
  generalize (lg_sl ([.ref a0, .ref a6, .int x2]) ++ List.replicate (3 - (lg_sl ([.ref a0, .ref a6, .int x2])).length) Slot.unset).toArray = ls at hl ⊢
  have hl : lv_has ls 3 [(0, .ref a0), (1, .ref a6), (2, .int x2)] := hl
  generalize ([.ref a0, .ref a6, .int x2] : List Value).toArray = args at hT ⊢
  have key : ∀ (Q : State → Prop), (∀ (H : Heap) (locs : List Loc) (ls : Array Slot) (pc : Nat), decode cX1_beginningOf pc = .ok (.ireturn, 1) → va_P (dC, dI) vwCl [(a0, .inr (1, [.ref a1, .ref a2, .ref a3, .ref a4, .ref a5, .int v_indentation, .int v_number, .int v_cost, .int v_rows])), (a6, .inr (4, [.ref a7])), (a7, .inl (cI, 117, .inl v_cells))] H → va_D A [(a0, .inr (1, [.ref a1, .ref a2, .ref a3, .ref a4, .ref a5, .int v_indentation, .int v_number, .int v_cost, .int v_rows])), (a6, .inr (4, [.ref a7])), (a7, .inl (cI, 117, .inl v_cells))] → va_S A s.heap H locs → W p l e ({ frames := 1, cells := 0, slots := 0, locals := 21 } : Room) s m args below meth c H locs 0 0 Q (F0 m pc ls [.int rv])) → ∀ (H : Heap) (locs : List Loc) (ls : Array Slot), va_P (dC, dI) vwCl [(a0, .inr (1, [.ref a1, .ref a2, .ref a3, .ref a4, .ref a5, .int v_indentation, .int v_number, .int v_cost, .int v_rows])), (a6, .inr (4, [.ref a7])), (a7, .inl (cI, 117, .inl v_cells))] H → va_D A [(a0, .inr (1, [.ref a1, .ref a2, .ref a3, .ref a4, .ref a5, .int v_indentation, .int v_number, .int v_cost, .int v_rows])), (a6, .inr (4, [.ref a7])), (a7, .inl (cI, 117, .inl v_cells))] → va_S A s.heap H locs → lv_has ls 3 [(0, .ref a0), (1, .ref a6), (2, .int x2)] → W p l e ({ frames := 1, cells := 0, slots := 0, locals := 21 } : Room) s m args below meth c H locs 0 0 Q (F0 m 0 ls []) := by
    intro Q hret H locs ls hP hD hS hl
    refine lv_iload_n hx hb dX1_beginningOf_0 rfl (lv_at hl 2 rfl) ?_
    refine lv_if_ne (tgt := 11) hx hb dX1_beginningOf_1 (by decide) (fun c1 => ?_) (fun c1 => ?_)
    · replace hf := it_f c1 hf
      refine lv_aload_n hx hb dX1_beginningOf_11 rfl (lv_at hl 0 rfl) ?_
      refine va_get (D := (dC, dI)) (ci := 1) (v := .int v_indentation) (C := RX1) (T := TX1) (N := 9) hx hb hT in_X1 hown hK hP 0 rfl rfl 5 (by decide) (hT _ q_fl_X1_36) (fun _ h9 => h9) rfl dX1_beginningOf_12 ?_
      refine lv_aload_n hx hb dX1_beginningOf_15 rfl (lv_at hl 1 rfl) ?_
      refine lv_iconst (v := 2) hx hb dX1_beginningOf_16 (by decide) ?_
      obtain ⟨r_2, hq3, hf⟩ := bd1_el hf
      refine mc_V (As := [.int (2 : Int32)]) (rest := [.int v_indentation]) (wr := [(a0, .inr (1, [.ref a1, .ref a2, .ref a3, .ref a4, .ref a5, .int v_indentation, .int v_number, .int v_cost, .int v_rows]))]) (wn := [(a0, .inr (1, [.ref a1, .ref a2, .ref a3, .ref a4, .ref a5, .int v_indentation, .int v_number, .int v_cost, .int v_rows])), (a6, .inr (4, [.ref a7])), (a7, .inl (cI, 117, .inl v_cells))]) ⟨hx, hb, hml, hown, hT⟩ (c_X4_setting l dC dI cI cJ cP cS a6 a7 v_cells (2 : Int32) r_2 hq3) (cwV 1 hT (gdV q_ml_X1_65 q_im_X4_setting q_se_X4_setting q_in_X4 q_co_X4_setting) rfl rfl rfl hd_X4_setting ⟨Nat.le_of_ble_eq_true rfl, Nat.le_of_ble_eq_true rfl⟩) hK hF hP hD hS hA 1 rfl rfl rfl [1, 2] [0] [0, 1, 2] rfl (by decide) rfl (by decide) (by decide) rfl (by decide) rfl hl.1 rfl (Nat.le_of_ble_eq_true rfl) dX1_beginningOf_17 ⟨Nat.zero_le _, Nat.zero_le _⟩ (fun H locs hP hD hS => ?_)
      refine W.eq (g2 := F0 m 20 ls [.int r_2, .int v_indentation]) rfl ?_
      refine lv_iadd hx hb dX1_beginningOf_20 ?_
      replace hf := Option.some.inj hf
      subst hf
      exact hret H locs ls _ dX1_beginningOf_21 hP hD hS
    · replace hf := it_t c1 hf
      refine lv_aload_n hx hb dX1_beginningOf_4 rfl (lv_at hl 0 rfl) ?_
      refine va_get (D := (dC, dI)) (ci := 1) (v := .int v_indentation) (C := RX1) (T := TX1) (N := 9) hx hb hT in_X1 hown hK hP 0 rfl rfl 5 (by decide) (hT _ q_fl_X1_36) (fun _ h9 => h9) rfl dX1_beginningOf_5 ?_
      refine lv_goto (tgt := 21) hx hb dX1_beginningOf_8 (by decide) ?_
      replace hf := Option.some.inj hf
      subst hf
      exact hret H locs ls _ dX1_beginningOf_21 hP hD hS
  refine key _ ?_ _ _ _ hP hD hS hl
  intro H locs ls pc d hP hD hS
  exact W.iret (v := rv) hx hb hr (fun t ht hW => ⟨⟨rfl, by rw [ht]; exact hP, hD⟩, hS.F ht⟩) hS.2.2 d
def p_X1_rowCost (v_cells : (Nat → Int32)) (x1 : Int32) (x2 : Int32) : Option (Int32) :=
  (bd1 (p_X4_setting v_cells (0 : Int32)) fun r_1 => (nm (r_1 - x2) fun x3_3 => (bd1 (p_X4_setting v_cells (5 : Int32)) fun r_4 => (if r_4 = (1 : Int32) then (some ((10 : Int32) + (((3 : Int32) - x1) * ((3 : Int32) - x1)))) else (if r_4 = (2 : Int32) then (some (x3_3 * x3_3)) else (some (1 : Int32)))))))
set_option maxHeartbeats 4000000 in
set_option maxRecDepth 100000 in
theorem c_X1_rowCost (l : Launch) (dC : Nat → ClassId) (dI : Nat → Nat → Nat) (cI cJ cP cS : ClassId) (a0 : Nat) (a1 : Nat) (v_cells : (Nat → Int32))  (x1 : Int32) (x2 : Int32) (rv : Int32)  (hf : p_X1_rowCost v_cells x1 x2 = some rv) : MC l (dC, dI) (tyl cI cJ cP cS) yX1_rowCost (Cond.code yX1_rowCost cX1_rowCost 4 (some .int) :: TBG) ({ frames := 1, cells := 0, slots := 0, locals := 21 } : Room) [.ref a0, .int x1, .int x2] [(a0, .inr (4, [.ref a1])), (a1, .inl (cI, 117, .inl v_cells))] [(a0, .inr (4, [.ref a1])), (a1, .inl (cI, 117, .inl v_cells))] (some (.int rv)) := by
  intro sz
  unfold MPost
  refine Met.ofW (cc := cX1_rowCost) (maxL := 4) (ret := (some .int)) (by decide) rfl ?_
  intro p e s m args below meth c s₁ B hml hv
  obtain ⟨rfl, hsz, hP, hK, hD0, hF⟩ := hv
  have hx := B.exec
  have hb := B.bytes
  have hr := B.returns
  have hT : ∀ w ∈ TBG, w.before _ s = true := fun w h => atoms_spec B.pre w (List.mem_cons_of_mem _ h)
  have hown : s.vm.findClass RX1 = some m.cls := findClass_of_methodNamed B.named
  have hlocks := B.notSynchronized
  subst hsz
  have hD := hD0.self (sz := s.heap.size)
  generalize hAe : va_A [(a0, .inr (4, [.ref a1])), (a1, .inl (cI, 117, .inl v_cells))] s.heap.size = A at hD hF ⊢
  have hA : ∀ q : Nat, s.heap.size ≤ q → A q := fun q h => by rw [← hAe]; exact Or.inr h
  have hS : va_S A s.heap s.heap [] := va_S.rf
  have hl := lv_entry ([.ref a0, .int x1, .int x2]) (n := 4) (Nat.le_of_ble_eq_true rfl)
  rw [lg_entry_eq]
  generalize (lg_sl ([.ref a0, .int x1, .int x2]) ++ List.replicate (4 - (lg_sl ([.ref a0, .int x1, .int x2])).length) Slot.unset).toArray = ls at hl ⊢
  have hl : lv_has ls 4 [(0, .ref a0), (1, .int x1), (2, .int x2)] := hl
  generalize ([.ref a0, .int x1, .int x2] : List Value).toArray = args at hT ⊢
  have key : ∀ (Q : State → Prop), (∀ (H : Heap) (locs : List Loc) (ls : Array Slot) (pc : Nat), decode cX1_rowCost pc = .ok (.ireturn, 1) → va_P (dC, dI) vwCl [(a0, .inr (4, [.ref a1])), (a1, .inl (cI, 117, .inl v_cells))] H → va_D A [(a0, .inr (4, [.ref a1])), (a1, .inl (cI, 117, .inl v_cells))] → va_S A s.heap H locs → W p l e ({ frames := 1, cells := 0, slots := 0, locals := 21 } : Room) s m args below meth c H locs 0 0 Q (F0 m pc ls [.int rv])) → ∀ (H : Heap) (locs : List Loc) (ls : Array Slot), va_P (dC, dI) vwCl [(a0, .inr (4, [.ref a1])), (a1, .inl (cI, 117, .inl v_cells))] H → va_D A [(a0, .inr (4, [.ref a1])), (a1, .inl (cI, 117, .inl v_cells))] → va_S A s.heap H locs → lv_has ls 4 [(0, .ref a0), (1, .int x1), (2, .int x2)] → W p l e ({ frames := 1, cells := 0, slots := 0, locals := 21 } : Room) s m args below meth c H locs 0 0 Q (F0 m 0 ls []) := by
    intro Q hret H locs ls hP hD hS hl
    refine lv_aload_n hx hb dX1_rowCost_0 rfl (lv_at hl 0 rfl) ?_
    refine lv_iconst (v := 0) hx hb dX1_rowCost_1 (by decide) ?_
    obtain ⟨r_1, hq2, hf⟩ := bd1_el hf
    refine mc_V (As := [.int (0 : Int32)]) (rest := []) (wr := []) (wn := [(a0, .inr (4, [.ref a1])), (a1, .inl (cI, 117, .inl v_cells))]) ⟨hx, hb, hml, hown, hT⟩ (c_X4_setting l dC dI cI cJ cP cS a0 a1 v_cells (0 : Int32) r_1 hq2) (cwV 1 hT (gdV q_ml_X1_65 q_im_X4_setting q_se_X4_setting q_in_X4 q_co_X4_setting) rfl rfl rfl hd_X4_setting ⟨Nat.le_of_ble_eq_true rfl, Nat.le_of_ble_eq_true rfl⟩) hK hF hP hD hS hA 0 rfl rfl rfl [0, 1] [] [0, 1] rfl (by decide) rfl (by decide) (by decide) rfl (by decide) rfl hl.1 rfl (Nat.le_of_ble_eq_true rfl) dX1_rowCost_2 ⟨Nat.zero_le _, Nat.zero_le _⟩ (fun H locs hP hD hS => ?_)
    refine W.eq (g2 := F0 m 5 ls [.int r_1]) rfl ?_
    refine lv_iload_n hx hb dX1_rowCost_5 rfl (lv_at hl 2 rfl) ?_
    refine lv_isub hx hb dX1_rowCost_6 ?_
    obtain ⟨x3_3, ex3_3, hf⟩ := nm_el hf
    refine lv_as (congrArg Value.int ex3_3) ?_
    refine lv_istore_n (lv' := [(3, .int x3_3), (0, .ref a0), (1, .int x1), (2, .int x2)]) hx hb dX1_rowCost_7 rfl hl (by decide) rfl (fun ls hl => ?_)
    refine lv_aload_n hx hb dX1_rowCost_8 rfl (lv_at hl 1 rfl) ?_
    refine lv_iconst (v := 5) hx hb dX1_rowCost_9 (by decide) ?_
    obtain ⟨r_4, hq5, hf⟩ := bd1_el hf
    refine mc_V (As := [.int (5 : Int32)]) (rest := []) (wr := []) (wn := [(a0, .inr (4, [.ref a1])), (a1, .inl (cI, 117, .inl v_cells))]) ⟨hx, hb, hml, hown, hT⟩ (c_X4_setting l dC dI cI cJ cP cS a0 a1 v_cells (5 : Int32) r_4 hq5) (cwV 1 hT (gdV q_ml_X1_65 q_im_X4_setting q_se_X4_setting q_in_X4 q_co_X4_setting) rfl rfl rfl hd_X4_setting ⟨Nat.le_of_ble_eq_true rfl, Nat.le_of_ble_eq_true rfl⟩) hK hF hP hD hS hA 0 rfl rfl rfl [0, 1] [] [0, 1] rfl (by decide) rfl (by decide) (by decide) rfl (by decide) rfl hl.1 rfl (Nat.le_of_ble_eq_true rfl) dX1_rowCost_10 ⟨Nat.zero_le _, Nat.zero_le _⟩ (fun H locs hP hD hS => ?_)
    refine W.eq (g2 := F0 m 13 ls [.int r_4]) rfl ?_
    by_cases c6 : r_4 = (1 : Int32)
    · replace hf := it_t c6 hf
      refine lv_lookup (tgt := 40) (off := 27) hx hb dX1_rowCost_13 (by decide) (by rw [c6]; decide) (by decide) ?_
      refine lv_bipush (v := 10) hx hb dX1_rowCost_40 (by decide) ?_
      refine lv_iconst (v := 3) hx hb dX1_rowCost_42 (by decide) ?_
      refine lv_iload_n hx hb dX1_rowCost_43 rfl (lv_at hl 2 rfl) ?_
      refine lv_isub hx hb dX1_rowCost_44 ?_
      refine lv_iconst (v := 3) hx hb dX1_rowCost_45 (by decide) ?_
      refine lv_iload_n hx hb dX1_rowCost_46 rfl (lv_at hl 2 rfl) ?_
      refine lv_isub hx hb dX1_rowCost_47 ?_
      refine lv_imul hx hb dX1_rowCost_48 ?_
      refine lv_iadd hx hb dX1_rowCost_49 ?_
      replace hf := Option.some.inj hf
      subst hf
      exact hret H locs ls _ dX1_rowCost_50 hP hD hS
    replace hf := it_f c6 hf
    by_cases c7 : r_4 = (2 : Int32)
    · replace hf := it_t c7 hf
      refine lv_lookup (tgt := 51) (off := 38) hx hb dX1_rowCost_13 (by decide) (by rw [c7]; decide) (by decide) ?_
      refine lv_iload_n hx hb dX1_rowCost_51 rfl (lv_at hl 0 rfl) ?_
      refine lv_iload_n hx hb dX1_rowCost_52 rfl (lv_at hl 0 rfl) ?_
      refine lv_imul hx hb dX1_rowCost_53 ?_
      replace hf := Option.some.inj hf
      subst hf
      exact hret H locs ls _ dX1_rowCost_54 hP hD hS
    replace hf := it_f c7 hf
    refine lv_lookup (tgt := 55) (off := 42) hx hb dX1_rowCost_13 (by decide) (by have ec6 := ne_ti (n := 1) (by decide) c6; have ec7 := ne_ti (n := 2) (by decide) c7; exact lk_2 ec6 ec7) (by decide) ?_
    refine lv_iconst (v := 1) hx hb dX1_rowCost_55 (by decide) ?_
    replace hf := Option.some.inj hf
    subst hf
    exact hret H locs ls _ dX1_rowCost_56 hP hD hS
  refine key _ ?_ _ _ _ hP hD hS hl
  intro H locs ls pc d hP hD hS
  exact W.iret (v := rv) hx hb hr (fun t ht hW => ⟨⟨rfl, by rw [ht]; exact hP, hD⟩, hS.F ht⟩) hS.2.2 d
def p_X1_beginRow_B160_29 (x3 : Int32) (i6_10 : Int32) (v_restCost_11 : (Nat → Int32)) (v_nextRow_12 : (Nat → Int32)) (v_restNumber_13 : (Nat → Int32)) (x5_17 : Int32) (y7_28 : Int32) : Option ((Int32 × Int32 × (Nat → Int32) × (Nat → Int32) × (Nat → Int32)) ⊕ ((Int32 × Int32 × (Nat → Int32) × (Nat → Int32) × (Nat → Int32)) ⊕ ((Nat → Int32) × (Nat → Int32) × (Nat → Int32)))) :=
  (gd (ib x3 7) (gd (ib x3 7) (some (.inl (x5_17, (i6_10 + (1 : Int32)), (upd v_restCost_11 (tn x3) y7_28), (upd v_nextRow_12 (tn x3) i6_10), (upd v_restNumber_13 (tn x3) ((v_restNumber_13 (tn x3)) + (v_restNumber_13 (tn i6_10)))))))))
def p_X1_beginRow_B138_28 (x3 : Int32) (i6_10 : Int32) (v_restCost_11 : (Nat → Int32)) (v_nextRow_12 : (Nat → Int32)) (v_restNumber_13 : (Nat → Int32)) (x5_17 : Int32) (y7_28 : Int32) : Option ((Int32 × Int32 × (Nat → Int32) × (Nat → Int32) × (Nat → Int32)) ⊕ ((Int32 × Int32 × (Nat → Int32) × (Nat → Int32) × (Nat → Int32)) ⊕ ((Nat → Int32) × (Nat → Int32) × (Nat → Int32)))) :=
  (gd (ib x3 7) (if (v_restCost_11 (tn x3)) = (-4 : Int32) then (p_X1_beginRow_B160_29 x3 i6_10 v_restCost_11 v_nextRow_12 v_restNumber_13 x5_17 y7_28) else (gd (ib x3 7) (if (v_restCost_11 (tn x3)) < y7_28 then (some (.inl (x5_17, (i6_10 + (1 : Int32)), v_restCost_11, v_nextRow_12, (upd v_restNumber_13 (tn x3) ((v_restNumber_13 (tn x3)) + (v_restNumber_13 (tn i6_10))))))) else (p_X1_beginRow_B160_29 x3 i6_10 v_restCost_11 v_nextRow_12 v_restNumber_13 x5_17 y7_28)))))
def p_X1_beginRow_L37 (v_cells : (Nat → Int32)) (x2 : Int32) (x3 : Int32) (r_1 : Int32) (s : Int32 × Int32 × (Nat → Int32) × (Nat → Int32) × (Nat → Int32)) : Option ((Int32 × Int32 × (Nat → Int32) × (Nat → Int32) × (Nat → Int32)) ⊕ ((Int32 × Int32 × (Nat → Int32) × (Nat → Int32) × (Nat → Int32)) ⊕ ((Nat → Int32) × (Nat → Int32) × (Nat → Int32)))) := match s with
  | (i5_9, i6_10, v_restCost_11, v_nextRow_12, v_restNumber_13) => (if r_1 < i6_10 then (some (.inr (.inl (i5_9, i6_10, v_restCost_11, v_nextRow_12, v_restNumber_13)))) else (bd1 (p_X4_lettersOf v_cells x2 (i6_10 - (1 : Int32))) fun r_15 => (nm (i5_9 + ((1 : Int32) + r_15)) fun x5_17 => (bd1 (p_X4_setting v_cells (0 : Int32)) fun r_18 => (if x5_17 ≤ r_18 then (gd (ib x3 7) (gd (ib i6_10 7) (gd (ib x3 7) (gd (ib i6_10 7) (if (v_restCost_11 (tn i6_10)) = (-4 : Int32) then (some (.inl (x5_17, (i6_10 + (1 : Int32)), v_restCost_11, v_nextRow_12, (upd v_restNumber_13 (tn x3) ((v_restNumber_13 (tn x3)) + (v_restNumber_13 (tn i6_10))))))) else (gd (ib i6_10 7) (nm (v_restCost_11 (tn i6_10)) fun x7_27 => (if r_1 ≤ i6_10 then (p_X1_beginRow_B138_28 x3 i6_10 v_restCost_11 v_nextRow_12 v_restNumber_13 x5_17 x7_27) else (bd1 (p_X4_pauseOf v_cells x2 (i6_10 - (1 : Int32))) fun r_36 => (bd1 (p_X1_rowCost v_cells r_36 x5_17) fun r_38 => (nm (x7_27 + r_38) fun x7_40 => (p_X1_beginRow_B138_28 x3 i6_10 v_restCost_11 v_nextRow_12 v_restNumber_13 x5_17 x7_40)))))))))))) else (some (.inr (.inr (v_restCost_11, v_nextRow_12, v_restNumber_13)))))))))
def p_X1_beginRow (v_indentation : Int32) (v_restCost : (Nat → Int32)) (v_nextRow : (Nat → Int32)) (v_restNumber : (Nat → Int32)) (v_cells : (Nat → Int32)) (x2 : Int32) (x3 : Int32) : Option ((Nat → Int32) × (Nat → Int32) × (Nat → Int32)) :=
  (bd1 (p_X4_wordsOf v_cells x2) fun r_1 => (gd (ib x3 7) (gd (ib x3 7) (bd1 (p_X1_beginningOf v_indentation v_cells x3) fun r_5 => (nm (r_5 - (1 : Int32)) fun x5_7 => (nm (x3 + (1 : Int32)) fun x6_8 => (bdS (loopN (p_X1_beginRow_L37 v_cells x2 x3 r_1) fuel (x5_7, x6_8, (upd v_restCost (tn x3) (-4 : Int32)), v_nextRow, (upd v_restNumber (tn x3) (0 : Int32)))) (fun q => bd5 (some q) fun f5_49 f6_50 v_restCost_51 v_nextRow_52 v_restNumber_53 => (some (v_restCost_51, v_nextRow_52, v_restNumber_53))) (fun q => some q))))))))
set_option maxHeartbeats 4000000 in
set_option maxRecDepth 100000 in
theorem c_X1_beginRow (l : Launch) (dC : Nat → ClassId) (dI : Nat → Nat → Nat) (cI cJ cP cS : ClassId) (a0 : Nat) (a1 : Nat) (a2 : Nat) (a3 : Nat) (a4 : Nat) (a5 : Nat) (a6 : Nat) (a7 : Nat) (v_indentation : Int32) (v_number : Int32) (v_cost : Int32) (v_rows : Int32) (v_restCost : (Nat → Int32)) (v_nextRow : (Nat → Int32)) (v_restNumber : (Nat → Int32)) (v_cells : (Nat → Int32))  (x2 : Int32) (x3 : Int32)  (v_restCost_o : (Nat → Int32)) (v_nextRow_o : (Nat → Int32)) (v_restNumber_o : (Nat → Int32)) (hf : p_X1_beginRow v_indentation v_restCost v_nextRow v_restNumber v_cells x2 x3 = some (v_restCost_o, v_nextRow_o, v_restNumber_o)) : MC l (dC, dI) (tyl cI cJ cP cS) yX1_beginRow (Cond.code yX1_beginRow cX1_beginRow 8 none :: TBG) ({ frames := 2, cells := 0, slots := 0, locals := 44 } : Room) [.ref a0, .ref a6, .int x2, .int x3] [(a0, .inr (1, [.ref a1, .ref a2, .ref a3, .ref a4, .ref a5, .int v_indentation, .int v_number, .int v_cost, .int v_rows])), (a1, .inl (cI, 7, .inl v_restCost)), (a2, .inl (cI, 7, .inl v_nextRow)), (a3, .inl (cI, 7, .inl v_restNumber)), (a6, .inr (4, [.ref a7])), (a7, .inl (cI, 117, .inl v_cells))] [(a0, .inr (1, [.ref a1, .ref a2, .ref a3, .ref a4, .ref a5, .int v_indentation, .int v_number, .int v_cost, .int v_rows])), (a1, .inl (cI, 7, .inl v_restCost_o)), (a2, .inl (cI, 7, .inl v_nextRow_o)), (a3, .inl (cI, 7, .inl v_restNumber_o)), (a6, .inr (4, [.ref a7])), (a7, .inl (cI, 117, .inl v_cells))] none := by
  intro sz
  unfold MPost
  refine Met.ofW (cc := cX1_beginRow) (maxL := 8) (ret := none) (by decide) rfl ?_
  intro p e s m args below meth c s₁ B hml hv
  obtain ⟨rfl, hsz, hP, hK, hD0, hF⟩ := hv
  have hx := B.exec
  have hb := B.bytes
  have hr := B.returns
  have hT : ∀ w ∈ TBG, w.before _ s = true := fun w h => atoms_spec B.pre w (List.mem_cons_of_mem _ h)
  have hown : s.vm.findClass RX1 = some m.cls := findClass_of_methodNamed B.named
  have hlocks := B.notSynchronized
  subst hsz
  have hD := hD0.self (sz := s.heap.size)
  generalize hAe : va_A [(a0, .inr (1, [.ref a1, .ref a2, .ref a3, .ref a4, .ref a5, .int v_indentation, .int v_number, .int v_cost, .int v_rows])), (a1, .inl (cI, 7, .inl v_restCost)), (a2, .inl (cI, 7, .inl v_nextRow)), (a3, .inl (cI, 7, .inl v_restNumber)), (a6, .inr (4, [.ref a7])), (a7, .inl (cI, 117, .inl v_cells))] s.heap.size = A at hD hF ⊢
  have hA : ∀ q : Nat, s.heap.size ≤ q → A q := fun q h => by rw [← hAe]; exact Or.inr h
  have hS : va_S A s.heap s.heap [] := va_S.rf
  have hl := lv_entry ([.ref a0, .ref a6, .int x2, .int x3]) (n := 8) (Nat.le_of_ble_eq_true rfl)
  rw [lg_entry_eq]
  generalize (lg_sl ([.ref a0, .ref a6, .int x2, .int x3]) ++ List.replicate (8 - (lg_sl ([.ref a0, .ref a6, .int x2, .int x3])).length) Slot.unset).toArray = ls at hl ⊢
  have hl : lv_has ls 8 [(0, .ref a0), (1, .ref a6), (2, .int x2), (3, .int x3)] := hl
  generalize ([.ref a0, .ref a6, .int x2, .int x3] : List Value).toArray = args at hT ⊢
  have key : ∀ (Q : State → Prop), (∀ (H : Heap) (locs : List Loc) (ls : Array Slot) (pc : Nat), decode cX1_beginRow pc = .ok (.return_, 1) → va_P (dC, dI) vwCl [(a0, .inr (1, [.ref a1, .ref a2, .ref a3, .ref a4, .ref a5, .int v_indentation, .int v_number, .int v_cost, .int v_rows])), (a1, .inl (cI, 7, .inl v_restCost_o)), (a2, .inl (cI, 7, .inl v_nextRow_o)), (a3, .inl (cI, 7, .inl v_restNumber_o)), (a6, .inr (4, [.ref a7])), (a7, .inl (cI, 117, .inl v_cells))] H → va_D A [(a0, .inr (1, [.ref a1, .ref a2, .ref a3, .ref a4, .ref a5, .int v_indentation, .int v_number, .int v_cost, .int v_rows])), (a1, .inl (cI, 7, .inl v_restCost_o)), (a2, .inl (cI, 7, .inl v_nextRow_o)), (a3, .inl (cI, 7, .inl v_restNumber_o)), (a6, .inr (4, [.ref a7])), (a7, .inl (cI, 117, .inl v_cells))] → va_S A s.heap H locs → W p l e ({ frames := 2, cells := 0, slots := 0, locals := 44 } : Room) s m args below meth c H locs 0 0 Q (F0 m pc ls [])) → ∀ (H : Heap) (locs : List Loc) (ls : Array Slot), va_P (dC, dI) vwCl [(a0, .inr (1, [.ref a1, .ref a2, .ref a3, .ref a4, .ref a5, .int v_indentation, .int v_number, .int v_cost, .int v_rows])), (a1, .inl (cI, 7, .inl v_restCost)), (a2, .inl (cI, 7, .inl v_nextRow)), (a3, .inl (cI, 7, .inl v_restNumber)), (a6, .inr (4, [.ref a7])), (a7, .inl (cI, 117, .inl v_cells))] H → va_D A [(a0, .inr (1, [.ref a1, .ref a2, .ref a3, .ref a4, .ref a5, .int v_indentation, .int v_number, .int v_cost, .int v_rows])), (a1, .inl (cI, 7, .inl v_restCost)), (a2, .inl (cI, 7, .inl v_nextRow)), (a3, .inl (cI, 7, .inl v_restNumber)), (a6, .inr (4, [.ref a7])), (a7, .inl (cI, 117, .inl v_cells))] → va_S A s.heap H locs → lv_has ls 8 [(0, .ref a0), (1, .ref a6), (2, .int x2), (3, .int x3)] → W p l e ({ frames := 2, cells := 0, slots := 0, locals := 44 } : Room) s m args below meth c H locs 0 0 Q (F0 m 0 ls []) := by
    intro Q hret H locs ls hP hD hS hl
    refine lv_aload_n hx hb dX1_beginRow_0 rfl (lv_at hl 1 rfl) ?_
    refine lv_iload_n hx hb dX1_beginRow_1 rfl (lv_at hl 2 rfl) ?_
    obtain ⟨r_1, hq2, hf⟩ := bd1_el hf
    refine mc_V (As := [.int x2]) (rest := []) (wr := [(a0, .inr (1, [.ref a1, .ref a2, .ref a3, .ref a4, .ref a5, .int v_indentation, .int v_number, .int v_cost, .int v_rows])), (a1, .inl (cI, 7, .inl v_restCost)), (a2, .inl (cI, 7, .inl v_nextRow)), (a3, .inl (cI, 7, .inl v_restNumber))]) (wn := [(a0, .inr (1, [.ref a1, .ref a2, .ref a3, .ref a4, .ref a5, .int v_indentation, .int v_number, .int v_cost, .int v_rows])), (a1, .inl (cI, 7, .inl v_restCost)), (a2, .inl (cI, 7, .inl v_nextRow)), (a3, .inl (cI, 7, .inl v_restNumber)), (a6, .inr (4, [.ref a7])), (a7, .inl (cI, 117, .inl v_cells))]) ⟨hx, hb, hml, hown, hT⟩ (c_X4_wordsOf l dC dI cI cJ cP cS a6 a7 v_cells x2 r_1 hq2) (cwV 1 hT (gdV q_ml_X1_27 q_im_X4_wordsOf q_se_X4_wordsOf q_in_X4 q_co_X4_wordsOf) rfl rfl rfl hd_X4_wordsOf ⟨Nat.le_of_ble_eq_true rfl, Nat.le_of_ble_eq_true rfl⟩) hK hF hP hD hS hA 4 rfl rfl rfl [4, 5] [0, 1, 2, 3] [0, 1, 2, 3, 4, 5] rfl (by decide) rfl (by decide) (by decide) rfl (by decide) rfl hl.1 rfl (Nat.le_of_ble_eq_true rfl) dX1_beginRow_2 ⟨Nat.zero_le _, Nat.zero_le _⟩ (fun H locs hP hD hS => ?_)
    refine W.eq (g2 := F0 m 5 ls [.int r_1]) rfl ?_
    refine lv_istore (lv' := [(4, .int r_1), (0, .ref a0), (1, .ref a6), (2, .int x2), (3, .int x3)]) hx hb dX1_beginRow_5 hl (by decide) rfl (fun ls hl => ?_)
    refine lv_aload_n hx hb dX1_beginRow_7 rfl (lv_at hl 1 rfl) ?_
    refine va_get (D := (dC, dI)) (ci := 1) (v := .ref a1) (C := RX1) (T := TX1) (N := 9) hx hb hT in_X1 hown hK hP 0 rfl rfl 0 (by decide) (hT _ q_fl_X1_9) (fun _ h9 => h9) rfl dX1_beginRow_8 ?_
    refine lv_iload_n hx hb dX1_beginRow_11 rfl (lv_at hl 4 rfl) ?_
    refine lv_bipush (v := (-4)) hx hb dX1_beginRow_12 (by decide) ?_
    obtain ⟨h3, hf⟩ := gd_el hf
    refine ia_st hx hb hK hP hD hS 1 0 rfl rfl (ib_in h3) (j := (tn x3)) rfl dX1_beginRow_14 (fun H locs hP hD hS => ?_)
    have hP : va_P (dC, dI) vwCl [(a0, .inr (1, [.ref a1, .ref a2, .ref a3, .ref a4, .ref a5, .int v_indentation, .int v_number, .int v_cost, .int v_rows])), (a1, .inl (cI, 7, .inl (upd v_restCost (tn x3) (-4 : Int32)))), (a2, .inl (cI, 7, .inl v_nextRow)), (a3, .inl (cI, 7, .inl v_restNumber)), (a6, .inr (4, [.ref a7])), (a7, .inl (cI, 117, .inl v_cells))] H := hP
    have hD : va_D A [(a0, .inr (1, [.ref a1, .ref a2, .ref a3, .ref a4, .ref a5, .int v_indentation, .int v_number, .int v_cost, .int v_rows])), (a1, .inl (cI, 7, .inl (upd v_restCost (tn x3) (-4 : Int32)))), (a2, .inl (cI, 7, .inl v_nextRow)), (a3, .inl (cI, 7, .inl v_restNumber)), (a6, .inr (4, [.ref a7])), (a7, .inl (cI, 117, .inl v_cells))] := hD
    refine lv_aload_n hx hb dX1_beginRow_15 rfl (lv_at hl 1 rfl) ?_
    refine va_get (D := (dC, dI)) (ci := 1) (v := .ref a3) (C := RX1) (T := TX1) (N := 9) hx hb hT in_X1 hown hK hP 0 rfl rfl 2 (by decide) (hT _ q_fl_X1_18) (fun _ h9 => h9) rfl dX1_beginRow_16 ?_
    refine lv_iload_n hx hb dX1_beginRow_19 rfl (lv_at hl 4 rfl) ?_
    refine lv_iconst (v := 0) hx hb dX1_beginRow_20 (by decide) ?_
    obtain ⟨h4, hf⟩ := gd_el hf
    refine ia_st hx hb hK hP hD hS 3 0 rfl rfl (ib_in h4) (j := (tn x3)) rfl dX1_beginRow_21 (fun H locs hP hD hS => ?_)
    have hP : va_P (dC, dI) vwCl [(a0, .inr (1, [.ref a1, .ref a2, .ref a3, .ref a4, .ref a5, .int v_indentation, .int v_number, .int v_cost, .int v_rows])), (a1, .inl (cI, 7, .inl (upd v_restCost (tn x3) (-4 : Int32)))), (a2, .inl (cI, 7, .inl v_nextRow)), (a3, .inl (cI, 7, .inl (upd v_restNumber (tn x3) (0 : Int32)))), (a6, .inr (4, [.ref a7])), (a7, .inl (cI, 117, .inl v_cells))] H := hP
    have hD : va_D A [(a0, .inr (1, [.ref a1, .ref a2, .ref a3, .ref a4, .ref a5, .int v_indentation, .int v_number, .int v_cost, .int v_rows])), (a1, .inl (cI, 7, .inl (upd v_restCost (tn x3) (-4 : Int32)))), (a2, .inl (cI, 7, .inl v_nextRow)), (a3, .inl (cI, 7, .inl (upd v_restNumber (tn x3) (0 : Int32)))), (a6, .inr (4, [.ref a7])), (a7, .inl (cI, 117, .inl v_cells))] := hD
    refine lv_aload_n hx hb dX1_beginRow_22 rfl (lv_at hl 1 rfl) ?_
    refine lv_aload_n hx hb dX1_beginRow_23 rfl (lv_at hl 2 rfl) ?_
    refine lv_iload_n hx hb dX1_beginRow_24 rfl (lv_at hl 4 rfl) ?_
    obtain ⟨r_5, hq6, hf⟩ := bd1_el hf
    refine mc_V (As := [.ref a6, .int x3]) (rest := []) (wr := [(a1, .inl (cI, 7, .inl (upd v_restCost (tn x3) (-4 : Int32)))), (a2, .inl (cI, 7, .inl v_nextRow)), (a3, .inl (cI, 7, .inl (upd v_restNumber (tn x3) (0 : Int32))))]) (wn := [(a0, .inr (1, [.ref a1, .ref a2, .ref a3, .ref a4, .ref a5, .int v_indentation, .int v_number, .int v_cost, .int v_rows])), (a1, .inl (cI, 7, .inl (upd v_restCost (tn x3) (-4 : Int32)))), (a2, .inl (cI, 7, .inl v_nextRow)), (a3, .inl (cI, 7, .inl (upd v_restNumber (tn x3) (0 : Int32)))), (a6, .inr (4, [.ref a7])), (a7, .inl (cI, 117, .inl v_cells))]) ⟨hx, hb, hml, hown, hT⟩ (c_X1_beginningOf l dC dI cI cJ cP cS a0 a1 a2 a3 a4 a5 a6 a7 v_indentation v_number v_cost v_rows v_cells x3 r_5 hq6) (cwV 2 hT (gdV q_ml_X1_57 q_im_X1_beginningOf q_se_X1_beginningOf q_in_X1 q_co_X1_beginningOf) rfl rfl rfl hd_X1_beginningOf ⟨Nat.le_of_ble_eq_true rfl, Nat.le_of_ble_eq_true rfl⟩) hK hF hP hD hS hA 0 rfl rfl rfl [0, 4, 5] [1, 2, 3] [3, 0, 1, 2, 4, 5] rfl (by decide) rfl (by decide) (by decide) rfl (by decide) rfl hl.1 rfl (Nat.le_of_ble_eq_true rfl) dX1_beginRow_25 ⟨Nat.zero_le _, Nat.zero_le _⟩ (fun H locs hP hD hS => ?_)
    refine W.eq (g2 := F0 m 28 ls [.int r_5]) rfl ?_
    refine lv_iconst (v := 1) hx hb dX1_beginRow_28 (by decide) ?_
    refine lv_isub hx hb dX1_beginRow_29 ?_
    obtain ⟨x5_7, ex5_7, hf⟩ := nm_el hf
    refine lv_as (congrArg Value.int ex5_7) ?_
    refine lv_istore (lv' := [(5, .int x5_7), (4, .int r_1), (0, .ref a0), (1, .ref a6), (2, .int x2), (3, .int x3)]) hx hb dX1_beginRow_30 hl (by decide) rfl (fun ls hl => ?_)
    refine lv_iload_n hx hb dX1_beginRow_32 rfl (lv_at hl 5 rfl) ?_
    refine lv_iconst (v := 1) hx hb dX1_beginRow_33 (by decide) ?_
    refine lv_iadd hx hb dX1_beginRow_34 ?_
    obtain ⟨x6_8, ex6_8, hf⟩ := nm_el hf
    refine lv_as (congrArg Value.int ex6_8) ?_
    refine lv_istore (lv' := [(6, .int x6_8), (5, .int x5_7), (4, .int r_1), (0, .ref a0), (1, .ref a6), (2, .int x2), (3, .int x3)]) hx hb dX1_beginRow_35 hl (by decide) rfl (fun ls hl => ?_)
    have hL37 : ∀ (rr : (Int32 × Int32 × (Nat → Int32) × (Nat → Int32) × (Nat → Int32)) ⊕ ((Nat → Int32) × (Nat → Int32) × (Nat → Int32))), (∀ (z_41 : Int32) (z_42 : Int32) (z_43 : (Nat → Int32)) (z_44 : (Nat → Int32)) (z_45 : (Nat → Int32)), rr = .inl (z_41, z_42, z_43, z_44, z_45) → ∀ (H : Heap) (locs : List Loc) (ls : Array Slot), va_P (dC, dI) vwCl [(a0, .inr (1, [.ref a1, .ref a2, .ref a3, .ref a4, .ref a5, .int v_indentation, .int v_number, .int v_cost, .int v_rows])), (a1, .inl (cI, 7, .inl z_43)), (a2, .inl (cI, 7, .inl z_44)), (a3, .inl (cI, 7, .inl z_45)), (a6, .inr (4, [.ref a7])), (a7, .inl (cI, 117, .inl v_cells))] H → va_D A [(a0, .inr (1, [.ref a1, .ref a2, .ref a3, .ref a4, .ref a5, .int v_indentation, .int v_number, .int v_cost, .int v_rows])), (a1, .inl (cI, 7, .inl z_43)), (a2, .inl (cI, 7, .inl z_44)), (a3, .inl (cI, 7, .inl z_45)), (a6, .inr (4, [.ref a7])), (a7, .inl (cI, 117, .inl v_cells))] → va_S A s.heap H locs → lv_has ls 8 [] → W p l e ({ frames := 2, cells := 0, slots := 0, locals := 44 } : Room) s m args below meth c H locs 0 0 Q (F0 m 182 ls [])) → (∀ (u_46 : (Nat → Int32)) (u_47 : (Nat → Int32)) (u_48 : (Nat → Int32)), rr = .inr (u_46, u_47, u_48) → ∀ (H : Heap) (locs : List Loc) (ls : Array Slot) (pc : Nat), decode cX1_beginRow pc = .ok (.return_, 1) → va_P (dC, dI) vwCl [(a0, .inr (1, [.ref a1, .ref a2, .ref a3, .ref a4, .ref a5, .int v_indentation, .int v_number, .int v_cost, .int v_rows])), (a1, .inl (cI, 7, .inl u_46)), (a2, .inl (cI, 7, .inl u_47)), (a3, .inl (cI, 7, .inl u_48)), (a6, .inr (4, [.ref a7])), (a7, .inl (cI, 117, .inl v_cells))] H → va_D A [(a0, .inr (1, [.ref a1, .ref a2, .ref a3, .ref a4, .ref a5, .int v_indentation, .int v_number, .int v_cost, .int v_rows])), (a1, .inl (cI, 7, .inl u_46)), (a2, .inl (cI, 7, .inl u_47)), (a3, .inl (cI, 7, .inl u_48)), (a6, .inr (4, [.ref a7])), (a7, .inl (cI, 117, .inl v_cells))] → va_S A s.heap H locs → W p l e ({ frames := 2, cells := 0, slots := 0, locals := 44 } : Room) s m args below meth c H locs 0 0 Q (F0 m pc ls [])) → ∀ (n : Nat) (i5_9 : Int32) (i6_10 : Int32) (v_restCost_11 : (Nat → Int32)) (v_nextRow_12 : (Nat → Int32)) (v_restNumber_13 : (Nat → Int32)), loopN (p_X1_beginRow_L37 v_cells x2 x3 r_1) n (i5_9, i6_10, v_restCost_11, v_nextRow_12, v_restNumber_13) = some rr → ∀ (H : Heap) (locs : List Loc) (ls : Array Slot), va_P (dC, dI) vwCl [(a0, .inr (1, [.ref a1, .ref a2, .ref a3, .ref a4, .ref a5, .int v_indentation, .int v_number, .int v_cost, .int v_rows])), (a1, .inl (cI, 7, .inl v_restCost_11)), (a2, .inl (cI, 7, .inl v_nextRow_12)), (a3, .inl (cI, 7, .inl v_restNumber_13)), (a6, .inr (4, [.ref a7])), (a7, .inl (cI, 117, .inl v_cells))] H → va_D A [(a0, .inr (1, [.ref a1, .ref a2, .ref a3, .ref a4, .ref a5, .int v_indentation, .int v_number, .int v_cost, .int v_rows])), (a1, .inl (cI, 7, .inl v_restCost_11)), (a2, .inl (cI, 7, .inl v_nextRow_12)), (a3, .inl (cI, 7, .inl v_restNumber_13)), (a6, .inr (4, [.ref a7])), (a7, .inl (cI, 117, .inl v_cells))] → va_S A s.heap H locs → lv_has ls 8 [(0, .ref a0), (1, .ref a6), (2, .int x2), (3, .int x3), (4, .int r_1), (5, .int i5_9), (6, .int i6_10)] → W p l e ({ frames := 2, cells := 0, slots := 0, locals := 44 } : Room) s m args below meth c H locs 0 0 Q (F0 m 37 ls []) := by
      intro rr hk37 hkr37 n
      induction n with
      | zero => intro i5_9 i6_10 v_restCost_11 v_nextRow_12 v_restNumber_13 hf; cases hf
      | succ n ih37 =>
        intro i5_9 i6_10 v_restCost_11 v_nextRow_12 v_restNumber_13 hf H locs ls hP hD hS hl
        obtain ⟨o37, hf, hi, he⟩ := loopN_el hf
        refine lv_iload hx hb dX1_beginRow_37 (lv_at hl 6 rfl) ?_
        refine lv_iload hx hb dX1_beginRow_39 (lv_at hl 4 rfl) ?_
        refine lv_icmp_gt (tgt := 182) hx hb dX1_beginRow_41 (by decide) (fun c14 => ?_) (fun c14 => ?_)
        · replace hf := it_t c14 hf
          exact hk37 _ _ _ _ _ (he _ (Option.some.inj hf).symm).symm H locs ls hP hD hS (lv_sub hl [] rfl)
        · replace hf := it_f c14 hf
          refine lv_iload hx hb dX1_beginRow_44 (lv_at hl 5 rfl) ?_
          refine lv_iconst (v := 1) hx hb dX1_beginRow_46 (by decide) ?_
          refine lv_aload_n hx hb dX1_beginRow_47 rfl (lv_at hl 1 rfl) ?_
          refine lv_iload_n hx hb dX1_beginRow_48 rfl (lv_at hl 2 rfl) ?_
          refine lv_iload hx hb dX1_beginRow_49 (lv_at hl 6 rfl) ?_
          refine lv_iconst (v := 1) hx hb dX1_beginRow_51 (by decide) ?_
          refine lv_isub hx hb dX1_beginRow_52 ?_
          obtain ⟨r_15, hq16, hf⟩ := bd1_el hf
          refine mc_V (As := [.int x2, .int (i6_10 - (1 : Int32))]) (rest := [.int (1 : Int32), .int i5_9]) (wr := [(a0, .inr (1, [.ref a1, .ref a2, .ref a3, .ref a4, .ref a5, .int v_indentation, .int v_number, .int v_cost, .int v_rows])), (a1, .inl (cI, 7, .inl v_restCost_11)), (a2, .inl (cI, 7, .inl v_nextRow_12)), (a3, .inl (cI, 7, .inl v_restNumber_13))]) (wn := [(a0, .inr (1, [.ref a1, .ref a2, .ref a3, .ref a4, .ref a5, .int v_indentation, .int v_number, .int v_cost, .int v_rows])), (a1, .inl (cI, 7, .inl v_restCost_11)), (a2, .inl (cI, 7, .inl v_nextRow_12)), (a3, .inl (cI, 7, .inl v_restNumber_13)), (a6, .inr (4, [.ref a7])), (a7, .inl (cI, 117, .inl v_cells))]) ⟨hx, hb, hml, hown, hT⟩ (c_X4_lettersOf l dC dI cI cJ cP cS a6 a7 v_cells x2 (i6_10 - (1 : Int32)) r_15 hq16) (cwV 2 hT (gdV q_ml_X1_61 q_im_X4_lettersOf q_se_X4_lettersOf q_in_X4 q_co_X4_lettersOf) rfl rfl rfl hd_X4_lettersOf ⟨Nat.le_of_ble_eq_true rfl, Nat.le_of_ble_eq_true rfl⟩) hK hF hP hD hS hA 4 rfl rfl rfl [4, 5] [0, 1, 2, 3] [0, 1, 2, 3, 4, 5] rfl (by decide) rfl (by decide) (by decide) rfl (by decide) rfl hl.1 rfl (Nat.le_of_ble_eq_true rfl) dX1_beginRow_53 ⟨Nat.zero_le _, Nat.zero_le _⟩ (fun H locs hP hD hS => ?_)
          refine W.eq (g2 := F0 m 56 ls [.int r_15, .int (1 : Int32), .int i5_9]) rfl ?_
          refine lv_iadd hx hb dX1_beginRow_56 ?_
          refine lv_iadd hx hb dX1_beginRow_57 ?_
          obtain ⟨x5_17, ex5_17, hf⟩ := nm_el hf
          refine lv_as (congrArg Value.int ex5_17) ?_
          refine lv_istore (lv' := [(5, .int x5_17), (0, .ref a0), (1, .ref a6), (2, .int x2), (3, .int x3), (4, .int r_1), (6, .int i6_10)]) hx hb dX1_beginRow_58 hl (by decide) rfl (fun ls hl => ?_)
          refine lv_iload hx hb dX1_beginRow_60 (lv_at hl 0 rfl) ?_
          refine lv_aload_n hx hb dX1_beginRow_62 rfl (lv_at hl 2 rfl) ?_
          refine lv_iconst (v := 0) hx hb dX1_beginRow_63 (by decide) ?_
          obtain ⟨r_18, hq19, hf⟩ := bd1_el hf
          refine mc_V (As := [.int (0 : Int32)]) (rest := [.int x5_17]) (wr := [(a0, .inr (1, [.ref a1, .ref a2, .ref a3, .ref a4, .ref a5, .int v_indentation, .int v_number, .int v_cost, .int v_rows])), (a1, .inl (cI, 7, .inl v_restCost_11)), (a2, .inl (cI, 7, .inl v_nextRow_12)), (a3, .inl (cI, 7, .inl v_restNumber_13))]) (wn := [(a0, .inr (1, [.ref a1, .ref a2, .ref a3, .ref a4, .ref a5, .int v_indentation, .int v_number, .int v_cost, .int v_rows])), (a1, .inl (cI, 7, .inl v_restCost_11)), (a2, .inl (cI, 7, .inl v_nextRow_12)), (a3, .inl (cI, 7, .inl v_restNumber_13)), (a6, .inr (4, [.ref a7])), (a7, .inl (cI, 117, .inl v_cells))]) ⟨hx, hb, hml, hown, hT⟩ (c_X4_setting l dC dI cI cJ cP cS a6 a7 v_cells (0 : Int32) r_18 hq19) (cwV 1 hT (gdV q_ml_X1_65 q_im_X4_setting q_se_X4_setting q_in_X4 q_co_X4_setting) rfl rfl rfl hd_X4_setting ⟨Nat.le_of_ble_eq_true rfl, Nat.le_of_ble_eq_true rfl⟩) hK hF hP hD hS hA 4 rfl rfl rfl [4, 5] [0, 1, 2, 3] [0, 1, 2, 3, 4, 5] rfl (by decide) rfl (by decide) (by decide) rfl (by decide) rfl hl.1 rfl (Nat.le_of_ble_eq_true rfl) dX1_beginRow_64 ⟨Nat.zero_le _, Nat.zero_le _⟩ (fun H locs hP hD hS => ?_)
          refine W.eq (g2 := F0 m 67 ls [.int r_18, .int x5_17]) rfl ?_
          refine lv_icmp_le (tgt := 71) hx hb dX1_beginRow_67 (by decide) (fun c20 => ?_) (fun c20 => ?_)
          · replace hf := it_t c20 hf
            refine lv_aload_n hx hb dX1_beginRow_71 rfl (lv_at hl 1 rfl) ?_
            refine va_get (D := (dC, dI)) (ci := 1) (v := .ref a3) (C := RX1) (T := TX1) (N := 9) hx hb hT in_X1 hown hK hP 0 rfl rfl 2 (by decide) (hT _ q_fl_X1_18) (fun _ h9 => h9) rfl dX1_beginRow_72 ?_
            refine lv_iload_n hx hb dX1_beginRow_75 rfl (lv_at hl 4 rfl) ?_
            refine lv_dup2_11 hx hb dX1_beginRow_76 rfl rfl ?_
            obtain ⟨h21, hf⟩ := gd_el hf
            refine ia_ld hx hb hK hP 3 0 rfl rfl (ib_in h21) (j := (tn x3)) rfl dX1_beginRow_77 ?_
            refine lv_aload_n hx hb dX1_beginRow_78 rfl (lv_at hl 1 rfl) ?_
            refine va_get (D := (dC, dI)) (ci := 1) (v := .ref a3) (C := RX1) (T := TX1) (N := 9) hx hb hT in_X1 hown hK hP 0 rfl rfl 2 (by decide) (hT _ q_fl_X1_18) (fun _ h9 => h9) rfl dX1_beginRow_79 ?_
            refine lv_iload hx hb dX1_beginRow_82 (lv_at hl 6 rfl) ?_
            obtain ⟨h22, hf⟩ := gd_el hf
            refine ia_ld hx hb hK hP 3 0 rfl rfl (ib_in h22) (j := (tn i6_10)) rfl dX1_beginRow_84 ?_
            refine lv_iadd hx hb dX1_beginRow_85 ?_
            obtain ⟨h23, hf⟩ := gd_el hf
            refine ia_st hx hb hK hP hD hS 3 0 rfl rfl (ib_in h23) (j := (tn x3)) rfl dX1_beginRow_86 (fun H locs hP hD hS => ?_)
            have hP : va_P (dC, dI) vwCl [(a0, .inr (1, [.ref a1, .ref a2, .ref a3, .ref a4, .ref a5, .int v_indentation, .int v_number, .int v_cost, .int v_rows])), (a1, .inl (cI, 7, .inl v_restCost_11)), (a2, .inl (cI, 7, .inl v_nextRow_12)), (a3, .inl (cI, 7, .inl (upd v_restNumber_13 (tn x3) ((v_restNumber_13 (tn x3)) + (v_restNumber_13 (tn i6_10)))))), (a6, .inr (4, [.ref a7])), (a7, .inl (cI, 117, .inl v_cells))] H := hP
            have hD : va_D A [(a0, .inr (1, [.ref a1, .ref a2, .ref a3, .ref a4, .ref a5, .int v_indentation, .int v_number, .int v_cost, .int v_rows])), (a1, .inl (cI, 7, .inl v_restCost_11)), (a2, .inl (cI, 7, .inl v_nextRow_12)), (a3, .inl (cI, 7, .inl (upd v_restNumber_13 (tn x3) ((v_restNumber_13 (tn x3)) + (v_restNumber_13 (tn i6_10)))))), (a6, .inr (4, [.ref a7])), (a7, .inl (cI, 117, .inl v_cells))] := hD
            refine lv_aload_n hx hb dX1_beginRow_87 rfl (lv_at hl 1 rfl) ?_
            refine va_get (D := (dC, dI)) (ci := 1) (v := .ref a1) (C := RX1) (T := TX1) (N := 9) hx hb hT in_X1 hown hK hP 0 rfl rfl 0 (by decide) (hT _ q_fl_X1_9) (fun _ h9 => h9) rfl dX1_beginRow_88 ?_
            refine lv_iload hx hb dX1_beginRow_91 (lv_at hl 6 rfl) ?_
            obtain ⟨h24, hf⟩ := gd_el hf
            refine ia_ld hx hb hK hP 1 0 rfl rfl (ib_in h24) (j := (tn i6_10)) rfl dX1_beginRow_93 ?_
            refine lv_bipush (v := (-4)) hx hb dX1_beginRow_94 (by decide) ?_
            refine lv_icmp_ne (tgt := 102) hx hb dX1_beginRow_96 (by decide) (fun c25 => ?_) (fun c25 => ?_)
            · replace hf := it_f c25 hf
              refine lv_aload_n hx hb dX1_beginRow_102 rfl (lv_at hl 1 rfl) ?_
              refine va_get (D := (dC, dI)) (ci := 1) (v := .ref a1) (C := RX1) (T := TX1) (N := 9) hx hb hT in_X1 hown hK hP 0 rfl rfl 0 (by decide) (hT _ q_fl_X1_9) (fun _ h9 => h9) rfl dX1_beginRow_103 ?_
              refine lv_iload hx hb dX1_beginRow_106 (lv_at hl 6 rfl) ?_
              obtain ⟨h26, hf⟩ := gd_el hf
              refine ia_ld hx hb hK hP 1 0 rfl rfl (ib_in h26) (j := (tn i6_10)) rfl dX1_beginRow_108 ?_
              obtain ⟨x7_27, ex7_27, hf⟩ := nm_el hf
              refine lv_as (congrArg Value.int ex7_27) ?_
              refine lv_istore (lv' := [(7, .int x7_27), (5, .int x5_17), (0, .ref a0), (1, .ref a6), (2, .int x2), (3, .int x3), (4, .int r_1), (6, .int i6_10)]) hx hb dX1_beginRow_109 hl (by decide) rfl (fun ls hl => ?_)
              refine lv_iload hx hb dX1_beginRow_111 (lv_at hl 7 rfl) ?_
              refine lv_iload hx hb dX1_beginRow_113 (lv_at hl 6 rfl) ?_
              have hB138_28 : ∀ (y7_28 : Int32), p_X1_beginRow_B138_28 x3 i6_10 v_restCost_11 v_nextRow_12 v_restNumber_13 x5_17 y7_28 = some o37 → ∀ (H : Heap) (locs : List Loc) (ls : Array Slot), va_P (dC, dI) vwCl [(a0, .inr (1, [.ref a1, .ref a2, .ref a3, .ref a4, .ref a5, .int v_indentation, .int v_number, .int v_cost, .int v_rows])), (a1, .inl (cI, 7, .inl v_restCost_11)), (a2, .inl (cI, 7, .inl v_nextRow_12)), (a3, .inl (cI, 7, .inl (upd v_restNumber_13 (tn x3) ((v_restNumber_13 (tn x3)) + (v_restNumber_13 (tn i6_10)))))), (a6, .inr (4, [.ref a7])), (a7, .inl (cI, 117, .inl v_cells))] H → va_D A [(a0, .inr (1, [.ref a1, .ref a2, .ref a3, .ref a4, .ref a5, .int v_indentation, .int v_number, .int v_cost, .int v_rows])), (a1, .inl (cI, 7, .inl v_restCost_11)), (a2, .inl (cI, 7, .inl v_nextRow_12)), (a3, .inl (cI, 7, .inl (upd v_restNumber_13 (tn x3) ((v_restNumber_13 (tn x3)) + (v_restNumber_13 (tn i6_10)))))), (a6, .inr (4, [.ref a7])), (a7, .inl (cI, 117, .inl v_cells))] → va_S A s.heap H locs → lv_has ls 8 [(0, .ref a0), (1, .ref a6), (2, .int x2), (3, .int x3), (4, .int r_1), (5, .int x5_17), (6, .int i6_10), (7, .int y7_28)] → W p l e ({ frames := 2, cells := 0, slots := 0, locals := 44 } : Room) s m args below meth c H locs 0 0 Q (F0 m 138 ls []) := by
                intro y7_28 hf H locs ls hP hD hS hl
                refine lv_aload_n hx hb dX1_beginRow_138 rfl (lv_at hl 0 rfl) ?_
                refine va_get (D := (dC, dI)) (ci := 1) (v := .ref a1) (C := RX1) (T := TX1) (N := 9) hx hb hT in_X1 hown hK hP 0 rfl rfl 0 (by decide) (hT _ q_fl_X1_9) (fun _ h9 => h9) rfl dX1_beginRow_139 ?_
                refine lv_iload_n hx hb dX1_beginRow_142 rfl (lv_at hl 3 rfl) ?_
                obtain ⟨h29, hf⟩ := gd_el hf
                refine ia_ld hx hb hK hP 1 0 rfl rfl (ib_in h29) (j := (tn x3)) rfl dX1_beginRow_143 ?_
                refine lv_bipush (v := (-4)) hx hb dX1_beginRow_144 (by decide) ?_
                have hB160_29 : ∀ (_ : Unit), p_X1_beginRow_B160_29 x3 i6_10 v_restCost_11 v_nextRow_12 v_restNumber_13 x5_17 y7_28 = some o37 → ∀ (H : Heap) (locs : List Loc) (ls : Array Slot), va_P (dC, dI) vwCl [(a0, .inr (1, [.ref a1, .ref a2, .ref a3, .ref a4, .ref a5, .int v_indentation, .int v_number, .int v_cost, .int v_rows])), (a1, .inl (cI, 7, .inl v_restCost_11)), (a2, .inl (cI, 7, .inl v_nextRow_12)), (a3, .inl (cI, 7, .inl (upd v_restNumber_13 (tn x3) ((v_restNumber_13 (tn x3)) + (v_restNumber_13 (tn i6_10)))))), (a6, .inr (4, [.ref a7])), (a7, .inl (cI, 117, .inl v_cells))] H → va_D A [(a0, .inr (1, [.ref a1, .ref a2, .ref a3, .ref a4, .ref a5, .int v_indentation, .int v_number, .int v_cost, .int v_rows])), (a1, .inl (cI, 7, .inl v_restCost_11)), (a2, .inl (cI, 7, .inl v_nextRow_12)), (a3, .inl (cI, 7, .inl (upd v_restNumber_13 (tn x3) ((v_restNumber_13 (tn x3)) + (v_restNumber_13 (tn i6_10)))))), (a6, .inr (4, [.ref a7])), (a7, .inl (cI, 117, .inl v_cells))] → va_S A s.heap H locs → lv_has ls 8 [(0, .ref a0), (1, .ref a6), (2, .int x2), (3, .int x3), (4, .int r_1), (5, .int x5_17), (6, .int i6_10), (7, .int y7_28)] → W p l e ({ frames := 2, cells := 0, slots := 0, locals := 44 } : Room) s m args below meth c H locs 0 0 Q (F0 m 160 ls []) := by
                  intro _ hf H locs ls hP hD hS hl
                  refine lv_aload_n hx hb dX1_beginRow_160 rfl (lv_at hl 0 rfl) ?_
                  refine va_get (D := (dC, dI)) (ci := 1) (v := .ref a1) (C := RX1) (T := TX1) (N := 9) hx hb hT in_X1 hown hK hP 0 rfl rfl 0 (by decide) (hT _ q_fl_X1_9) (fun _ h9 => h9) rfl dX1_beginRow_161 ?_
                  refine lv_iload_n hx hb dX1_beginRow_164 rfl (lv_at hl 3 rfl) ?_
                  refine lv_iload hx hb dX1_beginRow_165 (lv_at hl 7 rfl) ?_
                  obtain ⟨h30, hf⟩ := gd_el hf
                  refine ia_st hx hb hK hP hD hS 1 0 rfl rfl (ib_in h30) (j := (tn x3)) rfl dX1_beginRow_167 (fun H locs hP hD hS => ?_)
                  have hP : va_P (dC, dI) vwCl [(a0, .inr (1, [.ref a1, .ref a2, .ref a3, .ref a4, .ref a5, .int v_indentation, .int v_number, .int v_cost, .int v_rows])), (a1, .inl (cI, 7, .inl (upd v_restCost_11 (tn x3) y7_28))), (a2, .inl (cI, 7, .inl v_nextRow_12)), (a3, .inl (cI, 7, .inl (upd v_restNumber_13 (tn x3) ((v_restNumber_13 (tn x3)) + (v_restNumber_13 (tn i6_10)))))), (a6, .inr (4, [.ref a7])), (a7, .inl (cI, 117, .inl v_cells))] H := hP
                  have hD : va_D A [(a0, .inr (1, [.ref a1, .ref a2, .ref a3, .ref a4, .ref a5, .int v_indentation, .int v_number, .int v_cost, .int v_rows])), (a1, .inl (cI, 7, .inl (upd v_restCost_11 (tn x3) y7_28))), (a2, .inl (cI, 7, .inl v_nextRow_12)), (a3, .inl (cI, 7, .inl (upd v_restNumber_13 (tn x3) ((v_restNumber_13 (tn x3)) + (v_restNumber_13 (tn i6_10)))))), (a6, .inr (4, [.ref a7])), (a7, .inl (cI, 117, .inl v_cells))] := hD
                  refine lv_aload_n hx hb dX1_beginRow_168 rfl (lv_at hl 0 rfl) ?_
                  refine va_get (D := (dC, dI)) (ci := 1) (v := .ref a2) (C := RX1) (T := TX1) (N := 9) hx hb hT in_X1 hown hK hP 0 rfl rfl 1 (by decide) (hT _ q_fl_X1_15) (fun _ h9 => h9) rfl dX1_beginRow_169 ?_
                  refine lv_iload_n hx hb dX1_beginRow_172 rfl (lv_at hl 3 rfl) ?_
                  refine lv_iload hx hb dX1_beginRow_173 (lv_at hl 6 rfl) ?_
                  obtain ⟨h31, hf⟩ := gd_el hf
                  refine ia_st hx hb hK hP hD hS 2 0 rfl rfl (ib_in h31) (j := (tn x3)) rfl dX1_beginRow_175 (fun H locs hP hD hS => ?_)
                  have hP : va_P (dC, dI) vwCl [(a0, .inr (1, [.ref a1, .ref a2, .ref a3, .ref a4, .ref a5, .int v_indentation, .int v_number, .int v_cost, .int v_rows])), (a1, .inl (cI, 7, .inl (upd v_restCost_11 (tn x3) y7_28))), (a2, .inl (cI, 7, .inl (upd v_nextRow_12 (tn x3) i6_10))), (a3, .inl (cI, 7, .inl (upd v_restNumber_13 (tn x3) ((v_restNumber_13 (tn x3)) + (v_restNumber_13 (tn i6_10)))))), (a6, .inr (4, [.ref a7])), (a7, .inl (cI, 117, .inl v_cells))] H := hP
                  have hD : va_D A [(a0, .inr (1, [.ref a1, .ref a2, .ref a3, .ref a4, .ref a5, .int v_indentation, .int v_number, .int v_cost, .int v_rows])), (a1, .inl (cI, 7, .inl (upd v_restCost_11 (tn x3) y7_28))), (a2, .inl (cI, 7, .inl (upd v_nextRow_12 (tn x3) i6_10))), (a3, .inl (cI, 7, .inl (upd v_restNumber_13 (tn x3) ((v_restNumber_13 (tn x3)) + (v_restNumber_13 (tn i6_10)))))), (a6, .inr (4, [.ref a7])), (a7, .inl (cI, 117, .inl v_cells))] := hD
                  refine lv_iinc (v := (i6_10 + (1 : Int32))) (lv' := [(6, .int (i6_10 + (1 : Int32))), (0, .ref a0), (1, .ref a6), (2, .int x2), (3, .int x3), (4, .int r_1), (5, .int x5_17), (7, .int y7_28)]) hx hb dX1_beginRow_176 hl (k := 6) rfl rfl (by decide) rfl (fun ls hl => ?_)
                  refine lv_goto (tgt := 37) hx hb dX1_beginRow_179 (by decide) ?_
                  exact ih37 x5_17 (i6_10 + (1 : Int32)) (upd v_restCost_11 (tn x3) y7_28) (upd v_nextRow_12 (tn x3) i6_10) (upd v_restNumber_13 (tn x3) ((v_restNumber_13 (tn x3)) + (v_restNumber_13 (tn i6_10)))) (hi _ (Option.some.inj hf).symm) H locs ls hP hD hS (lv_sub hl [1, 2, 3, 4, 5, 6, 0] rfl)
                refine lv_icmp_eq (tgt := 160) hx hb dX1_beginRow_146 (by decide) (fun c32 => ?_) (fun c32 => ?_)
                · replace hf := it_t c32 hf
                  exact hB160_29 () hf H locs ls hP hD hS (lv_sub hl [0, 1, 2, 3, 4, 5, 6, 7] rfl)
                · replace hf := it_f c32 hf
                  refine lv_iload hx hb dX1_beginRow_149 (lv_at hl 7 rfl) ?_
                  refine lv_aload_n hx hb dX1_beginRow_151 rfl (lv_at hl 0 rfl) ?_
                  refine va_get (D := (dC, dI)) (ci := 1) (v := .ref a1) (C := RX1) (T := TX1) (N := 9) hx hb hT in_X1 hown hK hP 0 rfl rfl 0 (by decide) (hT _ q_fl_X1_9) (fun _ h9 => h9) rfl dX1_beginRow_152 ?_
                  refine lv_iload_n hx hb dX1_beginRow_155 rfl (lv_at hl 3 rfl) ?_
                  obtain ⟨h33, hf⟩ := gd_el hf
                  refine ia_ld hx hb hK hP 1 0 rfl rfl (ib_in h33) (j := (tn x3)) rfl dX1_beginRow_156 ?_
                  refine lv_icmp_gt (tgt := 176) hx hb dX1_beginRow_157 (by decide) (fun c34 => ?_) (fun c34 => ?_)
                  · replace hf := it_t c34 hf
                    refine lv_iinc (v := (i6_10 + (1 : Int32))) (lv' := [(6, .int (i6_10 + (1 : Int32))), (0, .ref a0), (1, .ref a6), (2, .int x2), (3, .int x3), (4, .int r_1), (5, .int x5_17), (7, .int y7_28)]) hx hb dX1_beginRow_176 hl (k := 6) rfl rfl (by decide) rfl (fun ls hl => ?_)
                    refine lv_goto (tgt := 37) hx hb dX1_beginRow_179 (by decide) ?_
                    exact ih37 x5_17 (i6_10 + (1 : Int32)) v_restCost_11 v_nextRow_12 (upd v_restNumber_13 (tn x3) ((v_restNumber_13 (tn x3)) + (v_restNumber_13 (tn i6_10)))) (hi _ (Option.some.inj hf).symm) H locs ls hP hD hS (lv_sub hl [1, 2, 3, 4, 5, 6, 0] rfl)
                  · replace hf := it_f c34 hf
                    exact hB160_29 () hf H locs ls hP hD hS (lv_sub hl [0, 1, 2, 3, 4, 5, 6, 7] rfl)
              refine lv_icmp_ge (tgt := 138) hx hb dX1_beginRow_115 (by decide) (fun c35 => ?_) (fun c35 => ?_)
              · replace hf := it_t c35 hf
                exact hB138_28 x7_27 hf H locs ls hP hD hS (lv_sub hl [2, 3, 4, 5, 6, 1, 7, 0] rfl)
              · replace hf := it_f c35 hf
                refine lv_iload hx hb dX1_beginRow_118 (lv_at hl 0 rfl) ?_
                refine lv_aload_n hx hb dX1_beginRow_120 rfl (lv_at hl 3 rfl) ?_
                refine lv_aload_n hx hb dX1_beginRow_121 rfl (lv_at hl 3 rfl) ?_
                refine lv_iload_n hx hb dX1_beginRow_122 rfl (lv_at hl 4 rfl) ?_
                refine lv_iload hx hb dX1_beginRow_123 (lv_at hl 7 rfl) ?_
                refine lv_iconst (v := 1) hx hb dX1_beginRow_125 (by decide) ?_
                refine lv_isub hx hb dX1_beginRow_126 ?_
                obtain ⟨r_36, hq37, hf⟩ := bd1_el hf
                refine mc_V (As := [.int x2, .int (i6_10 - (1 : Int32))]) (rest := [.ref a6, .int x7_27]) (wr := [(a0, .inr (1, [.ref a1, .ref a2, .ref a3, .ref a4, .ref a5, .int v_indentation, .int v_number, .int v_cost, .int v_rows])), (a1, .inl (cI, 7, .inl v_restCost_11)), (a2, .inl (cI, 7, .inl v_nextRow_12)), (a3, .inl (cI, 7, .inl (upd v_restNumber_13 (tn x3) ((v_restNumber_13 (tn x3)) + (v_restNumber_13 (tn i6_10))))))]) (wn := [(a0, .inr (1, [.ref a1, .ref a2, .ref a3, .ref a4, .ref a5, .int v_indentation, .int v_number, .int v_cost, .int v_rows])), (a1, .inl (cI, 7, .inl v_restCost_11)), (a2, .inl (cI, 7, .inl v_nextRow_12)), (a3, .inl (cI, 7, .inl (upd v_restNumber_13 (tn x3) ((v_restNumber_13 (tn x3)) + (v_restNumber_13 (tn i6_10)))))), (a6, .inr (4, [.ref a7])), (a7, .inl (cI, 117, .inl v_cells))]) ⟨hx, hb, hml, hown, hT⟩ (c_X4_pauseOf l dC dI cI cJ cP cS a6 a7 v_cells x2 (i6_10 - (1 : Int32)) r_36 hq37) (cwV 2 hT (gdV q_ml_X1_68 q_im_X4_pauseOf q_se_X4_pauseOf q_in_X4 q_co_X4_pauseOf) rfl rfl rfl hd_X4_pauseOf ⟨Nat.le_of_ble_eq_true rfl, Nat.le_of_ble_eq_true rfl⟩) hK hF hP hD hS hA 4 rfl rfl rfl [4, 5] [0, 1, 2, 3] [0, 1, 2, 3, 4, 5] rfl (by decide) rfl (by decide) (by decide) rfl (by decide) rfl hl.1 rfl (Nat.le_of_ble_eq_true rfl) dX1_beginRow_127 ⟨Nat.zero_le _, Nat.zero_le _⟩ (fun H locs hP hD hS => ?_)
                refine W.eq (g2 := F0 m 130 ls [.int r_36, .ref a6, .int x7_27]) rfl ?_
                refine lv_iload hx hb dX1_beginRow_130 (lv_at hl 1 rfl) ?_
                obtain ⟨r_38, hq39, hf⟩ := bd1_el hf
                refine mc_S (As := [.ref a6, .int r_36, .int x5_17]) (rest := [.int x7_27]) (wr := [(a0, .inr (1, [.ref a1, .ref a2, .ref a3, .ref a4, .ref a5, .int v_indentation, .int v_number, .int v_cost, .int v_rows])), (a1, .inl (cI, 7, .inl v_restCost_11)), (a2, .inl (cI, 7, .inl v_nextRow_12)), (a3, .inl (cI, 7, .inl (upd v_restNumber_13 (tn x3) ((v_restNumber_13 (tn x3)) + (v_restNumber_13 (tn i6_10))))))]) (wn := [(a0, .inr (1, [.ref a1, .ref a2, .ref a3, .ref a4, .ref a5, .int v_indentation, .int v_number, .int v_cost, .int v_rows])), (a1, .inl (cI, 7, .inl v_restCost_11)), (a2, .inl (cI, 7, .inl v_nextRow_12)), (a3, .inl (cI, 7, .inl (upd v_restNumber_13 (tn x3) ((v_restNumber_13 (tn x3)) + (v_restNumber_13 (tn i6_10)))))), (a6, .inr (4, [.ref a7])), (a7, .inl (cI, 117, .inl v_cells))]) ⟨hx, hb, hml, hown, hT⟩ (c_X1_rowCost l dC dI cI cJ cP cS a6 a7 v_cells r_36 x5_17 r_38 hq39) (va_cwS 3 hT (gdS q_ml_X1_71 q_st_X1_rowCost q_in_X1 q_co_X1_rowCost) rfl rfl rfl hd_X1_rowCost ⟨Nat.le_of_ble_eq_true rfl, Nat.le_of_ble_eq_true rfl⟩) hK hF hP hD hS hA [4, 5] [0, 1, 2, 3] [0, 1, 2, 3, 4, 5] rfl (by decide) rfl (by decide) (by decide) rfl (by decide) rfl hl.1 rfl (Nat.le_of_ble_eq_true rfl) dX1_beginRow_132 ⟨Nat.zero_le _, Nat.zero_le _⟩ (fun H locs hP hD hS => ?_)
                refine W.eq (g2 := F0 m 135 ls [.int r_38, .int x7_27]) rfl ?_
                refine lv_iadd hx hb dX1_beginRow_135 ?_
                obtain ⟨x7_40, ex7_40, hf⟩ := nm_el hf
                refine lv_as (congrArg Value.int ex7_40) ?_
                refine lv_istore (lv' := [(7, .int x7_40), (5, .int x5_17), (0, .ref a0), (1, .ref a6), (2, .int x2), (3, .int x3), (4, .int r_1), (6, .int i6_10)]) hx hb dX1_beginRow_136 hl (by decide) rfl (fun ls hl => ?_)
                exact hB138_28 x7_40 hf H locs ls hP hD hS (lv_sub hl [2, 3, 4, 5, 6, 1, 7, 0] rfl)
            · replace hf := it_t c25 hf
              refine lv_goto (tgt := 176) hx hb dX1_beginRow_99 (by decide) ?_
              refine lv_iinc (v := (i6_10 + (1 : Int32))) (lv' := [(6, .int (i6_10 + (1 : Int32))), (5, .int x5_17), (0, .ref a0), (1, .ref a6), (2, .int x2), (3, .int x3), (4, .int r_1)]) hx hb dX1_beginRow_176 hl (k := 6) rfl rfl (by decide) rfl (fun ls hl => ?_)
              refine lv_goto (tgt := 37) hx hb dX1_beginRow_179 (by decide) ?_
              exact ih37 x5_17 (i6_10 + (1 : Int32)) v_restCost_11 v_nextRow_12 (upd v_restNumber_13 (tn x3) ((v_restNumber_13 (tn x3)) + (v_restNumber_13 (tn i6_10)))) (hi _ (Option.some.inj hf).symm) H locs ls hP hD hS (lv_sub hl [2, 3, 4, 5, 6, 1, 0] rfl)
          · replace hf := it_f c20 hf
            exact hkr37 _ _ _ (he _ (Option.some.inj hf).symm).symm H locs ls _ dX1_beginRow_70 hP hD hS
    rcases bdS_el hf with ⟨q, hq, hf⟩ | ⟨q, hq, hf⟩
    · obtain ⟨f5_49, f6_50, v_restCost_51, v_nextRow_52, v_restNumber_53, eq9, hf⟩ := bd5_el hf
      cases eq9
      refine hL37 (.inl (f5_49, f6_50, v_restCost_51, v_nextRow_52, v_restNumber_53)) (fun z_41 z_42 z_43 z_44 z_45 h9 H locs ls hP hD hS hl => ?_) (fun _ _ _ h9 => by cases h9) fuel x5_7 x6_8 (upd v_restCost (tn x3) (-4 : Int32)) v_nextRow (upd v_restNumber (tn x3) (0 : Int32)) hq H locs ls hP hD hS (lv_sub hl [3, 4, 5, 6, 2, 1, 0] rfl)
      replace h9 := Sum.inl.inj h9
      simp only [Prod.mk.injEq] at h9
      obtain ⟨h9_0, h9_1, h9_2, h9_3, h9_4⟩ := h9
      subst h9_0; subst h9_1; subst h9_2; subst h9_3; subst h9_4
      replace hf := Option.some.inj hf
      simp only [Prod.mk.injEq] at hf
      obtain ⟨hf0, hf1, hf2⟩ := hf
      subst hf0; subst hf1; subst hf2
      exact hret H locs ls _ dX1_beginRow_182 hP hD hS
    · refine hL37 (.inr q) (fun _ _ _ _ _ h9 => by cases h9) ?_ fuel x5_7 x6_8 (upd v_restCost (tn x3) (-4 : Int32)) v_nextRow (upd v_restNumber (tn x3) (0 : Int32)) hq H locs ls hP hD hS (lv_sub hl [3, 4, 5, 6, 2, 1, 0] rfl)
      intro z0 z1 z2 h9
      replace h9 := Sum.inr.inj h9
      subst h9
      cases hf
      exact hret
  refine key _ ?_ _ _ _ hP hD hS hl
  intro H locs ls pc d hP hD hS
  exact W.vret hx hb hr (fun t ht hW => ⟨⟨rfl, by rw [ht]; exact hP, hD⟩, hS.F ht⟩) hS.2.2 d
def p_X1_placeWords_B52_12 (v_cells : (Nat → Int32)) (x2 : Int32) (i7_6 : Int32) (v_row_7 : (Nat → Int32)) (v_position_8 : (Nat → Int32)) (y4_10 : Int32) (y5_11 : Int32) (y6_12 : Int32) : Option ((Int32 × Int32 × Int32 × Int32 × (Nat → Int32) × (Nat → Int32)) ⊕ (Int32 × Int32 × Int32 × Int32 × (Nat → Int32) × (Nat → Int32))) :=
  (gd (ib i7_6 6) (gd (ib i7_6 6) (bd1 (p_X4_lettersOf v_cells x2 i7_6) fun r_15 => (nm (y6_12 + (r_15 + (1 : Int32))) fun x6_17 => (some (.inl (y4_10, y5_11, x6_17, (i7_6 + (1 : Int32)), (upd v_row_7 (tn i7_6) (y4_10 - (1 : Int32))), (upd v_position_8 (tn i7_6) y6_12))))))))
def p_X1_placeWords_L18 (v_indentation : Int32) (v_nextRow : (Nat → Int32)) (v_cells : (Nat → Int32)) (x2 : Int32) (r_1 : Int32) (s : Int32 × Int32 × Int32 × Int32 × (Nat → Int32) × (Nat → Int32)) : Option ((Int32 × Int32 × Int32 × Int32 × (Nat → Int32) × (Nat → Int32)) ⊕ (Int32 × Int32 × Int32 × Int32 × (Nat → Int32) × (Nat → Int32))) := match s with
  | (i4_3, i5_4, i6_5, i7_6, v_row_7, v_position_8) => (if r_1 ≤ i7_6 then (some (.inr (i4_3, i5_4, i6_5, i7_6, v_row_7, v_position_8))) else (if i7_6 = i5_4 then (gd (ib i7_6 7) (nm (v_nextRow (tn i7_6)) fun x5_20 => (bd1 (p_X1_beginningOf v_indentation v_cells i7_6) fun r_21 => (p_X1_placeWords_B52_12 v_cells x2 i7_6 v_row_7 v_position_8 (i4_3 + (1 : Int32)) x5_20 r_21)))) else (p_X1_placeWords_B52_12 v_cells x2 i7_6 v_row_7 v_position_8 i4_3 i5_4 i6_5)))
def p_X1_placeWords (v_indentation : Int32) (v_rows : Int32) (v_nextRow : (Nat → Int32)) (v_row : (Nat → Int32)) (v_position : (Nat → Int32)) (v_cells : (Nat → Int32)) (x2 : Int32) : Option (Int32 × (Nat → Int32) × (Nat → Int32)) :=
  (bd1 (p_X4_wordsOf v_cells x2) fun r_1 => (bd6 (loopN (p_X1_placeWords_L18 v_indentation v_nextRow v_cells x2 r_1) fuel ((0 : Int32), (0 : Int32), (0 : Int32), (0 : Int32), v_row, v_position)) fun f4_29 f5_30 f6_31 f7_32 v_row_33 v_position_34 => (some ((if f4_29 < (1 : Int32) then (1 : Int32) else f4_29), v_row_33, v_position_34))))
set_option maxHeartbeats 4000000 in
set_option maxRecDepth 100000 in
theorem c_X1_placeWords (l : Launch) (dC : Nat → ClassId) (dI : Nat → Nat → Nat) (cI cJ cP cS : ClassId) (a0 : Nat) (a1 : Nat) (a2 : Nat) (a3 : Nat) (a4 : Nat) (a5 : Nat) (a6 : Nat) (a7 : Nat) (v_indentation : Int32) (v_number : Int32) (v_cost : Int32) (v_rows : Int32) (v_nextRow : (Nat → Int32)) (v_row : (Nat → Int32)) (v_position : (Nat → Int32)) (v_cells : (Nat → Int32))  (x2 : Int32)  (v_rows_o : Int32) (v_row_o : (Nat → Int32)) (v_position_o : (Nat → Int32)) (hf : p_X1_placeWords v_indentation v_rows v_nextRow v_row v_position v_cells x2 = some (v_rows_o, v_row_o, v_position_o)) : MC l (dC, dI) (tyl cI cJ cP cS) yX1_placeWords (Cond.code yX1_placeWords cX1_placeWords 8 none :: TBG) ({ frames := 2, cells := 0, slots := 0, locals := 43 } : Room) [.ref a0, .ref a6, .int x2] [(a0, .inr (1, [.ref a1, .ref a2, .ref a3, .ref a4, .ref a5, .int v_indentation, .int v_number, .int v_cost, .int v_rows])), (a2, .inl (cI, 7, .inl v_nextRow)), (a4, .inl (cI, 6, .inl v_row)), (a5, .inl (cI, 6, .inl v_position)), (a6, .inr (4, [.ref a7])), (a7, .inl (cI, 117, .inl v_cells))] [(a0, .inr (1, [.ref a1, .ref a2, .ref a3, .ref a4, .ref a5, .int v_indentation, .int v_number, .int v_cost, .int v_rows_o])), (a2, .inl (cI, 7, .inl v_nextRow)), (a4, .inl (cI, 6, .inl v_row_o)), (a5, .inl (cI, 6, .inl v_position_o)), (a6, .inr (4, [.ref a7])), (a7, .inl (cI, 117, .inl v_cells))] none := by
  intro sz
  unfold MPost
  refine Met.ofW (cc := cX1_placeWords) (maxL := 8) (ret := none) (by decide) rfl ?_
  intro p e s m args below meth c s₁ B hml hv
  obtain ⟨rfl, hsz, hP, hK, hD0, hF⟩ := hv
  have hx := B.exec
  have hb := B.bytes
  have hr := B.returns
  have hT : ∀ w ∈ TBG, w.before _ s = true := fun w h => atoms_spec B.pre w (List.mem_cons_of_mem _ h)
  have hown : s.vm.findClass RX1 = some m.cls := findClass_of_methodNamed B.named
  have hlocks := B.notSynchronized
  subst hsz
  have hD := hD0.self (sz := s.heap.size)
  generalize hAe : va_A [(a0, .inr (1, [.ref a1, .ref a2, .ref a3, .ref a4, .ref a5, .int v_indentation, .int v_number, .int v_cost, .int v_rows])), (a2, .inl (cI, 7, .inl v_nextRow)), (a4, .inl (cI, 6, .inl v_row)), (a5, .inl (cI, 6, .inl v_position)), (a6, .inr (4, [.ref a7])), (a7, .inl (cI, 117, .inl v_cells))] s.heap.size = A at hD hF ⊢
  have hA : ∀ q : Nat, s.heap.size ≤ q → A q := fun q h => by rw [← hAe]; exact Or.inr h
  have hS : va_S A s.heap s.heap [] := va_S.rf
  have hl := lv_entry ([.ref a0, .ref a6, .int x2]) (n := 8) (Nat.le_of_ble_eq_true rfl)
  rw [lg_entry_eq]
  generalize (lg_sl ([.ref a0, .ref a6, .int x2]) ++ List.replicate (8 - (lg_sl ([.ref a0, .ref a6, .int x2])).length) Slot.unset).toArray = ls at hl ⊢
  have hl : lv_has ls 8 [(0, .ref a0), (1, .ref a6), (2, .int x2)] := hl
  generalize ([.ref a0, .ref a6, .int x2] : List Value).toArray = args at hT ⊢
  have key : ∀ (Q : State → Prop), (∀ (H : Heap) (locs : List Loc) (ls : Array Slot) (pc : Nat), decode cX1_placeWords pc = .ok (.return_, 1) → va_P (dC, dI) vwCl [(a0, .inr (1, [.ref a1, .ref a2, .ref a3, .ref a4, .ref a5, .int v_indentation, .int v_number, .int v_cost, .int v_rows_o])), (a2, .inl (cI, 7, .inl v_nextRow)), (a4, .inl (cI, 6, .inl v_row_o)), (a5, .inl (cI, 6, .inl v_position_o)), (a6, .inr (4, [.ref a7])), (a7, .inl (cI, 117, .inl v_cells))] H → va_D A [(a0, .inr (1, [.ref a1, .ref a2, .ref a3, .ref a4, .ref a5, .int v_indentation, .int v_number, .int v_cost, .int v_rows_o])), (a2, .inl (cI, 7, .inl v_nextRow)), (a4, .inl (cI, 6, .inl v_row_o)), (a5, .inl (cI, 6, .inl v_position_o)), (a6, .inr (4, [.ref a7])), (a7, .inl (cI, 117, .inl v_cells))] → va_S A s.heap H locs → W p l e ({ frames := 2, cells := 0, slots := 0, locals := 43 } : Room) s m args below meth c H locs 0 0 Q (F0 m pc ls [])) → ∀ (H : Heap) (locs : List Loc) (ls : Array Slot), va_P (dC, dI) vwCl [(a0, .inr (1, [.ref a1, .ref a2, .ref a3, .ref a4, .ref a5, .int v_indentation, .int v_number, .int v_cost, .int v_rows])), (a2, .inl (cI, 7, .inl v_nextRow)), (a4, .inl (cI, 6, .inl v_row)), (a5, .inl (cI, 6, .inl v_position)), (a6, .inr (4, [.ref a7])), (a7, .inl (cI, 117, .inl v_cells))] H → va_D A [(a0, .inr (1, [.ref a1, .ref a2, .ref a3, .ref a4, .ref a5, .int v_indentation, .int v_number, .int v_cost, .int v_rows])), (a2, .inl (cI, 7, .inl v_nextRow)), (a4, .inl (cI, 6, .inl v_row)), (a5, .inl (cI, 6, .inl v_position)), (a6, .inr (4, [.ref a7])), (a7, .inl (cI, 117, .inl v_cells))] → va_S A s.heap H locs → lv_has ls 8 [(0, .ref a0), (1, .ref a6), (2, .int x2)] → W p l e ({ frames := 2, cells := 0, slots := 0, locals := 43 } : Room) s m args below meth c H locs 0 0 Q (F0 m 0 ls []) := by
    intro Q hret H locs ls hP hD hS hl
    refine lv_aload_n hx hb dX1_placeWords_0 rfl (lv_at hl 1 rfl) ?_
    refine lv_iload_n hx hb dX1_placeWords_1 rfl (lv_at hl 2 rfl) ?_
    obtain ⟨r_1, hq2, hf⟩ := bd1_el hf
    refine mc_V (As := [.int x2]) (rest := []) (wr := [(a0, .inr (1, [.ref a1, .ref a2, .ref a3, .ref a4, .ref a5, .int v_indentation, .int v_number, .int v_cost, .int v_rows])), (a2, .inl (cI, 7, .inl v_nextRow)), (a4, .inl (cI, 6, .inl v_row)), (a5, .inl (cI, 6, .inl v_position))]) (wn := [(a0, .inr (1, [.ref a1, .ref a2, .ref a3, .ref a4, .ref a5, .int v_indentation, .int v_number, .int v_cost, .int v_rows])), (a2, .inl (cI, 7, .inl v_nextRow)), (a4, .inl (cI, 6, .inl v_row)), (a5, .inl (cI, 6, .inl v_position)), (a6, .inr (4, [.ref a7])), (a7, .inl (cI, 117, .inl v_cells))]) ⟨hx, hb, hml, hown, hT⟩ (c_X4_wordsOf l dC dI cI cJ cP cS a6 a7 v_cells x2 r_1 hq2) (cwV 1 hT (gdV q_ml_X1_27 q_im_X4_wordsOf q_se_X4_wordsOf q_in_X4 q_co_X4_wordsOf) rfl rfl rfl hd_X4_wordsOf ⟨Nat.le_of_ble_eq_true rfl, Nat.le_of_ble_eq_true rfl⟩) hK hF hP hD hS hA 4 rfl rfl rfl [4, 5] [0, 1, 2, 3] [0, 1, 2, 3, 4, 5] rfl (by decide) rfl (by decide) (by decide) rfl (by decide) rfl hl.1 rfl (Nat.le_of_ble_eq_true rfl) dX1_placeWords_2 ⟨Nat.zero_le _, Nat.zero_le _⟩ (fun H locs hP hD hS => ?_)
    refine W.eq (g2 := F0 m 5 ls [.int r_1]) rfl ?_
    refine lv_istore_n (lv' := [(3, .int r_1), (0, .ref a0), (1, .ref a6), (2, .int x2)]) hx hb dX1_placeWords_5 rfl hl (by decide) rfl (fun ls hl => ?_)
    refine lv_iconst (v := 0) hx hb dX1_placeWords_6 (by decide) ?_
    refine lv_istore (lv' := [(4, .int (0 : Int32)), (3, .int r_1), (0, .ref a0), (1, .ref a6), (2, .int x2)]) hx hb dX1_placeWords_7 hl (by decide) rfl (fun ls hl => ?_)
    refine lv_iconst (v := 0) hx hb dX1_placeWords_9 (by decide) ?_
    refine lv_istore (lv' := [(5, .int (0 : Int32)), (4, .int (0 : Int32)), (3, .int r_1), (0, .ref a0), (1, .ref a6), (2, .int x2)]) hx hb dX1_placeWords_10 hl (by decide) rfl (fun ls hl => ?_)
    refine lv_iconst (v := 0) hx hb dX1_placeWords_12 (by decide) ?_
    refine lv_istore (lv' := [(6, .int (0 : Int32)), (5, .int (0 : Int32)), (4, .int (0 : Int32)), (3, .int r_1), (0, .ref a0), (1, .ref a6), (2, .int x2)]) hx hb dX1_placeWords_13 hl (by decide) rfl (fun ls hl => ?_)
    refine lv_iconst (v := 0) hx hb dX1_placeWords_15 (by decide) ?_
    refine lv_istore (lv' := [(7, .int (0 : Int32)), (6, .int (0 : Int32)), (5, .int (0 : Int32)), (4, .int (0 : Int32)), (3, .int r_1), (0, .ref a0), (1, .ref a6), (2, .int x2)]) hx hb dX1_placeWords_16 hl (by decide) rfl (fun ls hl => ?_)
    have hL18 : ∀ (rr : Int32 × Int32 × Int32 × Int32 × (Nat → Int32) × (Nat → Int32)), (∀ (z_23 : Int32) (z_24 : Int32) (z_25 : Int32) (z_26 : Int32) (z_27 : (Nat → Int32)) (z_28 : (Nat → Int32)), rr = (z_23, z_24, z_25, z_26, z_27, z_28) → ∀ (H : Heap) (locs : List Loc) (ls : Array Slot), va_P (dC, dI) vwCl [(a0, .inr (1, [.ref a1, .ref a2, .ref a3, .ref a4, .ref a5, .int v_indentation, .int v_number, .int v_cost, .int v_rows])), (a2, .inl (cI, 7, .inl v_nextRow)), (a4, .inl (cI, 6, .inl z_27)), (a5, .inl (cI, 6, .inl z_28)), (a6, .inr (4, [.ref a7])), (a7, .inl (cI, 117, .inl v_cells))] H → va_D A [(a0, .inr (1, [.ref a1, .ref a2, .ref a3, .ref a4, .ref a5, .int v_indentation, .int v_number, .int v_cost, .int v_rows])), (a2, .inl (cI, 7, .inl v_nextRow)), (a4, .inl (cI, 6, .inl z_27)), (a5, .inl (cI, 6, .inl z_28)), (a6, .inr (4, [.ref a7])), (a7, .inl (cI, 117, .inl v_cells))] → va_S A s.heap H locs → lv_has ls 8 [(0, .ref a0), (4, .int z_23)] → W p l e ({ frames := 2, cells := 0, slots := 0, locals := 43 } : Room) s m args below meth c H locs 0 0 Q (F0 m 92 ls [])) → ∀ (n : Nat) (i4_3 : Int32) (i5_4 : Int32) (i6_5 : Int32) (i7_6 : Int32) (v_row_7 : (Nat → Int32)) (v_position_8 : (Nat → Int32)), loopN (p_X1_placeWords_L18 v_indentation v_nextRow v_cells x2 r_1) n (i4_3, i5_4, i6_5, i7_6, v_row_7, v_position_8) = some rr → ∀ (H : Heap) (locs : List Loc) (ls : Array Slot), va_P (dC, dI) vwCl [(a0, .inr (1, [.ref a1, .ref a2, .ref a3, .ref a4, .ref a5, .int v_indentation, .int v_number, .int v_cost, .int v_rows])), (a2, .inl (cI, 7, .inl v_nextRow)), (a4, .inl (cI, 6, .inl v_row_7)), (a5, .inl (cI, 6, .inl v_position_8)), (a6, .inr (4, [.ref a7])), (a7, .inl (cI, 117, .inl v_cells))] H → va_D A [(a0, .inr (1, [.ref a1, .ref a2, .ref a3, .ref a4, .ref a5, .int v_indentation, .int v_number, .int v_cost, .int v_rows])), (a2, .inl (cI, 7, .inl v_nextRow)), (a4, .inl (cI, 6, .inl v_row_7)), (a5, .inl (cI, 6, .inl v_position_8)), (a6, .inr (4, [.ref a7])), (a7, .inl (cI, 117, .inl v_cells))] → va_S A s.heap H locs → lv_has ls 8 [(0, .ref a0), (1, .ref a6), (2, .int x2), (3, .int r_1), (4, .int i4_3), (5, .int i5_4), (6, .int i6_5), (7, .int i7_6)] → W p l e ({ frames := 2, cells := 0, slots := 0, locals := 43 } : Room) s m args below meth c H locs 0 0 Q (F0 m 18 ls []) := by
      intro rr hk18 n
      induction n with
      | zero => intro i4_3 i5_4 i6_5 i7_6 v_row_7 v_position_8 hf; cases hf
      | succ n ih18 =>
        intro i4_3 i5_4 i6_5 i7_6 v_row_7 v_position_8 hf H locs ls hP hD hS hl
        obtain ⟨o18, hf, hi, he⟩ := loopN_el hf
        refine lv_iload hx hb dX1_placeWords_18 (lv_at hl 7 rfl) ?_
        refine lv_iload_n hx hb dX1_placeWords_20 rfl (lv_at hl 3 rfl) ?_
        refine lv_icmp_ge (tgt := 92) hx hb dX1_placeWords_21 (by decide) (fun c9 => ?_) (fun c9 => ?_)
        · replace hf := it_t c9 hf
          exact hk18 _ _ _ _ _ _ (he _ (Option.some.inj hf).symm).symm H locs ls hP hD hS (lv_sub hl [0, 4] rfl)
        · replace hf := it_f c9 hf
          refine lv_iload hx hb dX1_placeWords_24 (lv_at hl 7 rfl) ?_
          refine lv_iload hx hb dX1_placeWords_26 (lv_at hl 5 rfl) ?_
          have hB52_12 : ∀ (y4_10 : Int32) (y5_11 : Int32) (y6_12 : Int32), p_X1_placeWords_B52_12 v_cells x2 i7_6 v_row_7 v_position_8 y4_10 y5_11 y6_12 = some o18 → ∀ (H : Heap) (locs : List Loc) (ls : Array Slot), va_P (dC, dI) vwCl [(a0, .inr (1, [.ref a1, .ref a2, .ref a3, .ref a4, .ref a5, .int v_indentation, .int v_number, .int v_cost, .int v_rows])), (a2, .inl (cI, 7, .inl v_nextRow)), (a4, .inl (cI, 6, .inl v_row_7)), (a5, .inl (cI, 6, .inl v_position_8)), (a6, .inr (4, [.ref a7])), (a7, .inl (cI, 117, .inl v_cells))] H → va_D A [(a0, .inr (1, [.ref a1, .ref a2, .ref a3, .ref a4, .ref a5, .int v_indentation, .int v_number, .int v_cost, .int v_rows])), (a2, .inl (cI, 7, .inl v_nextRow)), (a4, .inl (cI, 6, .inl v_row_7)), (a5, .inl (cI, 6, .inl v_position_8)), (a6, .inr (4, [.ref a7])), (a7, .inl (cI, 117, .inl v_cells))] → va_S A s.heap H locs → lv_has ls 8 [(0, .ref a0), (1, .ref a6), (2, .int x2), (3, .int r_1), (4, .int y4_10), (5, .int y5_11), (6, .int y6_12), (7, .int i7_6)] → W p l e ({ frames := 2, cells := 0, slots := 0, locals := 43 } : Room) s m args below meth c H locs 0 0 Q (F0 m 52 ls []) := by
            intro y4_10 y5_11 y6_12 hf H locs ls hP hD hS hl
            refine lv_aload_n hx hb dX1_placeWords_52 rfl (lv_at hl 0 rfl) ?_
            refine va_get (D := (dC, dI)) (ci := 1) (v := .ref a4) (C := RX1) (T := TX1) (N := 9) hx hb hT in_X1 hown hK hP 0 rfl rfl 3 (by decide) (hT _ q_fl_X1_21) (fun _ h9 => h9) rfl dX1_placeWords_53 ?_
            refine lv_iload hx hb dX1_placeWords_56 (lv_at hl 7 rfl) ?_
            refine lv_iload hx hb dX1_placeWords_58 (lv_at hl 4 rfl) ?_
            refine lv_iconst (v := 1) hx hb dX1_placeWords_60 (by decide) ?_
            refine lv_isub hx hb dX1_placeWords_61 ?_
            obtain ⟨h13, hf⟩ := gd_el hf
            refine ia_st hx hb hK hP hD hS 2 0 rfl rfl (ib_in h13) (j := (tn i7_6)) rfl dX1_placeWords_62 (fun H locs hP hD hS => ?_)
            have hP : va_P (dC, dI) vwCl [(a0, .inr (1, [.ref a1, .ref a2, .ref a3, .ref a4, .ref a5, .int v_indentation, .int v_number, .int v_cost, .int v_rows])), (a2, .inl (cI, 7, .inl v_nextRow)), (a4, .inl (cI, 6, .inl (upd v_row_7 (tn i7_6) (y4_10 - (1 : Int32))))), (a5, .inl (cI, 6, .inl v_position_8)), (a6, .inr (4, [.ref a7])), (a7, .inl (cI, 117, .inl v_cells))] H := hP
            have hD : va_D A [(a0, .inr (1, [.ref a1, .ref a2, .ref a3, .ref a4, .ref a5, .int v_indentation, .int v_number, .int v_cost, .int v_rows])), (a2, .inl (cI, 7, .inl v_nextRow)), (a4, .inl (cI, 6, .inl (upd v_row_7 (tn i7_6) (y4_10 - (1 : Int32))))), (a5, .inl (cI, 6, .inl v_position_8)), (a6, .inr (4, [.ref a7])), (a7, .inl (cI, 117, .inl v_cells))] := hD
            refine lv_aload_n hx hb dX1_placeWords_63 rfl (lv_at hl 0 rfl) ?_
            refine va_get (D := (dC, dI)) (ci := 1) (v := .ref a5) (C := RX1) (T := TX1) (N := 9) hx hb hT in_X1 hown hK hP 0 rfl rfl 4 (by decide) (hT _ q_fl_X1_24) (fun _ h9 => h9) rfl dX1_placeWords_64 ?_
            refine lv_iload hx hb dX1_placeWords_67 (lv_at hl 7 rfl) ?_
            refine lv_iload hx hb dX1_placeWords_69 (lv_at hl 6 rfl) ?_
            obtain ⟨h14, hf⟩ := gd_el hf
            refine ia_st hx hb hK hP hD hS 3 0 rfl rfl (ib_in h14) (j := (tn i7_6)) rfl dX1_placeWords_71 (fun H locs hP hD hS => ?_)
            have hP : va_P (dC, dI) vwCl [(a0, .inr (1, [.ref a1, .ref a2, .ref a3, .ref a4, .ref a5, .int v_indentation, .int v_number, .int v_cost, .int v_rows])), (a2, .inl (cI, 7, .inl v_nextRow)), (a4, .inl (cI, 6, .inl (upd v_row_7 (tn i7_6) (y4_10 - (1 : Int32))))), (a5, .inl (cI, 6, .inl (upd v_position_8 (tn i7_6) y6_12))), (a6, .inr (4, [.ref a7])), (a7, .inl (cI, 117, .inl v_cells))] H := hP
            have hD : va_D A [(a0, .inr (1, [.ref a1, .ref a2, .ref a3, .ref a4, .ref a5, .int v_indentation, .int v_number, .int v_cost, .int v_rows])), (a2, .inl (cI, 7, .inl v_nextRow)), (a4, .inl (cI, 6, .inl (upd v_row_7 (tn i7_6) (y4_10 - (1 : Int32))))), (a5, .inl (cI, 6, .inl (upd v_position_8 (tn i7_6) y6_12))), (a6, .inr (4, [.ref a7])), (a7, .inl (cI, 117, .inl v_cells))] := hD
            refine lv_iload hx hb dX1_placeWords_72 (lv_at hl 6 rfl) ?_
            refine lv_aload_n hx hb dX1_placeWords_74 rfl (lv_at hl 1 rfl) ?_
            refine lv_iload_n hx hb dX1_placeWords_75 rfl (lv_at hl 2 rfl) ?_
            refine lv_iload hx hb dX1_placeWords_76 (lv_at hl 7 rfl) ?_
            obtain ⟨r_15, hq16, hf⟩ := bd1_el hf
            refine mc_V (As := [.int x2, .int i7_6]) (rest := [.int y6_12]) (wr := [(a0, .inr (1, [.ref a1, .ref a2, .ref a3, .ref a4, .ref a5, .int v_indentation, .int v_number, .int v_cost, .int v_rows])), (a2, .inl (cI, 7, .inl v_nextRow)), (a4, .inl (cI, 6, .inl (upd v_row_7 (tn i7_6) (y4_10 - (1 : Int32))))), (a5, .inl (cI, 6, .inl (upd v_position_8 (tn i7_6) y6_12)))]) (wn := [(a0, .inr (1, [.ref a1, .ref a2, .ref a3, .ref a4, .ref a5, .int v_indentation, .int v_number, .int v_cost, .int v_rows])), (a2, .inl (cI, 7, .inl v_nextRow)), (a4, .inl (cI, 6, .inl (upd v_row_7 (tn i7_6) (y4_10 - (1 : Int32))))), (a5, .inl (cI, 6, .inl (upd v_position_8 (tn i7_6) y6_12))), (a6, .inr (4, [.ref a7])), (a7, .inl (cI, 117, .inl v_cells))]) ⟨hx, hb, hml, hown, hT⟩ (c_X4_lettersOf l dC dI cI cJ cP cS a6 a7 v_cells x2 i7_6 r_15 hq16) (cwV 2 hT (gdV q_ml_X1_61 q_im_X4_lettersOf q_se_X4_lettersOf q_in_X4 q_co_X4_lettersOf) rfl rfl rfl hd_X4_lettersOf ⟨Nat.le_of_ble_eq_true rfl, Nat.le_of_ble_eq_true rfl⟩) hK hF hP hD hS hA 4 rfl rfl rfl [4, 5] [0, 1, 2, 3] [0, 1, 2, 3, 4, 5] rfl (by decide) rfl (by decide) (by decide) rfl (by decide) rfl hl.1 rfl (Nat.le_of_ble_eq_true rfl) dX1_placeWords_78 ⟨Nat.zero_le _, Nat.zero_le _⟩ (fun H locs hP hD hS => ?_)
            refine W.eq (g2 := F0 m 81 ls [.int r_15, .int y6_12]) rfl ?_
            refine lv_iconst (v := 1) hx hb dX1_placeWords_81 (by decide) ?_
            refine lv_iadd hx hb dX1_placeWords_82 ?_
            refine lv_iadd hx hb dX1_placeWords_83 ?_
            obtain ⟨x6_17, ex6_17, hf⟩ := nm_el hf
            refine lv_as (congrArg Value.int ex6_17) ?_
            refine lv_istore (lv' := [(6, .int x6_17), (0, .ref a0), (1, .ref a6), (2, .int x2), (3, .int r_1), (4, .int y4_10), (5, .int y5_11), (7, .int i7_6)]) hx hb dX1_placeWords_84 hl (by decide) rfl (fun ls hl => ?_)
            refine lv_iinc (v := (i7_6 + (1 : Int32))) (lv' := [(7, .int (i7_6 + (1 : Int32))), (6, .int x6_17), (0, .ref a0), (1, .ref a6), (2, .int x2), (3, .int r_1), (4, .int y4_10), (5, .int y5_11)]) hx hb dX1_placeWords_86 hl (k := 7) rfl rfl (by decide) rfl (fun ls hl => ?_)
            refine lv_goto (tgt := 18) hx hb dX1_placeWords_89 (by decide) ?_
            exact ih18 y4_10 y5_11 x6_17 (i7_6 + (1 : Int32)) (upd v_row_7 (tn i7_6) (y4_10 - (1 : Int32))) (upd v_position_8 (tn i7_6) y6_12) (hi _ (Option.some.inj hf).symm) H locs ls hP hD hS (lv_sub hl [2, 3, 4, 5, 6, 7, 1, 0] rfl)
          refine lv_icmp_ne (tgt := 52) hx hb dX1_placeWords_28 (by decide) (fun c18 => ?_) (fun c18 => ?_)
          · replace hf := it_f c18 hf
            exact hB52_12 i4_3 i5_4 i6_5 hf H locs ls hP hD hS (lv_sub hl [0, 1, 2, 3, 4, 5, 6, 7] rfl)
          · replace hf := it_t c18 hf
            refine lv_iinc (v := (i4_3 + (1 : Int32))) (lv' := [(4, .int (i4_3 + (1 : Int32))), (0, .ref a0), (1, .ref a6), (2, .int x2), (3, .int r_1), (5, .int i5_4), (6, .int i6_5), (7, .int i7_6)]) hx hb dX1_placeWords_31 hl (k := 4) rfl rfl (by decide) rfl (fun ls hl => ?_)
            refine lv_aload_n hx hb dX1_placeWords_34 rfl (lv_at hl 1 rfl) ?_
            refine va_get (D := (dC, dI)) (ci := 1) (v := .ref a2) (C := RX1) (T := TX1) (N := 9) hx hb hT in_X1 hown hK hP 0 rfl rfl 1 (by decide) (hT _ q_fl_X1_15) (fun _ h9 => h9) rfl dX1_placeWords_35 ?_
            refine lv_iload hx hb dX1_placeWords_38 (lv_at hl 7 rfl) ?_
            obtain ⟨h19, hf⟩ := gd_el hf
            refine ia_ld hx hb hK hP 1 0 rfl rfl (ib_in h19) (j := (tn i7_6)) rfl dX1_placeWords_40 ?_
            obtain ⟨x5_20, ex5_20, hf⟩ := nm_el hf
            refine lv_as (congrArg Value.int ex5_20) ?_
            refine lv_istore (lv' := [(5, .int x5_20), (4, .int (i4_3 + (1 : Int32))), (0, .ref a0), (1, .ref a6), (2, .int x2), (3, .int r_1), (6, .int i6_5), (7, .int i7_6)]) hx hb dX1_placeWords_41 hl (by decide) rfl (fun ls hl => ?_)
            refine lv_aload_n hx hb dX1_placeWords_43 rfl (lv_at hl 2 rfl) ?_
            refine lv_aload_n hx hb dX1_placeWords_44 rfl (lv_at hl 3 rfl) ?_
            refine lv_iload hx hb dX1_placeWords_45 (lv_at hl 7 rfl) ?_
            obtain ⟨r_21, hq22, hf⟩ := bd1_el hf
            refine mc_V (As := [.ref a6, .int i7_6]) (rest := []) (wr := [(a2, .inl (cI, 7, .inl v_nextRow)), (a4, .inl (cI, 6, .inl v_row_7)), (a5, .inl (cI, 6, .inl v_position_8))]) (wn := [(a0, .inr (1, [.ref a1, .ref a2, .ref a3, .ref a4, .ref a5, .int v_indentation, .int v_number, .int v_cost, .int v_rows])), (a2, .inl (cI, 7, .inl v_nextRow)), (a4, .inl (cI, 6, .inl v_row_7)), (a5, .inl (cI, 6, .inl v_position_8)), (a6, .inr (4, [.ref a7])), (a7, .inl (cI, 117, .inl v_cells))]) ⟨hx, hb, hml, hown, hT⟩ (c_X1_beginningOf l dC dI cI cJ cP cS a0 a1 a2 a3 a4 a5 a6 a7 v_indentation v_number v_cost v_rows v_cells i7_6 r_21 hq22) (cwV 2 hT (gdV q_ml_X1_57 q_im_X1_beginningOf q_se_X1_beginningOf q_in_X1 q_co_X1_beginningOf) rfl rfl rfl hd_X1_beginningOf ⟨Nat.le_of_ble_eq_true rfl, Nat.le_of_ble_eq_true rfl⟩) hK hF hP hD hS hA 0 rfl rfl rfl [0, 4, 5] [1, 2, 3] [3, 0, 1, 2, 4, 5] rfl (by decide) rfl (by decide) (by decide) rfl (by decide) rfl hl.1 rfl (Nat.le_of_ble_eq_true rfl) dX1_placeWords_47 ⟨Nat.zero_le _, Nat.zero_le _⟩ (fun H locs hP hD hS => ?_)
            refine W.eq (g2 := F0 m 50 ls [.int r_21]) rfl ?_
            refine lv_istore (lv' := [(6, .int r_21), (5, .int x5_20), (4, .int (i4_3 + (1 : Int32))), (0, .ref a0), (1, .ref a6), (2, .int x2), (3, .int r_1), (7, .int i7_6)]) hx hb dX1_placeWords_50 hl (by decide) rfl (fun ls hl => ?_)
            exact hB52_12 (i4_3 + (1 : Int32)) x5_20 r_21 hf H locs ls hP hD hS (lv_sub hl [3, 4, 5, 6, 2, 1, 0, 7] rfl)
    obtain ⟨f4_29, f5_30, f6_31, f7_32, v_row_33, v_position_34, hq, hf⟩ := bd6_el hf
    refine hL18 (f4_29, f5_30, f6_31, f7_32, v_row_33, v_position_34) (fun z_23 z_24 z_25 z_26 z_27 z_28 h9 H locs ls hP hD hS hl => ?_) fuel (0 : Int32) (0 : Int32) (0 : Int32) (0 : Int32) v_row v_position hq H locs ls hP hD hS (lv_sub hl [5, 6, 7, 4, 3, 2, 1, 0] rfl)
    simp only [Prod.mk.injEq] at h9
    obtain ⟨h9_0, h9_1, h9_2, h9_3, h9_4, h9_5⟩ := h9
    subst h9_0; subst h9_1; subst h9_2; subst h9_3; subst h9_4; subst h9_5
    refine lv_aload_n hx hb dX1_placeWords_92 rfl (lv_at hl 0 rfl) ?_
    refine lv_iload hx hb dX1_placeWords_93 (lv_at hl 1 rfl) ?_
    refine lv_iconst (v := 1) hx hb dX1_placeWords_95 (by decide) ?_
    refine va_mmax hx hb (hml.trans hl.1.symm) hown (hT _ q_ml_X1_75) (hT _ q_st_J9_max_7cf53) (hT _ q_in_J9) (hT _ q_co_J9_max_7cf53) (Nat.le_of_ble_eq_true rfl) (Nat.le_of_ble_eq_true rfl) (Nat.zero_le _) (Nat.zero_le _) dX1_placeWords_96 ?_
    refine va_put (D := (dC, dI)) (ci := 1) (v := .int (if f4_29 < (1 : Int32) then (1 : Int32) else f4_29)) (ty := .int) (C := RX1) (T := TX1) (N := 9) hx hb hT in_X1 tyX1 tyX1_ok nmX1 hown hK hP hD hS 0 rfl rfl 8 (by decide) (hT _ q_fl_X1_50) (fun _ h9 => h9) rfl (tyX1_ok 8 (by decide)) rfl rfl (Nat.le_of_ble_eq_true rfl) dX1_placeWords_99 (fun H locs hP hD hS => ?_)
    have hP : va_P (dC, dI) vwCl [(a0, .inr (1, [.ref a1, .ref a2, .ref a3, .ref a4, .ref a5, .int v_indentation, .int v_number, .int v_cost, .int (if f4_29 < (1 : Int32) then (1 : Int32) else f4_29)])), (a2, .inl (cI, 7, .inl v_nextRow)), (a4, .inl (cI, 6, .inl v_row_33)), (a5, .inl (cI, 6, .inl v_position_34)), (a6, .inr (4, [.ref a7])), (a7, .inl (cI, 117, .inl v_cells))] H := hP
    have hD : va_D A [(a0, .inr (1, [.ref a1, .ref a2, .ref a3, .ref a4, .ref a5, .int v_indentation, .int v_number, .int v_cost, .int (if f4_29 < (1 : Int32) then (1 : Int32) else f4_29)])), (a2, .inl (cI, 7, .inl v_nextRow)), (a4, .inl (cI, 6, .inl v_row_33)), (a5, .inl (cI, 6, .inl v_position_34)), (a6, .inr (4, [.ref a7])), (a7, .inl (cI, 117, .inl v_cells))] := hD
    replace hf := Option.some.inj hf
    simp only [Prod.mk.injEq] at hf
    obtain ⟨hf0, hf1, hf2⟩ := hf
    subst hf0; subst hf1; subst hf2
    exact hret H locs ls _ dX1_placeWords_102 hP hD hS
  refine key _ ?_ _ _ _ hP hD hS hl
  intro H locs ls pc d hP hD hS
  exact W.vret hx hb hr (fun t ht hW => ⟨⟨rfl, by rw [ht]; exact hP, hD⟩, hS.F ht⟩) hS.2.2 d
def p_X1_compute_L34 (v_cells : (Nat → Int32)) (x2 : Int32) (r_3 : Int32) (s : Int32 × (Nat → Int32) × (Nat → Int32) × (Nat → Int32)) : Option ((Int32 × (Nat → Int32) × (Nat → Int32) × (Nat → Int32)) ⊕ (Int32 × (Nat → Int32) × (Nat → Int32) × (Nat → Int32))) := match s with
  | (i4_8, v_restCost_9, v_nextRow_10, v_restNumber_11) => (if i4_8 < (0 : Int32) then (some (.inr (i4_8, v_restCost_9, v_nextRow_10, v_restNumber_11))) else (bd3 (p_X1_beginRow r_3 v_restCost_9 v_nextRow_10 v_restNumber_11 v_cells x2 i4_8) fun v_restCost_13 v_nextRow_14 v_restNumber_15 => (some (.inl ((i4_8 + (-1 : Int32)), v_restCost_13, v_nextRow_14, v_restNumber_15)))))
def p_X1_compute (v_indentation : Int32) (v_number : Int32) (v_cost : Int32) (v_rows : Int32) (v_restCost : (Nat → Int32)) (v_nextRow : (Nat → Int32)) (v_restNumber : (Nat → Int32)) (v_row : (Nat → Int32)) (v_position : (Nat → Int32)) (v_cells : (Nat → Int32)) (x2 : Int32) : Option (Int32 × Int32 × Int32 × Int32 × (Nat → Int32) × (Nat → Int32) × (Nat → Int32) × (Nat → Int32) × (Nat → Int32)) :=
  (bd1 (p_X4_wordsOf v_cells x2) fun r_1 => (bd1 (p_X4_indentationOf v_cells x2) fun r_3 => (gd (ib r_1 7) (gd (ib r_1 7) (nm (r_1 - (1 : Int32)) fun x4_7 => (bd4 (loopN (p_X1_compute_L34 v_cells x2 r_3) fuel (x4_7, (upd v_restCost (tn r_1) (0 : Int32)), v_nextRow, (upd v_restNumber (tn r_1) (1 : Int32)))) fun f4_21 v_restCost_22 v_nextRow_23 v_restNumber_24 => (if (v_restCost_22 0) = (-4 : Int32) then (some (r_3, (v_restNumber_24 0), (v_restCost_22 0), (-4 : Int32), v_restCost_22, v_nextRow_23, v_restNumber_24, v_row, v_position)) else (bd3 (p_X1_placeWords r_3 v_rows v_nextRow_23 v_row v_position v_cells x2) fun v_rows_26 v_row_27 v_position_28 => (some (r_3, (v_restNumber_24 0), (v_restCost_22 0), v_rows_26, v_restCost_22, v_nextRow_23, v_restNumber_24, v_row_27, v_position_28))))))))))
set_option maxHeartbeats 4000000 in
set_option maxRecDepth 100000 in
theorem c_X1_compute (l : Launch) (dC : Nat → ClassId) (dI : Nat → Nat → Nat) (cI cJ cP cS : ClassId) (a0 : Nat) (a1 : Nat) (a2 : Nat) (a3 : Nat) (a4 : Nat) (a5 : Nat) (a6 : Nat) (a7 : Nat) (v_indentation : Int32) (v_number : Int32) (v_cost : Int32) (v_rows : Int32) (v_restCost : (Nat → Int32)) (v_nextRow : (Nat → Int32)) (v_restNumber : (Nat → Int32)) (v_row : (Nat → Int32)) (v_position : (Nat → Int32)) (v_cells : (Nat → Int32))  (x2 : Int32)  (v_indentation_o : Int32) (v_number_o : Int32) (v_cost_o : Int32) (v_rows_o : Int32) (v_restCost_o : (Nat → Int32)) (v_nextRow_o : (Nat → Int32)) (v_restNumber_o : (Nat → Int32)) (v_row_o : (Nat → Int32)) (v_position_o : (Nat → Int32)) (hf : p_X1_compute v_indentation v_number v_cost v_rows v_restCost v_nextRow v_restNumber v_row v_position v_cells x2 = some (v_indentation_o, v_number_o, v_cost_o, v_rows_o, v_restCost_o, v_nextRow_o, v_restNumber_o, v_row_o, v_position_o)) : MC l (dC, dI) (tyl cI cJ cP cS) yX1_compute (Cond.code yX1_compute cX1_compute 5 none :: TBG) ({ frames := 3, cells := 0, slots := 0, locals := 71 } : Room) [.ref a0, .ref a6, .int x2] [(a0, .inr (1, [.ref a1, .ref a2, .ref a3, .ref a4, .ref a5, .int v_indentation, .int v_number, .int v_cost, .int v_rows])), (a1, .inl (cI, 7, .inl v_restCost)), (a2, .inl (cI, 7, .inl v_nextRow)), (a3, .inl (cI, 7, .inl v_restNumber)), (a4, .inl (cI, 6, .inl v_row)), (a5, .inl (cI, 6, .inl v_position)), (a6, .inr (4, [.ref a7])), (a7, .inl (cI, 117, .inl v_cells))] [(a0, .inr (1, [.ref a1, .ref a2, .ref a3, .ref a4, .ref a5, .int v_indentation_o, .int v_number_o, .int v_cost_o, .int v_rows_o])), (a1, .inl (cI, 7, .inl v_restCost_o)), (a2, .inl (cI, 7, .inl v_nextRow_o)), (a3, .inl (cI, 7, .inl v_restNumber_o)), (a4, .inl (cI, 6, .inl v_row_o)), (a5, .inl (cI, 6, .inl v_position_o)), (a6, .inr (4, [.ref a7])), (a7, .inl (cI, 117, .inl v_cells))] none := by
  intro sz
  unfold MPost
  refine Met.ofW (cc := cX1_compute) (maxL := 5) (ret := none) (by decide) rfl ?_
  intro p e s m args below meth c s₁ B hml hv
  obtain ⟨rfl, hsz, hP, hK, hD0, hF⟩ := hv
  have hx := B.exec
  have hb := B.bytes
  have hr := B.returns
  have hT : ∀ w ∈ TBG, w.before _ s = true := fun w h => atoms_spec B.pre w (List.mem_cons_of_mem _ h)
  have hown : s.vm.findClass RX1 = some m.cls := findClass_of_methodNamed B.named
  have hlocks := B.notSynchronized
  subst hsz
  have hD := hD0.self (sz := s.heap.size)
  generalize hAe : va_A [(a0, .inr (1, [.ref a1, .ref a2, .ref a3, .ref a4, .ref a5, .int v_indentation, .int v_number, .int v_cost, .int v_rows])), (a1, .inl (cI, 7, .inl v_restCost)), (a2, .inl (cI, 7, .inl v_nextRow)), (a3, .inl (cI, 7, .inl v_restNumber)), (a4, .inl (cI, 6, .inl v_row)), (a5, .inl (cI, 6, .inl v_position)), (a6, .inr (4, [.ref a7])), (a7, .inl (cI, 117, .inl v_cells))] s.heap.size = A at hD hF ⊢
  have hA : ∀ q : Nat, s.heap.size ≤ q → A q := fun q h => by rw [← hAe]; exact Or.inr h
  have hS : va_S A s.heap s.heap [] := va_S.rf
  have hl := lv_entry ([.ref a0, .ref a6, .int x2]) (n := 5) (Nat.le_of_ble_eq_true rfl)
  rw [lg_entry_eq]
  generalize (lg_sl ([.ref a0, .ref a6, .int x2]) ++ List.replicate (5 - (lg_sl ([.ref a0, .ref a6, .int x2])).length) Slot.unset).toArray = ls at hl ⊢
  have hl : lv_has ls 5 [(0, .ref a0), (1, .ref a6), (2, .int x2)] := hl
  generalize ([.ref a0, .ref a6, .int x2] : List Value).toArray = args at hT ⊢
  have key : ∀ (Q : State → Prop), (∀ (H : Heap) (locs : List Loc) (ls : Array Slot) (pc : Nat), decode cX1_compute pc = .ok (.return_, 1) → va_P (dC, dI) vwCl [(a0, .inr (1, [.ref a1, .ref a2, .ref a3, .ref a4, .ref a5, .int v_indentation_o, .int v_number_o, .int v_cost_o, .int v_rows_o])), (a1, .inl (cI, 7, .inl v_restCost_o)), (a2, .inl (cI, 7, .inl v_nextRow_o)), (a3, .inl (cI, 7, .inl v_restNumber_o)), (a4, .inl (cI, 6, .inl v_row_o)), (a5, .inl (cI, 6, .inl v_position_o)), (a6, .inr (4, [.ref a7])), (a7, .inl (cI, 117, .inl v_cells))] H → va_D A [(a0, .inr (1, [.ref a1, .ref a2, .ref a3, .ref a4, .ref a5, .int v_indentation_o, .int v_number_o, .int v_cost_o, .int v_rows_o])), (a1, .inl (cI, 7, .inl v_restCost_o)), (a2, .inl (cI, 7, .inl v_nextRow_o)), (a3, .inl (cI, 7, .inl v_restNumber_o)), (a4, .inl (cI, 6, .inl v_row_o)), (a5, .inl (cI, 6, .inl v_position_o)), (a6, .inr (4, [.ref a7])), (a7, .inl (cI, 117, .inl v_cells))] → va_S A s.heap H locs → W p l e ({ frames := 3, cells := 0, slots := 0, locals := 71 } : Room) s m args below meth c H locs 0 0 Q (F0 m pc ls [])) → ∀ (H : Heap) (locs : List Loc) (ls : Array Slot), va_P (dC, dI) vwCl [(a0, .inr (1, [.ref a1, .ref a2, .ref a3, .ref a4, .ref a5, .int v_indentation, .int v_number, .int v_cost, .int v_rows])), (a1, .inl (cI, 7, .inl v_restCost)), (a2, .inl (cI, 7, .inl v_nextRow)), (a3, .inl (cI, 7, .inl v_restNumber)), (a4, .inl (cI, 6, .inl v_row)), (a5, .inl (cI, 6, .inl v_position)), (a6, .inr (4, [.ref a7])), (a7, .inl (cI, 117, .inl v_cells))] H → va_D A [(a0, .inr (1, [.ref a1, .ref a2, .ref a3, .ref a4, .ref a5, .int v_indentation, .int v_number, .int v_cost, .int v_rows])), (a1, .inl (cI, 7, .inl v_restCost)), (a2, .inl (cI, 7, .inl v_nextRow)), (a3, .inl (cI, 7, .inl v_restNumber)), (a4, .inl (cI, 6, .inl v_row)), (a5, .inl (cI, 6, .inl v_position)), (a6, .inr (4, [.ref a7])), (a7, .inl (cI, 117, .inl v_cells))] → va_S A s.heap H locs → lv_has ls 5 [(0, .ref a0), (1, .ref a6), (2, .int x2)] → W p l e ({ frames := 3, cells := 0, slots := 0, locals := 71 } : Room) s m args below meth c H locs 0 0 Q (F0 m 0 ls []) := by
    intro Q hret H locs ls hP hD hS hl
    refine lv_aload_n hx hb dX1_compute_0 rfl (lv_at hl 1 rfl) ?_
    refine lv_iload_n hx hb dX1_compute_1 rfl (lv_at hl 2 rfl) ?_
    obtain ⟨r_1, hq2, hf⟩ := bd1_el hf
    refine mc_V (As := [.int x2]) (rest := []) (wr := [(a0, .inr (1, [.ref a1, .ref a2, .ref a3, .ref a4, .ref a5, .int v_indentation, .int v_number, .int v_cost, .int v_rows])), (a1, .inl (cI, 7, .inl v_restCost)), (a2, .inl (cI, 7, .inl v_nextRow)), (a3, .inl (cI, 7, .inl v_restNumber)), (a4, .inl (cI, 6, .inl v_row)), (a5, .inl (cI, 6, .inl v_position))]) (wn := [(a0, .inr (1, [.ref a1, .ref a2, .ref a3, .ref a4, .ref a5, .int v_indentation, .int v_number, .int v_cost, .int v_rows])), (a1, .inl (cI, 7, .inl v_restCost)), (a2, .inl (cI, 7, .inl v_nextRow)), (a3, .inl (cI, 7, .inl v_restNumber)), (a4, .inl (cI, 6, .inl v_row)), (a5, .inl (cI, 6, .inl v_position)), (a6, .inr (4, [.ref a7])), (a7, .inl (cI, 117, .inl v_cells))]) ⟨hx, hb, hml, hown, hT⟩ (c_X4_wordsOf l dC dI cI cJ cP cS a6 a7 v_cells x2 r_1 hq2) (cwV 1 hT (gdV q_ml_X1_27 q_im_X4_wordsOf q_se_X4_wordsOf q_in_X4 q_co_X4_wordsOf) rfl rfl rfl hd_X4_wordsOf ⟨Nat.le_of_ble_eq_true rfl, Nat.le_of_ble_eq_true rfl⟩) hK hF hP hD hS hA 6 rfl rfl rfl [6, 7] [0, 1, 2, 3, 4, 5] [0, 1, 2, 3, 4, 5, 6, 7] rfl (by decide) rfl (by decide) (by decide) rfl (by decide) rfl hl.1 rfl (Nat.le_of_ble_eq_true rfl) dX1_compute_2 ⟨Nat.zero_le _, Nat.zero_le _⟩ (fun H locs hP hD hS => ?_)
    refine W.eq (g2 := F0 m 5 ls [.int r_1]) rfl ?_
    refine lv_istore_n (lv' := [(3, .int r_1), (0, .ref a0), (1, .ref a6), (2, .int x2)]) hx hb dX1_compute_5 rfl hl (by decide) rfl (fun ls hl => ?_)
    refine lv_aload_n hx hb dX1_compute_6 rfl (lv_at hl 1 rfl) ?_
    refine lv_aload_n hx hb dX1_compute_7 rfl (lv_at hl 2 rfl) ?_
    refine lv_iload_n hx hb dX1_compute_8 rfl (lv_at hl 3 rfl) ?_
    obtain ⟨r_3, hq4, hf⟩ := bd1_el hf
    refine mc_V (As := [.int x2]) (rest := [.ref a0]) (wr := [(a0, .inr (1, [.ref a1, .ref a2, .ref a3, .ref a4, .ref a5, .int v_indentation, .int v_number, .int v_cost, .int v_rows])), (a1, .inl (cI, 7, .inl v_restCost)), (a2, .inl (cI, 7, .inl v_nextRow)), (a3, .inl (cI, 7, .inl v_restNumber)), (a4, .inl (cI, 6, .inl v_row)), (a5, .inl (cI, 6, .inl v_position))]) (wn := [(a0, .inr (1, [.ref a1, .ref a2, .ref a3, .ref a4, .ref a5, .int v_indentation, .int v_number, .int v_cost, .int v_rows])), (a1, .inl (cI, 7, .inl v_restCost)), (a2, .inl (cI, 7, .inl v_nextRow)), (a3, .inl (cI, 7, .inl v_restNumber)), (a4, .inl (cI, 6, .inl v_row)), (a5, .inl (cI, 6, .inl v_position)), (a6, .inr (4, [.ref a7])), (a7, .inl (cI, 117, .inl v_cells))]) ⟨hx, hb, hml, hown, hT⟩ (c_X4_indentationOf l dC dI cI cJ cP cS a6 a7 v_cells x2 r_3 hq4) (cwV 1 hT (gdV q_ml_X1_33 q_im_X4_indentationOf q_se_X4_indentationOf q_in_X4 q_co_X4_indentationOf) rfl rfl rfl hd_X4_indentationOf ⟨Nat.le_of_ble_eq_true rfl, Nat.le_of_ble_eq_true rfl⟩) hK hF hP hD hS hA 6 rfl rfl rfl [6, 7] [0, 1, 2, 3, 4, 5] [0, 1, 2, 3, 4, 5, 6, 7] rfl (by decide) rfl (by decide) (by decide) rfl (by decide) rfl hl.1 rfl (Nat.le_of_ble_eq_true rfl) dX1_compute_9 ⟨Nat.zero_le _, Nat.zero_le _⟩ (fun H locs hP hD hS => ?_)
    refine W.eq (g2 := F0 m 12 ls [.int r_3, .ref a0]) rfl ?_
    refine va_put (D := (dC, dI)) (ci := 1) (v := .int r_3) (ty := .int) (C := RX1) (T := TX1) (N := 9) hx hb hT in_X1 tyX1 tyX1_ok nmX1 hown hK hP hD hS 0 rfl rfl 5 (by decide) (hT _ q_fl_X1_36) (fun _ h9 => h9) rfl (tyX1_ok 5 (by decide)) rfl rfl (Nat.le_of_ble_eq_true rfl) dX1_compute_12 (fun H locs hP hD hS => ?_)
    have hP : va_P (dC, dI) vwCl [(a0, .inr (1, [.ref a1, .ref a2, .ref a3, .ref a4, .ref a5, .int r_3, .int v_number, .int v_cost, .int v_rows])), (a1, .inl (cI, 7, .inl v_restCost)), (a2, .inl (cI, 7, .inl v_nextRow)), (a3, .inl (cI, 7, .inl v_restNumber)), (a4, .inl (cI, 6, .inl v_row)), (a5, .inl (cI, 6, .inl v_position)), (a6, .inr (4, [.ref a7])), (a7, .inl (cI, 117, .inl v_cells))] H := hP
    have hD : va_D A [(a0, .inr (1, [.ref a1, .ref a2, .ref a3, .ref a4, .ref a5, .int r_3, .int v_number, .int v_cost, .int v_rows])), (a1, .inl (cI, 7, .inl v_restCost)), (a2, .inl (cI, 7, .inl v_nextRow)), (a3, .inl (cI, 7, .inl v_restNumber)), (a4, .inl (cI, 6, .inl v_row)), (a5, .inl (cI, 6, .inl v_position)), (a6, .inr (4, [.ref a7])), (a7, .inl (cI, 117, .inl v_cells))] := hD
    refine lv_aload_n hx hb dX1_compute_15 rfl (lv_at hl 1 rfl) ?_
    refine va_get (D := (dC, dI)) (ci := 1) (v := .ref a1) (C := RX1) (T := TX1) (N := 9) hx hb hT in_X1 hown hK hP 0 rfl rfl 0 (by decide) (hT _ q_fl_X1_9) (fun _ h9 => h9) rfl dX1_compute_16 ?_
    refine lv_iload_n hx hb dX1_compute_19 rfl (lv_at hl 0 rfl) ?_
    refine lv_iconst (v := 0) hx hb dX1_compute_20 (by decide) ?_
    obtain ⟨h5, hf⟩ := gd_el hf
    refine ia_st hx hb hK hP hD hS 1 0 rfl rfl (ib_in h5) (j := (tn r_1)) rfl dX1_compute_21 (fun H locs hP hD hS => ?_)
    have hP : va_P (dC, dI) vwCl [(a0, .inr (1, [.ref a1, .ref a2, .ref a3, .ref a4, .ref a5, .int r_3, .int v_number, .int v_cost, .int v_rows])), (a1, .inl (cI, 7, .inl (upd v_restCost (tn r_1) (0 : Int32)))), (a2, .inl (cI, 7, .inl v_nextRow)), (a3, .inl (cI, 7, .inl v_restNumber)), (a4, .inl (cI, 6, .inl v_row)), (a5, .inl (cI, 6, .inl v_position)), (a6, .inr (4, [.ref a7])), (a7, .inl (cI, 117, .inl v_cells))] H := hP
    have hD : va_D A [(a0, .inr (1, [.ref a1, .ref a2, .ref a3, .ref a4, .ref a5, .int r_3, .int v_number, .int v_cost, .int v_rows])), (a1, .inl (cI, 7, .inl (upd v_restCost (tn r_1) (0 : Int32)))), (a2, .inl (cI, 7, .inl v_nextRow)), (a3, .inl (cI, 7, .inl v_restNumber)), (a4, .inl (cI, 6, .inl v_row)), (a5, .inl (cI, 6, .inl v_position)), (a6, .inr (4, [.ref a7])), (a7, .inl (cI, 117, .inl v_cells))] := hD
    refine lv_aload_n hx hb dX1_compute_22 rfl (lv_at hl 1 rfl) ?_
    refine va_get (D := (dC, dI)) (ci := 1) (v := .ref a3) (C := RX1) (T := TX1) (N := 9) hx hb hT in_X1 hown hK hP 0 rfl rfl 2 (by decide) (hT _ q_fl_X1_18) (fun _ h9 => h9) rfl dX1_compute_23 ?_
    refine lv_iload_n hx hb dX1_compute_26 rfl (lv_at hl 0 rfl) ?_
    refine lv_iconst (v := 1) hx hb dX1_compute_27 (by decide) ?_
    obtain ⟨h6, hf⟩ := gd_el hf
    refine ia_st hx hb hK hP hD hS 3 0 rfl rfl (ib_in h6) (j := (tn r_1)) rfl dX1_compute_28 (fun H locs hP hD hS => ?_)
    have hP : va_P (dC, dI) vwCl [(a0, .inr (1, [.ref a1, .ref a2, .ref a3, .ref a4, .ref a5, .int r_3, .int v_number, .int v_cost, .int v_rows])), (a1, .inl (cI, 7, .inl (upd v_restCost (tn r_1) (0 : Int32)))), (a2, .inl (cI, 7, .inl v_nextRow)), (a3, .inl (cI, 7, .inl (upd v_restNumber (tn r_1) (1 : Int32)))), (a4, .inl (cI, 6, .inl v_row)), (a5, .inl (cI, 6, .inl v_position)), (a6, .inr (4, [.ref a7])), (a7, .inl (cI, 117, .inl v_cells))] H := hP
    have hD : va_D A [(a0, .inr (1, [.ref a1, .ref a2, .ref a3, .ref a4, .ref a5, .int r_3, .int v_number, .int v_cost, .int v_rows])), (a1, .inl (cI, 7, .inl (upd v_restCost (tn r_1) (0 : Int32)))), (a2, .inl (cI, 7, .inl v_nextRow)), (a3, .inl (cI, 7, .inl (upd v_restNumber (tn r_1) (1 : Int32)))), (a4, .inl (cI, 6, .inl v_row)), (a5, .inl (cI, 6, .inl v_position)), (a6, .inr (4, [.ref a7])), (a7, .inl (cI, 117, .inl v_cells))] := hD
    refine lv_iload_n hx hb dX1_compute_29 rfl (lv_at hl 0 rfl) ?_
    refine lv_iconst (v := 1) hx hb dX1_compute_30 (by decide) ?_
    refine lv_isub hx hb dX1_compute_31 ?_
    obtain ⟨x4_7, ex4_7, hf⟩ := nm_el hf
    refine lv_as (congrArg Value.int ex4_7) ?_
    refine lv_istore (lv' := [(4, .int x4_7), (3, .int r_1), (0, .ref a0), (1, .ref a6), (2, .int x2)]) hx hb dX1_compute_32 hl (by decide) rfl (fun ls hl => ?_)
    have hL34 : ∀ (rr : Int32 × (Nat → Int32) × (Nat → Int32) × (Nat → Int32)), (∀ (z_17 : Int32) (z_18 : (Nat → Int32)) (z_19 : (Nat → Int32)) (z_20 : (Nat → Int32)), rr = (z_17, z_18, z_19, z_20) → ∀ (H : Heap) (locs : List Loc) (ls : Array Slot), va_P (dC, dI) vwCl [(a0, .inr (1, [.ref a1, .ref a2, .ref a3, .ref a4, .ref a5, .int r_3, .int v_number, .int v_cost, .int v_rows])), (a1, .inl (cI, 7, .inl z_18)), (a2, .inl (cI, 7, .inl z_19)), (a3, .inl (cI, 7, .inl z_20)), (a4, .inl (cI, 6, .inl v_row)), (a5, .inl (cI, 6, .inl v_position)), (a6, .inr (4, [.ref a7])), (a7, .inl (cI, 117, .inl v_cells))] H → va_D A [(a0, .inr (1, [.ref a1, .ref a2, .ref a3, .ref a4, .ref a5, .int r_3, .int v_number, .int v_cost, .int v_rows])), (a1, .inl (cI, 7, .inl z_18)), (a2, .inl (cI, 7, .inl z_19)), (a3, .inl (cI, 7, .inl z_20)), (a4, .inl (cI, 6, .inl v_row)), (a5, .inl (cI, 6, .inl v_position)), (a6, .inr (4, [.ref a7])), (a7, .inl (cI, 117, .inl v_cells))] → va_S A s.heap H locs → lv_has ls 5 [(0, .ref a0), (1, .ref a6), (2, .int x2)] → W p l e ({ frames := 3, cells := 0, slots := 0, locals := 71 } : Room) s m args below meth c H locs 0 0 Q (F0 m 53 ls [])) → ∀ (n : Nat) (i4_8 : Int32) (v_restCost_9 : (Nat → Int32)) (v_nextRow_10 : (Nat → Int32)) (v_restNumber_11 : (Nat → Int32)), loopN (p_X1_compute_L34 v_cells x2 r_3) n (i4_8, v_restCost_9, v_nextRow_10, v_restNumber_11) = some rr → ∀ (H : Heap) (locs : List Loc) (ls : Array Slot), va_P (dC, dI) vwCl [(a0, .inr (1, [.ref a1, .ref a2, .ref a3, .ref a4, .ref a5, .int r_3, .int v_number, .int v_cost, .int v_rows])), (a1, .inl (cI, 7, .inl v_restCost_9)), (a2, .inl (cI, 7, .inl v_nextRow_10)), (a3, .inl (cI, 7, .inl v_restNumber_11)), (a4, .inl (cI, 6, .inl v_row)), (a5, .inl (cI, 6, .inl v_position)), (a6, .inr (4, [.ref a7])), (a7, .inl (cI, 117, .inl v_cells))] H → va_D A [(a0, .inr (1, [.ref a1, .ref a2, .ref a3, .ref a4, .ref a5, .int r_3, .int v_number, .int v_cost, .int v_rows])), (a1, .inl (cI, 7, .inl v_restCost_9)), (a2, .inl (cI, 7, .inl v_nextRow_10)), (a3, .inl (cI, 7, .inl v_restNumber_11)), (a4, .inl (cI, 6, .inl v_row)), (a5, .inl (cI, 6, .inl v_position)), (a6, .inr (4, [.ref a7])), (a7, .inl (cI, 117, .inl v_cells))] → va_S A s.heap H locs → lv_has ls 5 [(0, .ref a0), (1, .ref a6), (2, .int x2), (4, .int i4_8)] → W p l e ({ frames := 3, cells := 0, slots := 0, locals := 71 } : Room) s m args below meth c H locs 0 0 Q (F0 m 34 ls []) := by
      intro rr hk34 n
      induction n with
      | zero => intro i4_8 v_restCost_9 v_nextRow_10 v_restNumber_11 hf; cases hf
      | succ n ih34 =>
        intro i4_8 v_restCost_9 v_nextRow_10 v_restNumber_11 hf H locs ls hP hD hS hl
        obtain ⟨o34, hf, hi, he⟩ := loopN_el hf
        refine lv_iload hx hb dX1_compute_34 (lv_at hl 3 rfl) ?_
        refine lv_if_lt (tgt := 53) hx hb dX1_compute_36 (by decide) (fun c12 => ?_) (fun c12 => ?_)
        · replace hf := it_t c12 hf
          exact hk34 _ _ _ _ (he _ (Option.some.inj hf).symm).symm H locs ls hP hD hS (lv_sub hl [0, 1, 2] rfl)
        · replace hf := it_f c12 hf
          refine lv_aload_n hx hb dX1_compute_39 rfl (lv_at hl 0 rfl) ?_
          refine lv_aload_n hx hb dX1_compute_40 rfl (lv_at hl 1 rfl) ?_
          refine lv_iload_n hx hb dX1_compute_41 rfl (lv_at hl 2 rfl) ?_
          refine lv_iload hx hb dX1_compute_42 (lv_at hl 3 rfl) ?_
          obtain ⟨v_restCost_13, v_nextRow_14, v_restNumber_15, hq16, hf⟩ := bd3_el hf
          refine mc_V (As := [.ref a6, .int x2, .int i4_8]) (rest := []) (wr := [(a4, .inl (cI, 6, .inl v_row)), (a5, .inl (cI, 6, .inl v_position))]) (wn := [(a0, .inr (1, [.ref a1, .ref a2, .ref a3, .ref a4, .ref a5, .int r_3, .int v_number, .int v_cost, .int v_rows])), (a1, .inl (cI, 7, .inl v_restCost_13)), (a2, .inl (cI, 7, .inl v_nextRow_14)), (a3, .inl (cI, 7, .inl v_restNumber_15)), (a4, .inl (cI, 6, .inl v_row)), (a5, .inl (cI, 6, .inl v_position)), (a6, .inr (4, [.ref a7])), (a7, .inl (cI, 117, .inl v_cells))]) ⟨hx, hb, hml, hown, hT⟩ (c_X1_beginRow l dC dI cI cJ cP cS a0 a1 a2 a3 a4 a5 a6 a7 r_3 v_number v_cost v_rows v_restCost_9 v_nextRow_10 v_restNumber_11 v_cells x2 i4_8 v_restCost_13 v_nextRow_14 v_restNumber_15 hq16) (cwV 3 hT (gdV q_ml_X1_40 q_im_X1_beginRow q_se_X1_beginRow q_in_X1 q_co_X1_beginRow) rfl rfl rfl hd_X1_beginRow ⟨Nat.le_of_ble_eq_true rfl, Nat.le_of_ble_eq_true rfl⟩) hK hF hP hD hS hA 0 rfl rfl rfl [0, 1, 2, 3, 6, 7] [4, 5] [2, 3, 4, 5, 0, 1, 6, 7] rfl (by decide) rfl (by decide) (by decide) rfl (by decide) rfl hl.1 rfl (Nat.le_of_ble_eq_true rfl) dX1_compute_44 ⟨Nat.zero_le _, Nat.zero_le _⟩ (fun H locs hP hD hS => ?_)
          refine W.eq (g2 := F0 m 47 ls []) rfl ?_
          refine lv_iinc (v := (i4_8 + (-1 : Int32))) (lv' := [(4, .int (i4_8 + (-1 : Int32))), (0, .ref a0), (1, .ref a6), (2, .int x2)]) hx hb dX1_compute_47 hl (k := 3) rfl rfl (by decide) rfl (fun ls hl => ?_)
          refine lv_goto (tgt := 34) hx hb dX1_compute_50 (by decide) ?_
          exact ih34 (i4_8 + (-1 : Int32)) v_restCost_13 v_nextRow_14 v_restNumber_15 (hi _ (Option.some.inj hf).symm) H locs ls hP hD hS (lv_sub hl [1, 2, 3, 0] rfl)
    obtain ⟨f4_21, v_restCost_22, v_nextRow_23, v_restNumber_24, hq, hf⟩ := bd4_el hf
    refine hL34 (f4_21, v_restCost_22, v_nextRow_23, v_restNumber_24) (fun z_17 z_18 z_19 z_20 h9 H locs ls hP hD hS hl => ?_) fuel x4_7 (upd v_restCost (tn r_1) (0 : Int32)) v_nextRow (upd v_restNumber (tn r_1) (1 : Int32)) hq H locs ls hP hD hS (lv_sub hl [2, 3, 4, 0] rfl)
    simp only [Prod.mk.injEq] at h9
    obtain ⟨h9_0, h9_1, h9_2, h9_3⟩ := h9
    subst h9_0; subst h9_1; subst h9_2; subst h9_3
    refine lv_aload_n hx hb dX1_compute_53 rfl (lv_at hl 0 rfl) ?_
    refine lv_aload_n hx hb dX1_compute_54 rfl (lv_at hl 0 rfl) ?_
    refine va_get (D := (dC, dI)) (ci := 1) (v := .ref a3) (C := RX1) (T := TX1) (N := 9) hx hb hT in_X1 hown hK hP 0 rfl rfl 2 (by decide) (hT _ q_fl_X1_18) (fun _ h9 => h9) rfl dX1_compute_55 ?_
    refine lv_iconst (v := 0) hx hb dX1_compute_58 (by decide) ?_
    refine ia_ld hx hb hK hP 3 0 rfl rfl (ib_in (by decide)) (j := 0) (by decide) dX1_compute_59 ?_
    refine va_put (D := (dC, dI)) (ci := 1) (v := .int (v_restNumber_24 0)) (ty := .int) (C := RX1) (T := TX1) (N := 9) hx hb hT in_X1 tyX1 tyX1_ok nmX1 hown hK hP hD hS 0 rfl rfl 6 (by decide) (hT _ q_fl_X1_44) (fun _ h9 => h9) rfl (tyX1_ok 6 (by decide)) rfl rfl (Nat.le_of_ble_eq_true rfl) dX1_compute_60 (fun H locs hP hD hS => ?_)
    have hP : va_P (dC, dI) vwCl [(a0, .inr (1, [.ref a1, .ref a2, .ref a3, .ref a4, .ref a5, .int r_3, .int (v_restNumber_24 0), .int v_cost, .int v_rows])), (a1, .inl (cI, 7, .inl v_restCost_22)), (a2, .inl (cI, 7, .inl v_nextRow_23)), (a3, .inl (cI, 7, .inl v_restNumber_24)), (a4, .inl (cI, 6, .inl v_row)), (a5, .inl (cI, 6, .inl v_position)), (a6, .inr (4, [.ref a7])), (a7, .inl (cI, 117, .inl v_cells))] H := hP
    have hD : va_D A [(a0, .inr (1, [.ref a1, .ref a2, .ref a3, .ref a4, .ref a5, .int r_3, .int (v_restNumber_24 0), .int v_cost, .int v_rows])), (a1, .inl (cI, 7, .inl v_restCost_22)), (a2, .inl (cI, 7, .inl v_nextRow_23)), (a3, .inl (cI, 7, .inl v_restNumber_24)), (a4, .inl (cI, 6, .inl v_row)), (a5, .inl (cI, 6, .inl v_position)), (a6, .inr (4, [.ref a7])), (a7, .inl (cI, 117, .inl v_cells))] := hD
    refine lv_aload_n hx hb dX1_compute_63 rfl (lv_at hl 0 rfl) ?_
    refine lv_aload_n hx hb dX1_compute_64 rfl (lv_at hl 0 rfl) ?_
    refine va_get (D := (dC, dI)) (ci := 1) (v := .ref a1) (C := RX1) (T := TX1) (N := 9) hx hb hT in_X1 hown hK hP 0 rfl rfl 0 (by decide) (hT _ q_fl_X1_9) (fun _ h9 => h9) rfl dX1_compute_65 ?_
    refine lv_iconst (v := 0) hx hb dX1_compute_68 (by decide) ?_
    refine ia_ld hx hb hK hP 1 0 rfl rfl (ib_in (by decide)) (j := 0) (by decide) dX1_compute_69 ?_
    refine va_put (D := (dC, dI)) (ci := 1) (v := .int (v_restCost_22 0)) (ty := .int) (C := RX1) (T := TX1) (N := 9) hx hb hT in_X1 tyX1 tyX1_ok nmX1 hown hK hP hD hS 0 rfl rfl 7 (by decide) (hT _ q_fl_X1_47) (fun _ h9 => h9) rfl (tyX1_ok 7 (by decide)) rfl rfl (Nat.le_of_ble_eq_true rfl) dX1_compute_70 (fun H locs hP hD hS => ?_)
    have hP : va_P (dC, dI) vwCl [(a0, .inr (1, [.ref a1, .ref a2, .ref a3, .ref a4, .ref a5, .int r_3, .int (v_restNumber_24 0), .int (v_restCost_22 0), .int v_rows])), (a1, .inl (cI, 7, .inl v_restCost_22)), (a2, .inl (cI, 7, .inl v_nextRow_23)), (a3, .inl (cI, 7, .inl v_restNumber_24)), (a4, .inl (cI, 6, .inl v_row)), (a5, .inl (cI, 6, .inl v_position)), (a6, .inr (4, [.ref a7])), (a7, .inl (cI, 117, .inl v_cells))] H := hP
    have hD : va_D A [(a0, .inr (1, [.ref a1, .ref a2, .ref a3, .ref a4, .ref a5, .int r_3, .int (v_restNumber_24 0), .int (v_restCost_22 0), .int v_rows])), (a1, .inl (cI, 7, .inl v_restCost_22)), (a2, .inl (cI, 7, .inl v_nextRow_23)), (a3, .inl (cI, 7, .inl v_restNumber_24)), (a4, .inl (cI, 6, .inl v_row)), (a5, .inl (cI, 6, .inl v_position)), (a6, .inr (4, [.ref a7])), (a7, .inl (cI, 117, .inl v_cells))] := hD
    refine lv_aload_n hx hb dX1_compute_73 rfl (lv_at hl 0 rfl) ?_
    refine va_get (D := (dC, dI)) (ci := 1) (v := .int (v_restCost_22 0)) (C := RX1) (T := TX1) (N := 9) hx hb hT in_X1 hown hK hP 0 rfl rfl 7 (by decide) (hT _ q_fl_X1_47) (fun _ h9 => h9) rfl dX1_compute_74 ?_
    refine lv_bipush (v := (-4)) hx hb dX1_compute_77 (by decide) ?_
    refine lv_icmp_ne (tgt := 91) hx hb dX1_compute_79 (by decide) (fun c25 => ?_) (fun c25 => ?_)
    · replace hf := it_f c25 hf
      refine lv_aload_n hx hb dX1_compute_91 rfl (lv_at hl 0 rfl) ?_
      refine lv_aload_n hx hb dX1_compute_92 rfl (lv_at hl 1 rfl) ?_
      refine lv_iload_n hx hb dX1_compute_93 rfl (lv_at hl 2 rfl) ?_
      obtain ⟨v_rows_26, v_row_27, v_position_28, hq29, hf⟩ := bd3_el hf
      refine mc_V (As := [.ref a6, .int x2]) (rest := []) (wr := [(a1, .inl (cI, 7, .inl v_restCost_22)), (a3, .inl (cI, 7, .inl v_restNumber_24))]) (wn := [(a0, .inr (1, [.ref a1, .ref a2, .ref a3, .ref a4, .ref a5, .int r_3, .int (v_restNumber_24 0), .int (v_restCost_22 0), .int v_rows_26])), (a1, .inl (cI, 7, .inl v_restCost_22)), (a2, .inl (cI, 7, .inl v_nextRow_23)), (a3, .inl (cI, 7, .inl v_restNumber_24)), (a4, .inl (cI, 6, .inl v_row_27)), (a5, .inl (cI, 6, .inl v_position_28)), (a6, .inr (4, [.ref a7])), (a7, .inl (cI, 117, .inl v_cells))]) ⟨hx, hb, hml, hown, hT⟩ (c_X1_placeWords l dC dI cI cJ cP cS a0 a1 a2 a3 a4 a5 a6 a7 r_3 (v_restNumber_24 0) (v_restCost_22 0) v_rows v_nextRow_23 v_row v_position v_cells x2 v_rows_26 v_row_27 v_position_28 hq29) (cwV 2 hT (gdV q_ml_X1_53 q_im_X1_placeWords q_se_X1_placeWords q_in_X1 q_co_X1_placeWords) rfl rfl rfl hd_X1_placeWords ⟨Nat.le_of_ble_eq_true rfl, Nat.le_of_ble_eq_true rfl⟩) hK hF hP hD hS hA 0 rfl rfl rfl [0, 2, 4, 5, 6, 7] [1, 3] [2, 0, 3, 1, 4, 5, 6, 7] rfl (by decide) rfl (by decide) (by decide) rfl (by decide) rfl hl.1 rfl (Nat.le_of_ble_eq_true rfl) dX1_compute_94 ⟨Nat.zero_le _, Nat.zero_le _⟩ (fun H locs hP hD hS => ?_)
      refine W.eq (g2 := F0 m 97 ls []) rfl ?_
      replace hf := Option.some.inj hf
      simp only [Prod.mk.injEq] at hf
      obtain ⟨hf0, hf1, hf2, hf3, hf4, hf5, hf6, hf7, hf8⟩ := hf
      subst hf0; subst hf1; subst hf2; subst hf3; subst hf4; subst hf5; subst hf6; subst hf7; subst hf8
      exact hret H locs ls _ dX1_compute_97 hP hD hS
    · replace hf := it_t c25 hf
      refine lv_aload_n hx hb dX1_compute_82 rfl (lv_at hl 0 rfl) ?_
      refine lv_bipush (v := (-4)) hx hb dX1_compute_83 (by decide) ?_
      refine va_put (D := (dC, dI)) (ci := 1) (v := .int (-4 : Int32)) (ty := .int) (C := RX1) (T := TX1) (N := 9) hx hb hT in_X1 tyX1 tyX1_ok nmX1 hown hK hP hD hS 0 rfl rfl 8 (by decide) (hT _ q_fl_X1_50) (fun _ h9 => h9) rfl (tyX1_ok 8 (by decide)) rfl rfl (Nat.le_of_ble_eq_true rfl) dX1_compute_85 (fun H locs hP hD hS => ?_)
      have hP : va_P (dC, dI) vwCl [(a0, .inr (1, [.ref a1, .ref a2, .ref a3, .ref a4, .ref a5, .int r_3, .int (v_restNumber_24 0), .int (v_restCost_22 0), .int (-4 : Int32)])), (a1, .inl (cI, 7, .inl v_restCost_22)), (a2, .inl (cI, 7, .inl v_nextRow_23)), (a3, .inl (cI, 7, .inl v_restNumber_24)), (a4, .inl (cI, 6, .inl v_row)), (a5, .inl (cI, 6, .inl v_position)), (a6, .inr (4, [.ref a7])), (a7, .inl (cI, 117, .inl v_cells))] H := hP
      have hD : va_D A [(a0, .inr (1, [.ref a1, .ref a2, .ref a3, .ref a4, .ref a5, .int r_3, .int (v_restNumber_24 0), .int (v_restCost_22 0), .int (-4 : Int32)])), (a1, .inl (cI, 7, .inl v_restCost_22)), (a2, .inl (cI, 7, .inl v_nextRow_23)), (a3, .inl (cI, 7, .inl v_restNumber_24)), (a4, .inl (cI, 6, .inl v_row)), (a5, .inl (cI, 6, .inl v_position)), (a6, .inr (4, [.ref a7])), (a7, .inl (cI, 117, .inl v_cells))] := hD
      refine lv_goto (tgt := 97) hx hb dX1_compute_88 (by decide) ?_
      replace hf := Option.some.inj hf
      simp only [Prod.mk.injEq] at hf
      obtain ⟨hf0, hf1, hf2, hf3, hf4, hf5, hf6, hf7, hf8⟩ := hf
      subst hf0; subst hf1; subst hf2; subst hf3; subst hf4; subst hf5; subst hf6; subst hf7; subst hf8
      exact hret H locs ls _ dX1_compute_97 hP hD hS
  refine key _ ?_ _ _ _ hP hD hS hl
  intro H locs ls pc d hP hD hS
  exact W.vret hx hb hr (fun t ht hW => ⟨⟨rfl, by rw [ht]; exact hP, hD⟩, hS.F ht⟩) hS.2.2 d
def p_X1_rowOf (v_cost : Int32) (v_row : (Nat → Int32)) (x1 : Int32) : Option (Int32) :=
  (if v_cost = (-4 : Int32) then (some (-4 : Int32)) else (gd (ib x1 6) (some (v_row (tn x1)))))
set_option maxHeartbeats 4000000 in
set_option maxRecDepth 100000 in
theorem c_X1_rowOf (l : Launch) (dC : Nat → ClassId) (dI : Nat → Nat → Nat) (cI cJ cP cS : ClassId) (a0 : Nat) (a1 : Nat) (a2 : Nat) (a3 : Nat) (a4 : Nat) (a5 : Nat) (v_indentation : Int32) (v_number : Int32) (v_cost : Int32) (v_rows : Int32) (v_row : (Nat → Int32))  (x1 : Int32) (rv : Int32)  (hf : p_X1_rowOf v_cost v_row x1 = some rv) : MC l (dC, dI) (tyl cI cJ cP cS) yX1_rowOf (Cond.code yX1_rowOf cX1_rowOf 2 (some .int) :: TBG) ({ frames := 0, cells := 0, slots := 0, locals := 0 } : Room) [.ref a0, .int x1] [(a0, .inr (1, [.ref a1, .ref a2, .ref a3, .ref a4, .ref a5, .int v_indentation, .int v_number, .int v_cost, .int v_rows])), (a4, .inl (cI, 6, .inl v_row))] [(a0, .inr (1, [.ref a1, .ref a2, .ref a3, .ref a4, .ref a5, .int v_indentation, .int v_number, .int v_cost, .int v_rows])), (a4, .inl (cI, 6, .inl v_row))] (some (.int rv)) := by
  intro sz
  unfold MPost
  refine Met.ofW (cc := cX1_rowOf) (maxL := 2) (ret := (some .int)) (by decide) rfl ?_
  intro p e s m args below meth c s₁ B hml hv
  obtain ⟨rfl, hsz, hP, hK, hD0, hF⟩ := hv
  have hx := B.exec
  have hb := B.bytes
  have hr := B.returns
  have hT : ∀ w ∈ TBG, w.before _ s = true := fun w h => atoms_spec B.pre w (List.mem_cons_of_mem _ h)
  have hown : s.vm.findClass RX1 = some m.cls := findClass_of_methodNamed B.named
  have hlocks := B.notSynchronized
  subst hsz
  have hD := hD0.self (sz := s.heap.size)
  generalize hAe : va_A [(a0, .inr (1, [.ref a1, .ref a2, .ref a3, .ref a4, .ref a5, .int v_indentation, .int v_number, .int v_cost, .int v_rows])), (a4, .inl (cI, 6, .inl v_row))] s.heap.size = A at hD hF ⊢
  have hA : ∀ q : Nat, s.heap.size ≤ q → A q := fun q h => by rw [← hAe]; exact Or.inr h
  have hS : va_S A s.heap s.heap [] := va_S.rf
  have hl := lv_entry ([.ref a0, .int x1]) (n := 2) (Nat.le_of_ble_eq_true rfl)
  rw [lg_entry_eq]
  generalize (lg_sl ([.ref a0, .int x1]) ++ List.replicate (2 - (lg_sl ([.ref a0, .int x1])).length) Slot.unset).toArray = ls at hl ⊢
  have hl : lv_has ls 2 [(0, .ref a0), (1, .int x1)] := hl
  generalize ([.ref a0, .int x1] : List Value).toArray = args at hT ⊢
  have key : ∀ (Q : State → Prop), (∀ (H : Heap) (locs : List Loc) (ls : Array Slot) (pc : Nat), decode cX1_rowOf pc = .ok (.ireturn, 1) → va_P (dC, dI) vwCl [(a0, .inr (1, [.ref a1, .ref a2, .ref a3, .ref a4, .ref a5, .int v_indentation, .int v_number, .int v_cost, .int v_rows])), (a4, .inl (cI, 6, .inl v_row))] H → va_D A [(a0, .inr (1, [.ref a1, .ref a2, .ref a3, .ref a4, .ref a5, .int v_indentation, .int v_number, .int v_cost, .int v_rows])), (a4, .inl (cI, 6, .inl v_row))] → va_S A s.heap H locs → W p l e ({ frames := 0, cells := 0, slots := 0, locals := 0 } : Room) s m args below meth c H locs 0 0 Q (F0 m pc ls [.int rv])) → ∀ (H : Heap) (locs : List Loc) (ls : Array Slot), va_P (dC, dI) vwCl [(a0, .inr (1, [.ref a1, .ref a2, .ref a3, .ref a4, .ref a5, .int v_indentation, .int v_number, .int v_cost, .int v_rows])), (a4, .inl (cI, 6, .inl v_row))] H → va_D A [(a0, .inr (1, [.ref a1, .ref a2, .ref a3, .ref a4, .ref a5, .int v_indentation, .int v_number, .int v_cost, .int v_rows])), (a4, .inl (cI, 6, .inl v_row))] → va_S A s.heap H locs → lv_has ls 2 [(0, .ref a0), (1, .int x1)] → W p l e ({ frames := 0, cells := 0, slots := 0, locals := 0 } : Room) s m args below meth c H locs 0 0 Q (F0 m 0 ls []) := by
    intro Q hret H locs ls hP hD hS hl
    refine lv_aload_n hx hb dX1_rowOf_0 rfl (lv_at hl 0 rfl) ?_
    refine va_get (D := (dC, dI)) (ci := 1) (v := .int v_cost) (C := RX1) (T := TX1) (N := 9) hx hb hT in_X1 hown hK hP 0 rfl rfl 7 (by decide) (hT _ q_fl_X1_47) (fun _ h9 => h9) rfl dX1_rowOf_1 ?_
    refine lv_bipush (v := (-4)) hx hb dX1_rowOf_4 (by decide) ?_
    refine lv_icmp_ne (tgt := 14) hx hb dX1_rowOf_6 (by decide) (fun c1 => ?_) (fun c1 => ?_)
    · replace hf := it_f c1 hf
      refine lv_aload_n hx hb dX1_rowOf_14 rfl (lv_at hl 0 rfl) ?_
      refine va_get (D := (dC, dI)) (ci := 1) (v := .ref a4) (C := RX1) (T := TX1) (N := 9) hx hb hT in_X1 hown hK hP 0 rfl rfl 3 (by decide) (hT _ q_fl_X1_21) (fun _ h9 => h9) rfl dX1_rowOf_15 ?_
      refine lv_iload_n hx hb dX1_rowOf_18 rfl (lv_at hl 1 rfl) ?_
      obtain ⟨h2, hf⟩ := gd_el hf
      refine ia_ld hx hb hK hP 1 0 rfl rfl (ib_in h2) (j := (tn x1)) rfl dX1_rowOf_19 ?_
      replace hf := Option.some.inj hf
      subst hf
      exact hret H locs ls _ dX1_rowOf_20 hP hD hS
    · replace hf := it_t c1 hf
      refine lv_bipush (v := (-4)) hx hb dX1_rowOf_9 (by decide) ?_
      refine lv_goto (tgt := 20) hx hb dX1_rowOf_11 (by decide) ?_
      replace hf := Option.some.inj hf
      subst hf
      exact hret H locs ls _ dX1_rowOf_20 hP hD hS
  refine key _ ?_ _ _ _ hP hD hS hl
  intro H locs ls pc d hP hD hS
  exact W.iret (v := rv) hx hb hr (fun t ht hW => ⟨⟨rfl, by rw [ht]; exact hP, hD⟩, hS.F ht⟩) hS.2.2 d
def p_X1_positionOf (v_cost : Int32) (v_position : (Nat → Int32)) (x1 : Int32) : Option (Int32) :=
  (if v_cost = (-4 : Int32) then (some (-4 : Int32)) else (gd (ib x1 6) (some (v_position (tn x1)))))
set_option maxHeartbeats 4000000 in
set_option maxRecDepth 100000 in
theorem c_X1_positionOf (l : Launch) (dC : Nat → ClassId) (dI : Nat → Nat → Nat) (cI cJ cP cS : ClassId) (a0 : Nat) (a1 : Nat) (a2 : Nat) (a3 : Nat) (a4 : Nat) (a5 : Nat) (v_indentation : Int32) (v_number : Int32) (v_cost : Int32) (v_rows : Int32) (v_position : (Nat → Int32))  (x1 : Int32) (rv : Int32)  (hf : p_X1_positionOf v_cost v_position x1 = some rv) : MC l (dC, dI) (tyl cI cJ cP cS) yX1_positionOf (Cond.code yX1_positionOf cX1_positionOf 2 (some .int) :: TBG) ({ frames := 0, cells := 0, slots := 0, locals := 0 } : Room) [.ref a0, .int x1] [(a0, .inr (1, [.ref a1, .ref a2, .ref a3, .ref a4, .ref a5, .int v_indentation, .int v_number, .int v_cost, .int v_rows])), (a5, .inl (cI, 6, .inl v_position))] [(a0, .inr (1, [.ref a1, .ref a2, .ref a3, .ref a4, .ref a5, .int v_indentation, .int v_number, .int v_cost, .int v_rows])), (a5, .inl (cI, 6, .inl v_position))] (some (.int rv)) := by
  intro sz
  unfold MPost
  refine Met.ofW (cc := cX1_positionOf) (maxL := 2) (ret := (some .int)) (by decide) rfl ?_
  intro p e s m args below meth c s₁ B hml hv
  obtain ⟨rfl, hsz, hP, hK, hD0, hF⟩ := hv
  have hx := B.exec
  have hb := B.bytes
  have hr := B.returns
  have hT : ∀ w ∈ TBG, w.before _ s = true := fun w h => atoms_spec B.pre w (List.mem_cons_of_mem _ h)
  have hown : s.vm.findClass RX1 = some m.cls := findClass_of_methodNamed B.named
  have hlocks := B.notSynchronized
  subst hsz
  have hD := hD0.self (sz := s.heap.size)
  generalize hAe : va_A [(a0, .inr (1, [.ref a1, .ref a2, .ref a3, .ref a4, .ref a5, .int v_indentation, .int v_number, .int v_cost, .int v_rows])), (a5, .inl (cI, 6, .inl v_position))] s.heap.size = A at hD hF ⊢
  have hA : ∀ q : Nat, s.heap.size ≤ q → A q := fun q h => by rw [← hAe]; exact Or.inr h
  have hS : va_S A s.heap s.heap [] := va_S.rf
  have hl := lv_entry ([.ref a0, .int x1]) (n := 2) (Nat.le_of_ble_eq_true rfl)
  rw [lg_entry_eq]
  generalize (lg_sl ([.ref a0, .int x1]) ++ List.replicate (2 - (lg_sl ([.ref a0, .int x1])).length) Slot.unset).toArray = ls at hl ⊢
  have hl : lv_has ls 2 [(0, .ref a0), (1, .int x1)] := hl
  generalize ([.ref a0, .int x1] : List Value).toArray = args at hT ⊢
  have key : ∀ (Q : State → Prop), (∀ (H : Heap) (locs : List Loc) (ls : Array Slot) (pc : Nat), decode cX1_positionOf pc = .ok (.ireturn, 1) → va_P (dC, dI) vwCl [(a0, .inr (1, [.ref a1, .ref a2, .ref a3, .ref a4, .ref a5, .int v_indentation, .int v_number, .int v_cost, .int v_rows])), (a5, .inl (cI, 6, .inl v_position))] H → va_D A [(a0, .inr (1, [.ref a1, .ref a2, .ref a3, .ref a4, .ref a5, .int v_indentation, .int v_number, .int v_cost, .int v_rows])), (a5, .inl (cI, 6, .inl v_position))] → va_S A s.heap H locs → W p l e ({ frames := 0, cells := 0, slots := 0, locals := 0 } : Room) s m args below meth c H locs 0 0 Q (F0 m pc ls [.int rv])) → ∀ (H : Heap) (locs : List Loc) (ls : Array Slot), va_P (dC, dI) vwCl [(a0, .inr (1, [.ref a1, .ref a2, .ref a3, .ref a4, .ref a5, .int v_indentation, .int v_number, .int v_cost, .int v_rows])), (a5, .inl (cI, 6, .inl v_position))] H → va_D A [(a0, .inr (1, [.ref a1, .ref a2, .ref a3, .ref a4, .ref a5, .int v_indentation, .int v_number, .int v_cost, .int v_rows])), (a5, .inl (cI, 6, .inl v_position))] → va_S A s.heap H locs → lv_has ls 2 [(0, .ref a0), (1, .int x1)] → W p l e ({ frames := 0, cells := 0, slots := 0, locals := 0 } : Room) s m args below meth c H locs 0 0 Q (F0 m 0 ls []) := by
    intro Q hret H locs ls hP hD hS hl
    refine lv_aload_n hx hb dX1_positionOf_0 rfl (lv_at hl 0 rfl) ?_
    refine va_get (D := (dC, dI)) (ci := 1) (v := .int v_cost) (C := RX1) (T := TX1) (N := 9) hx hb hT in_X1 hown hK hP 0 rfl rfl 7 (by decide) (hT _ q_fl_X1_47) (fun _ h9 => h9) rfl dX1_positionOf_1 ?_
    refine lv_bipush (v := (-4)) hx hb dX1_positionOf_4 (by decide) ?_
    refine lv_icmp_ne (tgt := 14) hx hb dX1_positionOf_6 (by decide) (fun c1 => ?_) (fun c1 => ?_)
    · replace hf := it_f c1 hf
      refine lv_aload_n hx hb dX1_positionOf_14 rfl (lv_at hl 0 rfl) ?_
      refine va_get (D := (dC, dI)) (ci := 1) (v := .ref a5) (C := RX1) (T := TX1) (N := 9) hx hb hT in_X1 hown hK hP 0 rfl rfl 4 (by decide) (hT _ q_fl_X1_24) (fun _ h9 => h9) rfl dX1_positionOf_15 ?_
      refine lv_iload_n hx hb dX1_positionOf_18 rfl (lv_at hl 1 rfl) ?_
      obtain ⟨h2, hf⟩ := gd_el hf
      refine ia_ld hx hb hK hP 1 0 rfl rfl (ib_in h2) (j := (tn x1)) rfl dX1_positionOf_19 ?_
      replace hf := Option.some.inj hf
      subst hf
      exact hret H locs ls _ dX1_positionOf_20 hP hD hS
    · replace hf := it_t c1 hf
      refine lv_bipush (v := (-4)) hx hb dX1_positionOf_9 (by decide) ?_
      refine lv_goto (tgt := 20) hx hb dX1_positionOf_11 (by decide) ?_
      replace hf := Option.some.inj hf
      subst hf
      exact hret H locs ls _ dX1_positionOf_20 hP hD hS
  refine key _ ?_ _ _ _ hP hD hS hl
  intro H locs ls pc d hP hD hS
  exact W.iret (v := rv) hx hb hr (fun t ht hW => ⟨⟨rfl, by rw [ht]; exact hP, hD⟩, hS.F ht⟩) hS.2.2 d
def p_X2_fitting_B63_11 (x5 : Int32) (i8_8 : Int32) (v_tenths_9 : (Nat → Int64)) (w0_11 : Int64) : Option ((Int32 × (Nat → Int64)) ⊕ (Int32 × (Nat → Int64))) :=
  (gd (ib i8_8 21) (gd (ib i8_8 21) (some (.inl ((i8_8 + (-1 : Int32)), (vp_updL v_tenths_9 (tn i8_8) (((v_tenths_9 (tn i8_8)) * (Int32.toInt64 x5)) + (w0_11 * (Int32.toInt64 ((10 : Int32) - x5))))))))))
def p_X2_fitting_L37 (x5 : Int32) (x7_7 : Int32) (s : Int32 × (Nat → Int64)) : Option ((Int32 × (Nat → Int64)) ⊕ (Int32 × (Nat → Int64))) := match s with
  | (i8_8, v_tenths_9) => (if i8_8 < (0 : Int32) then (some (.inr (i8_8, v_tenths_9))) else (if i8_8 < x7_7 then (p_X2_fitting_B63_11 x5 i8_8 v_tenths_9 (0 : Int64)) else (gd (ib (i8_8 - x7_7) 21) (p_X2_fitting_B63_11 x5 i8_8 v_tenths_9 (v_tenths_9 (tn (i8_8 - x7_7)))))))
def p_X2_fitting_L18 (v_rows : (Nat → Int32)) (x1 : Int32) (x4 : Int32) (x5 : Int32) (s : Int32 × (Nat → Int64)) : Option ((Int32 × (Nat → Int64)) ⊕ (Int32 × (Nat → Int64))) := match s with
  | (i6_3, v_tenths_4) => (if x4 ≤ i6_3 then (some (.inr (i6_3, v_tenths_4))) else (gd (ib i6_3 12) (nm (v_rows (tn i6_3)) fun x7_7 => (bd2 (loopN (p_X2_fitting_L37 x5 x7_7) fuel (x1, v_tenths_4)) fun f8_18 v_tenths_19 => (some (.inl ((i6_3 + (1 : Int32)), v_tenths_19)))))))
def p_X2_fitting_L111 (x1 : Int32) (v_tenths_23 : (Nat → Int64)) (s : Int64 × Int32) : Option ((Int64 × Int32) ⊕ (Int64 × Int32)) := match s with
  | (i6_24, i8_25) => (if x1 < i8_25 then (some (.inr (i6_24, i8_25))) else (gd (ib i8_25 21) (nm (i6_24 + (v_tenths_23 (tn i8_25))) fun x6_28 => (some (.inl (x6_28, (i8_25 + (1 : Int32))))))))
def p_X2_fitting (v_tenths : (Nat → Int64)) (v_rows : (Nat → Int32)) (x1 : Int32) (x3 : Int32) (x4 : Int32) (x5 : Int32) : Option (Int64 × (Nat → Int64)) :=
  (bd1 (p_J7_fill_d0a16 v_tenths 21 (0 : Int64)) fun v_tenths_1 => (bd2 (loopN (p_X2_fitting_L18 v_rows x1 x4 x5) fuel (x3, (vp_updL v_tenths_1 0 (1 : Int64)))) fun f6_22 v_tenths_23 => (bd2 (loopN (p_X2_fitting_L111 x1 v_tenths_23) fuel ((0 : Int64), (0 : Int32))) fun f6_31 f8_32 => (some (f6_31, v_tenths_23)))))
set_option maxHeartbeats 4000000 in
set_option maxRecDepth 100000 in
theorem c_X2_fitting (l : Launch) (dC : Nat → ClassId) (dI : Nat → Nat → Nat) (cI cJ cP cS : ClassId) (a0 : Nat) (a1 : Nat) (a2 : Nat) (a3 : Nat) (a4 : Nat) (a5 : Nat) (v_numerator : Int64) (v_denominator : Int64) (v_tenths : (Nat → Int64)) (v_allFit : Int32) (v_rows : (Nat → Int32))  (x1 : Int32) (x3 : Int32) (x4 : Int32) (x5 : Int32) (rv : Int64) (v_tenths_o : (Nat → Int64)) (hf : p_X2_fitting v_tenths v_rows x1 x3 x4 x5 = some (rv, v_tenths_o)) : MC l (dC, dI) (tyl cI cJ cP cS) yX2_fitting (Cond.code yX2_fitting cX2_fitting 11 (some .long) :: TBG) ({ frames := 1, cells := 0, slots := 0, locals := 24 } : Room) [.ref a0, .int x1, .ref a2, .int x3, .int x4, .int x5] [(a0, .inr (2, [.ref a1, .long v_numerator, .long v_denominator])), (a1, .inl (cJ, 21, .inr (.inl v_tenths))), (a2, .inr (3, [.ref a3, .int v_allFit, .ref a4, .ref a5])), (a3, .inl (cI, 12, .inl v_rows))] [(a0, .inr (2, [.ref a1, .long v_numerator, .long v_denominator])), (a1, .inl (cJ, 21, .inr (.inl v_tenths_o))), (a2, .inr (3, [.ref a3, .int v_allFit, .ref a4, .ref a5])), (a3, .inl (cI, 12, .inl v_rows))] (some (.long rv)) := by
  intro sz
  unfold MPost
  refine Met.ofW (cc := cX2_fitting) (maxL := 11) (ret := (some .long)) (by decide) rfl ?_
  intro p e s m args below meth c s₁ B hml hv
  obtain ⟨rfl, hsz, hP, hK, hD0, hF⟩ := hv
  have hx := B.exec
  have hb := B.bytes
  have hr := B.returns
  have hT : ∀ w ∈ TBG, w.before _ s = true := fun w h => atoms_spec B.pre w (List.mem_cons_of_mem _ h)
  have hown : s.vm.findClass RX2 = some m.cls := findClass_of_methodNamed B.named
  have hlocks := B.notSynchronized
  subst hsz
  have hD := hD0.self (sz := s.heap.size)
  generalize hAe : va_A [(a0, .inr (2, [.ref a1, .long v_numerator, .long v_denominator])), (a1, .inl (cJ, 21, .inr (.inl v_tenths))), (a2, .inr (3, [.ref a3, .int v_allFit, .ref a4, .ref a5])), (a3, .inl (cI, 12, .inl v_rows))] s.heap.size = A at hD hF ⊢
  have hA : ∀ q : Nat, s.heap.size ≤ q → A q := fun q h => by rw [← hAe]; exact Or.inr h
  have hS : va_S A s.heap s.heap [] := va_S.rf
  have hl := lv_entry ([.ref a0, .int x1, .ref a2, .int x3, .int x4, .int x5]) (n := 11) (Nat.le_of_ble_eq_true rfl)
  rw [lg_entry_eq]
  generalize (lg_sl ([.ref a0, .int x1, .ref a2, .int x3, .int x4, .int x5]) ++ List.replicate (11 - (lg_sl ([.ref a0, .int x1, .ref a2, .int x3, .int x4, .int x5])).length) Slot.unset).toArray = ls at hl ⊢
  have hl : lv_has ls 11 [(0, .ref a0), (1, .int x1), (2, .ref a2), (3, .int x3), (4, .int x4), (5, .int x5)] := hl
  generalize ([.ref a0, .int x1, .ref a2, .int x3, .int x4, .int x5] : List Value).toArray = args at hT ⊢
  have key : ∀ (Q : State → Prop), (∀ (H : Heap) (locs : List Loc) (ls : Array Slot) (pc : Nat), decode cX2_fitting pc = .ok (.lreturn, 1) → va_P (dC, dI) vwCl [(a0, .inr (2, [.ref a1, .long v_numerator, .long v_denominator])), (a1, .inl (cJ, 21, .inr (.inl v_tenths_o))), (a2, .inr (3, [.ref a3, .int v_allFit, .ref a4, .ref a5])), (a3, .inl (cI, 12, .inl v_rows))] H → va_D A [(a0, .inr (2, [.ref a1, .long v_numerator, .long v_denominator])), (a1, .inl (cJ, 21, .inr (.inl v_tenths_o))), (a2, .inr (3, [.ref a3, .int v_allFit, .ref a4, .ref a5])), (a3, .inl (cI, 12, .inl v_rows))] → va_S A s.heap H locs → W p l e ({ frames := 1, cells := 0, slots := 0, locals := 24 } : Room) s m args below meth c H locs 0 0 Q (F0 m pc ls [.long rv])) → ∀ (H : Heap) (locs : List Loc) (ls : Array Slot), va_P (dC, dI) vwCl [(a0, .inr (2, [.ref a1, .long v_numerator, .long v_denominator])), (a1, .inl (cJ, 21, .inr (.inl v_tenths))), (a2, .inr (3, [.ref a3, .int v_allFit, .ref a4, .ref a5])), (a3, .inl (cI, 12, .inl v_rows))] H → va_D A [(a0, .inr (2, [.ref a1, .long v_numerator, .long v_denominator])), (a1, .inl (cJ, 21, .inr (.inl v_tenths))), (a2, .inr (3, [.ref a3, .int v_allFit, .ref a4, .ref a5])), (a3, .inl (cI, 12, .inl v_rows))] → va_S A s.heap H locs → lv_has ls 11 [(0, .ref a0), (1, .int x1), (2, .ref a2), (3, .int x3), (4, .int x4), (5, .int x5)] → W p l e ({ frames := 1, cells := 0, slots := 0, locals := 24 } : Room) s m args below meth c H locs 0 0 Q (F0 m 0 ls []) := by
    intro Q hret H locs ls hP hD hS hl
    refine lv_aload_n hx hb dX2_fitting_0 rfl (lv_at hl 0 rfl) ?_
    refine va_get (D := (dC, dI)) (ci := 2) (v := .ref a1) (C := RX2) (T := TX2) (N := 3) hx hb hT in_X2 hown hK hP 0 rfl rfl 0 (by decide) (hT _ q_fl_X2_9) (fun _ h9 => h9) rfl dX2_fitting_1 ?_
    refine lv_lconst (v := 0) hx hb dX2_fitting_4 (by decide) ?_
    obtain ⟨v_tenths_1, hq2, hf⟩ := bd1_el hf
    refine mc_S (As := [.ref a1, .long (0 : Int64)]) (rest := []) (wr := [(a0, .inr (2, [.ref a1, .long v_numerator, .long v_denominator])), (a2, .inr (3, [.ref a3, .int v_allFit, .ref a4, .ref a5])), (a3, .inl (cI, 12, .inl v_rows))]) (wn := [(a0, .inr (2, [.ref a1, .long v_numerator, .long v_denominator])), (a1, .inl (cJ, 21, .inr (.inl v_tenths_1))), (a2, .inr (3, [.ref a3, .int v_allFit, .ref a4, .ref a5])), (a3, .inl (cI, 12, .inl v_rows))]) ⟨hx, hb, hml, hown, hT⟩ (c_J7_fill_d0a16 l dC dI cI cJ cP cS a1 v_tenths 21 (0 : Int64) v_tenths_1 hq2) (va_cwS 2 hT (gdS q_ml_X2_54 q_st_J7_fill_d0a16 q_in_J7 q_co_J7_fill_d0a16) rfl rfl rfl hd_J7_fill_d0a16 ⟨Nat.le_of_ble_eq_true rfl, Nat.le_of_ble_eq_true rfl⟩) hK hF hP hD hS hA [1] [0, 2, 3] [0, 3, 1, 2] rfl (by decide) rfl (by decide) (by decide) rfl (by decide) rfl hl.1 rfl (Nat.le_of_ble_eq_true rfl) dX2_fitting_5 ⟨Nat.zero_le _, Nat.zero_le _⟩ (fun H locs hP hD hS => ?_)
    refine W.eq (g2 := F0 m 8 ls []) rfl ?_
    refine lv_aload_n hx hb dX2_fitting_8 rfl (lv_at hl 0 rfl) ?_
    refine va_get (D := (dC, dI)) (ci := 2) (v := .ref a1) (C := RX2) (T := TX2) (N := 3) hx hb hT in_X2 hown hK hP 0 rfl rfl 0 (by decide) (hT _ q_fl_X2_9) (fun _ h9 => h9) rfl dX2_fitting_9 ?_
    refine lv_iconst (v := 0) hx hb dX2_fitting_12 (by decide) ?_
    refine lv_lconst (v := 1) hx hb dX2_fitting_13 (by decide) ?_
    refine la_st hx hb hK hP hD hS 1 1 rfl rfl (ib_in (by decide)) (j := 0) (by decide) dX2_fitting_14 (fun H locs hP hD hS => ?_)
    have hP : va_P (dC, dI) vwCl [(a0, .inr (2, [.ref a1, .long v_numerator, .long v_denominator])), (a1, .inl (cJ, 21, .inr (.inl (vp_updL v_tenths_1 0 (1 : Int64))))), (a2, .inr (3, [.ref a3, .int v_allFit, .ref a4, .ref a5])), (a3, .inl (cI, 12, .inl v_rows))] H := hP
    have hD : va_D A [(a0, .inr (2, [.ref a1, .long v_numerator, .long v_denominator])), (a1, .inl (cJ, 21, .inr (.inl (vp_updL v_tenths_1 0 (1 : Int64))))), (a2, .inr (3, [.ref a3, .int v_allFit, .ref a4, .ref a5])), (a3, .inl (cI, 12, .inl v_rows))] := hD
    refine lv_iload_n hx hb dX2_fitting_15 rfl (lv_at hl 3 rfl) ?_
    refine lv_istore (lv' := [(6, .int x3), (0, .ref a0), (1, .int x1), (2, .ref a2), (3, .int x3), (4, .int x4), (5, .int x5)]) hx hb dX2_fitting_16 hl (by decide) rfl (fun ls hl => ?_)
    have hL18 : ∀ (rr : Int32 × (Nat → Int64)), (∀ (z_20 : Int32) (z_21 : (Nat → Int64)), rr = (z_20, z_21) → ∀ (H : Heap) (locs : List Loc) (ls : Array Slot), va_P (dC, dI) vwCl [(a0, .inr (2, [.ref a1, .long v_numerator, .long v_denominator])), (a1, .inl (cJ, 21, .inr (.inl z_21))), (a2, .inr (3, [.ref a3, .int v_allFit, .ref a4, .ref a5])), (a3, .inl (cI, 12, .inl v_rows))] H → va_D A [(a0, .inr (2, [.ref a1, .long v_numerator, .long v_denominator])), (a1, .inl (cJ, 21, .inr (.inl z_21))), (a2, .inr (3, [.ref a3, .int v_allFit, .ref a4, .ref a5])), (a3, .inl (cI, 12, .inl v_rows))] → va_S A s.heap H locs → lv_has ls 11 [(0, .ref a0), (1, .int x1)] → W p l e ({ frames := 1, cells := 0, slots := 0, locals := 24 } : Room) s m args below meth c H locs 0 0 Q (F0 m 105 ls [])) → ∀ (n : Nat) (i6_3 : Int32) (v_tenths_4 : (Nat → Int64)), loopN (p_X2_fitting_L18 v_rows x1 x4 x5) n (i6_3, v_tenths_4) = some rr → ∀ (H : Heap) (locs : List Loc) (ls : Array Slot), va_P (dC, dI) vwCl [(a0, .inr (2, [.ref a1, .long v_numerator, .long v_denominator])), (a1, .inl (cJ, 21, .inr (.inl v_tenths_4))), (a2, .inr (3, [.ref a3, .int v_allFit, .ref a4, .ref a5])), (a3, .inl (cI, 12, .inl v_rows))] H → va_D A [(a0, .inr (2, [.ref a1, .long v_numerator, .long v_denominator])), (a1, .inl (cJ, 21, .inr (.inl v_tenths_4))), (a2, .inr (3, [.ref a3, .int v_allFit, .ref a4, .ref a5])), (a3, .inl (cI, 12, .inl v_rows))] → va_S A s.heap H locs → lv_has ls 11 [(0, .ref a0), (1, .int x1), (2, .ref a2), (4, .int x4), (5, .int x5), (6, .int i6_3)] → W p l e ({ frames := 1, cells := 0, slots := 0, locals := 24 } : Room) s m args below meth c H locs 0 0 Q (F0 m 18 ls []) := by
      intro rr hk18 n
      induction n with
      | zero => intro i6_3 v_tenths_4 hf; cases hf
      | succ n ih18 =>
        intro i6_3 v_tenths_4 hf H locs ls hP hD hS hl
        obtain ⟨o18, hf, hi, he⟩ := loopN_el hf
        refine lv_iload hx hb dX2_fitting_18 (lv_at hl 5 rfl) ?_
        refine lv_iload hx hb dX2_fitting_20 (lv_at hl 3 rfl) ?_
        refine lv_icmp_ge (tgt := 105) hx hb dX2_fitting_22 (by decide) (fun c5 => ?_) (fun c5 => ?_)
        · replace hf := it_t c5 hf
          exact hk18 _ _ (he _ (Option.some.inj hf).symm).symm H locs ls hP hD hS (lv_sub hl [0, 1] rfl)
        · replace hf := it_f c5 hf
          refine lv_aload_n hx hb dX2_fitting_25 rfl (lv_at hl 2 rfl) ?_
          refine va_get (D := (dC, dI)) (ci := 3) (v := .ref a3) (C := RX3) (T := TX3) (N := 4) hx hb hT in_X3 hown hK hP 2 rfl rfl 0 (by decide) (hT _ q_fl_X2_60) (fun _ h9 => h9) rfl dX2_fitting_26 ?_
          refine lv_iload hx hb dX2_fitting_29 (lv_at hl 5 rfl) ?_
          obtain ⟨h6, hf⟩ := gd_el hf
          refine ia_ld hx hb hK hP 3 0 rfl rfl (ib_in h6) (j := (tn i6_3)) rfl dX2_fitting_31 ?_
          obtain ⟨x7_7, ex7_7, hf⟩ := nm_el hf
          refine lv_as (congrArg Value.int ex7_7) ?_
          refine lv_istore (lv' := [(7, .int x7_7), (0, .ref a0), (1, .int x1), (2, .ref a2), (4, .int x4), (5, .int x5), (6, .int i6_3)]) hx hb dX2_fitting_32 hl (by decide) rfl (fun ls hl => ?_)
          refine lv_iload_n hx hb dX2_fitting_34 rfl (lv_at hl 2 rfl) ?_
          refine lv_istore (lv' := [(8, .int x1), (7, .int x7_7), (0, .ref a0), (1, .int x1), (2, .ref a2), (4, .int x4), (5, .int x5), (6, .int i6_3)]) hx hb dX2_fitting_35 hl (by decide) rfl (fun ls hl => ?_)
          have hL37 : ∀ (rr : Int32 × (Nat → Int64)), (∀ (z_16 : Int32) (z_17 : (Nat → Int64)), rr = (z_16, z_17) → ∀ (H : Heap) (locs : List Loc) (ls : Array Slot), va_P (dC, dI) vwCl [(a0, .inr (2, [.ref a1, .long v_numerator, .long v_denominator])), (a1, .inl (cJ, 21, .inr (.inl z_17))), (a2, .inr (3, [.ref a3, .int v_allFit, .ref a4, .ref a5])), (a3, .inl (cI, 12, .inl v_rows))] H → va_D A [(a0, .inr (2, [.ref a1, .long v_numerator, .long v_denominator])), (a1, .inl (cJ, 21, .inr (.inl z_17))), (a2, .inr (3, [.ref a3, .int v_allFit, .ref a4, .ref a5])), (a3, .inl (cI, 12, .inl v_rows))] → va_S A s.heap H locs → lv_has ls 11 [(0, .ref a0), (1, .int x1), (2, .ref a2), (4, .int x4), (5, .int x5), (6, .int i6_3)] → W p l e ({ frames := 1, cells := 0, slots := 0, locals := 24 } : Room) s m args below meth c H locs 0 0 Q (F0 m 99 ls [])) → ∀ (n : Nat) (i8_8 : Int32) (v_tenths_9 : (Nat → Int64)), loopN (p_X2_fitting_L37 x5 x7_7) n (i8_8, v_tenths_9) = some rr → ∀ (H : Heap) (locs : List Loc) (ls : Array Slot), va_P (dC, dI) vwCl [(a0, .inr (2, [.ref a1, .long v_numerator, .long v_denominator])), (a1, .inl (cJ, 21, .inr (.inl v_tenths_9))), (a2, .inr (3, [.ref a3, .int v_allFit, .ref a4, .ref a5])), (a3, .inl (cI, 12, .inl v_rows))] H → va_D A [(a0, .inr (2, [.ref a1, .long v_numerator, .long v_denominator])), (a1, .inl (cJ, 21, .inr (.inl v_tenths_9))), (a2, .inr (3, [.ref a3, .int v_allFit, .ref a4, .ref a5])), (a3, .inl (cI, 12, .inl v_rows))] → va_S A s.heap H locs → lv_has ls 11 [(0, .ref a0), (1, .int x1), (2, .ref a2), (4, .int x4), (5, .int x5), (6, .int i6_3), (7, .int x7_7), (8, .int i8_8)] → W p l e ({ frames := 1, cells := 0, slots := 0, locals := 24 } : Room) s m args below meth c H locs 0 0 Q (F0 m 37 ls []) := by
            intro rr hk37 n
            induction n with
            | zero => intro i8_8 v_tenths_9 hf; cases hf
            | succ n ih37 =>
              intro i8_8 v_tenths_9 hf H locs ls hP hD hS hl
              obtain ⟨o37, hf, hi, he⟩ := loopN_el hf
              refine lv_iload hx hb dX2_fitting_37 (lv_at hl 7 rfl) ?_
              refine lv_if_lt (tgt := 99) hx hb dX2_fitting_39 (by decide) (fun c10 => ?_) (fun c10 => ?_)
              · replace hf := it_t c10 hf
                exact hk37 _ _ (he _ (Option.some.inj hf).symm).symm H locs ls hP hD hS (lv_sub hl [0, 1, 2, 3, 4, 5] rfl)
              · replace hf := it_f c10 hf
                refine lv_iload hx hb dX2_fitting_42 (lv_at hl 7 rfl) ?_
                refine lv_iload hx hb dX2_fitting_44 (lv_at hl 6 rfl) ?_
                have hB63_11 : ∀ (w0_11 : Int64), p_X2_fitting_B63_11 x5 i8_8 v_tenths_9 w0_11 = some o37 → ∀ (H : Heap) (locs : List Loc) (ls : Array Slot), va_P (dC, dI) vwCl [(a0, .inr (2, [.ref a1, .long v_numerator, .long v_denominator])), (a1, .inl (cJ, 21, .inr (.inl v_tenths_9))), (a2, .inr (3, [.ref a3, .int v_allFit, .ref a4, .ref a5])), (a3, .inl (cI, 12, .inl v_rows))] H → va_D A [(a0, .inr (2, [.ref a1, .long v_numerator, .long v_denominator])), (a1, .inl (cJ, 21, .inr (.inl v_tenths_9))), (a2, .inr (3, [.ref a3, .int v_allFit, .ref a4, .ref a5])), (a3, .inl (cI, 12, .inl v_rows))] → va_S A s.heap H locs → lv_has ls 11 [(0, .ref a0), (1, .int x1), (2, .ref a2), (4, .int x4), (5, .int x5), (6, .int i6_3), (7, .int x7_7), (8, .int i8_8)] → W p l e ({ frames := 1, cells := 0, slots := 0, locals := 24 } : Room) s m args below meth c H locs 0 0 Q (F0 m 63 ls [.long w0_11]) := by
                  intro w0_11 hf H locs ls hP hD hS hl
                  refine lv_lstore (lv' := [(9, .long w0_11), (0, .ref a0), (1, .int x1), (2, .ref a2), (4, .int x4), (5, .int x5), (6, .int i6_3), (7, .int x7_7), (8, .int i8_8)]) hx hb dX2_fitting_63 hl (by decide) rfl (fun ls hl => ?_)
                  refine lv_aload_n hx hb dX2_fitting_65 rfl (lv_at hl 1 rfl) ?_
                  refine va_get (D := (dC, dI)) (ci := 2) (v := .ref a1) (C := RX2) (T := TX2) (N := 3) hx hb hT in_X2 hown hK hP 0 rfl rfl 0 (by decide) (hT _ q_fl_X2_9) (fun _ h9 => h9) rfl dX2_fitting_66 ?_
                  refine lv_iload hx hb dX2_fitting_69 (lv_at hl 8 rfl) ?_
                  refine lv_aload_n hx hb dX2_fitting_71 rfl (lv_at hl 1 rfl) ?_
                  refine va_get (D := (dC, dI)) (ci := 2) (v := .ref a1) (C := RX2) (T := TX2) (N := 3) hx hb hT in_X2 hown hK hP 0 rfl rfl 0 (by decide) (hT _ q_fl_X2_9) (fun _ h9 => h9) rfl dX2_fitting_72 ?_
                  refine lv_iload hx hb dX2_fitting_75 (lv_at hl 8 rfl) ?_
                  obtain ⟨h12, hf⟩ := gd_el hf
                  refine la_ld hx hb hK hP 1 1 rfl rfl (ib_in h12) (j := (tn i8_8)) rfl dX2_fitting_77 ?_
                  refine lv_iload hx hb dX2_fitting_78 (lv_at hl 5 rfl) ?_
                  refine lv_i2l hx hb dX2_fitting_80 rfl ?_
                  refine lv_lmul hx hb dX2_fitting_81 ?_
                  refine lv_lload hx hb dX2_fitting_82 (lv_at hl 0 rfl) ?_
                  refine lv_bipush (v := 10) hx hb dX2_fitting_84 (by decide) ?_
                  refine lv_iload hx hb dX2_fitting_86 (lv_at hl 5 rfl) ?_
                  refine lv_isub hx hb dX2_fitting_88 ?_
                  refine lv_i2l hx hb dX2_fitting_89 rfl ?_
                  refine lv_lmul hx hb dX2_fitting_90 ?_
                  refine lv_ladd hx hb dX2_fitting_91 ?_
                  obtain ⟨h13, hf⟩ := gd_el hf
                  refine la_st hx hb hK hP hD hS 1 1 rfl rfl (ib_in h13) (j := (tn i8_8)) rfl dX2_fitting_92 (fun H locs hP hD hS => ?_)
                  have hP : va_P (dC, dI) vwCl [(a0, .inr (2, [.ref a1, .long v_numerator, .long v_denominator])), (a1, .inl (cJ, 21, .inr (.inl (vp_updL v_tenths_9 (tn i8_8) (((v_tenths_9 (tn i8_8)) * (Int32.toInt64 x5)) + (w0_11 * (Int32.toInt64 ((10 : Int32) - x5)))))))), (a2, .inr (3, [.ref a3, .int v_allFit, .ref a4, .ref a5])), (a3, .inl (cI, 12, .inl v_rows))] H := hP
                  have hD : va_D A [(a0, .inr (2, [.ref a1, .long v_numerator, .long v_denominator])), (a1, .inl (cJ, 21, .inr (.inl (vp_updL v_tenths_9 (tn i8_8) (((v_tenths_9 (tn i8_8)) * (Int32.toInt64 x5)) + (w0_11 * (Int32.toInt64 ((10 : Int32) - x5)))))))), (a2, .inr (3, [.ref a3, .int v_allFit, .ref a4, .ref a5])), (a3, .inl (cI, 12, .inl v_rows))] := hD
                  refine lv_iinc (v := (i8_8 + (-1 : Int32))) (lv' := [(8, .int (i8_8 + (-1 : Int32))), (9, .long w0_11), (0, .ref a0), (1, .int x1), (2, .ref a2), (4, .int x4), (5, .int x5), (6, .int i6_3), (7, .int x7_7)]) hx hb dX2_fitting_93 hl (k := 8) rfl rfl (by decide) rfl (fun ls hl => ?_)
                  refine lv_goto (tgt := 37) hx hb dX2_fitting_96 (by decide) ?_
                  exact ih37 (i8_8 + (-1 : Int32)) (vp_updL v_tenths_9 (tn i8_8) (((v_tenths_9 (tn i8_8)) * (Int32.toInt64 x5)) + (w0_11 * (Int32.toInt64 ((10 : Int32) - x5))))) (hi _ (Option.some.inj hf).symm) H locs ls hP hD hS (lv_sub hl [2, 3, 4, 5, 6, 7, 8, 0] rfl)
                refine lv_icmp_lt (tgt := 62) hx hb dX2_fitting_46 (by decide) (fun c14 => ?_) (fun c14 => ?_)
                · replace hf := it_t c14 hf
                  refine lv_lconst (v := 0) hx hb dX2_fitting_62 (by decide) ?_
                  exact hB63_11 (0 : Int64) hf H locs ls hP hD hS (lv_sub hl [0, 1, 2, 3, 4, 5, 6, 7] rfl)
                · replace hf := it_f c14 hf
                  refine lv_aload_n hx hb dX2_fitting_49 rfl (lv_at hl 0 rfl) ?_
                  refine va_get (D := (dC, dI)) (ci := 2) (v := .ref a1) (C := RX2) (T := TX2) (N := 3) hx hb hT in_X2 hown hK hP 0 rfl rfl 0 (by decide) (hT _ q_fl_X2_9) (fun _ h9 => h9) rfl dX2_fitting_50 ?_
                  refine lv_iload hx hb dX2_fitting_53 (lv_at hl 7 rfl) ?_
                  refine lv_iload hx hb dX2_fitting_55 (lv_at hl 6 rfl) ?_
                  refine lv_isub hx hb dX2_fitting_57 ?_
                  obtain ⟨h15, hf⟩ := gd_el hf
                  refine la_ld hx hb hK hP 1 1 rfl rfl (ib_in h15) (j := (tn (i8_8 - x7_7))) rfl dX2_fitting_58 ?_
                  refine lv_goto (tgt := 63) hx hb dX2_fitting_59 (by decide) ?_
                  exact hB63_11 (v_tenths_9 (tn (i8_8 - x7_7))) hf H locs ls hP hD hS (lv_sub hl [0, 1, 2, 3, 4, 5, 6, 7] rfl)
          obtain ⟨f8_18, v_tenths_19, hq, hf⟩ := bd2_el hf
          refine hL37 (f8_18, v_tenths_19) (fun z_16 z_17 h9 H locs ls hP hD hS hl => ?_) fuel x1 v_tenths_4 hq H locs ls hP hD hS (lv_sub hl [2, 3, 4, 5, 6, 7, 1, 0] rfl)
          simp only [Prod.mk.injEq] at h9
          obtain ⟨h9_0, h9_1⟩ := h9
          subst h9_0; subst h9_1
          refine lv_iinc (v := (i6_3 + (1 : Int32))) (lv' := [(6, .int (i6_3 + (1 : Int32))), (0, .ref a0), (1, .int x1), (2, .ref a2), (4, .int x4), (5, .int x5)]) hx hb dX2_fitting_99 hl (k := 5) rfl rfl (by decide) rfl (fun ls hl => ?_)
          refine lv_goto (tgt := 18) hx hb dX2_fitting_102 (by decide) ?_
          exact ih18 (i6_3 + (1 : Int32)) v_tenths_19 (hi _ (Option.some.inj hf).symm) H locs ls hP hD hS (lv_sub hl [1, 2, 3, 4, 5, 0] rfl)
    obtain ⟨f6_22, v_tenths_23, hq, hf⟩ := bd2_el hf
    refine hL18 (f6_22, v_tenths_23) (fun z_20 z_21 h9 H locs ls hP hD hS hl => ?_) fuel x3 (vp_updL v_tenths_1 0 (1 : Int64)) hq H locs ls hP hD hS (lv_sub hl [1, 2, 3, 5, 6, 0] rfl)
    simp only [Prod.mk.injEq] at h9
    obtain ⟨h9_0, h9_1⟩ := h9
    subst h9_0; subst h9_1
    refine lv_lconst (v := 0) hx hb dX2_fitting_105 (by decide) ?_
    refine lv_lstore (lv' := [(6, .long (0 : Int64)), (0, .ref a0), (1, .int x1)]) hx hb dX2_fitting_106 hl (by decide) rfl (fun ls hl => ?_)
    refine lv_iconst (v := 0) hx hb dX2_fitting_108 (by decide) ?_
    refine lv_istore (lv' := [(8, .int (0 : Int32)), (6, .long (0 : Int64)), (0, .ref a0), (1, .int x1)]) hx hb dX2_fitting_109 hl (by decide) rfl (fun ls hl => ?_)
    have hL111 : ∀ (rr : Int64 × Int32), (∀ (z_29 : Int64) (z_30 : Int32), rr = (z_29, z_30) → ∀ (H : Heap) (locs : List Loc) (ls : Array Slot), va_P (dC, dI) vwCl [(a0, .inr (2, [.ref a1, .long v_numerator, .long v_denominator])), (a1, .inl (cJ, 21, .inr (.inl v_tenths_23))), (a2, .inr (3, [.ref a3, .int v_allFit, .ref a4, .ref a5])), (a3, .inl (cI, 12, .inl v_rows))] H → va_D A [(a0, .inr (2, [.ref a1, .long v_numerator, .long v_denominator])), (a1, .inl (cJ, 21, .inr (.inl v_tenths_23))), (a2, .inr (3, [.ref a3, .int v_allFit, .ref a4, .ref a5])), (a3, .inl (cI, 12, .inl v_rows))] → va_S A s.heap H locs → lv_has ls 11 [(6, .long z_29)] → W p l e ({ frames := 1, cells := 0, slots := 0, locals := 24 } : Room) s m args below meth c H locs 0 0 Q (F0 m 135 ls [])) → ∀ (n : Nat) (i6_24 : Int64) (i8_25 : Int32), loopN (p_X2_fitting_L111 x1 v_tenths_23) n (i6_24, i8_25) = some rr → ∀ (H : Heap) (locs : List Loc) (ls : Array Slot), va_P (dC, dI) vwCl [(a0, .inr (2, [.ref a1, .long v_numerator, .long v_denominator])), (a1, .inl (cJ, 21, .inr (.inl v_tenths_23))), (a2, .inr (3, [.ref a3, .int v_allFit, .ref a4, .ref a5])), (a3, .inl (cI, 12, .inl v_rows))] H → va_D A [(a0, .inr (2, [.ref a1, .long v_numerator, .long v_denominator])), (a1, .inl (cJ, 21, .inr (.inl v_tenths_23))), (a2, .inr (3, [.ref a3, .int v_allFit, .ref a4, .ref a5])), (a3, .inl (cI, 12, .inl v_rows))] → va_S A s.heap H locs → lv_has ls 11 [(0, .ref a0), (1, .int x1), (6, .long i6_24), (8, .int i8_25)] → W p l e ({ frames := 1, cells := 0, slots := 0, locals := 24 } : Room) s m args below meth c H locs 0 0 Q (F0 m 111 ls []) := by
      intro rr hk111 n
      induction n with
      | zero => intro i6_24 i8_25 hf; cases hf
      | succ n ih111 =>
        intro i6_24 i8_25 hf H locs ls hP hD hS hl
        obtain ⟨o111, hf, hi, he⟩ := loopN_el hf
        refine lv_iload hx hb dX2_fitting_111 (lv_at hl 3 rfl) ?_
        refine lv_iload_n hx hb dX2_fitting_113 rfl (lv_at hl 1 rfl) ?_
        refine lv_icmp_gt (tgt := 135) hx hb dX2_fitting_114 (by decide) (fun c26 => ?_) (fun c26 => ?_)
        · replace hf := it_t c26 hf
          exact hk111 _ _ (he _ (Option.some.inj hf).symm).symm H locs ls hP hD hS (lv_sub hl [2] rfl)
        · replace hf := it_f c26 hf
          refine lv_lload hx hb dX2_fitting_117 (lv_at hl 2 rfl) ?_
          refine lv_aload_n hx hb dX2_fitting_119 rfl (lv_at hl 0 rfl) ?_
          refine va_get (D := (dC, dI)) (ci := 2) (v := .ref a1) (C := RX2) (T := TX2) (N := 3) hx hb hT in_X2 hown hK hP 0 rfl rfl 0 (by decide) (hT _ q_fl_X2_9) (fun _ h9 => h9) rfl dX2_fitting_120 ?_
          refine lv_iload hx hb dX2_fitting_123 (lv_at hl 3 rfl) ?_
          obtain ⟨h27, hf⟩ := gd_el hf
          refine la_ld hx hb hK hP 1 1 rfl rfl (ib_in h27) (j := (tn i8_25)) rfl dX2_fitting_125 ?_
          refine lv_ladd hx hb dX2_fitting_126 ?_
          obtain ⟨x6_28, ex6_28, hf⟩ := nm_el hf
          refine lv_as (congrArg Value.long ex6_28) ?_
          refine lv_lstore (lv' := [(6, .long x6_28), (0, .ref a0), (1, .int x1), (8, .int i8_25)]) hx hb dX2_fitting_127 hl (by decide) rfl (fun ls hl => ?_)
          refine lv_iinc (v := (i8_25 + (1 : Int32))) (lv' := [(8, .int (i8_25 + (1 : Int32))), (6, .long x6_28), (0, .ref a0), (1, .int x1)]) hx hb dX2_fitting_129 hl (k := 3) rfl rfl (by decide) rfl (fun ls hl => ?_)
          refine lv_goto (tgt := 111) hx hb dX2_fitting_132 (by decide) ?_
          exact ih111 x6_28 (i8_25 + (1 : Int32)) (hi _ (Option.some.inj hf).symm) H locs ls hP hD hS (lv_sub hl [2, 3, 1, 0] rfl)
    obtain ⟨f6_31, f8_32, hq, hf⟩ := bd2_el hf
    refine hL111 (f6_31, f8_32) (fun z_29 z_30 h9 H locs ls hP hD hS hl => ?_) fuel (0 : Int64) (0 : Int32) hq H locs ls hP hD hS (lv_sub hl [2, 3, 1, 0] rfl)
    simp only [Prod.mk.injEq] at h9
    obtain ⟨h9_0, h9_1⟩ := h9
    subst h9_0; subst h9_1
    refine lv_lload hx hb dX2_fitting_135 (lv_at hl 0 rfl) ?_
    replace hf := Option.some.inj hf
    simp only [Prod.mk.injEq] at hf
    obtain ⟨hf0, hf1⟩ := hf
    subst hf0; subst hf1
    exact hret H locs ls _ dX2_fitting_137 hP hD hS
  refine key _ ?_ _ _ _ hP hD hS hl
  intro H locs ls pc d hP hD hS
  exact W.lret (v := rv) hx hb hr (fun t ht hW => ⟨⟨rfl, by rw [ht]; exact hP, hD⟩, hS.F ht⟩) hS.2.2 d
def p_X2_divideBoth (v_numerator : Int64) (v_denominator : Int64) (x1 : Int32) : Option (Int64 × Int64) :=
  (if x1 ≤ (0 : Int32) then (some (v_numerator, v_denominator)) else (gd (nzl (Int32.toInt64 x1)) (if (lg_cmp (lrem v_numerator (Int32.toInt64 x1)) (0 : Int64)) = (0 : Int32) then (gd (nzl (Int32.toInt64 x1)) (if (lg_cmp (lrem v_denominator (Int32.toInt64 x1)) (0 : Int64)) = (0 : Int32) then (gd (nzl (Int32.toInt64 x1)) (gd (nzl (Int32.toInt64 x1)) (some ((v_numerator / (Int32.toInt64 x1)), (v_denominator / (Int32.toInt64 x1)))))) else (some (v_numerator, v_denominator)))) else (some (v_numerator, v_denominator)))))
set_option maxHeartbeats 4000000 in
set_option maxRecDepth 100000 in
theorem c_X2_divideBoth (l : Launch) (dC : Nat → ClassId) (dI : Nat → Nat → Nat) (cI cJ cP cS : ClassId) (a0 : Nat) (a1 : Nat) (v_numerator : Int64) (v_denominator : Int64)  (x1 : Int32)  (v_numerator_o : Int64) (v_denominator_o : Int64) (hf : p_X2_divideBoth v_numerator v_denominator x1 = some (v_numerator_o, v_denominator_o)) : MC l (dC, dI) (tyl cI cJ cP cS) yX2_divideBoth (Cond.code yX2_divideBoth cX2_divideBoth 2 none :: TBG) ({ frames := 0, cells := 0, slots := 0, locals := 0 } : Room) [.ref a0, .int x1] [(a0, .inr (2, [.ref a1, .long v_numerator, .long v_denominator]))] [(a0, .inr (2, [.ref a1, .long v_numerator_o, .long v_denominator_o]))] none := by
  intro sz
  unfold MPost
  refine Met.ofW (cc := cX2_divideBoth) (maxL := 2) (ret := none) (by decide) rfl ?_
  intro p e s m args below meth c s₁ B hml hv
  obtain ⟨rfl, hsz, hP, hK, hD0, hF⟩ := hv
  have hx := B.exec
  have hb := B.bytes
  have hr := B.returns
  have hT : ∀ w ∈ TBG, w.before _ s = true := fun w h => atoms_spec B.pre w (List.mem_cons_of_mem _ h)
  have hown : s.vm.findClass RX2 = some m.cls := findClass_of_methodNamed B.named
  have hlocks := B.notSynchronized
  subst hsz
  have hD := hD0.self (sz := s.heap.size)
  generalize hAe : va_A [(a0, .inr (2, [.ref a1, .long v_numerator, .long v_denominator]))] s.heap.size = A at hD hF ⊢
  have hA : ∀ q : Nat, s.heap.size ≤ q → A q := fun q h => by rw [← hAe]; exact Or.inr h
  have hS : va_S A s.heap s.heap [] := va_S.rf
  have hl := lv_entry ([.ref a0, .int x1]) (n := 2) (Nat.le_of_ble_eq_true rfl)
  rw [lg_entry_eq]
  generalize (lg_sl ([.ref a0, .int x1]) ++ List.replicate (2 - (lg_sl ([.ref a0, .int x1])).length) Slot.unset).toArray = ls at hl ⊢
  have hl : lv_has ls 2 [(0, .ref a0), (1, .int x1)] := hl
  generalize ([.ref a0, .int x1] : List Value).toArray = args at hT ⊢
  have key : ∀ (Q : State → Prop), (∀ (H : Heap) (locs : List Loc) (ls : Array Slot) (pc : Nat), decode cX2_divideBoth pc = .ok (.return_, 1) → va_P (dC, dI) vwCl [(a0, .inr (2, [.ref a1, .long v_numerator_o, .long v_denominator_o]))] H → va_D A [(a0, .inr (2, [.ref a1, .long v_numerator_o, .long v_denominator_o]))] → va_S A s.heap H locs → W p l e ({ frames := 0, cells := 0, slots := 0, locals := 0 } : Room) s m args below meth c H locs 0 0 Q (F0 m pc ls [])) → ∀ (H : Heap) (locs : List Loc) (ls : Array Slot), va_P (dC, dI) vwCl [(a0, .inr (2, [.ref a1, .long v_numerator, .long v_denominator]))] H → va_D A [(a0, .inr (2, [.ref a1, .long v_numerator, .long v_denominator]))] → va_S A s.heap H locs → lv_has ls 2 [(0, .ref a0), (1, .int x1)] → W p l e ({ frames := 0, cells := 0, slots := 0, locals := 0 } : Room) s m args below meth c H locs 0 0 Q (F0 m 0 ls []) := by
    intro Q hret H locs ls hP hD hS hl
    refine lv_iload_n hx hb dX2_divideBoth_0 rfl (lv_at hl 1 rfl) ?_
    refine lv_if_le (tgt := 50) hx hb dX2_divideBoth_1 (by decide) (fun c1 => ?_) (fun c1 => ?_)
    · replace hf := it_t c1 hf
      replace hf := Option.some.inj hf
      simp only [Prod.mk.injEq] at hf
      obtain ⟨hf0, hf1⟩ := hf
      subst hf0; subst hf1
      exact hret H locs ls _ dX2_divideBoth_50 hP hD hS
    · replace hf := it_f c1 hf
      refine lv_aload_n hx hb dX2_divideBoth_4 rfl (lv_at hl 0 rfl) ?_
      refine va_get (D := (dC, dI)) (ci := 2) (v := .long v_numerator) (C := RX2) (T := TX2) (N := 3) hx hb hT in_X2 hown hK hP 0 rfl rfl 1 (by decide) (hT _ q_fl_X2_21) (fun _ h9 => h9) rfl dX2_divideBoth_5 ?_
      refine lv_iload_n hx hb dX2_divideBoth_8 rfl (lv_at hl 1 rfl) ?_
      refine lv_i2l hx hb dX2_divideBoth_9 rfl ?_
      obtain ⟨h2, hf⟩ := gd_el hf
      refine lv_lrem hx hb dX2_divideBoth_10 (nzl_ne h2) ?_
      refine lv_lconst (v := 0) hx hb dX2_divideBoth_11 (by decide) ?_
      refine W.lcmp hx hb dX2_divideBoth_12 ?_
      refine lv_if_ne (tgt := 50) hx hb dX2_divideBoth_13 (by decide) (fun c3 => ?_) (fun c3 => ?_)
      · replace hf := it_f c3 hf
        replace hf := Option.some.inj hf
        simp only [Prod.mk.injEq] at hf
        obtain ⟨hf0, hf1⟩ := hf
        subst hf0; subst hf1
        exact hret H locs ls _ dX2_divideBoth_50 hP hD hS
      · replace hf := it_t c3 hf
        refine lv_aload_n hx hb dX2_divideBoth_16 rfl (lv_at hl 0 rfl) ?_
        refine va_get (D := (dC, dI)) (ci := 2) (v := .long v_denominator) (C := RX2) (T := TX2) (N := 3) hx hb hT in_X2 hown hK hP 0 rfl rfl 2 (by decide) (hT _ q_fl_X2_25) (fun _ h9 => h9) rfl dX2_divideBoth_17 ?_
        refine lv_iload_n hx hb dX2_divideBoth_20 rfl (lv_at hl 1 rfl) ?_
        refine lv_i2l hx hb dX2_divideBoth_21 rfl ?_
        obtain ⟨h4, hf⟩ := gd_el hf
        refine lv_lrem hx hb dX2_divideBoth_22 (nzl_ne h4) ?_
        refine lv_lconst (v := 0) hx hb dX2_divideBoth_23 (by decide) ?_
        refine W.lcmp hx hb dX2_divideBoth_24 ?_
        refine lv_if_ne (tgt := 50) hx hb dX2_divideBoth_25 (by decide) (fun c5 => ?_) (fun c5 => ?_)
        · replace hf := it_f c5 hf
          replace hf := Option.some.inj hf
          simp only [Prod.mk.injEq] at hf
          obtain ⟨hf0, hf1⟩ := hf
          subst hf0; subst hf1
          exact hret H locs ls _ dX2_divideBoth_50 hP hD hS
        · replace hf := it_t c5 hf
          refine lv_aload_n hx hb dX2_divideBoth_28 rfl (lv_at hl 0 rfl) ?_
          refine lv_dup hx hb dX2_divideBoth_29 rfl ?_
          refine va_get (D := (dC, dI)) (ci := 2) (v := .long v_numerator) (C := RX2) (T := TX2) (N := 3) hx hb hT in_X2 hown hK hP 0 rfl rfl 1 (by decide) (hT _ q_fl_X2_21) (fun _ h9 => h9) rfl dX2_divideBoth_30 ?_
          refine lv_iload_n hx hb dX2_divideBoth_33 rfl (lv_at hl 1 rfl) ?_
          refine lv_i2l hx hb dX2_divideBoth_34 rfl ?_
          obtain ⟨h6, hf⟩ := gd_el hf
          refine lv_ldiv hx hb dX2_divideBoth_35 (nzl_ne h6) ?_
          refine va_put (D := (dC, dI)) (ci := 2) (v := .long (v_numerator / (Int32.toInt64 x1))) (ty := .long) (C := RX2) (T := TX2) (N := 3) hx hb hT in_X2 tyX2 tyX2_ok nmX2 hown hK hP hD hS 0 rfl rfl 1 (by decide) (hT _ q_fl_X2_21) (fun _ h9 => h9) rfl (tyX2_ok 1 (by decide)) rfl rfl (Nat.le_of_ble_eq_true rfl) dX2_divideBoth_36 (fun H locs hP hD hS => ?_)
          have hP : va_P (dC, dI) vwCl [(a0, .inr (2, [.ref a1, .long (v_numerator / (Int32.toInt64 x1)), .long v_denominator]))] H := hP
          have hD : va_D A [(a0, .inr (2, [.ref a1, .long (v_numerator / (Int32.toInt64 x1)), .long v_denominator]))] := hD
          refine lv_aload_n hx hb dX2_divideBoth_39 rfl (lv_at hl 0 rfl) ?_
          refine lv_dup hx hb dX2_divideBoth_40 rfl ?_
          refine va_get (D := (dC, dI)) (ci := 2) (v := .long v_denominator) (C := RX2) (T := TX2) (N := 3) hx hb hT in_X2 hown hK hP 0 rfl rfl 2 (by decide) (hT _ q_fl_X2_25) (fun _ h9 => h9) rfl dX2_divideBoth_41 ?_
          refine lv_iload_n hx hb dX2_divideBoth_44 rfl (lv_at hl 1 rfl) ?_
          refine lv_i2l hx hb dX2_divideBoth_45 rfl ?_
          obtain ⟨h7, hf⟩ := gd_el hf
          refine lv_ldiv hx hb dX2_divideBoth_46 (nzl_ne h7) ?_
          refine va_put (D := (dC, dI)) (ci := 2) (v := .long (v_denominator / (Int32.toInt64 x1))) (ty := .long) (C := RX2) (T := TX2) (N := 3) hx hb hT in_X2 tyX2 tyX2_ok nmX2 hown hK hP hD hS 0 rfl rfl 2 (by decide) (hT _ q_fl_X2_25) (fun _ h9 => h9) rfl (tyX2_ok 2 (by decide)) rfl rfl (Nat.le_of_ble_eq_true rfl) dX2_divideBoth_47 (fun H locs hP hD hS => ?_)
          have hP : va_P (dC, dI) vwCl [(a0, .inr (2, [.ref a1, .long (v_numerator / (Int32.toInt64 x1)), .long (v_denominator / (Int32.toInt64 x1))]))] H := hP
          have hD : va_D A [(a0, .inr (2, [.ref a1, .long (v_numerator / (Int32.toInt64 x1)), .long (v_denominator / (Int32.toInt64 x1))]))] := hD
          replace hf := Option.some.inj hf
          simp only [Prod.mk.injEq] at hf
          obtain ⟨hf0, hf1⟩ := hf
          subst hf0; subst hf1
          exact hret H locs ls _ dX2_divideBoth_50 hP hD hS
  refine key _ ?_ _ _ _ hP hD hS hl
  intro H locs ls pc d hP hD hS
  exact W.vret hx hb hr (fun t ht hW => ⟨⟨rfl, by rw [ht]; exact hP, hD⟩, hS.F ht⟩) hS.2.2 d
def p_X2_reduce_L2  (s : Int32 × Int64 × Int64) : Option ((Int32 × Int64 × Int64) ⊕ (Int32 × Int64 × Int64)) := match s with
  | (i1_1, v_numerator_2, v_denominator_3) => (if (12 : Int32) ≤ i1_1 then (some (.inr (i1_1, v_numerator_2, v_denominator_3))) else (bd2 (p_X2_divideBoth v_numerator_2 v_denominator_3 (2 : Int32)) fun v_numerator_5 v_denominator_6 => (bd2 (p_X2_divideBoth v_numerator_5 v_denominator_6 (5 : Int32)) fun v_numerator_8 v_denominator_9 => (some (.inl ((i1_1 + (1 : Int32)), v_numerator_8, v_denominator_9))))))
def p_X2_reduce (v_numerator : Int64) (v_denominator : Int64) : Option (Int64 × Int64) :=
  (bd3 (loopN (p_X2_reduce_L2) fuel ((0 : Int32), v_numerator, v_denominator)) fun f1_14 v_numerator_15 v_denominator_16 => (some (v_numerator_15, v_denominator_16)))
set_option maxHeartbeats 4000000 in
set_option maxRecDepth 100000 in
theorem c_X2_reduce (l : Launch) (dC : Nat → ClassId) (dI : Nat → Nat → Nat) (cI cJ cP cS : ClassId) (a0 : Nat) (a1 : Nat) (v_numerator : Int64) (v_denominator : Int64)    (v_numerator_o : Int64) (v_denominator_o : Int64) (hf : p_X2_reduce v_numerator v_denominator = some (v_numerator_o, v_denominator_o)) : MC l (dC, dI) (tyl cI cJ cP cS) yX2_reduce (Cond.code yX2_reduce cX2_reduce 2 none :: TBG) ({ frames := 1, cells := 0, slots := 0, locals := 21 } : Room) [.ref a0] [(a0, .inr (2, [.ref a1, .long v_numerator, .long v_denominator]))] [(a0, .inr (2, [.ref a1, .long v_numerator_o, .long v_denominator_o]))] none := by
  intro sz
  unfold MPost
  refine Met.ofW (cc := cX2_reduce) (maxL := 2) (ret := none) (by decide) rfl ?_
  intro p e s m args below meth c s₁ B hml hv
  obtain ⟨rfl, hsz, hP, hK, hD0, hF⟩ := hv
  have hx := B.exec
  have hb := B.bytes
  have hr := B.returns
  have hT : ∀ w ∈ TBG, w.before _ s = true := fun w h => atoms_spec B.pre w (List.mem_cons_of_mem _ h)
  have hown : s.vm.findClass RX2 = some m.cls := findClass_of_methodNamed B.named
  have hlocks := B.notSynchronized
  subst hsz
  have hD := hD0.self (sz := s.heap.size)
  generalize hAe : va_A [(a0, .inr (2, [.ref a1, .long v_numerator, .long v_denominator]))] s.heap.size = A at hD hF ⊢
  have hA : ∀ q : Nat, s.heap.size ≤ q → A q := fun q h => by rw [← hAe]; exact Or.inr h
  have hS : va_S A s.heap s.heap [] := va_S.rf
  have hl := lv_entry ([.ref a0]) (n := 2) (Nat.le_of_ble_eq_true rfl)
  rw [lg_entry_eq]
  generalize (lg_sl ([.ref a0]) ++ List.replicate (2 - (lg_sl ([.ref a0])).length) Slot.unset).toArray = ls at hl ⊢
  have hl : lv_has ls 2 [(0, .ref a0)] := hl
  generalize ([.ref a0] : List Value).toArray = args at hT ⊢
  have key : ∀ (Q : State → Prop), (∀ (H : Heap) (locs : List Loc) (ls : Array Slot) (pc : Nat), decode cX2_reduce pc = .ok (.return_, 1) → va_P (dC, dI) vwCl [(a0, .inr (2, [.ref a1, .long v_numerator_o, .long v_denominator_o]))] H → va_D A [(a0, .inr (2, [.ref a1, .long v_numerator_o, .long v_denominator_o]))] → va_S A s.heap H locs → W p l e ({ frames := 1, cells := 0, slots := 0, locals := 21 } : Room) s m args below meth c H locs 0 0 Q (F0 m pc ls [])) → ∀ (H : Heap) (locs : List Loc) (ls : Array Slot), va_P (dC, dI) vwCl [(a0, .inr (2, [.ref a1, .long v_numerator, .long v_denominator]))] H → va_D A [(a0, .inr (2, [.ref a1, .long v_numerator, .long v_denominator]))] → va_S A s.heap H locs → lv_has ls 2 [(0, .ref a0)] → W p l e ({ frames := 1, cells := 0, slots := 0, locals := 21 } : Room) s m args below meth c H locs 0 0 Q (F0 m 0 ls []) := by
    intro Q hret H locs ls hP hD hS hl
    refine lv_iconst (v := 0) hx hb dX2_reduce_0 (by decide) ?_
    refine lv_istore_n (lv' := [(1, .int (0 : Int32)), (0, .ref a0)]) hx hb dX2_reduce_1 rfl hl (by decide) rfl (fun ls hl => ?_)
    have hL2 : ∀ (rr : Int32 × Int64 × Int64), (∀ (z_11 : Int32) (z_12 : Int64) (z_13 : Int64), rr = (z_11, z_12, z_13) → ∀ (H : Heap) (locs : List Loc) (ls : Array Slot), va_P (dC, dI) vwCl [(a0, .inr (2, [.ref a1, .long z_12, .long z_13]))] H → va_D A [(a0, .inr (2, [.ref a1, .long z_12, .long z_13]))] → va_S A s.heap H locs → lv_has ls 2 [] → W p l e ({ frames := 1, cells := 0, slots := 0, locals := 21 } : Room) s m args below meth c H locs 0 0 Q (F0 m 24 ls [])) → ∀ (n : Nat) (i1_1 : Int32) (v_numerator_2 : Int64) (v_denominator_3 : Int64), loopN (p_X2_reduce_L2) n (i1_1, v_numerator_2, v_denominator_3) = some rr → ∀ (H : Heap) (locs : List Loc) (ls : Array Slot), va_P (dC, dI) vwCl [(a0, .inr (2, [.ref a1, .long v_numerator_2, .long v_denominator_3]))] H → va_D A [(a0, .inr (2, [.ref a1, .long v_numerator_2, .long v_denominator_3]))] → va_S A s.heap H locs → lv_has ls 2 [(0, .ref a0), (1, .int i1_1)] → W p l e ({ frames := 1, cells := 0, slots := 0, locals := 21 } : Room) s m args below meth c H locs 0 0 Q (F0 m 2 ls []) := by
      intro rr hk2 n
      induction n with
      | zero => intro i1_1 v_numerator_2 v_denominator_3 hf; cases hf
      | succ n ih2 =>
        intro i1_1 v_numerator_2 v_denominator_3 hf H locs ls hP hD hS hl
        obtain ⟨o2, hf, hi, he⟩ := loopN_el hf
        refine lv_iload_n hx hb dX2_reduce_2 rfl (lv_at hl 1 rfl) ?_
        refine lv_bipush (v := 12) hx hb dX2_reduce_3 (by decide) ?_
        refine lv_icmp_ge (tgt := 24) hx hb dX2_reduce_5 (by decide) (fun c4 => ?_) (fun c4 => ?_)
        · replace hf := it_t c4 hf
          exact hk2 _ _ _ (he _ (Option.some.inj hf).symm).symm H locs ls hP hD hS (lv_sub hl [] rfl)
        · replace hf := it_f c4 hf
          refine lv_aload_n hx hb dX2_reduce_8 rfl (lv_at hl 0 rfl) ?_
          refine lv_iconst (v := 2) hx hb dX2_reduce_9 (by decide) ?_
          obtain ⟨v_numerator_5, v_denominator_6, hq7, hf⟩ := bd2_el hf
          refine mc_V (As := [.int (2 : Int32)]) (rest := []) (wr := []) (wn := [(a0, .inr (2, [.ref a1, .long v_numerator_5, .long v_denominator_6]))]) ⟨hx, hb, hml, hown, hT⟩ (c_X2_divideBoth l dC dI cI cJ cP cS a0 a1 v_numerator_2 v_denominator_3 (2 : Int32) v_numerator_5 v_denominator_6 hq7) (cwV 1 hT (gdV q_ml_X2_64 q_im_X2_divideBoth q_se_X2_divideBoth q_in_X2 q_co_X2_divideBoth) rfl rfl rfl hd_X2_divideBoth ⟨Nat.le_of_ble_eq_true rfl, Nat.le_of_ble_eq_true rfl⟩) hK hF hP hD hS hA 0 rfl rfl rfl [0] [] [0] rfl (by decide) rfl (by decide) (by decide) rfl (by decide) rfl hl.1 rfl (Nat.le_of_ble_eq_true rfl) dX2_reduce_10 ⟨Nat.zero_le _, Nat.zero_le _⟩ (fun H locs hP hD hS => ?_)
          refine W.eq (g2 := F0 m 13 ls []) rfl ?_
          refine lv_aload_n hx hb dX2_reduce_13 rfl (lv_at hl 0 rfl) ?_
          refine lv_iconst (v := 5) hx hb dX2_reduce_14 (by decide) ?_
          obtain ⟨v_numerator_8, v_denominator_9, hq10, hf⟩ := bd2_el hf
          refine mc_V (As := [.int (5 : Int32)]) (rest := []) (wr := []) (wn := [(a0, .inr (2, [.ref a1, .long v_numerator_8, .long v_denominator_9]))]) ⟨hx, hb, hml, hown, hT⟩ (c_X2_divideBoth l dC dI cI cJ cP cS a0 a1 v_numerator_5 v_denominator_6 (5 : Int32) v_numerator_8 v_denominator_9 hq10) (cwV 1 hT (gdV q_ml_X2_64 q_im_X2_divideBoth q_se_X2_divideBoth q_in_X2 q_co_X2_divideBoth) rfl rfl rfl hd_X2_divideBoth ⟨Nat.le_of_ble_eq_true rfl, Nat.le_of_ble_eq_true rfl⟩) hK hF hP hD hS hA 0 rfl rfl rfl [0] [] [0] rfl (by decide) rfl (by decide) (by decide) rfl (by decide) rfl hl.1 rfl (Nat.le_of_ble_eq_true rfl) dX2_reduce_15 ⟨Nat.zero_le _, Nat.zero_le _⟩ (fun H locs hP hD hS => ?_)
          refine W.eq (g2 := F0 m 18 ls []) rfl ?_
          refine lv_iinc (v := (i1_1 + (1 : Int32))) (lv' := [(1, .int (i1_1 + (1 : Int32))), (0, .ref a0)]) hx hb dX2_reduce_18 hl (k := 1) rfl rfl (by decide) rfl (fun ls hl => ?_)
          refine lv_goto (tgt := 2) hx hb dX2_reduce_21 (by decide) ?_
          exact ih2 (i1_1 + (1 : Int32)) v_numerator_8 v_denominator_9 (hi _ (Option.some.inj hf).symm) H locs ls hP hD hS (lv_sub hl [1, 0] rfl)
    obtain ⟨f1_14, v_numerator_15, v_denominator_16, hq, hf⟩ := bd3_el hf
    refine hL2 (f1_14, v_numerator_15, v_denominator_16) (fun z_11 z_12 z_13 h9 H locs ls hP hD hS hl => ?_) fuel (0 : Int32) v_numerator v_denominator hq H locs ls hP hD hS (lv_sub hl [1, 0] rfl)
    simp only [Prod.mk.injEq] at h9
    obtain ⟨h9_0, h9_1, h9_2⟩ := h9
    subst h9_0; subst h9_1; subst h9_2
    replace hf := Option.some.inj hf
    simp only [Prod.mk.injEq] at hf
    obtain ⟨hf0, hf1⟩ := hf
    subst hf0; subst hf1
    exact hret H locs ls _ dX2_reduce_24 hP hD hS
  refine key _ ?_ _ _ _ hP hD hS hl
  intro H locs ls pc d hP hD hS
  exact W.vret hx hb hr (fun t ht hW => ⟨⟨rfl, by rw [ht]; exact hP, hD⟩, hS.F ht⟩) hS.2.2 d
def p_X2_compute_L32 (v_cells : (Nat → Int32)) (v_rows : (Nat → Int32)) (x3 : Int32) (s : Int32 × Int64 × Int64 × (Nat → Int64)) : Option ((Int32 × Int64 × Int64 × (Nat → Int64)) ⊕ (Int32 × Int64 × Int64 × (Nat → Int64))) := match s with
  | (i4_3, v_numerator_4, v_denominator_5, v_tenths_6) => (bd1 (p_X4_lines v_cells) fun r_7 => (if r_7 ≤ i4_3 then (some (.inr (i4_3, v_numerator_4, v_denominator_5, v_tenths_6))) else (bd1 (p_X4_beginsStanza v_cells i4_3) fun r_10 => (if r_10 = (0 : Int32) then (some (.inl ((i4_3 + (1 : Int32)), v_numerator_4, (v_denominator_5 * (10 : Int64)), v_tenths_6))) else (bd1 (p_X4_setting v_cells (3 : Int32)) fun r_13 => (bd1 (p_X4_stanzaEnd v_cells i4_3) fun r_15 => (bd2 (p_X2_fitting v_tenths_6 v_rows r_13 i4_3 r_15 x3) fun r_17 v_tenths_18 => (some (.inl ((i4_3 + (1 : Int32)), (v_numerator_4 * r_17), (v_denominator_5 * (10 : Int64)), v_tenths_18))))))))))
def p_X2_compute_B13_1 (v_tenths : (Nat → Int64)) (v_cells : (Nat → Int32)) (v_allFit : Int32) (v_rows : (Nat → Int32)) (x3 : Int32) (w1_1 : Int64) : Option (Int64 × Int64 × (Nat → Int64)) :=
  (if v_allFit = (0 : Int32) then (some (w1_1, (1 : Int64), v_tenths)) else (bd4 (loopN (p_X2_compute_L32 v_cells v_rows x3) fuel ((0 : Int32), w1_1, (1 : Int64), v_tenths)) fun f4_24 v_numerator_25 v_denominator_26 v_tenths_27 => (bd2 (p_X2_reduce v_numerator_25 v_denominator_26) fun v_numerator_28 v_denominator_29 => (some (v_numerator_28, v_denominator_29, v_tenths_27)))))
def p_X2_compute (v_numerator : Int64) (v_denominator : Int64) (v_tenths : (Nat → Int64)) (v_cells : (Nat → Int32)) (v_allFit : Int32) (v_rows : (Nat → Int32)) (x3 : Int32) : Option (Int64 × Int64 × (Nat → Int64)) :=
  (if v_allFit = (0 : Int32) then (p_X2_compute_B13_1 v_tenths v_cells v_allFit v_rows x3 (0 : Int64)) else (p_X2_compute_B13_1 v_tenths v_cells v_allFit v_rows x3 (1 : Int64)))
set_option maxHeartbeats 4000000 in
set_option maxRecDepth 100000 in
theorem c_X2_compute (l : Launch) (dC : Nat → ClassId) (dI : Nat → Nat → Nat) (cI cJ cP cS : ClassId) (a0 : Nat) (a1 : Nat) (a2 : Nat) (a3 : Nat) (a4 : Nat) (a5 : Nat) (a6 : Nat) (a7 : Nat) (v_numerator : Int64) (v_denominator : Int64) (v_tenths : (Nat → Int64)) (v_cells : (Nat → Int32)) (v_allFit : Int32) (v_rows : (Nat → Int32))  (x3 : Int32)  (v_numerator_o : Int64) (v_denominator_o : Int64) (v_tenths_o : (Nat → Int64)) (hf : p_X2_compute v_numerator v_denominator v_tenths v_cells v_allFit v_rows x3 = some (v_numerator_o, v_denominator_o, v_tenths_o)) : MC l (dC, dI) (tyl cI cJ cP cS) yX2_compute (Cond.code yX2_compute cX2_compute 5 none :: TBG) ({ frames := 2, cells := 0, slots := 0, locals := 54 } : Room) [.ref a0, .ref a2, .ref a4, .int x3] [(a0, .inr (2, [.ref a1, .long v_numerator, .long v_denominator])), (a1, .inl (cJ, 21, .inr (.inl v_tenths))), (a2, .inr (4, [.ref a3])), (a3, .inl (cI, 117, .inl v_cells)), (a4, .inr (3, [.ref a5, .int v_allFit, .ref a6, .ref a7])), (a5, .inl (cI, 12, .inl v_rows))] [(a0, .inr (2, [.ref a1, .long v_numerator_o, .long v_denominator_o])), (a1, .inl (cJ, 21, .inr (.inl v_tenths_o))), (a2, .inr (4, [.ref a3])), (a3, .inl (cI, 117, .inl v_cells)), (a4, .inr (3, [.ref a5, .int v_allFit, .ref a6, .ref a7])), (a5, .inl (cI, 12, .inl v_rows))] none := by
  intro sz
  unfold MPost
  refine Met.ofW (cc := cX2_compute) (maxL := 5) (ret := none) (by decide) rfl ?_
  intro p e s m args below meth c s₁ B hml hv
  obtain ⟨rfl, hsz, hP, hK, hD0, hF⟩ := hv
  have hx := B.exec
  have hb := B.bytes
  have hr := B.returns
  have hT : ∀ w ∈ TBG, w.before _ s = true := fun w h => atoms_spec B.pre w (List.mem_cons_of_mem _ h)
  have hown : s.vm.findClass RX2 = some m.cls := findClass_of_methodNamed B.named
  have hlocks := B.notSynchronized
  subst hsz
  have hD := hD0.self (sz := s.heap.size)
  generalize hAe : va_A [(a0, .inr (2, [.ref a1, .long v_numerator, .long v_denominator])), (a1, .inl (cJ, 21, .inr (.inl v_tenths))), (a2, .inr (4, [.ref a3])), (a3, .inl (cI, 117, .inl v_cells)), (a4, .inr (3, [.ref a5, .int v_allFit, .ref a6, .ref a7])), (a5, .inl (cI, 12, .inl v_rows))] s.heap.size = A at hD hF ⊢
  have hA : ∀ q : Nat, s.heap.size ≤ q → A q := fun q h => by rw [← hAe]; exact Or.inr h
  have hS : va_S A s.heap s.heap [] := va_S.rf
  have hl := lv_entry ([.ref a0, .ref a2, .ref a4, .int x3]) (n := 5) (Nat.le_of_ble_eq_true rfl)
  rw [lg_entry_eq]
  generalize (lg_sl ([.ref a0, .ref a2, .ref a4, .int x3]) ++ List.replicate (5 - (lg_sl ([.ref a0, .ref a2, .ref a4, .int x3])).length) Slot.unset).toArray = ls at hl ⊢
  have hl : lv_has ls 5 [(0, .ref a0), (1, .ref a2), (2, .ref a4), (3, .int x3)] := hl
  generalize ([.ref a0, .ref a2, .ref a4, .int x3] : List Value).toArray = args at hT ⊢
  have key : ∀ (Q : State → Prop), (∀ (H : Heap) (locs : List Loc) (ls : Array Slot) (pc : Nat), decode cX2_compute pc = .ok (.return_, 1) → va_P (dC, dI) vwCl [(a0, .inr (2, [.ref a1, .long v_numerator_o, .long v_denominator_o])), (a1, .inl (cJ, 21, .inr (.inl v_tenths_o))), (a2, .inr (4, [.ref a3])), (a3, .inl (cI, 117, .inl v_cells)), (a4, .inr (3, [.ref a5, .int v_allFit, .ref a6, .ref a7])), (a5, .inl (cI, 12, .inl v_rows))] H → va_D A [(a0, .inr (2, [.ref a1, .long v_numerator_o, .long v_denominator_o])), (a1, .inl (cJ, 21, .inr (.inl v_tenths_o))), (a2, .inr (4, [.ref a3])), (a3, .inl (cI, 117, .inl v_cells)), (a4, .inr (3, [.ref a5, .int v_allFit, .ref a6, .ref a7])), (a5, .inl (cI, 12, .inl v_rows))] → va_S A s.heap H locs → W p l e ({ frames := 2, cells := 0, slots := 0, locals := 54 } : Room) s m args below meth c H locs 0 0 Q (F0 m pc ls [])) → ∀ (H : Heap) (locs : List Loc) (ls : Array Slot), va_P (dC, dI) vwCl [(a0, .inr (2, [.ref a1, .long v_numerator, .long v_denominator])), (a1, .inl (cJ, 21, .inr (.inl v_tenths))), (a2, .inr (4, [.ref a3])), (a3, .inl (cI, 117, .inl v_cells)), (a4, .inr (3, [.ref a5, .int v_allFit, .ref a6, .ref a7])), (a5, .inl (cI, 12, .inl v_rows))] H → va_D A [(a0, .inr (2, [.ref a1, .long v_numerator, .long v_denominator])), (a1, .inl (cJ, 21, .inr (.inl v_tenths))), (a2, .inr (4, [.ref a3])), (a3, .inl (cI, 117, .inl v_cells)), (a4, .inr (3, [.ref a5, .int v_allFit, .ref a6, .ref a7])), (a5, .inl (cI, 12, .inl v_rows))] → va_S A s.heap H locs → lv_has ls 5 [(0, .ref a0), (1, .ref a2), (2, .ref a4), (3, .int x3)] → W p l e ({ frames := 2, cells := 0, slots := 0, locals := 54 } : Room) s m args below meth c H locs 0 0 Q (F0 m 0 ls []) := by
    intro Q hret H locs ls hP hD hS hl
    refine lv_aload_n hx hb dX2_compute_0 rfl (lv_at hl 0 rfl) ?_
    refine lv_aload_n hx hb dX2_compute_1 rfl (lv_at hl 2 rfl) ?_
    refine va_get (D := (dC, dI)) (ci := 3) (v := .int v_allFit) (C := RX3) (T := TX3) (N := 4) hx hb hT in_X3 hown hK hP 4 rfl rfl 1 (by decide) (hT _ q_fl_X2_15) (fun _ h9 => h9) rfl dX2_compute_2 ?_
    have hB13_1 : ∀ (w1_1 : Int64), p_X2_compute_B13_1 v_tenths v_cells v_allFit v_rows x3 w1_1 = some (v_numerator_o, v_denominator_o, v_tenths_o) → ∀ (H : Heap) (locs : List Loc) (ls : Array Slot), va_P (dC, dI) vwCl [(a0, .inr (2, [.ref a1, .long v_numerator, .long v_denominator])), (a1, .inl (cJ, 21, .inr (.inl v_tenths))), (a2, .inr (4, [.ref a3])), (a3, .inl (cI, 117, .inl v_cells)), (a4, .inr (3, [.ref a5, .int v_allFit, .ref a6, .ref a7])), (a5, .inl (cI, 12, .inl v_rows))] H → va_D A [(a0, .inr (2, [.ref a1, .long v_numerator, .long v_denominator])), (a1, .inl (cJ, 21, .inr (.inl v_tenths))), (a2, .inr (4, [.ref a3])), (a3, .inl (cI, 117, .inl v_cells)), (a4, .inr (3, [.ref a5, .int v_allFit, .ref a6, .ref a7])), (a5, .inl (cI, 12, .inl v_rows))] → va_S A s.heap H locs → lv_has ls 5 [(0, .ref a0), (1, .ref a2), (2, .ref a4), (3, .int x3)] → W p l e ({ frames := 2, cells := 0, slots := 0, locals := 54 } : Room) s m args below meth c H locs 0 0 Q (F0 m 13 ls [.long w1_1, .ref a0]) := by
      intro w1_1 hf H locs ls hP hD hS hl
      refine va_put (D := (dC, dI)) (ci := 2) (v := .long w1_1) (ty := .long) (C := RX2) (T := TX2) (N := 3) hx hb hT in_X2 tyX2 tyX2_ok nmX2 hown hK hP hD hS 0 rfl rfl 1 (by decide) (hT _ q_fl_X2_21) (fun _ h9 => h9) rfl (tyX2_ok 1 (by decide)) rfl rfl (Nat.le_of_ble_eq_true rfl) dX2_compute_13 (fun H locs hP hD hS => ?_)
      have hP : va_P (dC, dI) vwCl [(a0, .inr (2, [.ref a1, .long w1_1, .long v_denominator])), (a1, .inl (cJ, 21, .inr (.inl v_tenths))), (a2, .inr (4, [.ref a3])), (a3, .inl (cI, 117, .inl v_cells)), (a4, .inr (3, [.ref a5, .int v_allFit, .ref a6, .ref a7])), (a5, .inl (cI, 12, .inl v_rows))] H := hP
      have hD : va_D A [(a0, .inr (2, [.ref a1, .long w1_1, .long v_denominator])), (a1, .inl (cJ, 21, .inr (.inl v_tenths))), (a2, .inr (4, [.ref a3])), (a3, .inl (cI, 117, .inl v_cells)), (a4, .inr (3, [.ref a5, .int v_allFit, .ref a6, .ref a7])), (a5, .inl (cI, 12, .inl v_rows))] := hD
      refine lv_aload_n hx hb dX2_compute_16 rfl (lv_at hl 0 rfl) ?_
      refine lv_lconst (v := 1) hx hb dX2_compute_17 (by decide) ?_
      refine va_put (D := (dC, dI)) (ci := 2) (v := .long (1 : Int64)) (ty := .long) (C := RX2) (T := TX2) (N := 3) hx hb hT in_X2 tyX2 tyX2_ok nmX2 hown hK hP hD hS 0 rfl rfl 2 (by decide) (hT _ q_fl_X2_25) (fun _ h9 => h9) rfl (tyX2_ok 2 (by decide)) rfl rfl (Nat.le_of_ble_eq_true rfl) dX2_compute_18 (fun H locs hP hD hS => ?_)
      have hP : va_P (dC, dI) vwCl [(a0, .inr (2, [.ref a1, .long w1_1, .long (1 : Int64)])), (a1, .inl (cJ, 21, .inr (.inl v_tenths))), (a2, .inr (4, [.ref a3])), (a3, .inl (cI, 117, .inl v_cells)), (a4, .inr (3, [.ref a5, .int v_allFit, .ref a6, .ref a7])), (a5, .inl (cI, 12, .inl v_rows))] H := hP
      have hD : va_D A [(a0, .inr (2, [.ref a1, .long w1_1, .long (1 : Int64)])), (a1, .inl (cJ, 21, .inr (.inl v_tenths))), (a2, .inr (4, [.ref a3])), (a3, .inl (cI, 117, .inl v_cells)), (a4, .inr (3, [.ref a5, .int v_allFit, .ref a6, .ref a7])), (a5, .inl (cI, 12, .inl v_rows))] := hD
      refine lv_aload_n hx hb dX2_compute_21 rfl (lv_at hl 2 rfl) ?_
      refine va_get (D := (dC, dI)) (ci := 3) (v := .int v_allFit) (C := RX3) (T := TX3) (N := 4) hx hb hT in_X3 hown hK hP 4 rfl rfl 1 (by decide) (hT _ q_fl_X2_15) (fun _ h9 => h9) rfl dX2_compute_22 ?_
      refine lv_if_ne (tgt := 29) hx hb dX2_compute_25 (by decide) (fun c2 => ?_) (fun c2 => ?_)
      · replace hf := it_f c2 hf
        refine lv_iconst (v := 0) hx hb dX2_compute_29 (by decide) ?_
        refine lv_istore (lv' := [(4, .int (0 : Int32)), (0, .ref a0), (1, .ref a2), (2, .ref a4), (3, .int x3)]) hx hb dX2_compute_30 hl (by decide) rfl (fun ls hl => ?_)
        have hL32 : ∀ (rr : Int32 × Int64 × Int64 × (Nat → Int64)), (∀ (z_20 : Int32) (z_21 : Int64) (z_22 : Int64) (z_23 : (Nat → Int64)), rr = (z_20, z_21, z_22, z_23) → ∀ (H : Heap) (locs : List Loc) (ls : Array Slot), va_P (dC, dI) vwCl [(a0, .inr (2, [.ref a1, .long z_21, .long z_22])), (a1, .inl (cJ, 21, .inr (.inl z_23))), (a2, .inr (4, [.ref a3])), (a3, .inl (cI, 117, .inl v_cells)), (a4, .inr (3, [.ref a5, .int v_allFit, .ref a6, .ref a7])), (a5, .inl (cI, 12, .inl v_rows))] H → va_D A [(a0, .inr (2, [.ref a1, .long z_21, .long z_22])), (a1, .inl (cJ, 21, .inr (.inl z_23))), (a2, .inr (4, [.ref a3])), (a3, .inl (cI, 117, .inl v_cells)), (a4, .inr (3, [.ref a5, .int v_allFit, .ref a6, .ref a7])), (a5, .inl (cI, 12, .inl v_rows))] → va_S A s.heap H locs → lv_has ls 5 [(0, .ref a0)] → W p l e ({ frames := 2, cells := 0, slots := 0, locals := 54 } : Room) s m args below meth c H locs 0 0 Q (F0 m 96 ls [])) → ∀ (n : Nat) (i4_3 : Int32) (v_numerator_4 : Int64) (v_denominator_5 : Int64) (v_tenths_6 : (Nat → Int64)), loopN (p_X2_compute_L32 v_cells v_rows x3) n (i4_3, v_numerator_4, v_denominator_5, v_tenths_6) = some rr → ∀ (H : Heap) (locs : List Loc) (ls : Array Slot), va_P (dC, dI) vwCl [(a0, .inr (2, [.ref a1, .long v_numerator_4, .long v_denominator_5])), (a1, .inl (cJ, 21, .inr (.inl v_tenths_6))), (a2, .inr (4, [.ref a3])), (a3, .inl (cI, 117, .inl v_cells)), (a4, .inr (3, [.ref a5, .int v_allFit, .ref a6, .ref a7])), (a5, .inl (cI, 12, .inl v_rows))] H → va_D A [(a0, .inr (2, [.ref a1, .long v_numerator_4, .long v_denominator_5])), (a1, .inl (cJ, 21, .inr (.inl v_tenths_6))), (a2, .inr (4, [.ref a3])), (a3, .inl (cI, 117, .inl v_cells)), (a4, .inr (3, [.ref a5, .int v_allFit, .ref a6, .ref a7])), (a5, .inl (cI, 12, .inl v_rows))] → va_S A s.heap H locs → lv_has ls 5 [(0, .ref a0), (1, .ref a2), (2, .ref a4), (3, .int x3), (4, .int i4_3)] → W p l e ({ frames := 2, cells := 0, slots := 0, locals := 54 } : Room) s m args below meth c H locs 0 0 Q (F0 m 32 ls []) := by
          intro rr hk32 n
          induction n with
          | zero => intro i4_3 v_numerator_4 v_denominator_5 v_tenths_6 hf; cases hf
          | succ n ih32 =>
            intro i4_3 v_numerator_4 v_denominator_5 v_tenths_6 hf H locs ls hP hD hS hl
            obtain ⟨o32, hf, hi, he⟩ := loopN_el hf
            rw [p_X2_compute_L32] at hf
            refine lv_iload hx hb dX2_compute_32 (lv_at hl 4 rfl) ?_
            refine lv_aload_n hx hb dX2_compute_34 rfl (lv_at hl 1 rfl) ?_
            obtain ⟨r_7, hq8, hf⟩ := bd1_el hf
            refine mc_V (As := []) (rest := [.int i4_3]) (wr := [(a0, .inr (2, [.ref a1, .long v_numerator_4, .long v_denominator_5])), (a1, .inl (cJ, 21, .inr (.inl v_tenths_6))), (a4, .inr (3, [.ref a5, .int v_allFit, .ref a6, .ref a7])), (a5, .inl (cI, 12, .inl v_rows))]) (wn := [(a0, .inr (2, [.ref a1, .long v_numerator_4, .long v_denominator_5])), (a1, .inl (cJ, 21, .inr (.inl v_tenths_6))), (a2, .inr (4, [.ref a3])), (a3, .inl (cI, 117, .inl v_cells)), (a4, .inr (3, [.ref a5, .int v_allFit, .ref a6, .ref a7])), (a5, .inl (cI, 12, .inl v_rows))]) ⟨hx, hb, hml, hown, hT⟩ (c_X4_lines l dC dI cI cJ cP cS a2 a3 v_cells r_7 hq8) (cwV 0 hT (gdV q_ml_X2_28 q_im_X4_lines q_se_X4_lines q_in_X4 q_co_X4_lines) rfl rfl rfl hd_X4_lines ⟨Nat.le_of_ble_eq_true rfl, Nat.le_of_ble_eq_true rfl⟩) hK hF hP hD hS hA 2 rfl rfl rfl [2, 3] [0, 1, 4, 5] [0, 1, 4, 5, 2, 3] rfl (by decide) rfl (by decide) (by decide) rfl (by decide) rfl hl.1 rfl (Nat.le_of_ble_eq_true rfl) dX2_compute_35 ⟨Nat.zero_le _, Nat.zero_le _⟩ (fun H locs hP hD hS => ?_)
            refine W.eq (g2 := F0 m 38 ls [.int r_7, .int i4_3]) rfl ?_
            refine lv_icmp_ge (tgt := 96) hx hb dX2_compute_38 (by decide) (fun c9 => ?_) (fun c9 => ?_)
            · replace hf := it_t c9 hf
              exact hk32 _ _ _ _ (he _ (Option.some.inj hf).symm).symm H locs ls hP hD hS (lv_sub hl [0] rfl)
            · replace hf := it_f c9 hf
              refine lv_aload_n hx hb dX2_compute_41 rfl (lv_at hl 0 rfl) ?_
              refine lv_dup hx hb dX2_compute_42 rfl ?_
              refine va_get (D := (dC, dI)) (ci := 2) (v := .long v_denominator_5) (C := RX2) (T := TX2) (N := 3) hx hb hT in_X2 hown hK hP 0 rfl rfl 2 (by decide) (hT _ q_fl_X2_25) (fun _ h9 => h9) rfl dX2_compute_43 ?_
              refine lv_ldc2 hx hb hown (hT _ q_kl_X2_34) dX2_compute_46 ?_
              refine lv_lmul hx hb dX2_compute_49 ?_
              refine va_put (D := (dC, dI)) (ci := 2) (v := .long (v_denominator_5 * (10 : Int64))) (ty := .long) (C := RX2) (T := TX2) (N := 3) hx hb hT in_X2 tyX2 tyX2_ok nmX2 hown hK hP hD hS 0 rfl rfl 2 (by decide) (hT _ q_fl_X2_25) (fun _ h9 => h9) rfl (tyX2_ok 2 (by decide)) rfl rfl (Nat.le_of_ble_eq_true rfl) dX2_compute_50 (fun H locs hP hD hS => ?_)
              have hP : va_P (dC, dI) vwCl [(a0, .inr (2, [.ref a1, .long v_numerator_4, .long (v_denominator_5 * (10 : Int64))])), (a1, .inl (cJ, 21, .inr (.inl v_tenths_6))), (a2, .inr (4, [.ref a3])), (a3, .inl (cI, 117, .inl v_cells)), (a4, .inr (3, [.ref a5, .int v_allFit, .ref a6, .ref a7])), (a5, .inl (cI, 12, .inl v_rows))] H := hP
              have hD : va_D A [(a0, .inr (2, [.ref a1, .long v_numerator_4, .long (v_denominator_5 * (10 : Int64))])), (a1, .inl (cJ, 21, .inr (.inl v_tenths_6))), (a2, .inr (4, [.ref a3])), (a3, .inl (cI, 117, .inl v_cells)), (a4, .inr (3, [.ref a5, .int v_allFit, .ref a6, .ref a7])), (a5, .inl (cI, 12, .inl v_rows))] := hD
              refine lv_aload_n hx hb dX2_compute_53 rfl (lv_at hl 1 rfl) ?_
              refine lv_iload hx hb dX2_compute_54 (lv_at hl 4 rfl) ?_
              obtain ⟨r_10, hq11, hf⟩ := bd1_el hf
              refine mc_V (As := [.int i4_3]) (rest := []) (wr := [(a0, .inr (2, [.ref a1, .long v_numerator_4, .long (v_denominator_5 * (10 : Int64))])), (a1, .inl (cJ, 21, .inr (.inl v_tenths_6))), (a4, .inr (3, [.ref a5, .int v_allFit, .ref a6, .ref a7])), (a5, .inl (cI, 12, .inl v_rows))]) (wn := [(a0, .inr (2, [.ref a1, .long v_numerator_4, .long (v_denominator_5 * (10 : Int64))])), (a1, .inl (cJ, 21, .inr (.inl v_tenths_6))), (a2, .inr (4, [.ref a3])), (a3, .inl (cI, 117, .inl v_cells)), (a4, .inr (3, [.ref a5, .int v_allFit, .ref a6, .ref a7])), (a5, .inl (cI, 12, .inl v_rows))]) ⟨hx, hb, hml, hown, hT⟩ (c_X4_beginsStanza l dC dI cI cJ cP cS a2 a3 v_cells i4_3 r_10 hq11) (cwV 1 hT (gdV q_ml_X2_36 q_im_X4_beginsStanza q_se_X4_beginsStanza q_in_X4 q_co_X4_beginsStanza) rfl rfl rfl hd_X4_beginsStanza ⟨Nat.le_of_ble_eq_true rfl, Nat.le_of_ble_eq_true rfl⟩) hK hF hP hD hS hA 2 rfl rfl rfl [2, 3] [0, 1, 4, 5] [0, 1, 4, 5, 2, 3] rfl (by decide) rfl (by decide) (by decide) rfl (by decide) rfl hl.1 rfl (Nat.le_of_ble_eq_true rfl) dX2_compute_56 ⟨Nat.zero_le _, Nat.zero_le _⟩ (fun H locs hP hD hS => ?_)
              refine W.eq (g2 := F0 m 59 ls [.int r_10]) rfl ?_
              refine lv_if_eq (tgt := 90) hx hb dX2_compute_59 (by decide) (fun c12 => ?_) (fun c12 => ?_)
              · replace hf := it_t c12 hf
                refine lv_iinc (v := (i4_3 + (1 : Int32))) (lv' := [(4, .int (i4_3 + (1 : Int32))), (0, .ref a0), (1, .ref a2), (2, .ref a4), (3, .int x3)]) hx hb dX2_compute_90 hl (k := 4) rfl rfl (by decide) rfl (fun ls hl => ?_)
                refine lv_goto (tgt := 32) hx hb dX2_compute_93 (by decide) ?_
                exact ih32 (i4_3 + (1 : Int32)) v_numerator_4 (v_denominator_5 * (10 : Int64)) v_tenths_6 (hi _ (Option.some.inj hf).symm) H locs ls hP hD hS (lv_sub hl [1, 2, 3, 4, 0] rfl)
              · replace hf := it_f c12 hf
                refine lv_aload_n hx hb dX2_compute_62 rfl (lv_at hl 0 rfl) ?_
                refine lv_dup hx hb dX2_compute_63 rfl ?_
                refine va_get (D := (dC, dI)) (ci := 2) (v := .long v_numerator_4) (C := RX2) (T := TX2) (N := 3) hx hb hT in_X2 hown hK hP 0 rfl rfl 1 (by decide) (hT _ q_fl_X2_21) (fun _ h9 => h9) rfl dX2_compute_64 ?_
                refine lv_aload_n hx hb dX2_compute_67 rfl (lv_at hl 0 rfl) ?_
                refine lv_aload_n hx hb dX2_compute_68 rfl (lv_at hl 1 rfl) ?_
                refine lv_iconst (v := 3) hx hb dX2_compute_69 (by decide) ?_
                obtain ⟨r_13, hq14, hf⟩ := bd1_el hf
                refine mc_V (As := [.int (3 : Int32)]) (rest := [.ref a0, .long v_numerator_4, .ref a0]) (wr := [(a0, .inr (2, [.ref a1, .long v_numerator_4, .long (v_denominator_5 * (10 : Int64))])), (a1, .inl (cJ, 21, .inr (.inl v_tenths_6))), (a4, .inr (3, [.ref a5, .int v_allFit, .ref a6, .ref a7])), (a5, .inl (cI, 12, .inl v_rows))]) (wn := [(a0, .inr (2, [.ref a1, .long v_numerator_4, .long (v_denominator_5 * (10 : Int64))])), (a1, .inl (cJ, 21, .inr (.inl v_tenths_6))), (a2, .inr (4, [.ref a3])), (a3, .inl (cI, 117, .inl v_cells)), (a4, .inr (3, [.ref a5, .int v_allFit, .ref a6, .ref a7])), (a5, .inl (cI, 12, .inl v_rows))]) ⟨hx, hb, hml, hown, hT⟩ (c_X4_setting l dC dI cI cJ cP cS a2 a3 v_cells (3 : Int32) r_13 hq14) (cwV 1 hT (gdV q_ml_X2_40 q_im_X4_setting q_se_X4_setting q_in_X4 q_co_X4_setting) rfl rfl rfl hd_X4_setting ⟨Nat.le_of_ble_eq_true rfl, Nat.le_of_ble_eq_true rfl⟩) hK hF hP hD hS hA 2 rfl rfl rfl [2, 3] [0, 1, 4, 5] [0, 1, 4, 5, 2, 3] rfl (by decide) rfl (by decide) (by decide) rfl (by decide) rfl hl.1 rfl (Nat.le_of_ble_eq_true rfl) dX2_compute_70 ⟨Nat.zero_le _, Nat.zero_le _⟩ (fun H locs hP hD hS => ?_)
                refine W.eq (g2 := F0 m 73 ls [.int r_13, .ref a0, .long v_numerator_4, .ref a0]) rfl ?_
                refine lv_aload_n hx hb dX2_compute_73 rfl (lv_at hl 2 rfl) ?_
                refine lv_iload hx hb dX2_compute_74 (lv_at hl 4 rfl) ?_
                refine lv_aload_n hx hb dX2_compute_76 rfl (lv_at hl 1 rfl) ?_
                refine lv_iload hx hb dX2_compute_77 (lv_at hl 4 rfl) ?_
                obtain ⟨r_15, hq16, hf⟩ := bd1_el hf
                refine mc_V (As := [.int i4_3]) (rest := [.int i4_3, .ref a4, .int r_13, .ref a0, .long v_numerator_4, .ref a0]) (wr := [(a0, .inr (2, [.ref a1, .long v_numerator_4, .long (v_denominator_5 * (10 : Int64))])), (a1, .inl (cJ, 21, .inr (.inl v_tenths_6))), (a4, .inr (3, [.ref a5, .int v_allFit, .ref a6, .ref a7])), (a5, .inl (cI, 12, .inl v_rows))]) (wn := [(a0, .inr (2, [.ref a1, .long v_numerator_4, .long (v_denominator_5 * (10 : Int64))])), (a1, .inl (cJ, 21, .inr (.inl v_tenths_6))), (a2, .inr (4, [.ref a3])), (a3, .inl (cI, 117, .inl v_cells)), (a4, .inr (3, [.ref a5, .int v_allFit, .ref a6, .ref a7])), (a5, .inl (cI, 12, .inl v_rows))]) ⟨hx, hb, hml, hown, hT⟩ (c_X4_stanzaEnd l dC dI cI cJ cP cS a2 a3 v_cells i4_3 r_15 hq16) (cwV 1 hT (gdV q_ml_X2_44 q_im_X4_stanzaEnd q_se_X4_stanzaEnd q_in_X4 q_co_X4_stanzaEnd) rfl rfl rfl hd_X4_stanzaEnd ⟨Nat.le_of_ble_eq_true rfl, Nat.le_of_ble_eq_true rfl⟩) hK hF hP hD hS hA 2 rfl rfl rfl [2, 3] [0, 1, 4, 5] [0, 1, 4, 5, 2, 3] rfl (by decide) rfl (by decide) (by decide) rfl (by decide) rfl hl.1 rfl (Nat.le_of_ble_eq_true rfl) dX2_compute_79 ⟨Nat.zero_le _, Nat.zero_le _⟩ (fun H locs hP hD hS => ?_)
                refine W.eq (g2 := F0 m 82 ls [.int r_15, .int i4_3, .ref a4, .int r_13, .ref a0, .long v_numerator_4, .ref a0]) rfl ?_
                refine lv_iload_n hx hb dX2_compute_82 rfl (lv_at hl 3 rfl) ?_
                obtain ⟨r_17, v_tenths_18, hq19, hf⟩ := bd2_el hf
                refine mc_V (As := [.int r_13, .ref a4, .int i4_3, .int r_15, .int x3]) (rest := [.long v_numerator_4, .ref a0]) (wr := [(a2, .inr (4, [.ref a3])), (a3, .inl (cI, 117, .inl v_cells))]) (wn := [(a0, .inr (2, [.ref a1, .long v_numerator_4, .long (v_denominator_5 * (10 : Int64))])), (a1, .inl (cJ, 21, .inr (.inl v_tenths_18))), (a2, .inr (4, [.ref a3])), (a3, .inl (cI, 117, .inl v_cells)), (a4, .inr (3, [.ref a5, .int v_allFit, .ref a6, .ref a7])), (a5, .inl (cI, 12, .inl v_rows))]) ⟨hx, hb, hml, hown, hT⟩ (c_X2_fitting l dC dI cI cJ cP cS a0 a1 a4 a5 a6 a7 v_numerator_4 (v_denominator_5 * (10 : Int64)) v_tenths_6 v_allFit v_rows r_13 i4_3 r_15 x3 r_17 v_tenths_18 hq19) (cwV 5 hT (gdV q_ml_X2_47 q_im_X2_fitting q_se_X2_fitting q_in_X2 q_co_X2_fitting) rfl rfl rfl hd_X2_fitting ⟨Nat.le_of_ble_eq_true rfl, Nat.le_of_ble_eq_true rfl⟩) hK hF hP hD hS hA 0 rfl rfl rfl [0, 1, 4, 5] [2, 3] [2, 3, 0, 1, 4, 5] rfl (by decide) rfl (by decide) (by decide) rfl (by decide) rfl hl.1 rfl (Nat.le_of_ble_eq_true rfl) dX2_compute_83 ⟨Nat.zero_le _, Nat.zero_le _⟩ (fun H locs hP hD hS => ?_)
                refine W.eq (g2 := F0 m 86 ls [.long r_17, .long v_numerator_4, .ref a0]) rfl ?_
                refine lv_lmul hx hb dX2_compute_86 ?_
                refine va_put (D := (dC, dI)) (ci := 2) (v := .long (v_numerator_4 * r_17)) (ty := .long) (C := RX2) (T := TX2) (N := 3) hx hb hT in_X2 tyX2 tyX2_ok nmX2 hown hK hP hD hS 0 rfl rfl 1 (by decide) (hT _ q_fl_X2_21) (fun _ h9 => h9) rfl (tyX2_ok 1 (by decide)) rfl rfl (Nat.le_of_ble_eq_true rfl) dX2_compute_87 (fun H locs hP hD hS => ?_)
                have hP : va_P (dC, dI) vwCl [(a0, .inr (2, [.ref a1, .long (v_numerator_4 * r_17), .long (v_denominator_5 * (10 : Int64))])), (a1, .inl (cJ, 21, .inr (.inl v_tenths_18))), (a2, .inr (4, [.ref a3])), (a3, .inl (cI, 117, .inl v_cells)), (a4, .inr (3, [.ref a5, .int v_allFit, .ref a6, .ref a7])), (a5, .inl (cI, 12, .inl v_rows))] H := hP
                have hD : va_D A [(a0, .inr (2, [.ref a1, .long (v_numerator_4 * r_17), .long (v_denominator_5 * (10 : Int64))])), (a1, .inl (cJ, 21, .inr (.inl v_tenths_18))), (a2, .inr (4, [.ref a3])), (a3, .inl (cI, 117, .inl v_cells)), (a4, .inr (3, [.ref a5, .int v_allFit, .ref a6, .ref a7])), (a5, .inl (cI, 12, .inl v_rows))] := hD
                refine lv_iinc (v := (i4_3 + (1 : Int32))) (lv' := [(4, .int (i4_3 + (1 : Int32))), (0, .ref a0), (1, .ref a2), (2, .ref a4), (3, .int x3)]) hx hb dX2_compute_90 hl (k := 4) rfl rfl (by decide) rfl (fun ls hl => ?_)
                refine lv_goto (tgt := 32) hx hb dX2_compute_93 (by decide) ?_
                exact ih32 (i4_3 + (1 : Int32)) (v_numerator_4 * r_17) (v_denominator_5 * (10 : Int64)) v_tenths_18 (hi _ (Option.some.inj hf).symm) H locs ls hP hD hS (lv_sub hl [1, 2, 3, 4, 0] rfl)
        obtain ⟨f4_24, v_numerator_25, v_denominator_26, v_tenths_27, hq, hf⟩ := bd4_el hf
        refine hL32 (f4_24, v_numerator_25, v_denominator_26, v_tenths_27) (fun z_20 z_21 z_22 z_23 h9 H locs ls hP hD hS hl => ?_) fuel (0 : Int32) w1_1 (1 : Int64) v_tenths hq H locs ls hP hD hS (lv_sub hl [1, 2, 3, 4, 0] rfl)
        simp only [Prod.mk.injEq] at h9
        obtain ⟨h9_0, h9_1, h9_2, h9_3⟩ := h9
        subst h9_0; subst h9_1; subst h9_2; subst h9_3
        refine lv_aload_n hx hb dX2_compute_96 rfl (lv_at hl 0 rfl) ?_
        obtain ⟨v_numerator_28, v_denominator_29, hq30, hf⟩ := bd2_el hf
        refine mc_V (As := []) (rest := []) (wr := [(a1, .inl (cJ, 21, .inr (.inl v_tenths_27))), (a2, .inr (4, [.ref a3])), (a3, .inl (cI, 117, .inl v_cells)), (a4, .inr (3, [.ref a5, .int v_allFit, .ref a6, .ref a7])), (a5, .inl (cI, 12, .inl v_rows))]) (wn := [(a0, .inr (2, [.ref a1, .long v_numerator_28, .long v_denominator_29])), (a1, .inl (cJ, 21, .inr (.inl v_tenths_27))), (a2, .inr (4, [.ref a3])), (a3, .inl (cI, 117, .inl v_cells)), (a4, .inr (3, [.ref a5, .int v_allFit, .ref a6, .ref a7])), (a5, .inl (cI, 12, .inl v_rows))]) ⟨hx, hb, hml, hown, hT⟩ (c_X2_reduce l dC dI cI cJ cP cS a0 a1 v_numerator_25 v_denominator_26 v_numerator_28 v_denominator_29 hq30) (cwV 0 hT (gdV q_ml_X2_51 q_im_X2_reduce q_se_X2_reduce q_in_X2 q_co_X2_reduce) rfl rfl rfl hd_X2_reduce ⟨Nat.le_of_ble_eq_true rfl, Nat.le_of_ble_eq_true rfl⟩) hK hF hP hD hS hA 0 rfl rfl rfl [0] [1, 2, 3, 4, 5] [5, 0, 1, 2, 3, 4] rfl (by decide) rfl (by decide) (by decide) rfl (by decide) rfl hl.1 rfl (Nat.le_of_ble_eq_true rfl) dX2_compute_97 ⟨Nat.zero_le _, Nat.zero_le _⟩ (fun H locs hP hD hS => ?_)
        refine W.eq (g2 := F0 m 100 ls []) rfl ?_
        replace hf := Option.some.inj hf
        simp only [Prod.mk.injEq] at hf
        obtain ⟨hf0, hf1, hf2⟩ := hf
        subst hf0; subst hf1; subst hf2
        exact hret H locs ls _ dX2_compute_100 hP hD hS
      · replace hf := it_t c2 hf
        replace hf := Option.some.inj hf
        simp only [Prod.mk.injEq] at hf
        obtain ⟨hf0, hf1, hf2⟩ := hf
        subst hf0; subst hf1; subst hf2
        exact hret H locs ls _ dX2_compute_28 hP hD hS
    refine lv_if_eq (tgt := 12) hx hb dX2_compute_5 (by decide) (fun c31 => ?_) (fun c31 => ?_)
    · replace hf := it_t c31 hf
      refine lv_lconst (v := 0) hx hb dX2_compute_12 (by decide) ?_
      exact hB13_1 (0 : Int64) hf H locs ls hP hD hS (lv_sub hl [0, 1, 2, 3] rfl)
    · replace hf := it_f c31 hf
      refine lv_lconst (v := 1) hx hb dX2_compute_8 (by decide) ?_
      refine lv_goto (tgt := 13) hx hb dX2_compute_9 (by decide) ?_
      exact hB13_1 (1 : Int64) hf H locs ls hP hD hS (lv_sub hl [0, 1, 2, 3] rfl)
  refine key _ ?_ _ _ _ hP hD hS hl
  intro H locs ls pc d hP hD hS
  exact W.vret hx hb hr (fun t ht hW => ⟨⟨rfl, by rw [ht]; exact hP, hD⟩, hS.F ht⟩) hS.2.2 d
def p_X3_measure_L7 (v_cells : (Nat → Int32)) (s : Int32 × Int32 × (Nat → Int32) × Int32 × Int32 × Int32 × Int32 × (Nat → Int32) × (Nat → Int32) × (Nat → Int32) × (Nat → Int32) × (Nat → Int32)) : Option ((Int32 × Int32 × (Nat → Int32) × Int32 × Int32 × Int32 × Int32 × (Nat → Int32) × (Nat → Int32) × (Nat → Int32) × (Nat → Int32) × (Nat → Int32)) ⊕ (Int32 × Int32 × (Nat → Int32) × Int32 × Int32 × Int32 × Int32 × (Nat → Int32) × (Nat → Int32) × (Nat → Int32) × (Nat → Int32) × (Nat → Int32))) := match s with
  | (i3_1, v_allFit_2, v_rows_3, v_indentation_4, v_number_5, v_cost_6, v_rowsq1_7, v_restCost_8, v_nextRow_9, v_restNumber_10, v_row_11, v_position_12) => (bd1 (p_X4_lines v_cells) fun r_13 => (if r_13 ≤ i3_1 then (some (.inr (i3_1, v_allFit_2, v_rows_3, v_indentation_4, v_number_5, v_cost_6, v_rowsq1_7, v_restCost_8, v_nextRow_9, v_restNumber_10, v_row_11, v_position_12))) else (bd9 (p_X1_compute v_indentation_4 v_number_5 v_cost_6 v_rowsq1_7 v_restCost_8 v_nextRow_9 v_restNumber_10 v_row_11 v_position_12 v_cells i3_1) fun v_indentation_16 v_number_17 v_cost_18 v_rowsq1_19 v_restCost_20 v_nextRow_21 v_restNumber_22 v_row_23 v_position_24 => (gd (ib i3_1 12) (if v_allFit_2 = (0 : Int32) then (some (.inl ((i3_1 + (1 : Int32)), (0 : Int32), (upd v_rows_3 (tn i3_1) v_rowsq1_19), v_indentation_16, v_number_17, v_cost_18, v_rowsq1_19, v_restCost_20, v_nextRow_21, v_restNumber_22, v_row_23, v_position_24))) else (if v_rowsq1_19 = (-4 : Int32) then (some (.inl ((i3_1 + (1 : Int32)), (0 : Int32), (upd v_rows_3 (tn i3_1) v_rowsq1_19), v_indentation_16, v_number_17, v_cost_18, v_rowsq1_19, v_restCost_20, v_nextRow_21, v_restNumber_22, v_row_23, v_position_24))) else (some (.inl ((i3_1 + (1 : Int32)), (1 : Int32), (upd v_rows_3 (tn i3_1) v_rowsq1_19), v_indentation_16, v_number_17, v_cost_18, v_rowsq1_19, v_restCost_20, v_nextRow_21, v_restNumber_22, v_row_23, v_position_24)))))))))
def p_X3_measure (v_allFit : Int32) (v_rows : (Nat → Int32)) (v_cells : (Nat → Int32)) (v_indentation : Int32) (v_number : Int32) (v_cost : Int32) (v_rowsq1 : Int32) (v_restCost : (Nat → Int32)) (v_nextRow : (Nat → Int32)) (v_restNumber : (Nat → Int32)) (v_row : (Nat → Int32)) (v_position : (Nat → Int32)) : Option (Int32 × (Nat → Int32) × Int32 × Int32 × Int32 × Int32 × (Nat → Int32) × (Nat → Int32) × (Nat → Int32) × (Nat → Int32) × (Nat → Int32)) :=
  (bd12 (loopN (p_X3_measure_L7 v_cells) fuel ((0 : Int32), (1 : Int32), v_rows, v_indentation, v_number, v_cost, v_rowsq1, v_restCost, v_nextRow, v_restNumber, v_row, v_position)) fun f3_41 v_allFit_42 v_rows_43 v_indentation_44 v_number_45 v_cost_46 v_rowsq1_47 v_restCost_48 v_nextRow_49 v_restNumber_50 v_row_51 v_position_52 => (some (v_allFit_42, v_rows_43, v_indentation_44, v_number_45, v_cost_46, v_rowsq1_47, v_restCost_48, v_nextRow_49, v_restNumber_50, v_row_51, v_position_52)))
set_option maxHeartbeats 4000000 in
set_option maxRecDepth 100000 in
theorem c_X3_measure (l : Launch) (dC : Nat → ClassId) (dI : Nat → Nat → Nat) (cI cJ cP cS : ClassId) (a0 : Nat) (a1 : Nat) (a2 : Nat) (a3 : Nat) (a4 : Nat) (a5 : Nat) (a6 : Nat) (a7 : Nat) (a8 : Nat) (a9 : Nat) (a10 : Nat) (a11 : Nat) (v_allFit : Int32) (v_rows : (Nat → Int32)) (v_cells : (Nat → Int32)) (v_indentation : Int32) (v_number : Int32) (v_cost : Int32) (v_rowsq1 : Int32) (v_restCost : (Nat → Int32)) (v_nextRow : (Nat → Int32)) (v_restNumber : (Nat → Int32)) (v_row : (Nat → Int32)) (v_position : (Nat → Int32))    (v_allFit_o : Int32) (v_rows_o : (Nat → Int32)) (v_indentation_o : Int32) (v_number_o : Int32) (v_cost_o : Int32) (v_rowsq1_o : Int32) (v_restCost_o : (Nat → Int32)) (v_nextRow_o : (Nat → Int32)) (v_restNumber_o : (Nat → Int32)) (v_row_o : (Nat → Int32)) (v_position_o : (Nat → Int32)) (hf : p_X3_measure v_allFit v_rows v_cells v_indentation v_number v_cost v_rowsq1 v_restCost v_nextRow v_restNumber v_row v_position = some (v_allFit_o, v_rows_o, v_indentation_o, v_number_o, v_cost_o, v_rowsq1_o, v_restCost_o, v_nextRow_o, v_restNumber_o, v_row_o, v_position_o)) : MC l (dC, dI) (tyl cI cJ cP cS) yX3_measure (Cond.code yX3_measure cX3_measure 4 none :: TBG) ({ frames := 4, cells := 0, slots := 0, locals := 95 } : Room) [.ref a0, .ref a4, .ref a6] [(a0, .inr (3, [.ref a1, .int v_allFit, .ref a2, .ref a3])), (a1, .inl (cI, 12, .inl v_rows)), (a4, .inr (4, [.ref a5])), (a5, .inl (cI, 117, .inl v_cells)), (a6, .inr (1, [.ref a7, .ref a8, .ref a9, .ref a10, .ref a11, .int v_indentation, .int v_number, .int v_cost, .int v_rowsq1])), (a7, .inl (cI, 7, .inl v_restCost)), (a8, .inl (cI, 7, .inl v_nextRow)), (a9, .inl (cI, 7, .inl v_restNumber)), (a10, .inl (cI, 6, .inl v_row)), (a11, .inl (cI, 6, .inl v_position))] [(a0, .inr (3, [.ref a1, .int v_allFit_o, .ref a2, .ref a3])), (a1, .inl (cI, 12, .inl v_rows_o)), (a4, .inr (4, [.ref a5])), (a5, .inl (cI, 117, .inl v_cells)), (a6, .inr (1, [.ref a7, .ref a8, .ref a9, .ref a10, .ref a11, .int v_indentation_o, .int v_number_o, .int v_cost_o, .int v_rowsq1_o])), (a7, .inl (cI, 7, .inl v_restCost_o)), (a8, .inl (cI, 7, .inl v_nextRow_o)), (a9, .inl (cI, 7, .inl v_restNumber_o)), (a10, .inl (cI, 6, .inl v_row_o)), (a11, .inl (cI, 6, .inl v_position_o))] none := by
  intro sz
  unfold MPost
  refine Met.ofW (cc := cX3_measure) (maxL := 4) (ret := none) (by decide) rfl ?_
  intro p e s m args below meth c s₁ B hml hv
  obtain ⟨rfl, hsz, hP, hK, hD0, hF⟩ := hv
  have hx := B.exec
  have hb := B.bytes
  have hr := B.returns
  have hT : ∀ w ∈ TBG, w.before _ s = true := fun w h => atoms_spec B.pre w (List.mem_cons_of_mem _ h)
  have hown : s.vm.findClass RX3 = some m.cls := findClass_of_methodNamed B.named
  have hlocks := B.notSynchronized
  subst hsz
  have hD := hD0.self (sz := s.heap.size)
  generalize hAe : va_A [(a0, .inr (3, [.ref a1, .int v_allFit, .ref a2, .ref a3])), (a1, .inl (cI, 12, .inl v_rows)), (a4, .inr (4, [.ref a5])), (a5, .inl (cI, 117, .inl v_cells)), (a6, .inr (1, [.ref a7, .ref a8, .ref a9, .ref a10, .ref a11, .int v_indentation, .int v_number, .int v_cost, .int v_rowsq1])), (a7, .inl (cI, 7, .inl v_restCost)), (a8, .inl (cI, 7, .inl v_nextRow)), (a9, .inl (cI, 7, .inl v_restNumber)), (a10, .inl (cI, 6, .inl v_row)), (a11, .inl (cI, 6, .inl v_position))] s.heap.size = A at hD hF ⊢
  have hA : ∀ q : Nat, s.heap.size ≤ q → A q := fun q h => by rw [← hAe]; exact Or.inr h
  have hS : va_S A s.heap s.heap [] := va_S.rf
  have hl := lv_entry ([.ref a0, .ref a4, .ref a6]) (n := 4) (Nat.le_of_ble_eq_true rfl)
  rw [lg_entry_eq]
  generalize (lg_sl ([.ref a0, .ref a4, .ref a6]) ++ List.replicate (4 - (lg_sl ([.ref a0, .ref a4, .ref a6])).length) Slot.unset).toArray = ls at hl ⊢
  have hl : lv_has ls 4 [(0, .ref a0), (1, .ref a4), (2, .ref a6)] := hl
  generalize ([.ref a0, .ref a4, .ref a6] : List Value).toArray = args at hT ⊢
  have key : ∀ (Q : State → Prop), (∀ (H : Heap) (locs : List Loc) (ls : Array Slot) (pc : Nat), decode cX3_measure pc = .ok (.return_, 1) → va_P (dC, dI) vwCl [(a0, .inr (3, [.ref a1, .int v_allFit_o, .ref a2, .ref a3])), (a1, .inl (cI, 12, .inl v_rows_o)), (a4, .inr (4, [.ref a5])), (a5, .inl (cI, 117, .inl v_cells)), (a6, .inr (1, [.ref a7, .ref a8, .ref a9, .ref a10, .ref a11, .int v_indentation_o, .int v_number_o, .int v_cost_o, .int v_rowsq1_o])), (a7, .inl (cI, 7, .inl v_restCost_o)), (a8, .inl (cI, 7, .inl v_nextRow_o)), (a9, .inl (cI, 7, .inl v_restNumber_o)), (a10, .inl (cI, 6, .inl v_row_o)), (a11, .inl (cI, 6, .inl v_position_o))] H → va_D A [(a0, .inr (3, [.ref a1, .int v_allFit_o, .ref a2, .ref a3])), (a1, .inl (cI, 12, .inl v_rows_o)), (a4, .inr (4, [.ref a5])), (a5, .inl (cI, 117, .inl v_cells)), (a6, .inr (1, [.ref a7, .ref a8, .ref a9, .ref a10, .ref a11, .int v_indentation_o, .int v_number_o, .int v_cost_o, .int v_rowsq1_o])), (a7, .inl (cI, 7, .inl v_restCost_o)), (a8, .inl (cI, 7, .inl v_nextRow_o)), (a9, .inl (cI, 7, .inl v_restNumber_o)), (a10, .inl (cI, 6, .inl v_row_o)), (a11, .inl (cI, 6, .inl v_position_o))] → va_S A s.heap H locs → W p l e ({ frames := 4, cells := 0, slots := 0, locals := 95 } : Room) s m args below meth c H locs 0 0 Q (F0 m pc ls [])) → ∀ (H : Heap) (locs : List Loc) (ls : Array Slot), va_P (dC, dI) vwCl [(a0, .inr (3, [.ref a1, .int v_allFit, .ref a2, .ref a3])), (a1, .inl (cI, 12, .inl v_rows)), (a4, .inr (4, [.ref a5])), (a5, .inl (cI, 117, .inl v_cells)), (a6, .inr (1, [.ref a7, .ref a8, .ref a9, .ref a10, .ref a11, .int v_indentation, .int v_number, .int v_cost, .int v_rowsq1])), (a7, .inl (cI, 7, .inl v_restCost)), (a8, .inl (cI, 7, .inl v_nextRow)), (a9, .inl (cI, 7, .inl v_restNumber)), (a10, .inl (cI, 6, .inl v_row)), (a11, .inl (cI, 6, .inl v_position))] H → va_D A [(a0, .inr (3, [.ref a1, .int v_allFit, .ref a2, .ref a3])), (a1, .inl (cI, 12, .inl v_rows)), (a4, .inr (4, [.ref a5])), (a5, .inl (cI, 117, .inl v_cells)), (a6, .inr (1, [.ref a7, .ref a8, .ref a9, .ref a10, .ref a11, .int v_indentation, .int v_number, .int v_cost, .int v_rowsq1])), (a7, .inl (cI, 7, .inl v_restCost)), (a8, .inl (cI, 7, .inl v_nextRow)), (a9, .inl (cI, 7, .inl v_restNumber)), (a10, .inl (cI, 6, .inl v_row)), (a11, .inl (cI, 6, .inl v_position))] → va_S A s.heap H locs → lv_has ls 4 [(0, .ref a0), (1, .ref a4), (2, .ref a6)] → W p l e ({ frames := 4, cells := 0, slots := 0, locals := 95 } : Room) s m args below meth c H locs 0 0 Q (F0 m 0 ls []) := by
    intro Q hret H locs ls hP hD hS hl
    refine lv_aload_n hx hb dX3_measure_0 rfl (lv_at hl 0 rfl) ?_
    refine lv_iconst (v := 1) hx hb dX3_measure_1 (by decide) ?_
    refine va_put (D := (dC, dI)) (ci := 3) (v := .int (1 : Int32)) (ty := .boolean) (C := RX3) (T := TX3) (N := 4) hx hb hT in_X3 tyX3 tyX3_ok nmX3 hown hK hP hD hS 0 rfl rfl 1 (by decide) (hT _ q_fl_X3_21) (fun _ h9 => h9) rfl (tyX3_ok 1 (by decide)) rfl rfl (Nat.le_of_ble_eq_true rfl) dX3_measure_2 (fun H locs hP hD hS => ?_)
    have hP : va_P (dC, dI) vwCl [(a0, .inr (3, [.ref a1, .int (1 : Int32), .ref a2, .ref a3])), (a1, .inl (cI, 12, .inl v_rows)), (a4, .inr (4, [.ref a5])), (a5, .inl (cI, 117, .inl v_cells)), (a6, .inr (1, [.ref a7, .ref a8, .ref a9, .ref a10, .ref a11, .int v_indentation, .int v_number, .int v_cost, .int v_rowsq1])), (a7, .inl (cI, 7, .inl v_restCost)), (a8, .inl (cI, 7, .inl v_nextRow)), (a9, .inl (cI, 7, .inl v_restNumber)), (a10, .inl (cI, 6, .inl v_row)), (a11, .inl (cI, 6, .inl v_position))] H := hP
    have hD : va_D A [(a0, .inr (3, [.ref a1, .int (1 : Int32), .ref a2, .ref a3])), (a1, .inl (cI, 12, .inl v_rows)), (a4, .inr (4, [.ref a5])), (a5, .inl (cI, 117, .inl v_cells)), (a6, .inr (1, [.ref a7, .ref a8, .ref a9, .ref a10, .ref a11, .int v_indentation, .int v_number, .int v_cost, .int v_rowsq1])), (a7, .inl (cI, 7, .inl v_restCost)), (a8, .inl (cI, 7, .inl v_nextRow)), (a9, .inl (cI, 7, .inl v_restNumber)), (a10, .inl (cI, 6, .inl v_row)), (a11, .inl (cI, 6, .inl v_position))] := hD
    refine lv_iconst (v := 0) hx hb dX3_measure_5 (by decide) ?_
    refine lv_istore_n (lv' := [(3, .int (0 : Int32)), (0, .ref a0), (1, .ref a4), (2, .ref a6)]) hx hb dX3_measure_6 rfl hl (by decide) rfl (fun ls hl => ?_)
    have hL7 : ∀ (rr : Int32 × Int32 × (Nat → Int32) × Int32 × Int32 × Int32 × Int32 × (Nat → Int32) × (Nat → Int32) × (Nat → Int32) × (Nat → Int32) × (Nat → Int32)), (∀ (z_29 : Int32) (z_30 : Int32) (z_31 : (Nat → Int32)) (z_32 : Int32) (z_33 : Int32) (z_34 : Int32) (z_35 : Int32) (z_36 : (Nat → Int32)) (z_37 : (Nat → Int32)) (z_38 : (Nat → Int32)) (z_39 : (Nat → Int32)) (z_40 : (Nat → Int32)), rr = (z_29, z_30, z_31, z_32, z_33, z_34, z_35, z_36, z_37, z_38, z_39, z_40) → ∀ (H : Heap) (locs : List Loc) (ls : Array Slot), va_P (dC, dI) vwCl [(a0, .inr (3, [.ref a1, .int z_30, .ref a2, .ref a3])), (a1, .inl (cI, 12, .inl z_31)), (a4, .inr (4, [.ref a5])), (a5, .inl (cI, 117, .inl v_cells)), (a6, .inr (1, [.ref a7, .ref a8, .ref a9, .ref a10, .ref a11, .int z_32, .int z_33, .int z_34, .int z_35])), (a7, .inl (cI, 7, .inl z_36)), (a8, .inl (cI, 7, .inl z_37)), (a9, .inl (cI, 7, .inl z_38)), (a10, .inl (cI, 6, .inl z_39)), (a11, .inl (cI, 6, .inl z_40))] H → va_D A [(a0, .inr (3, [.ref a1, .int z_30, .ref a2, .ref a3])), (a1, .inl (cI, 12, .inl z_31)), (a4, .inr (4, [.ref a5])), (a5, .inl (cI, 117, .inl v_cells)), (a6, .inr (1, [.ref a7, .ref a8, .ref a9, .ref a10, .ref a11, .int z_32, .int z_33, .int z_34, .int z_35])), (a7, .inl (cI, 7, .inl z_36)), (a8, .inl (cI, 7, .inl z_37)), (a9, .inl (cI, 7, .inl z_38)), (a10, .inl (cI, 6, .inl z_39)), (a11, .inl (cI, 6, .inl z_40))] → va_S A s.heap H locs → lv_has ls 4 [] → W p l e ({ frames := 4, cells := 0, slots := 0, locals := 95 } : Room) s m args below meth c H locs 0 0 Q (F0 m 62 ls [])) → ∀ (n : Nat) (i3_1 : Int32) (v_allFit_2 : Int32) (v_rows_3 : (Nat → Int32)) (v_indentation_4 : Int32) (v_number_5 : Int32) (v_cost_6 : Int32) (v_rowsq1_7 : Int32) (v_restCost_8 : (Nat → Int32)) (v_nextRow_9 : (Nat → Int32)) (v_restNumber_10 : (Nat → Int32)) (v_row_11 : (Nat → Int32)) (v_position_12 : (Nat → Int32)), loopN (p_X3_measure_L7 v_cells) n (i3_1, v_allFit_2, v_rows_3, v_indentation_4, v_number_5, v_cost_6, v_rowsq1_7, v_restCost_8, v_nextRow_9, v_restNumber_10, v_row_11, v_position_12) = some rr → ∀ (H : Heap) (locs : List Loc) (ls : Array Slot), va_P (dC, dI) vwCl [(a0, .inr (3, [.ref a1, .int v_allFit_2, .ref a2, .ref a3])), (a1, .inl (cI, 12, .inl v_rows_3)), (a4, .inr (4, [.ref a5])), (a5, .inl (cI, 117, .inl v_cells)), (a6, .inr (1, [.ref a7, .ref a8, .ref a9, .ref a10, .ref a11, .int v_indentation_4, .int v_number_5, .int v_cost_6, .int v_rowsq1_7])), (a7, .inl (cI, 7, .inl v_restCost_8)), (a8, .inl (cI, 7, .inl v_nextRow_9)), (a9, .inl (cI, 7, .inl v_restNumber_10)), (a10, .inl (cI, 6, .inl v_row_11)), (a11, .inl (cI, 6, .inl v_position_12))] H → va_D A [(a0, .inr (3, [.ref a1, .int v_allFit_2, .ref a2, .ref a3])), (a1, .inl (cI, 12, .inl v_rows_3)), (a4, .inr (4, [.ref a5])), (a5, .inl (cI, 117, .inl v_cells)), (a6, .inr (1, [.ref a7, .ref a8, .ref a9, .ref a10, .ref a11, .int v_indentation_4, .int v_number_5, .int v_cost_6, .int v_rowsq1_7])), (a7, .inl (cI, 7, .inl v_restCost_8)), (a8, .inl (cI, 7, .inl v_nextRow_9)), (a9, .inl (cI, 7, .inl v_restNumber_10)), (a10, .inl (cI, 6, .inl v_row_11)), (a11, .inl (cI, 6, .inl v_position_12))] → va_S A s.heap H locs → lv_has ls 4 [(0, .ref a0), (1, .ref a4), (2, .ref a6), (3, .int i3_1)] → W p l e ({ frames := 4, cells := 0, slots := 0, locals := 95 } : Room) s m args below meth c H locs 0 0 Q (F0 m 7 ls []) := by
      intro rr hk7 n
      induction n with
      | zero => intro i3_1 v_allFit_2 v_rows_3 v_indentation_4 v_number_5 v_cost_6 v_rowsq1_7 v_restCost_8 v_nextRow_9 v_restNumber_10 v_row_11 v_position_12 hf; cases hf
      | succ n ih7 =>
        intro i3_1 v_allFit_2 v_rows_3 v_indentation_4 v_number_5 v_cost_6 v_rowsq1_7 v_restCost_8 v_nextRow_9 v_restNumber_10 v_row_11 v_position_12 hf H locs ls hP hD hS hl
        obtain ⟨o7, hf, hi, he⟩ := loopN_el hf
        rw [p_X3_measure_L7] at hf
        refine lv_iload_n hx hb dX3_measure_7 rfl (lv_at hl 3 rfl) ?_
        refine lv_aload_n hx hb dX3_measure_8 rfl (lv_at hl 1 rfl) ?_
        obtain ⟨r_13, hq14, hf⟩ := bd1_el hf
        refine mc_V (As := []) (rest := [.int i3_1]) (wr := [(a0, .inr (3, [.ref a1, .int v_allFit_2, .ref a2, .ref a3])), (a1, .inl (cI, 12, .inl v_rows_3)), (a6, .inr (1, [.ref a7, .ref a8, .ref a9, .ref a10, .ref a11, .int v_indentation_4, .int v_number_5, .int v_cost_6, .int v_rowsq1_7])), (a7, .inl (cI, 7, .inl v_restCost_8)), (a8, .inl (cI, 7, .inl v_nextRow_9)), (a9, .inl (cI, 7, .inl v_restNumber_10)), (a10, .inl (cI, 6, .inl v_row_11)), (a11, .inl (cI, 6, .inl v_position_12))]) (wn := [(a0, .inr (3, [.ref a1, .int v_allFit_2, .ref a2, .ref a3])), (a1, .inl (cI, 12, .inl v_rows_3)), (a4, .inr (4, [.ref a5])), (a5, .inl (cI, 117, .inl v_cells)), (a6, .inr (1, [.ref a7, .ref a8, .ref a9, .ref a10, .ref a11, .int v_indentation_4, .int v_number_5, .int v_cost_6, .int v_rowsq1_7])), (a7, .inl (cI, 7, .inl v_restCost_8)), (a8, .inl (cI, 7, .inl v_nextRow_9)), (a9, .inl (cI, 7, .inl v_restNumber_10)), (a10, .inl (cI, 6, .inl v_row_11)), (a11, .inl (cI, 6, .inl v_position_12))]) ⟨hx, hb, hml, hown, hT⟩ (c_X4_lines l dC dI cI cJ cP cS a4 a5 v_cells r_13 hq14) (cwV 0 hT (gdV q_ml_X3_25 q_im_X4_lines q_se_X4_lines q_in_X4 q_co_X4_lines) rfl rfl rfl hd_X4_lines ⟨Nat.le_of_ble_eq_true rfl, Nat.le_of_ble_eq_true rfl⟩) hK hF hP hD hS hA 2 rfl rfl rfl [2, 3] [0, 1, 4, 5, 6, 7, 8, 9] [0, 1, 8, 9, 2, 3, 4, 5, 6, 7] rfl (by decide) rfl (by decide) (by decide) rfl (by decide) rfl hl.1 rfl (Nat.le_of_ble_eq_true rfl) dX3_measure_9 ⟨Nat.zero_le _, Nat.zero_le _⟩ (fun H locs hP hD hS => ?_)
        refine W.eq (g2 := F0 m 12 ls [.int r_13, .int i3_1]) rfl ?_
        refine lv_icmp_ge (tgt := 62) hx hb dX3_measure_12 (by decide) (fun c15 => ?_) (fun c15 => ?_)
        · replace hf := it_t c15 hf
          exact hk7 _ _ _ _ _ _ _ _ _ _ _ _ (he _ (Option.some.inj hf).symm).symm H locs ls hP hD hS (lv_sub hl [] rfl)
        · replace hf := it_f c15 hf
          refine lv_aload_n hx hb dX3_measure_15 rfl (lv_at hl 2 rfl) ?_
          refine lv_aload_n hx hb dX3_measure_16 rfl (lv_at hl 1 rfl) ?_
          refine lv_iload_n hx hb dX3_measure_17 rfl (lv_at hl 3 rfl) ?_
          obtain ⟨v_indentation_16, v_number_17, v_cost_18, v_rowsq1_19, v_restCost_20, v_nextRow_21, v_restNumber_22, v_row_23, v_position_24, hq25, hf⟩ := bd9_el hf
          refine mc_V (As := [.ref a4, .int i3_1]) (rest := []) (wr := [(a0, .inr (3, [.ref a1, .int v_allFit_2, .ref a2, .ref a3])), (a1, .inl (cI, 12, .inl v_rows_3))]) (wn := [(a0, .inr (3, [.ref a1, .int v_allFit_2, .ref a2, .ref a3])), (a1, .inl (cI, 12, .inl v_rows_3)), (a4, .inr (4, [.ref a5])), (a5, .inl (cI, 117, .inl v_cells)), (a6, .inr (1, [.ref a7, .ref a8, .ref a9, .ref a10, .ref a11, .int v_indentation_16, .int v_number_17, .int v_cost_18, .int v_rowsq1_19])), (a7, .inl (cI, 7, .inl v_restCost_20)), (a8, .inl (cI, 7, .inl v_nextRow_21)), (a9, .inl (cI, 7, .inl v_restNumber_22)), (a10, .inl (cI, 6, .inl v_row_23)), (a11, .inl (cI, 6, .inl v_position_24))]) ⟨hx, hb, hml, hown, hT⟩ (c_X1_compute l dC dI cI cJ cP cS a6 a7 a8 a9 a10 a11 a4 a5 v_indentation_4 v_number_5 v_cost_6 v_rowsq1_7 v_restCost_8 v_nextRow_9 v_restNumber_10 v_row_11 v_position_12 v_cells i3_1 v_indentation_16 v_number_17 v_cost_18 v_rowsq1_19 v_restCost_20 v_nextRow_21 v_restNumber_22 v_row_23 v_position_24 hq25) (cwV 2 hT (gdV q_ml_X3_31 q_im_X1_compute q_se_X1_compute q_in_X1 q_co_X1_compute) rfl rfl rfl hd_X1_compute ⟨Nat.le_of_ble_eq_true rfl, Nat.le_of_ble_eq_true rfl⟩) hK hF hP hD hS hA 4 rfl rfl rfl [4, 5, 6, 7, 8, 9, 2, 3] [0, 1] [0, 1, 8, 9, 2, 3, 4, 5, 6, 7] rfl (by decide) rfl (by decide) (by decide) rfl (by decide) rfl hl.1 rfl (Nat.le_of_ble_eq_true rfl) dX3_measure_18 ⟨Nat.zero_le _, Nat.zero_le _⟩ (fun H locs hP hD hS => ?_)
          refine W.eq (g2 := F0 m 21 ls []) rfl ?_
          refine lv_aload_n hx hb dX3_measure_21 rfl (lv_at hl 0 rfl) ?_
          refine va_get (D := (dC, dI)) (ci := 3) (v := .ref a1) (C := RX3) (T := TX3) (N := 4) hx hb hT in_X3 hown hK hP 0 rfl rfl 0 (by decide) (hT _ q_fl_X3_9) (fun _ h9 => h9) rfl dX3_measure_22 ?_
          refine lv_iload_n hx hb dX3_measure_25 rfl (lv_at hl 3 rfl) ?_
          refine lv_aload_n hx hb dX3_measure_26 rfl (lv_at hl 2 rfl) ?_
          refine va_get (D := (dC, dI)) (ci := 1) (v := .int v_rowsq1_19) (C := RX1) (T := TX1) (N := 9) hx hb hT in_X1 hown hK hP 4 rfl rfl 8 (by decide) (hT _ q_fl_X3_37) (fun _ h9 => h9) rfl dX3_measure_27 ?_
          obtain ⟨h26, hf⟩ := gd_el hf
          refine ia_st hx hb hK hP hD hS 1 0 rfl rfl (ib_in h26) (j := (tn i3_1)) rfl dX3_measure_30 (fun H locs hP hD hS => ?_)
          have hP : va_P (dC, dI) vwCl [(a0, .inr (3, [.ref a1, .int v_allFit_2, .ref a2, .ref a3])), (a1, .inl (cI, 12, .inl (upd v_rows_3 (tn i3_1) v_rowsq1_19))), (a4, .inr (4, [.ref a5])), (a5, .inl (cI, 117, .inl v_cells)), (a6, .inr (1, [.ref a7, .ref a8, .ref a9, .ref a10, .ref a11, .int v_indentation_16, .int v_number_17, .int v_cost_18, .int v_rowsq1_19])), (a7, .inl (cI, 7, .inl v_restCost_20)), (a8, .inl (cI, 7, .inl v_nextRow_21)), (a9, .inl (cI, 7, .inl v_restNumber_22)), (a10, .inl (cI, 6, .inl v_row_23)), (a11, .inl (cI, 6, .inl v_position_24))] H := hP
          have hD : va_D A [(a0, .inr (3, [.ref a1, .int v_allFit_2, .ref a2, .ref a3])), (a1, .inl (cI, 12, .inl (upd v_rows_3 (tn i3_1) v_rowsq1_19))), (a4, .inr (4, [.ref a5])), (a5, .inl (cI, 117, .inl v_cells)), (a6, .inr (1, [.ref a7, .ref a8, .ref a9, .ref a10, .ref a11, .int v_indentation_16, .int v_number_17, .int v_cost_18, .int v_rowsq1_19])), (a7, .inl (cI, 7, .inl v_restCost_20)), (a8, .inl (cI, 7, .inl v_nextRow_21)), (a9, .inl (cI, 7, .inl v_restNumber_22)), (a10, .inl (cI, 6, .inl v_row_23)), (a11, .inl (cI, 6, .inl v_position_24))] := hD
          refine lv_aload_n hx hb dX3_measure_31 rfl (lv_at hl 0 rfl) ?_
          refine lv_aload_n hx hb dX3_measure_32 rfl (lv_at hl 0 rfl) ?_
          refine va_get (D := (dC, dI)) (ci := 3) (v := .int v_allFit_2) (C := RX3) (T := TX3) (N := 4) hx hb hT in_X3 hown hK hP 0 rfl rfl 1 (by decide) (hT _ q_fl_X3_21) (fun _ h9 => h9) rfl dX3_measure_33 ?_
          refine lv_if_eq (tgt := 52) hx hb dX3_measure_36 (by decide) (fun c27 => ?_) (fun c27 => ?_)
          · replace hf := it_t c27 hf
            refine lv_iconst (v := 0) hx hb dX3_measure_52 (by decide) ?_
            refine va_put (D := (dC, dI)) (ci := 3) (v := .int (0 : Int32)) (ty := .boolean) (C := RX3) (T := TX3) (N := 4) hx hb hT in_X3 tyX3 tyX3_ok nmX3 hown hK hP hD hS 0 rfl rfl 1 (by decide) (hT _ q_fl_X3_21) (fun _ h9 => h9) rfl (tyX3_ok 1 (by decide)) rfl rfl (Nat.le_of_ble_eq_true rfl) dX3_measure_53 (fun H locs hP hD hS => ?_)
            have hP : va_P (dC, dI) vwCl [(a0, .inr (3, [.ref a1, .int (0 : Int32), .ref a2, .ref a3])), (a1, .inl (cI, 12, .inl (upd v_rows_3 (tn i3_1) v_rowsq1_19))), (a4, .inr (4, [.ref a5])), (a5, .inl (cI, 117, .inl v_cells)), (a6, .inr (1, [.ref a7, .ref a8, .ref a9, .ref a10, .ref a11, .int v_indentation_16, .int v_number_17, .int v_cost_18, .int v_rowsq1_19])), (a7, .inl (cI, 7, .inl v_restCost_20)), (a8, .inl (cI, 7, .inl v_nextRow_21)), (a9, .inl (cI, 7, .inl v_restNumber_22)), (a10, .inl (cI, 6, .inl v_row_23)), (a11, .inl (cI, 6, .inl v_position_24))] H := hP
            have hD : va_D A [(a0, .inr (3, [.ref a1, .int (0 : Int32), .ref a2, .ref a3])), (a1, .inl (cI, 12, .inl (upd v_rows_3 (tn i3_1) v_rowsq1_19))), (a4, .inr (4, [.ref a5])), (a5, .inl (cI, 117, .inl v_cells)), (a6, .inr (1, [.ref a7, .ref a8, .ref a9, .ref a10, .ref a11, .int v_indentation_16, .int v_number_17, .int v_cost_18, .int v_rowsq1_19])), (a7, .inl (cI, 7, .inl v_restCost_20)), (a8, .inl (cI, 7, .inl v_nextRow_21)), (a9, .inl (cI, 7, .inl v_restNumber_22)), (a10, .inl (cI, 6, .inl v_row_23)), (a11, .inl (cI, 6, .inl v_position_24))] := hD
            refine lv_iinc (v := (i3_1 + (1 : Int32))) (lv' := [(3, .int (i3_1 + (1 : Int32))), (0, .ref a0), (1, .ref a4), (2, .ref a6)]) hx hb dX3_measure_56 hl (k := 3) rfl rfl (by decide) rfl (fun ls hl => ?_)
            refine lv_goto (tgt := 7) hx hb dX3_measure_59 (by decide) ?_
            exact ih7 (i3_1 + (1 : Int32)) (0 : Int32) (upd v_rows_3 (tn i3_1) v_rowsq1_19) v_indentation_16 v_number_17 v_cost_18 v_rowsq1_19 v_restCost_20 v_nextRow_21 v_restNumber_22 v_row_23 v_position_24 (hi _ (Option.some.inj hf).symm) H locs ls hP hD hS (lv_sub hl [1, 2, 3, 0] rfl)
          · replace hf := it_f c27 hf
            refine lv_aload_n hx hb dX3_measure_39 rfl (lv_at hl 2 rfl) ?_
            refine va_get (D := (dC, dI)) (ci := 1) (v := .int v_rowsq1_19) (C := RX1) (T := TX1) (N := 9) hx hb hT in_X1 hown hK hP 4 rfl rfl 8 (by decide) (hT _ q_fl_X3_37) (fun _ h9 => h9) rfl dX3_measure_40 ?_
            refine lv_bipush (v := (-4)) hx hb dX3_measure_43 (by decide) ?_
            refine lv_icmp_eq (tgt := 52) hx hb dX3_measure_45 (by decide) (fun c28 => ?_) (fun c28 => ?_)
            · replace hf := it_t c28 hf
              refine lv_iconst (v := 0) hx hb dX3_measure_52 (by decide) ?_
              refine va_put (D := (dC, dI)) (ci := 3) (v := .int (0 : Int32)) (ty := .boolean) (C := RX3) (T := TX3) (N := 4) hx hb hT in_X3 tyX3 tyX3_ok nmX3 hown hK hP hD hS 0 rfl rfl 1 (by decide) (hT _ q_fl_X3_21) (fun _ h9 => h9) rfl (tyX3_ok 1 (by decide)) rfl rfl (Nat.le_of_ble_eq_true rfl) dX3_measure_53 (fun H locs hP hD hS => ?_)
              have hP : va_P (dC, dI) vwCl [(a0, .inr (3, [.ref a1, .int (0 : Int32), .ref a2, .ref a3])), (a1, .inl (cI, 12, .inl (upd v_rows_3 (tn i3_1) v_rowsq1_19))), (a4, .inr (4, [.ref a5])), (a5, .inl (cI, 117, .inl v_cells)), (a6, .inr (1, [.ref a7, .ref a8, .ref a9, .ref a10, .ref a11, .int v_indentation_16, .int v_number_17, .int v_cost_18, .int v_rowsq1_19])), (a7, .inl (cI, 7, .inl v_restCost_20)), (a8, .inl (cI, 7, .inl v_nextRow_21)), (a9, .inl (cI, 7, .inl v_restNumber_22)), (a10, .inl (cI, 6, .inl v_row_23)), (a11, .inl (cI, 6, .inl v_position_24))] H := hP
              have hD : va_D A [(a0, .inr (3, [.ref a1, .int (0 : Int32), .ref a2, .ref a3])), (a1, .inl (cI, 12, .inl (upd v_rows_3 (tn i3_1) v_rowsq1_19))), (a4, .inr (4, [.ref a5])), (a5, .inl (cI, 117, .inl v_cells)), (a6, .inr (1, [.ref a7, .ref a8, .ref a9, .ref a10, .ref a11, .int v_indentation_16, .int v_number_17, .int v_cost_18, .int v_rowsq1_19])), (a7, .inl (cI, 7, .inl v_restCost_20)), (a8, .inl (cI, 7, .inl v_nextRow_21)), (a9, .inl (cI, 7, .inl v_restNumber_22)), (a10, .inl (cI, 6, .inl v_row_23)), (a11, .inl (cI, 6, .inl v_position_24))] := hD
              refine lv_iinc (v := (i3_1 + (1 : Int32))) (lv' := [(3, .int (i3_1 + (1 : Int32))), (0, .ref a0), (1, .ref a4), (2, .ref a6)]) hx hb dX3_measure_56 hl (k := 3) rfl rfl (by decide) rfl (fun ls hl => ?_)
              refine lv_goto (tgt := 7) hx hb dX3_measure_59 (by decide) ?_
              exact ih7 (i3_1 + (1 : Int32)) (0 : Int32) (upd v_rows_3 (tn i3_1) v_rowsq1_19) v_indentation_16 v_number_17 v_cost_18 v_rowsq1_19 v_restCost_20 v_nextRow_21 v_restNumber_22 v_row_23 v_position_24 (hi _ (Option.some.inj hf).symm) H locs ls hP hD hS (lv_sub hl [1, 2, 3, 0] rfl)
            · replace hf := it_f c28 hf
              refine lv_iconst (v := 1) hx hb dX3_measure_48 (by decide) ?_
              refine lv_goto (tgt := 53) hx hb dX3_measure_49 (by decide) ?_
              refine va_put (D := (dC, dI)) (ci := 3) (v := .int (1 : Int32)) (ty := .boolean) (C := RX3) (T := TX3) (N := 4) hx hb hT in_X3 tyX3 tyX3_ok nmX3 hown hK hP hD hS 0 rfl rfl 1 (by decide) (hT _ q_fl_X3_21) (fun _ h9 => h9) rfl (tyX3_ok 1 (by decide)) rfl rfl (Nat.le_of_ble_eq_true rfl) dX3_measure_53 (fun H locs hP hD hS => ?_)
              have hP : va_P (dC, dI) vwCl [(a0, .inr (3, [.ref a1, .int (1 : Int32), .ref a2, .ref a3])), (a1, .inl (cI, 12, .inl (upd v_rows_3 (tn i3_1) v_rowsq1_19))), (a4, .inr (4, [.ref a5])), (a5, .inl (cI, 117, .inl v_cells)), (a6, .inr (1, [.ref a7, .ref a8, .ref a9, .ref a10, .ref a11, .int v_indentation_16, .int v_number_17, .int v_cost_18, .int v_rowsq1_19])), (a7, .inl (cI, 7, .inl v_restCost_20)), (a8, .inl (cI, 7, .inl v_nextRow_21)), (a9, .inl (cI, 7, .inl v_restNumber_22)), (a10, .inl (cI, 6, .inl v_row_23)), (a11, .inl (cI, 6, .inl v_position_24))] H := hP
              have hD : va_D A [(a0, .inr (3, [.ref a1, .int (1 : Int32), .ref a2, .ref a3])), (a1, .inl (cI, 12, .inl (upd v_rows_3 (tn i3_1) v_rowsq1_19))), (a4, .inr (4, [.ref a5])), (a5, .inl (cI, 117, .inl v_cells)), (a6, .inr (1, [.ref a7, .ref a8, .ref a9, .ref a10, .ref a11, .int v_indentation_16, .int v_number_17, .int v_cost_18, .int v_rowsq1_19])), (a7, .inl (cI, 7, .inl v_restCost_20)), (a8, .inl (cI, 7, .inl v_nextRow_21)), (a9, .inl (cI, 7, .inl v_restNumber_22)), (a10, .inl (cI, 6, .inl v_row_23)), (a11, .inl (cI, 6, .inl v_position_24))] := hD
              refine lv_iinc (v := (i3_1 + (1 : Int32))) (lv' := [(3, .int (i3_1 + (1 : Int32))), (0, .ref a0), (1, .ref a4), (2, .ref a6)]) hx hb dX3_measure_56 hl (k := 3) rfl rfl (by decide) rfl (fun ls hl => ?_)
              refine lv_goto (tgt := 7) hx hb dX3_measure_59 (by decide) ?_
              exact ih7 (i3_1 + (1 : Int32)) (1 : Int32) (upd v_rows_3 (tn i3_1) v_rowsq1_19) v_indentation_16 v_number_17 v_cost_18 v_rowsq1_19 v_restCost_20 v_nextRow_21 v_restNumber_22 v_row_23 v_position_24 (hi _ (Option.some.inj hf).symm) H locs ls hP hD hS (lv_sub hl [1, 2, 3, 0] rfl)
    obtain ⟨f3_41, v_allFit_42, v_rows_43, v_indentation_44, v_number_45, v_cost_46, v_rowsq1_47, v_restCost_48, v_nextRow_49, v_restNumber_50, v_row_51, v_position_52, hq, hf⟩ := bd12_el hf
    refine hL7 (f3_41, v_allFit_42, v_rows_43, v_indentation_44, v_number_45, v_cost_46, v_rowsq1_47, v_restCost_48, v_nextRow_49, v_restNumber_50, v_row_51, v_position_52) (fun z_29 z_30 z_31 z_32 z_33 z_34 z_35 z_36 z_37 z_38 z_39 z_40 h9 H locs ls hP hD hS hl => ?_) fuel (0 : Int32) (1 : Int32) v_rows v_indentation v_number v_cost v_rowsq1 v_restCost v_nextRow v_restNumber v_row v_position hq H locs ls hP hD hS (lv_sub hl [1, 2, 3, 0] rfl)
    simp only [Prod.mk.injEq] at h9
    obtain ⟨h9_0, h9_1, h9_2, h9_3, h9_4, h9_5, h9_6, h9_7, h9_8, h9_9, h9_10, h9_11⟩ := h9
    subst h9_0; subst h9_1; subst h9_2; subst h9_3; subst h9_4; subst h9_5; subst h9_6; subst h9_7; subst h9_8; subst h9_9; subst h9_10; subst h9_11
    replace hf := Option.some.inj hf
    simp only [Prod.mk.injEq] at hf
    obtain ⟨hf0, hf1, hf2, hf3, hf4, hf5, hf6, hf7, hf8, hf9, hf10⟩ := hf
    subst hf0; subst hf1; subst hf2; subst hf3; subst hf4; subst hf5; subst hf6; subst hf7; subst hf8; subst hf9; subst hf10
    exact hret H locs ls _ dX3_measure_62 hP hD hS
  refine key _ ?_ _ _ _ hP hD hS hl
  intro H locs ls pc d hP hD hS
  exact W.vret hx hb hr (fun t ht hW => ⟨⟨rfl, by rw [ht]; exact hP, hD⟩, hS.F ht⟩) hS.2.2 d
def p_X3_heightOf_L6 (v_rows : (Nat → Int32)) (v_cells : (Nat → Int32)) (x2 : Int32) (x3 : Int32) (s : Int32 × Int32) : Option ((Int32 × Int32) ⊕ (Int32 × Int32)) := match s with
  | (i4_1, i5_2) => (if x3 ≤ i5_2 then (some (.inr (i4_1, i5_2))) else (gd (ib i5_2 12) (nm (i4_1 + (v_rows (tn i5_2))) fun x4_5 => (if i5_2 ≤ x2 then (some (.inl (x4_5, (i5_2 + (1 : Int32))))) else (bd1 (p_X4_beginsStanza v_cells i5_2) fun r_7 => (if r_7 = (0 : Int32) then (some (.inl (x4_5, (i5_2 + (1 : Int32))))) else (some (.inl ((x4_5 + (1 : Int32)), (i5_2 + (1 : Int32)))))))))))
def p_X3_heightOf (v_rows : (Nat → Int32)) (v_cells : (Nat → Int32)) (x2 : Int32) (x3 : Int32) : Option (Int32) :=
  (bd2 (loopN (p_X3_heightOf_L6 v_rows v_cells x2 x3) fuel ((0 : Int32), x2)) fun f4_12 f5_13 => (some f4_12))
set_option maxHeartbeats 4000000 in
set_option maxRecDepth 100000 in
theorem c_X3_heightOf (l : Launch) (dC : Nat → ClassId) (dI : Nat → Nat → Nat) (cI cJ cP cS : ClassId) (a0 : Nat) (a1 : Nat) (a2 : Nat) (a3 : Nat) (a4 : Nat) (a5 : Nat) (v_allFit : Int32) (v_rows : (Nat → Int32)) (v_cells : (Nat → Int32))  (x2 : Int32) (x3 : Int32) (rv : Int32)  (hf : p_X3_heightOf v_rows v_cells x2 x3 = some rv) : MC l (dC, dI) (tyl cI cJ cP cS) yX3_heightOf (Cond.code yX3_heightOf cX3_heightOf 6 (some .int) :: TBG) ({ frames := 1, cells := 0, slots := 0, locals := 21 } : Room) [.ref a0, .ref a4, .int x2, .int x3] [(a0, .inr (3, [.ref a1, .int v_allFit, .ref a2, .ref a3])), (a1, .inl (cI, 12, .inl v_rows)), (a4, .inr (4, [.ref a5])), (a5, .inl (cI, 117, .inl v_cells))] [(a0, .inr (3, [.ref a1, .int v_allFit, .ref a2, .ref a3])), (a1, .inl (cI, 12, .inl v_rows)), (a4, .inr (4, [.ref a5])), (a5, .inl (cI, 117, .inl v_cells))] (some (.int rv)) := by
  intro sz
  unfold MPost
  refine Met.ofW (cc := cX3_heightOf) (maxL := 6) (ret := (some .int)) (by decide) rfl ?_
  intro p e s m args below meth c s₁ B hml hv
  obtain ⟨rfl, hsz, hP, hK, hD0, hF⟩ := hv
  have hx := B.exec
  have hb := B.bytes
  have hr := B.returns
  have hT : ∀ w ∈ TBG, w.before _ s = true := fun w h => atoms_spec B.pre w (List.mem_cons_of_mem _ h)
  have hown : s.vm.findClass RX3 = some m.cls := findClass_of_methodNamed B.named
  have hlocks := B.notSynchronized
  subst hsz
  have hD := hD0.self (sz := s.heap.size)
  generalize hAe : va_A [(a0, .inr (3, [.ref a1, .int v_allFit, .ref a2, .ref a3])), (a1, .inl (cI, 12, .inl v_rows)), (a4, .inr (4, [.ref a5])), (a5, .inl (cI, 117, .inl v_cells))] s.heap.size = A at hD hF ⊢
  have hA : ∀ q : Nat, s.heap.size ≤ q → A q := fun q h => by rw [← hAe]; exact Or.inr h
  have hS : va_S A s.heap s.heap [] := va_S.rf
  have hl := lv_entry ([.ref a0, .ref a4, .int x2, .int x3]) (n := 6) (Nat.le_of_ble_eq_true rfl)
  rw [lg_entry_eq]
  generalize (lg_sl ([.ref a0, .ref a4, .int x2, .int x3]) ++ List.replicate (6 - (lg_sl ([.ref a0, .ref a4, .int x2, .int x3])).length) Slot.unset).toArray = ls at hl ⊢
  have hl : lv_has ls 6 [(0, .ref a0), (1, .ref a4), (2, .int x2), (3, .int x3)] := hl
  generalize ([.ref a0, .ref a4, .int x2, .int x3] : List Value).toArray = args at hT ⊢
  have key : ∀ (Q : State → Prop), (∀ (H : Heap) (locs : List Loc) (ls : Array Slot) (pc : Nat), decode cX3_heightOf pc = .ok (.ireturn, 1) → va_P (dC, dI) vwCl [(a0, .inr (3, [.ref a1, .int v_allFit, .ref a2, .ref a3])), (a1, .inl (cI, 12, .inl v_rows)), (a4, .inr (4, [.ref a5])), (a5, .inl (cI, 117, .inl v_cells))] H → va_D A [(a0, .inr (3, [.ref a1, .int v_allFit, .ref a2, .ref a3])), (a1, .inl (cI, 12, .inl v_rows)), (a4, .inr (4, [.ref a5])), (a5, .inl (cI, 117, .inl v_cells))] → va_S A s.heap H locs → W p l e ({ frames := 1, cells := 0, slots := 0, locals := 21 } : Room) s m args below meth c H locs 0 0 Q (F0 m pc ls [.int rv])) → ∀ (H : Heap) (locs : List Loc) (ls : Array Slot), va_P (dC, dI) vwCl [(a0, .inr (3, [.ref a1, .int v_allFit, .ref a2, .ref a3])), (a1, .inl (cI, 12, .inl v_rows)), (a4, .inr (4, [.ref a5])), (a5, .inl (cI, 117, .inl v_cells))] H → va_D A [(a0, .inr (3, [.ref a1, .int v_allFit, .ref a2, .ref a3])), (a1, .inl (cI, 12, .inl v_rows)), (a4, .inr (4, [.ref a5])), (a5, .inl (cI, 117, .inl v_cells))] → va_S A s.heap H locs → lv_has ls 6 [(0, .ref a0), (1, .ref a4), (2, .int x2), (3, .int x3)] → W p l e ({ frames := 1, cells := 0, slots := 0, locals := 21 } : Room) s m args below meth c H locs 0 0 Q (F0 m 0 ls []) := by
    intro Q hret H locs ls hP hD hS hl
    refine lv_iconst (v := 0) hx hb dX3_heightOf_0 (by decide) ?_
    refine lv_istore (lv' := [(4, .int (0 : Int32)), (0, .ref a0), (1, .ref a4), (2, .int x2), (3, .int x3)]) hx hb dX3_heightOf_1 hl (by decide) rfl (fun ls hl => ?_)
    refine lv_iload_n hx hb dX3_heightOf_3 rfl (lv_at hl 3 rfl) ?_
    refine lv_istore (lv' := [(5, .int x2), (4, .int (0 : Int32)), (0, .ref a0), (1, .ref a4), (2, .int x2), (3, .int x3)]) hx hb dX3_heightOf_4 hl (by decide) rfl (fun ls hl => ?_)
    have hL6 : ∀ (rr : Int32 × Int32), (∀ (z_10 : Int32) (z_11 : Int32), rr = (z_10, z_11) → ∀ (H : Heap) (locs : List Loc) (ls : Array Slot), va_P (dC, dI) vwCl [(a0, .inr (3, [.ref a1, .int v_allFit, .ref a2, .ref a3])), (a1, .inl (cI, 12, .inl v_rows)), (a4, .inr (4, [.ref a5])), (a5, .inl (cI, 117, .inl v_cells))] H → va_D A [(a0, .inr (3, [.ref a1, .int v_allFit, .ref a2, .ref a3])), (a1, .inl (cI, 12, .inl v_rows)), (a4, .inr (4, [.ref a5])), (a5, .inl (cI, 117, .inl v_cells))] → va_S A s.heap H locs → lv_has ls 6 [(4, .int z_10)] → W p l e ({ frames := 1, cells := 0, slots := 0, locals := 21 } : Room) s m args below meth c H locs 0 0 Q (F0 m 48 ls [])) → ∀ (n : Nat) (i4_1 : Int32) (i5_2 : Int32), loopN (p_X3_heightOf_L6 v_rows v_cells x2 x3) n (i4_1, i5_2) = some rr → ∀ (H : Heap) (locs : List Loc) (ls : Array Slot), va_P (dC, dI) vwCl [(a0, .inr (3, [.ref a1, .int v_allFit, .ref a2, .ref a3])), (a1, .inl (cI, 12, .inl v_rows)), (a4, .inr (4, [.ref a5])), (a5, .inl (cI, 117, .inl v_cells))] H → va_D A [(a0, .inr (3, [.ref a1, .int v_allFit, .ref a2, .ref a3])), (a1, .inl (cI, 12, .inl v_rows)), (a4, .inr (4, [.ref a5])), (a5, .inl (cI, 117, .inl v_cells))] → va_S A s.heap H locs → lv_has ls 6 [(0, .ref a0), (1, .ref a4), (2, .int x2), (3, .int x3), (4, .int i4_1), (5, .int i5_2)] → W p l e ({ frames := 1, cells := 0, slots := 0, locals := 21 } : Room) s m args below meth c H locs 0 0 Q (F0 m 6 ls []) := by
      intro rr hk6 n
      induction n with
      | zero => intro i4_1 i5_2 hf; cases hf
      | succ n ih6 =>
        intro i4_1 i5_2 hf H locs ls hP hD hS hl
        obtain ⟨o6, hf, hi, he⟩ := loopN_el hf
        refine lv_iload hx hb dX3_heightOf_6 (lv_at hl 5 rfl) ?_
        refine lv_iload_n hx hb dX3_heightOf_8 rfl (lv_at hl 3 rfl) ?_
        refine lv_icmp_ge (tgt := 48) hx hb dX3_heightOf_9 (by decide) (fun c3 => ?_) (fun c3 => ?_)
        · replace hf := it_t c3 hf
          exact hk6 _ _ (he _ (Option.some.inj hf).symm).symm H locs ls hP hD hS (lv_sub hl [4] rfl)
        · replace hf := it_f c3 hf
          refine lv_iload hx hb dX3_heightOf_12 (lv_at hl 4 rfl) ?_
          refine lv_aload_n hx hb dX3_heightOf_14 rfl (lv_at hl 0 rfl) ?_
          refine va_get (D := (dC, dI)) (ci := 3) (v := .ref a1) (C := RX3) (T := TX3) (N := 4) hx hb hT in_X3 hown hK hP 0 rfl rfl 0 (by decide) (hT _ q_fl_X3_9) (fun _ h9 => h9) rfl dX3_heightOf_15 ?_
          refine lv_iload hx hb dX3_heightOf_18 (lv_at hl 5 rfl) ?_
          obtain ⟨h4, hf⟩ := gd_el hf
          refine ia_ld hx hb hK hP 1 0 rfl rfl (ib_in h4) (j := (tn i5_2)) rfl dX3_heightOf_20 ?_
          refine lv_iadd hx hb dX3_heightOf_21 ?_
          obtain ⟨x4_5, ex4_5, hf⟩ := nm_el hf
          refine lv_as (congrArg Value.int ex4_5) ?_
          refine lv_istore (lv' := [(4, .int x4_5), (0, .ref a0), (1, .ref a4), (2, .int x2), (3, .int x3), (5, .int i5_2)]) hx hb dX3_heightOf_22 hl (by decide) rfl (fun ls hl => ?_)
          refine lv_iload hx hb dX3_heightOf_24 (lv_at hl 5 rfl) ?_
          refine lv_iload_n hx hb dX3_heightOf_26 rfl (lv_at hl 3 rfl) ?_
          refine lv_icmp_le (tgt := 42) hx hb dX3_heightOf_27 (by decide) (fun c6 => ?_) (fun c6 => ?_)
          · replace hf := it_t c6 hf
            refine lv_iinc (v := (i5_2 + (1 : Int32))) (lv' := [(5, .int (i5_2 + (1 : Int32))), (4, .int x4_5), (0, .ref a0), (1, .ref a4), (2, .int x2), (3, .int x3)]) hx hb dX3_heightOf_42 hl (k := 5) rfl rfl (by decide) rfl (fun ls hl => ?_)
            refine lv_goto (tgt := 6) hx hb dX3_heightOf_45 (by decide) ?_
            exact ih6 x4_5 (i5_2 + (1 : Int32)) (hi _ (Option.some.inj hf).symm) H locs ls hP hD hS (lv_sub hl [2, 3, 4, 5, 1, 0] rfl)
          · replace hf := it_f c6 hf
            refine lv_aload_n hx hb dX3_heightOf_30 rfl (lv_at hl 2 rfl) ?_
            refine lv_iload hx hb dX3_heightOf_31 (lv_at hl 5 rfl) ?_
            obtain ⟨r_7, hq8, hf⟩ := bd1_el hf
            refine mc_V (As := [.int i5_2]) (rest := []) (wr := [(a0, .inr (3, [.ref a1, .int v_allFit, .ref a2, .ref a3])), (a1, .inl (cI, 12, .inl v_rows))]) (wn := [(a0, .inr (3, [.ref a1, .int v_allFit, .ref a2, .ref a3])), (a1, .inl (cI, 12, .inl v_rows)), (a4, .inr (4, [.ref a5])), (a5, .inl (cI, 117, .inl v_cells))]) ⟨hx, hb, hml, hown, hT⟩ (c_X4_beginsStanza l dC dI cI cJ cP cS a4 a5 v_cells i5_2 r_7 hq8) (cwV 1 hT (gdV q_ml_X3_74 q_im_X4_beginsStanza q_se_X4_beginsStanza q_in_X4 q_co_X4_beginsStanza) rfl rfl rfl hd_X4_beginsStanza ⟨Nat.le_of_ble_eq_true rfl, Nat.le_of_ble_eq_true rfl⟩) hK hF hP hD hS hA 2 rfl rfl rfl [2, 3] [0, 1] [0, 1, 2, 3] rfl (by decide) rfl (by decide) (by decide) rfl (by decide) rfl hl.1 rfl (Nat.le_of_ble_eq_true rfl) dX3_heightOf_33 ⟨Nat.zero_le _, Nat.zero_le _⟩ (fun H locs hP hD hS => ?_)
            refine W.eq (g2 := F0 m 36 ls [.int r_7]) rfl ?_
            refine lv_if_eq (tgt := 42) hx hb dX3_heightOf_36 (by decide) (fun c9 => ?_) (fun c9 => ?_)
            · replace hf := it_t c9 hf
              refine lv_iinc (v := (i5_2 + (1 : Int32))) (lv' := [(5, .int (i5_2 + (1 : Int32))), (4, .int x4_5), (0, .ref a0), (1, .ref a4), (2, .int x2), (3, .int x3)]) hx hb dX3_heightOf_42 hl (k := 5) rfl rfl (by decide) rfl (fun ls hl => ?_)
              refine lv_goto (tgt := 6) hx hb dX3_heightOf_45 (by decide) ?_
              exact ih6 x4_5 (i5_2 + (1 : Int32)) (hi _ (Option.some.inj hf).symm) H locs ls hP hD hS (lv_sub hl [2, 3, 4, 5, 1, 0] rfl)
            · replace hf := it_f c9 hf
              refine lv_iinc (v := (x4_5 + (1 : Int32))) (lv' := [(4, .int (x4_5 + (1 : Int32))), (0, .ref a0), (1, .ref a4), (2, .int x2), (3, .int x3), (5, .int i5_2)]) hx hb dX3_heightOf_39 hl (k := 0) rfl rfl (by decide) rfl (fun ls hl => ?_)
              refine lv_iinc (v := (i5_2 + (1 : Int32))) (lv' := [(5, .int (i5_2 + (1 : Int32))), (4, .int (x4_5 + (1 : Int32))), (0, .ref a0), (1, .ref a4), (2, .int x2), (3, .int x3)]) hx hb dX3_heightOf_42 hl (k := 5) rfl rfl (by decide) rfl (fun ls hl => ?_)
              refine lv_goto (tgt := 6) hx hb dX3_heightOf_45 (by decide) ?_
              exact ih6 (x4_5 + (1 : Int32)) (i5_2 + (1 : Int32)) (hi _ (Option.some.inj hf).symm) H locs ls hP hD hS (lv_sub hl [2, 3, 4, 5, 1, 0] rfl)
    obtain ⟨f4_12, f5_13, hq, hf⟩ := bd2_el hf
    refine hL6 (f4_12, f5_13) (fun z_10 z_11 h9 H locs ls hP hD hS hl => ?_) fuel (0 : Int32) x2 hq H locs ls hP hD hS (lv_sub hl [2, 3, 4, 5, 1, 0] rfl)
    simp only [Prod.mk.injEq] at h9
    obtain ⟨h9_0, h9_1⟩ := h9
    subst h9_0; subst h9_1
    refine lv_iload hx hb dX3_heightOf_48 (lv_at hl 0 rfl) ?_
    replace hf := Option.some.inj hf
    subst hf
    exact hret H locs ls _ dX3_heightOf_50 hP hD hS
  refine key _ ?_ _ _ _ hP hD hS hl
  intro H locs ls pc d hP hD hS
  exact W.iret (v := rv) hx hb hr (fun t ht hW => ⟨⟨rfl, by rw [ht]; exact hP, hD⟩, hS.F ht⟩) hS.2.2 d
def p_X3_isAllowed (v_rows : (Nat → Int32)) (v_cells : (Nat → Int32)) (x2 : Int32) (x3 : Int32) : Option (Int32) :=
  (bd1 (p_X3_heightOf v_rows v_cells x2 x3) fun r_1 => (bd1 (p_X4_setting v_cells (3 : Int32)) fun r_3 => (if r_1 ≤ r_3 then (bd1 (p_X4_isInsideStanza v_cells x3) fun r_6 => (if r_6 = (0 : Int32) then (some (1 : Int32)) else (bd1 (p_X4_stanzaStart v_cells x3) fun r_9 => (nm (x3 - (if x2 < r_9 then r_9 else x2)) fun x4_11 => (bd1 (p_X4_stanzaEnd v_cells x3) fun r_12 => (nm (r_12 - x3) fun x5_14 => (bd1 (p_X4_setting v_cells (4 : Int32)) fun r_15 => (if (if x5_14 < x4_11 then x5_14 else x4_11) < r_15 then (some (0 : Int32)) else (some (1 : Int32)))))))))) else (some (0 : Int32)))))
set_option maxHeartbeats 4000000 in
set_option maxRecDepth 100000 in
theorem c_X3_isAllowed (l : Launch) (dC : Nat → ClassId) (dI : Nat → Nat → Nat) (cI cJ cP cS : ClassId) (a0 : Nat) (a1 : Nat) (a2 : Nat) (a3 : Nat) (a4 : Nat) (a5 : Nat) (v_allFit : Int32) (v_rows : (Nat → Int32)) (v_cells : (Nat → Int32))  (x2 : Int32) (x3 : Int32) (rv : Int32)  (hf : p_X3_isAllowed v_rows v_cells x2 x3 = some rv) : MC l (dC, dI) (tyl cI cJ cP cS) yX3_isAllowed (Cond.code yX3_isAllowed cX3_isAllowed 6 (some .boolean) :: TBG) ({ frames := 2, cells := 0, slots := 0, locals := 46 } : Room) [.ref a0, .ref a4, .int x2, .int x3] [(a0, .inr (3, [.ref a1, .int v_allFit, .ref a2, .ref a3])), (a1, .inl (cI, 12, .inl v_rows)), (a4, .inr (4, [.ref a5])), (a5, .inl (cI, 117, .inl v_cells))] [(a0, .inr (3, [.ref a1, .int v_allFit, .ref a2, .ref a3])), (a1, .inl (cI, 12, .inl v_rows)), (a4, .inr (4, [.ref a5])), (a5, .inl (cI, 117, .inl v_cells))] (some (.int rv)) := by
  intro sz
  unfold MPost
  refine Met.ofW (cc := cX3_isAllowed) (maxL := 6) (ret := (some .boolean)) (by decide) rfl ?_
  intro p e s m args below meth c s₁ B hml hv
  obtain ⟨rfl, hsz, hP, hK, hD0, hF⟩ := hv
  have hx := B.exec
  have hb := B.bytes
  have hr := B.returns
  have hT : ∀ w ∈ TBG, w.before _ s = true := fun w h => atoms_spec B.pre w (List.mem_cons_of_mem _ h)
  have hown : s.vm.findClass RX3 = some m.cls := findClass_of_methodNamed B.named
  have hlocks := B.notSynchronized
  subst hsz
  have hD := hD0.self (sz := s.heap.size)
  generalize hAe : va_A [(a0, .inr (3, [.ref a1, .int v_allFit, .ref a2, .ref a3])), (a1, .inl (cI, 12, .inl v_rows)), (a4, .inr (4, [.ref a5])), (a5, .inl (cI, 117, .inl v_cells))] s.heap.size = A at hD hF ⊢
  have hA : ∀ q : Nat, s.heap.size ≤ q → A q := fun q h => by rw [← hAe]; exact Or.inr h
  have hS : va_S A s.heap s.heap [] := va_S.rf
  have hl := lv_entry ([.ref a0, .ref a4, .int x2, .int x3]) (n := 6) (Nat.le_of_ble_eq_true rfl)
  rw [lg_entry_eq]
  generalize (lg_sl ([.ref a0, .ref a4, .int x2, .int x3]) ++ List.replicate (6 - (lg_sl ([.ref a0, .ref a4, .int x2, .int x3])).length) Slot.unset).toArray = ls at hl ⊢
  have hl : lv_has ls 6 [(0, .ref a0), (1, .ref a4), (2, .int x2), (3, .int x3)] := hl
  generalize ([.ref a0, .ref a4, .int x2, .int x3] : List Value).toArray = args at hT ⊢
  have key : ∀ (Q : State → Prop), (∀ (H : Heap) (locs : List Loc) (ls : Array Slot) (pc : Nat), decode cX3_isAllowed pc = .ok (.ireturn, 1) → narrow .boolean (.int rv) = .int rv → va_P (dC, dI) vwCl [(a0, .inr (3, [.ref a1, .int v_allFit, .ref a2, .ref a3])), (a1, .inl (cI, 12, .inl v_rows)), (a4, .inr (4, [.ref a5])), (a5, .inl (cI, 117, .inl v_cells))] H → va_D A [(a0, .inr (3, [.ref a1, .int v_allFit, .ref a2, .ref a3])), (a1, .inl (cI, 12, .inl v_rows)), (a4, .inr (4, [.ref a5])), (a5, .inl (cI, 117, .inl v_cells))] → va_S A s.heap H locs → W p l e ({ frames := 2, cells := 0, slots := 0, locals := 46 } : Room) s m args below meth c H locs 0 0 Q (F0 m pc ls [.int rv])) → ∀ (H : Heap) (locs : List Loc) (ls : Array Slot), va_P (dC, dI) vwCl [(a0, .inr (3, [.ref a1, .int v_allFit, .ref a2, .ref a3])), (a1, .inl (cI, 12, .inl v_rows)), (a4, .inr (4, [.ref a5])), (a5, .inl (cI, 117, .inl v_cells))] H → va_D A [(a0, .inr (3, [.ref a1, .int v_allFit, .ref a2, .ref a3])), (a1, .inl (cI, 12, .inl v_rows)), (a4, .inr (4, [.ref a5])), (a5, .inl (cI, 117, .inl v_cells))] → va_S A s.heap H locs → lv_has ls 6 [(0, .ref a0), (1, .ref a4), (2, .int x2), (3, .int x3)] → W p l e ({ frames := 2, cells := 0, slots := 0, locals := 46 } : Room) s m args below meth c H locs 0 0 Q (F0 m 0 ls []) := by
    intro Q hret H locs ls hP hD hS hl
    refine lv_aload_n hx hb dX3_isAllowed_0 rfl (lv_at hl 0 rfl) ?_
    refine lv_aload_n hx hb dX3_isAllowed_1 rfl (lv_at hl 1 rfl) ?_
    refine lv_iload_n hx hb dX3_isAllowed_2 rfl (lv_at hl 2 rfl) ?_
    refine lv_iload_n hx hb dX3_isAllowed_3 rfl (lv_at hl 3 rfl) ?_
    obtain ⟨r_1, hq2, hf⟩ := bd1_el hf
    refine mc_V (As := [.ref a4, .int x2, .int x3]) (rest := []) (wr := []) (wn := [(a0, .inr (3, [.ref a1, .int v_allFit, .ref a2, .ref a3])), (a1, .inl (cI, 12, .inl v_rows)), (a4, .inr (4, [.ref a5])), (a5, .inl (cI, 117, .inl v_cells))]) ⟨hx, hb, hml, hown, hT⟩ (c_X3_heightOf l dC dI cI cJ cP cS a0 a1 a2 a3 a4 a5 v_allFit v_rows v_cells x2 x3 r_1 hq2) (cwV 3 hT (gdV q_ml_X3_51 q_im_X3_heightOf q_se_X3_heightOf q_in_X3 q_co_X3_heightOf) rfl rfl rfl hd_X3_heightOf ⟨Nat.le_of_ble_eq_true rfl, Nat.le_of_ble_eq_true rfl⟩) hK hF hP hD hS hA 0 rfl rfl rfl [0, 1, 2, 3] [] [0, 1, 2, 3] rfl (by decide) rfl (by decide) (by decide) rfl (by decide) rfl hl.1 rfl (Nat.le_of_ble_eq_true rfl) dX3_isAllowed_4 ⟨Nat.zero_le _, Nat.zero_le _⟩ (fun H locs hP hD hS => ?_)
    refine W.eq (g2 := F0 m 7 ls [.int r_1]) rfl ?_
    refine lv_aload_n hx hb dX3_isAllowed_7 rfl (lv_at hl 1 rfl) ?_
    refine lv_iconst (v := 3) hx hb dX3_isAllowed_8 (by decide) ?_
    obtain ⟨r_3, hq4, hf⟩ := bd1_el hf
    refine mc_V (As := [.int (3 : Int32)]) (rest := [.int r_1]) (wr := [(a0, .inr (3, [.ref a1, .int v_allFit, .ref a2, .ref a3])), (a1, .inl (cI, 12, .inl v_rows))]) (wn := [(a0, .inr (3, [.ref a1, .int v_allFit, .ref a2, .ref a3])), (a1, .inl (cI, 12, .inl v_rows)), (a4, .inr (4, [.ref a5])), (a5, .inl (cI, 117, .inl v_cells))]) ⟨hx, hb, hml, hown, hT⟩ (c_X4_setting l dC dI cI cJ cP cS a4 a5 v_cells (3 : Int32) r_3 hq4) (cwV 1 hT (gdV q_ml_X3_55 q_im_X4_setting q_se_X4_setting q_in_X4 q_co_X4_setting) rfl rfl rfl hd_X4_setting ⟨Nat.le_of_ble_eq_true rfl, Nat.le_of_ble_eq_true rfl⟩) hK hF hP hD hS hA 2 rfl rfl rfl [2, 3] [0, 1] [0, 1, 2, 3] rfl (by decide) rfl (by decide) (by decide) rfl (by decide) rfl hl.1 rfl (Nat.le_of_ble_eq_true rfl) dX3_isAllowed_9 ⟨Nat.zero_le _, Nat.zero_le _⟩ (fun H locs hP hD hS => ?_)
    refine W.eq (g2 := F0 m 12 ls [.int r_3, .int r_1]) rfl ?_
    refine lv_icmp_le (tgt := 17) hx hb dX3_isAllowed_12 (by decide) (fun c5 => ?_) (fun c5 => ?_)
    · replace hf := it_t c5 hf
      refine lv_aload_n hx hb dX3_isAllowed_17 rfl (lv_at hl 1 rfl) ?_
      refine lv_iload_n hx hb dX3_isAllowed_18 rfl (lv_at hl 3 rfl) ?_
      obtain ⟨r_6, hq7, hf⟩ := bd1_el hf
      refine mc_V (As := [.int x3]) (rest := []) (wr := [(a0, .inr (3, [.ref a1, .int v_allFit, .ref a2, .ref a3])), (a1, .inl (cI, 12, .inl v_rows))]) (wn := [(a0, .inr (3, [.ref a1, .int v_allFit, .ref a2, .ref a3])), (a1, .inl (cI, 12, .inl v_rows)), (a4, .inr (4, [.ref a5])), (a5, .inl (cI, 117, .inl v_cells))]) ⟨hx, hb, hml, hown, hT⟩ (c_X4_isInsideStanza l dC dI cI cJ cP cS a4 a5 v_cells x3 r_6 hq7) (cwV 1 hT (gdV q_ml_X3_47 q_im_X4_isInsideStanza q_se_X4_isInsideStanza q_in_X4 q_co_X4_isInsideStanza) rfl rfl rfl hd_X4_isInsideStanza ⟨Nat.le_of_ble_eq_true rfl, Nat.le_of_ble_eq_true rfl⟩) hK hF hP hD hS hA 2 rfl rfl rfl [2, 3] [0, 1] [0, 1, 2, 3] rfl (by decide) rfl (by decide) (by decide) rfl (by decide) rfl hl.1 rfl (Nat.le_of_ble_eq_true rfl) dX3_isAllowed_19 ⟨Nat.zero_le _, Nat.zero_le _⟩ (fun H locs hP hD hS => ?_)
      refine W.eq (g2 := F0 m 22 ls [.int r_6]) rfl ?_
      refine lv_if_ne (tgt := 27) hx hb dX3_isAllowed_22 (by decide) (fun c8 => ?_) (fun c8 => ?_)
      · replace hf := it_f c8 hf
        refine lv_iload_n hx hb dX3_isAllowed_27 rfl (lv_at hl 3 rfl) ?_
        refine lv_iload_n hx hb dX3_isAllowed_28 rfl (lv_at hl 2 rfl) ?_
        refine lv_aload_n hx hb dX3_isAllowed_29 rfl (lv_at hl 1 rfl) ?_
        refine lv_iload_n hx hb dX3_isAllowed_30 rfl (lv_at hl 3 rfl) ?_
        obtain ⟨r_9, hq10, hf⟩ := bd1_el hf
        refine mc_V (As := [.int x3]) (rest := [.int x2, .int x3]) (wr := [(a0, .inr (3, [.ref a1, .int v_allFit, .ref a2, .ref a3])), (a1, .inl (cI, 12, .inl v_rows))]) (wn := [(a0, .inr (3, [.ref a1, .int v_allFit, .ref a2, .ref a3])), (a1, .inl (cI, 12, .inl v_rows)), (a4, .inr (4, [.ref a5])), (a5, .inl (cI, 117, .inl v_cells))]) ⟨hx, hb, hml, hown, hT⟩ (c_X4_stanzaStart l dC dI cI cJ cP cS a4 a5 v_cells x3 r_9 hq10) (cwV 1 hT (gdV q_ml_X3_59 q_im_X4_stanzaStart q_se_X4_stanzaStart q_in_X4 q_co_X4_stanzaStart) rfl rfl rfl hd_X4_stanzaStart ⟨Nat.le_of_ble_eq_true rfl, Nat.le_of_ble_eq_true rfl⟩) hK hF hP hD hS hA 2 rfl rfl rfl [2, 3] [0, 1] [0, 1, 2, 3] rfl (by decide) rfl (by decide) (by decide) rfl (by decide) rfl hl.1 rfl (Nat.le_of_ble_eq_true rfl) dX3_isAllowed_31 ⟨Nat.zero_le _, Nat.zero_le _⟩ (fun H locs hP hD hS => ?_)
        refine W.eq (g2 := F0 m 34 ls [.int r_9, .int x2, .int x3]) rfl ?_
        refine va_mmax hx hb (hml.trans hl.1.symm) hown (hT _ q_ml_X3_62) (hT _ q_st_J9_max_7cf53) (hT _ q_in_J9) (hT _ q_co_J9_max_7cf53) (Nat.le_of_ble_eq_true rfl) (Nat.le_of_ble_eq_true rfl) (Nat.zero_le _) (Nat.zero_le _) dX3_isAllowed_34 ?_
        refine lv_isub hx hb dX3_isAllowed_37 ?_
        obtain ⟨x4_11, ex4_11, hf⟩ := nm_el hf
        refine lv_as (congrArg Value.int ex4_11) ?_
        refine lv_istore (lv' := [(4, .int x4_11), (0, .ref a0), (1, .ref a4), (2, .int x2), (3, .int x3)]) hx hb dX3_isAllowed_38 hl (by decide) rfl (fun ls hl => ?_)
        refine lv_aload_n hx hb dX3_isAllowed_40 rfl (lv_at hl 2 rfl) ?_
        refine lv_iload_n hx hb dX3_isAllowed_41 rfl (lv_at hl 4 rfl) ?_
        obtain ⟨r_12, hq13, hf⟩ := bd1_el hf
        refine mc_V (As := [.int x3]) (rest := []) (wr := [(a0, .inr (3, [.ref a1, .int v_allFit, .ref a2, .ref a3])), (a1, .inl (cI, 12, .inl v_rows))]) (wn := [(a0, .inr (3, [.ref a1, .int v_allFit, .ref a2, .ref a3])), (a1, .inl (cI, 12, .inl v_rows)), (a4, .inr (4, [.ref a5])), (a5, .inl (cI, 117, .inl v_cells))]) ⟨hx, hb, hml, hown, hT⟩ (c_X4_stanzaEnd l dC dI cI cJ cP cS a4 a5 v_cells x3 r_12 hq13) (cwV 1 hT (gdV q_ml_X3_68 q_im_X4_stanzaEnd q_se_X4_stanzaEnd q_in_X4 q_co_X4_stanzaEnd) rfl rfl rfl hd_X4_stanzaEnd ⟨Nat.le_of_ble_eq_true rfl, Nat.le_of_ble_eq_true rfl⟩) hK hF hP hD hS hA 2 rfl rfl rfl [2, 3] [0, 1] [0, 1, 2, 3] rfl (by decide) rfl (by decide) (by decide) rfl (by decide) rfl hl.1 rfl (Nat.le_of_ble_eq_true rfl) dX3_isAllowed_42 ⟨Nat.zero_le _, Nat.zero_le _⟩ (fun H locs hP hD hS => ?_)
        refine W.eq (g2 := F0 m 45 ls [.int r_12]) rfl ?_
        refine lv_iload_n hx hb dX3_isAllowed_45 rfl (lv_at hl 4 rfl) ?_
        refine lv_isub hx hb dX3_isAllowed_46 ?_
        obtain ⟨x5_14, ex5_14, hf⟩ := nm_el hf
        refine lv_as (congrArg Value.int ex5_14) ?_
        refine lv_istore (lv' := [(5, .int x5_14), (4, .int x4_11), (0, .ref a0), (1, .ref a4), (2, .int x2), (3, .int x3)]) hx hb dX3_isAllowed_47 hl (by decide) rfl (fun ls hl => ?_)
        refine lv_iload hx hb dX3_isAllowed_49 (lv_at hl 1 rfl) ?_
        refine lv_iload hx hb dX3_isAllowed_51 (lv_at hl 0 rfl) ?_
        refine va_mmin hx hb (hml.trans hl.1.symm) hown (hT _ q_ml_X3_71) (hT _ q_st_J9_min_7cf53) (hT _ q_in_J9) (hT _ q_co_J9_min_7cf53) (Nat.le_of_ble_eq_true rfl) (Nat.le_of_ble_eq_true rfl) (Nat.zero_le _) (Nat.zero_le _) dX3_isAllowed_53 ?_
        refine lv_aload_n hx hb dX3_isAllowed_56 rfl (lv_at hl 3 rfl) ?_
        refine lv_iconst (v := 4) hx hb dX3_isAllowed_57 (by decide) ?_
        obtain ⟨r_15, hq16, hf⟩ := bd1_el hf
        refine mc_V (As := [.int (4 : Int32)]) (rest := [.int (if x5_14 < x4_11 then x5_14 else x4_11)]) (wr := [(a0, .inr (3, [.ref a1, .int v_allFit, .ref a2, .ref a3])), (a1, .inl (cI, 12, .inl v_rows))]) (wn := [(a0, .inr (3, [.ref a1, .int v_allFit, .ref a2, .ref a3])), (a1, .inl (cI, 12, .inl v_rows)), (a4, .inr (4, [.ref a5])), (a5, .inl (cI, 117, .inl v_cells))]) ⟨hx, hb, hml, hown, hT⟩ (c_X4_setting l dC dI cI cJ cP cS a4 a5 v_cells (4 : Int32) r_15 hq16) (cwV 1 hT (gdV q_ml_X3_55 q_im_X4_setting q_se_X4_setting q_in_X4 q_co_X4_setting) rfl rfl rfl hd_X4_setting ⟨Nat.le_of_ble_eq_true rfl, Nat.le_of_ble_eq_true rfl⟩) hK hF hP hD hS hA 2 rfl rfl rfl [2, 3] [0, 1] [0, 1, 2, 3] rfl (by decide) rfl (by decide) (by decide) rfl (by decide) rfl hl.1 rfl (Nat.le_of_ble_eq_true rfl) dX3_isAllowed_58 ⟨Nat.zero_le _, Nat.zero_le _⟩ (fun H locs hP hD hS => ?_)
        refine W.eq (g2 := F0 m 61 ls [.int r_15, .int (if x5_14 < x4_11 then x5_14 else x4_11)]) rfl ?_
        refine lv_icmp_lt (tgt := 68) hx hb dX3_isAllowed_61 (by decide) (fun c17 => ?_) (fun c17 => ?_)
        · replace hf := it_t c17 hf
          refine lv_iconst (v := 0) hx hb dX3_isAllowed_68 (by decide) ?_
          replace hf := Option.some.inj hf
          subst hf
          exact hret H locs ls _ dX3_isAllowed_69 rfl hP hD hS
        · replace hf := it_f c17 hf
          refine lv_iconst (v := 1) hx hb dX3_isAllowed_64 (by decide) ?_
          refine lv_goto (tgt := 69) hx hb dX3_isAllowed_65 (by decide) ?_
          replace hf := Option.some.inj hf
          subst hf
          exact hret H locs ls _ dX3_isAllowed_69 rfl hP hD hS
      · replace hf := it_t c8 hf
        refine lv_iconst (v := 1) hx hb dX3_isAllowed_25 (by decide) ?_
        replace hf := Option.some.inj hf
        subst hf
        exact hret H locs ls _ dX3_isAllowed_26 rfl hP hD hS
    · replace hf := it_f c5 hf
      refine lv_iconst (v := 0) hx hb dX3_isAllowed_15 (by decide) ?_
      replace hf := Option.some.inj hf
      subst hf
      exact hret H locs ls _ dX3_isAllowed_16 rfl hP hD hS
  refine key _ ?_ _ _ _ hP hD hS hl
  intro H locs ls pc d hz hP hD hS
  exact W.zret (v := rv) hx hb hr hz (fun t ht hW => ⟨⟨rfl, by rw [ht]; exact hP, hD⟩, hS.F ht⟩) hS.2.2 d
def p_X3_beginPage_B91_19 (x2 : Int32) (i3_3 : Int32) (v_restWeight_4 : (Nat → Int32)) (v_nextPage_5 : (Nat → Int32)) (x4_18 : Int32) : Option ((Int32 × (Nat → Int32) × (Nat → Int32)) ⊕ (Int32 × (Nat → Int32) × (Nat → Int32))) :=
  (gd (ib x2 13) (gd (ib x2 13) (some (.inl ((i3_3 + (1 : Int32)), (upd v_restWeight_4 (tn x2) x4_18), (upd v_nextPage_5 (tn x2) i3_3))))))
def p_X3_beginPage_B66_17 (x2 : Int32) (i3_3 : Int32) (v_restWeight_4 : (Nat → Int32)) (v_nextPage_5 : (Nat → Int32)) (w1_17 : Int32) : Option ((Int32 × (Nat → Int32) × (Nat → Int32)) ⊕ (Int32 × (Nat → Int32) × (Nat → Int32))) :=
  (nm (((v_restWeight_4 (tn i3_3)) + (1 : Int32)) + w1_17) fun x4_18 => (gd (ib x2 13) (if (v_restWeight_4 (tn x2)) = (-4 : Int32) then (p_X3_beginPage_B91_19 x2 i3_3 v_restWeight_4 v_nextPage_5 x4_18) else (gd (ib x2 13) (if (v_restWeight_4 (tn x2)) < x4_18 then (some (.inl ((i3_3 + (1 : Int32)), v_restWeight_4, v_nextPage_5))) else (p_X3_beginPage_B91_19 x2 i3_3 v_restWeight_4 v_nextPage_5 x4_18))))))
def p_X3_beginPage_L12 (v_rows : (Nat → Int32)) (v_cells : (Nat → Int32)) (x2 : Int32) (s : Int32 × (Nat → Int32) × (Nat → Int32)) : Option ((Int32 × (Nat → Int32) × (Nat → Int32)) ⊕ (Int32 × (Nat → Int32) × (Nat → Int32))) := match s with
  | (i3_3, v_restWeight_4, v_nextPage_5) => (bd1 (p_X4_lines v_cells) fun r_6 => (if r_6 < i3_3 then (some (.inr (i3_3, v_restWeight_4, v_nextPage_5))) else (gd (ib i3_3 13) (if (v_restWeight_4 (tn i3_3)) = (-4 : Int32) then (some (.inl ((i3_3 + (1 : Int32)), v_restWeight_4, v_nextPage_5))) else (bd1 (p_X3_isAllowed v_rows v_cells x2 i3_3) fun r_11 => (if r_11 = (0 : Int32) then (some (.inl ((i3_3 + (1 : Int32)), v_restWeight_4, v_nextPage_5))) else (gd (ib i3_3 13) (bd1 (p_X4_isInsideStanza v_cells i3_3) fun r_15 => (if r_15 = (0 : Int32) then (p_X3_beginPage_B66_17 x2 i3_3 v_restWeight_4 v_nextPage_5 (0 : Int32)) else (p_X3_beginPage_B66_17 x2 i3_3 v_restWeight_4 v_nextPage_5 (100 : Int32)))))))))))
def p_X3_beginPage (v_rows : (Nat → Int32)) (v_restWeight : (Nat → Int32)) (v_nextPage : (Nat → Int32)) (v_cells : (Nat → Int32)) (x2 : Int32) : Option ((Nat → Int32) × (Nat → Int32)) :=
  (gd (ib x2 13) (nm (x2 + (1 : Int32)) fun x3_2 => (bd3 (loopN (p_X3_beginPage_L12 v_rows v_cells x2) fuel (x3_2, (upd v_restWeight (tn x2) (-4 : Int32)), v_nextPage)) fun f3_29 v_restWeight_30 v_nextPage_31 => (some (v_restWeight_30, v_nextPage_31)))))
set_option maxHeartbeats 4000000 in
set_option maxRecDepth 100000 in
theorem c_X3_beginPage (l : Launch) (dC : Nat → ClassId) (dI : Nat → Nat → Nat) (cI cJ cP cS : ClassId) (a0 : Nat) (a1 : Nat) (a2 : Nat) (a3 : Nat) (a4 : Nat) (a5 : Nat) (v_allFit : Int32) (v_rows : (Nat → Int32)) (v_restWeight : (Nat → Int32)) (v_nextPage : (Nat → Int32)) (v_cells : (Nat → Int32))  (x2 : Int32)  (v_restWeight_o : (Nat → Int32)) (v_nextPage_o : (Nat → Int32)) (hf : p_X3_beginPage v_rows v_restWeight v_nextPage v_cells x2 = some (v_restWeight_o, v_nextPage_o)) : MC l (dC, dI) (tyl cI cJ cP cS) yX3_beginPage (Cond.code yX3_beginPage cX3_beginPage 5 none :: TBG) ({ frames := 3, cells := 0, slots := 0, locals := 71 } : Room) [.ref a0, .ref a4, .int x2] [(a0, .inr (3, [.ref a1, .int v_allFit, .ref a2, .ref a3])), (a1, .inl (cI, 12, .inl v_rows)), (a2, .inl (cI, 13, .inl v_restWeight)), (a3, .inl (cI, 13, .inl v_nextPage)), (a4, .inr (4, [.ref a5])), (a5, .inl (cI, 117, .inl v_cells))] [(a0, .inr (3, [.ref a1, .int v_allFit, .ref a2, .ref a3])), (a1, .inl (cI, 12, .inl v_rows)), (a2, .inl (cI, 13, .inl v_restWeight_o)), (a3, .inl (cI, 13, .inl v_nextPage_o)), (a4, .inr (4, [.ref a5])), (a5, .inl (cI, 117, .inl v_cells))] none := by
  intro sz
  unfold MPost
  refine Met.ofW (cc := cX3_beginPage) (maxL := 5) (ret := none) (by decide) rfl ?_
  intro p e s m args below meth c s₁ B hml hv
  obtain ⟨rfl, hsz, hP, hK, hD0, hF⟩ := hv
  have hx := B.exec
  have hb := B.bytes
  have hr := B.returns
  have hT : ∀ w ∈ TBG, w.before _ s = true := fun w h => atoms_spec B.pre w (List.mem_cons_of_mem _ h)
  have hown : s.vm.findClass RX3 = some m.cls := findClass_of_methodNamed B.named
  have hlocks := B.notSynchronized
  subst hsz
  have hD := hD0.self (sz := s.heap.size)
  generalize hAe : va_A [(a0, .inr (3, [.ref a1, .int v_allFit, .ref a2, .ref a3])), (a1, .inl (cI, 12, .inl v_rows)), (a2, .inl (cI, 13, .inl v_restWeight)), (a3, .inl (cI, 13, .inl v_nextPage)), (a4, .inr (4, [.ref a5])), (a5, .inl (cI, 117, .inl v_cells))] s.heap.size = A at hD hF ⊢
  have hA : ∀ q : Nat, s.heap.size ≤ q → A q := fun q h => by rw [← hAe]; exact Or.inr h
  have hS : va_S A s.heap s.heap [] := va_S.rf
  have hl := lv_entry ([.ref a0, .ref a4, .int x2]) (n := 5) (Nat.le_of_ble_eq_true rfl)
  rw [lg_entry_eq]
  generalize (lg_sl ([.ref a0, .ref a4, .int x2]) ++ List.replicate (5 - (lg_sl ([.ref a0, .ref a4, .int x2])).length) Slot.unset).toArray = ls at hl ⊢
  have hl : lv_has ls 5 [(0, .ref a0), (1, .ref a4), (2, .int x2)] := hl
  generalize ([.ref a0, .ref a4, .int x2] : List Value).toArray = args at hT ⊢
  have key : ∀ (Q : State → Prop), (∀ (H : Heap) (locs : List Loc) (ls : Array Slot) (pc : Nat), decode cX3_beginPage pc = .ok (.return_, 1) → va_P (dC, dI) vwCl [(a0, .inr (3, [.ref a1, .int v_allFit, .ref a2, .ref a3])), (a1, .inl (cI, 12, .inl v_rows)), (a2, .inl (cI, 13, .inl v_restWeight_o)), (a3, .inl (cI, 13, .inl v_nextPage_o)), (a4, .inr (4, [.ref a5])), (a5, .inl (cI, 117, .inl v_cells))] H → va_D A [(a0, .inr (3, [.ref a1, .int v_allFit, .ref a2, .ref a3])), (a1, .inl (cI, 12, .inl v_rows)), (a2, .inl (cI, 13, .inl v_restWeight_o)), (a3, .inl (cI, 13, .inl v_nextPage_o)), (a4, .inr (4, [.ref a5])), (a5, .inl (cI, 117, .inl v_cells))] → va_S A s.heap H locs → W p l e ({ frames := 3, cells := 0, slots := 0, locals := 71 } : Room) s m args below meth c H locs 0 0 Q (F0 m pc ls [])) → ∀ (H : Heap) (locs : List Loc) (ls : Array Slot), va_P (dC, dI) vwCl [(a0, .inr (3, [.ref a1, .int v_allFit, .ref a2, .ref a3])), (a1, .inl (cI, 12, .inl v_rows)), (a2, .inl (cI, 13, .inl v_restWeight)), (a3, .inl (cI, 13, .inl v_nextPage)), (a4, .inr (4, [.ref a5])), (a5, .inl (cI, 117, .inl v_cells))] H → va_D A [(a0, .inr (3, [.ref a1, .int v_allFit, .ref a2, .ref a3])), (a1, .inl (cI, 12, .inl v_rows)), (a2, .inl (cI, 13, .inl v_restWeight)), (a3, .inl (cI, 13, .inl v_nextPage)), (a4, .inr (4, [.ref a5])), (a5, .inl (cI, 117, .inl v_cells))] → va_S A s.heap H locs → lv_has ls 5 [(0, .ref a0), (1, .ref a4), (2, .int x2)] → W p l e ({ frames := 3, cells := 0, slots := 0, locals := 71 } : Room) s m args below meth c H locs 0 0 Q (F0 m 0 ls []) := by
    intro Q hret H locs ls hP hD hS hl
    refine lv_aload_n hx hb dX3_beginPage_0 rfl (lv_at hl 0 rfl) ?_
    refine va_get (D := (dC, dI)) (ci := 3) (v := .ref a2) (C := RX3) (T := TX3) (N := 4) hx hb hT in_X3 hown hK hP 0 rfl rfl 2 (by decide) (hT _ q_fl_X3_15) (fun _ h9 => h9) rfl dX3_beginPage_1 ?_
    refine lv_iload_n hx hb dX3_beginPage_4 rfl (lv_at hl 2 rfl) ?_
    refine lv_bipush (v := (-4)) hx hb dX3_beginPage_5 (by decide) ?_
    obtain ⟨h1, hf⟩ := gd_el hf
    refine ia_st hx hb hK hP hD hS 2 0 rfl rfl (ib_in h1) (j := (tn x2)) rfl dX3_beginPage_7 (fun H locs hP hD hS => ?_)
    have hP : va_P (dC, dI) vwCl [(a0, .inr (3, [.ref a1, .int v_allFit, .ref a2, .ref a3])), (a1, .inl (cI, 12, .inl v_rows)), (a2, .inl (cI, 13, .inl (upd v_restWeight (tn x2) (-4 : Int32)))), (a3, .inl (cI, 13, .inl v_nextPage)), (a4, .inr (4, [.ref a5])), (a5, .inl (cI, 117, .inl v_cells))] H := hP
    have hD : va_D A [(a0, .inr (3, [.ref a1, .int v_allFit, .ref a2, .ref a3])), (a1, .inl (cI, 12, .inl v_rows)), (a2, .inl (cI, 13, .inl (upd v_restWeight (tn x2) (-4 : Int32)))), (a3, .inl (cI, 13, .inl v_nextPage)), (a4, .inr (4, [.ref a5])), (a5, .inl (cI, 117, .inl v_cells))] := hD
    refine lv_iload_n hx hb dX3_beginPage_8 rfl (lv_at hl 2 rfl) ?_
    refine lv_iconst (v := 1) hx hb dX3_beginPage_9 (by decide) ?_
    refine lv_iadd hx hb dX3_beginPage_10 ?_
    obtain ⟨x3_2, ex3_2, hf⟩ := nm_el hf
    refine lv_as (congrArg Value.int ex3_2) ?_
    refine lv_istore_n (lv' := [(3, .int x3_2), (0, .ref a0), (1, .ref a4), (2, .int x2)]) hx hb dX3_beginPage_11 rfl hl (by decide) rfl (fun ls hl => ?_)
    have hL12 : ∀ (rr : Int32 × (Nat → Int32) × (Nat → Int32)), (∀ (z_26 : Int32) (z_27 : (Nat → Int32)) (z_28 : (Nat → Int32)), rr = (z_26, z_27, z_28) → ∀ (H : Heap) (locs : List Loc) (ls : Array Slot), va_P (dC, dI) vwCl [(a0, .inr (3, [.ref a1, .int v_allFit, .ref a2, .ref a3])), (a1, .inl (cI, 12, .inl v_rows)), (a2, .inl (cI, 13, .inl z_27)), (a3, .inl (cI, 13, .inl z_28)), (a4, .inr (4, [.ref a5])), (a5, .inl (cI, 117, .inl v_cells))] H → va_D A [(a0, .inr (3, [.ref a1, .int v_allFit, .ref a2, .ref a3])), (a1, .inl (cI, 12, .inl v_rows)), (a2, .inl (cI, 13, .inl z_27)), (a3, .inl (cI, 13, .inl z_28)), (a4, .inr (4, [.ref a5])), (a5, .inl (cI, 117, .inl v_cells))] → va_S A s.heap H locs → lv_has ls 5 [] → W p l e ({ frames := 3, cells := 0, slots := 0, locals := 71 } : Room) s m args below meth c H locs 0 0 Q (F0 m 112 ls [])) → ∀ (n : Nat) (i3_3 : Int32) (v_restWeight_4 : (Nat → Int32)) (v_nextPage_5 : (Nat → Int32)), loopN (p_X3_beginPage_L12 v_rows v_cells x2) n (i3_3, v_restWeight_4, v_nextPage_5) = some rr → ∀ (H : Heap) (locs : List Loc) (ls : Array Slot), va_P (dC, dI) vwCl [(a0, .inr (3, [.ref a1, .int v_allFit, .ref a2, .ref a3])), (a1, .inl (cI, 12, .inl v_rows)), (a2, .inl (cI, 13, .inl v_restWeight_4)), (a3, .inl (cI, 13, .inl v_nextPage_5)), (a4, .inr (4, [.ref a5])), (a5, .inl (cI, 117, .inl v_cells))] H → va_D A [(a0, .inr (3, [.ref a1, .int v_allFit, .ref a2, .ref a3])), (a1, .inl (cI, 12, .inl v_rows)), (a2, .inl (cI, 13, .inl v_restWeight_4)), (a3, .inl (cI, 13, .inl v_nextPage_5)), (a4, .inr (4, [.ref a5])), (a5, .inl (cI, 117, .inl v_cells))] → va_S A s.heap H locs → lv_has ls 5 [(0, .ref a0), (1, .ref a4), (2, .int x2), (3, .int i3_3)] → W p l e ({ frames := 3, cells := 0, slots := 0, locals := 71 } : Room) s m args below meth c H locs 0 0 Q (F0 m 12 ls []) := by
      intro rr hk12 n
      induction n with
      | zero => intro i3_3 v_restWeight_4 v_nextPage_5 hf; cases hf
      | succ n ih12 =>
        intro i3_3 v_restWeight_4 v_nextPage_5 hf H locs ls hP hD hS hl
        obtain ⟨o12, hf, hi, he⟩ := loopN_el hf
        rw [p_X3_beginPage_L12] at hf
        refine lv_iload_n hx hb dX3_beginPage_12 rfl (lv_at hl 3 rfl) ?_
        refine lv_aload_n hx hb dX3_beginPage_13 rfl (lv_at hl 1 rfl) ?_
        obtain ⟨r_6, hq7, hf⟩ := bd1_el hf
        refine mc_V (As := []) (rest := [.int i3_3]) (wr := [(a0, .inr (3, [.ref a1, .int v_allFit, .ref a2, .ref a3])), (a1, .inl (cI, 12, .inl v_rows)), (a2, .inl (cI, 13, .inl v_restWeight_4)), (a3, .inl (cI, 13, .inl v_nextPage_5))]) (wn := [(a0, .inr (3, [.ref a1, .int v_allFit, .ref a2, .ref a3])), (a1, .inl (cI, 12, .inl v_rows)), (a2, .inl (cI, 13, .inl v_restWeight_4)), (a3, .inl (cI, 13, .inl v_nextPage_5)), (a4, .inr (4, [.ref a5])), (a5, .inl (cI, 117, .inl v_cells))]) ⟨hx, hb, hml, hown, hT⟩ (c_X4_lines l dC dI cI cJ cP cS a4 a5 v_cells r_6 hq7) (cwV 0 hT (gdV q_ml_X3_25 q_im_X4_lines q_se_X4_lines q_in_X4 q_co_X4_lines) rfl rfl rfl hd_X4_lines ⟨Nat.le_of_ble_eq_true rfl, Nat.le_of_ble_eq_true rfl⟩) hK hF hP hD hS hA 4 rfl rfl rfl [4, 5] [0, 1, 2, 3] [0, 1, 2, 3, 4, 5] rfl (by decide) rfl (by decide) (by decide) rfl (by decide) rfl hl.1 rfl (Nat.le_of_ble_eq_true rfl) dX3_beginPage_14 ⟨Nat.zero_le _, Nat.zero_le _⟩ (fun H locs hP hD hS => ?_)
        refine W.eq (g2 := F0 m 17 ls [.int r_6, .int i3_3]) rfl ?_
        refine lv_icmp_gt (tgt := 112) hx hb dX3_beginPage_17 (by decide) (fun c8 => ?_) (fun c8 => ?_)
        · replace hf := it_t c8 hf
          exact hk12 _ _ _ (he _ (Option.some.inj hf).symm).symm H locs ls hP hD hS (lv_sub hl [] rfl)
        · replace hf := it_f c8 hf
          refine lv_aload_n hx hb dX3_beginPage_20 rfl (lv_at hl 0 rfl) ?_
          refine va_get (D := (dC, dI)) (ci := 3) (v := .ref a2) (C := RX3) (T := TX3) (N := 4) hx hb hT in_X3 hown hK hP 0 rfl rfl 2 (by decide) (hT _ q_fl_X3_15) (fun _ h9 => h9) rfl dX3_beginPage_21 ?_
          refine lv_iload_n hx hb dX3_beginPage_24 rfl (lv_at hl 3 rfl) ?_
          obtain ⟨h9, hf⟩ := gd_el hf
          refine ia_ld hx hb hK hP 2 0 rfl rfl (ib_in h9) (j := (tn i3_3)) rfl dX3_beginPage_25 ?_
          refine lv_bipush (v := (-4)) hx hb dX3_beginPage_26 (by decide) ?_
          refine lv_icmp_eq (tgt := 106) hx hb dX3_beginPage_28 (by decide) (fun c10 => ?_) (fun c10 => ?_)
          · replace hf := it_t c10 hf
            refine lv_iinc (v := (i3_3 + (1 : Int32))) (lv' := [(3, .int (i3_3 + (1 : Int32))), (0, .ref a0), (1, .ref a4), (2, .int x2)]) hx hb dX3_beginPage_106 hl (k := 3) rfl rfl (by decide) rfl (fun ls hl => ?_)
            refine lv_goto (tgt := 12) hx hb dX3_beginPage_109 (by decide) ?_
            exact ih12 (i3_3 + (1 : Int32)) v_restWeight_4 v_nextPage_5 (hi _ (Option.some.inj hf).symm) H locs ls hP hD hS (lv_sub hl [1, 2, 3, 0] rfl)
          · replace hf := it_f c10 hf
            refine lv_aload_n hx hb dX3_beginPage_31 rfl (lv_at hl 0 rfl) ?_
            refine lv_aload_n hx hb dX3_beginPage_32 rfl (lv_at hl 1 rfl) ?_
            refine lv_iload_n hx hb dX3_beginPage_33 rfl (lv_at hl 2 rfl) ?_
            refine lv_iload_n hx hb dX3_beginPage_34 rfl (lv_at hl 3 rfl) ?_
            obtain ⟨r_11, hq12, hf⟩ := bd1_el hf
            refine mc_V (As := [.ref a4, .int x2, .int i3_3]) (rest := []) (wr := [(a2, .inl (cI, 13, .inl v_restWeight_4)), (a3, .inl (cI, 13, .inl v_nextPage_5))]) (wn := [(a0, .inr (3, [.ref a1, .int v_allFit, .ref a2, .ref a3])), (a1, .inl (cI, 12, .inl v_rows)), (a2, .inl (cI, 13, .inl v_restWeight_4)), (a3, .inl (cI, 13, .inl v_nextPage_5)), (a4, .inr (4, [.ref a5])), (a5, .inl (cI, 117, .inl v_cells))]) ⟨hx, hb, hml, hown, hT⟩ (c_X3_isAllowed l dC dI cI cJ cP cS a0 a1 a2 a3 a4 a5 v_allFit v_rows v_cells x2 i3_3 r_11 hq12) (cwV 3 hT (gdV q_ml_X3_43 q_im_X3_isAllowed q_se_X3_isAllowed q_in_X3 q_co_X3_isAllowed) rfl rfl rfl hd_X3_isAllowed ⟨Nat.le_of_ble_eq_true rfl, Nat.le_of_ble_eq_true rfl⟩) hK hF hP hD hS hA 0 rfl rfl rfl [0, 1, 4, 5] [2, 3] [2, 3, 0, 1, 4, 5] rfl (by decide) rfl (by decide) (by decide) rfl (by decide) rfl hl.1 rfl (Nat.le_of_ble_eq_true rfl) dX3_beginPage_35 ⟨Nat.zero_le _, Nat.zero_le _⟩ (fun H locs hP hD hS => ?_)
            refine W.eq (g2 := F0 m 38 ls [.int r_11]) rfl ?_
            refine lv_if_ne (tgt := 44) hx hb dX3_beginPage_38 (by decide) (fun c13 => ?_) (fun c13 => ?_)
            · replace hf := it_f c13 hf
              refine lv_aload_n hx hb dX3_beginPage_44 rfl (lv_at hl 0 rfl) ?_
              refine va_get (D := (dC, dI)) (ci := 3) (v := .ref a2) (C := RX3) (T := TX3) (N := 4) hx hb hT in_X3 hown hK hP 0 rfl rfl 2 (by decide) (hT _ q_fl_X3_15) (fun _ h9 => h9) rfl dX3_beginPage_45 ?_
              refine lv_iload_n hx hb dX3_beginPage_48 rfl (lv_at hl 3 rfl) ?_
              obtain ⟨h14, hf⟩ := gd_el hf
              refine ia_ld hx hb hK hP 2 0 rfl rfl (ib_in h14) (j := (tn i3_3)) rfl dX3_beginPage_49 ?_
              refine lv_iconst (v := 1) hx hb dX3_beginPage_50 (by decide) ?_
              refine lv_iadd hx hb dX3_beginPage_51 ?_
              refine lv_aload_n hx hb dX3_beginPage_52 rfl (lv_at hl 1 rfl) ?_
              refine lv_iload_n hx hb dX3_beginPage_53 rfl (lv_at hl 3 rfl) ?_
              obtain ⟨r_15, hq16, hf⟩ := bd1_el hf
              refine mc_V (As := [.int i3_3]) (rest := [.int ((v_restWeight_4 (tn i3_3)) + (1 : Int32))]) (wr := [(a0, .inr (3, [.ref a1, .int v_allFit, .ref a2, .ref a3])), (a1, .inl (cI, 12, .inl v_rows)), (a2, .inl (cI, 13, .inl v_restWeight_4)), (a3, .inl (cI, 13, .inl v_nextPage_5))]) (wn := [(a0, .inr (3, [.ref a1, .int v_allFit, .ref a2, .ref a3])), (a1, .inl (cI, 12, .inl v_rows)), (a2, .inl (cI, 13, .inl v_restWeight_4)), (a3, .inl (cI, 13, .inl v_nextPage_5)), (a4, .inr (4, [.ref a5])), (a5, .inl (cI, 117, .inl v_cells))]) ⟨hx, hb, hml, hown, hT⟩ (c_X4_isInsideStanza l dC dI cI cJ cP cS a4 a5 v_cells i3_3 r_15 hq16) (cwV 1 hT (gdV q_ml_X3_47 q_im_X4_isInsideStanza q_se_X4_isInsideStanza q_in_X4 q_co_X4_isInsideStanza) rfl rfl rfl hd_X4_isInsideStanza ⟨Nat.le_of_ble_eq_true rfl, Nat.le_of_ble_eq_true rfl⟩) hK hF hP hD hS hA 4 rfl rfl rfl [4, 5] [0, 1, 2, 3] [0, 1, 2, 3, 4, 5] rfl (by decide) rfl (by decide) (by decide) rfl (by decide) rfl hl.1 rfl (Nat.le_of_ble_eq_true rfl) dX3_beginPage_54 ⟨Nat.zero_le _, Nat.zero_le _⟩ (fun H locs hP hD hS => ?_)
              refine W.eq (g2 := F0 m 57 ls [.int r_15, .int ((v_restWeight_4 (tn i3_3)) + (1 : Int32))]) rfl ?_
              have hB66_17 : ∀ (w1_17 : Int32), p_X3_beginPage_B66_17 x2 i3_3 v_restWeight_4 v_nextPage_5 w1_17 = some o12 → ∀ (H : Heap) (locs : List Loc) (ls : Array Slot), va_P (dC, dI) vwCl [(a0, .inr (3, [.ref a1, .int v_allFit, .ref a2, .ref a3])), (a1, .inl (cI, 12, .inl v_rows)), (a2, .inl (cI, 13, .inl v_restWeight_4)), (a3, .inl (cI, 13, .inl v_nextPage_5)), (a4, .inr (4, [.ref a5])), (a5, .inl (cI, 117, .inl v_cells))] H → va_D A [(a0, .inr (3, [.ref a1, .int v_allFit, .ref a2, .ref a3])), (a1, .inl (cI, 12, .inl v_rows)), (a2, .inl (cI, 13, .inl v_restWeight_4)), (a3, .inl (cI, 13, .inl v_nextPage_5)), (a4, .inr (4, [.ref a5])), (a5, .inl (cI, 117, .inl v_cells))] → va_S A s.heap H locs → lv_has ls 5 [(0, .ref a0), (1, .ref a4), (2, .int x2), (3, .int i3_3)] → W p l e ({ frames := 3, cells := 0, slots := 0, locals := 71 } : Room) s m args below meth c H locs 0 0 Q (F0 m 66 ls [.int w1_17, .int ((v_restWeight_4 (tn i3_3)) + (1 : Int32))]) := by
                intro w1_17 hf H locs ls hP hD hS hl
                refine lv_iadd hx hb dX3_beginPage_66 ?_
                obtain ⟨x4_18, ex4_18, hf⟩ := nm_el hf
                refine lv_as (congrArg Value.int ex4_18) ?_
                refine lv_istore (lv' := [(4, .int x4_18), (0, .ref a0), (1, .ref a4), (2, .int x2), (3, .int i3_3)]) hx hb dX3_beginPage_67 hl (by decide) rfl (fun ls hl => ?_)
                refine lv_aload_n hx hb dX3_beginPage_69 rfl (lv_at hl 1 rfl) ?_
                refine va_get (D := (dC, dI)) (ci := 3) (v := .ref a2) (C := RX3) (T := TX3) (N := 4) hx hb hT in_X3 hown hK hP 0 rfl rfl 2 (by decide) (hT _ q_fl_X3_15) (fun _ h9 => h9) rfl dX3_beginPage_70 ?_
                refine lv_iload_n hx hb dX3_beginPage_73 rfl (lv_at hl 3 rfl) ?_
                obtain ⟨h19, hf⟩ := gd_el hf
                refine ia_ld hx hb hK hP 2 0 rfl rfl (ib_in h19) (j := (tn x2)) rfl dX3_beginPage_74 ?_
                refine lv_bipush (v := (-4)) hx hb dX3_beginPage_75 (by decide) ?_
                have hB91_19 : ∀ (_ : Unit), p_X3_beginPage_B91_19 x2 i3_3 v_restWeight_4 v_nextPage_5 x4_18 = some o12 → ∀ (H : Heap) (locs : List Loc) (ls : Array Slot), va_P (dC, dI) vwCl [(a0, .inr (3, [.ref a1, .int v_allFit, .ref a2, .ref a3])), (a1, .inl (cI, 12, .inl v_rows)), (a2, .inl (cI, 13, .inl v_restWeight_4)), (a3, .inl (cI, 13, .inl v_nextPage_5)), (a4, .inr (4, [.ref a5])), (a5, .inl (cI, 117, .inl v_cells))] H → va_D A [(a0, .inr (3, [.ref a1, .int v_allFit, .ref a2, .ref a3])), (a1, .inl (cI, 12, .inl v_rows)), (a2, .inl (cI, 13, .inl v_restWeight_4)), (a3, .inl (cI, 13, .inl v_nextPage_5)), (a4, .inr (4, [.ref a5])), (a5, .inl (cI, 117, .inl v_cells))] → va_S A s.heap H locs → lv_has ls 5 [(0, .ref a0), (1, .ref a4), (2, .int x2), (3, .int i3_3), (4, .int x4_18)] → W p l e ({ frames := 3, cells := 0, slots := 0, locals := 71 } : Room) s m args below meth c H locs 0 0 Q (F0 m 91 ls []) := by
                  intro _ hf H locs ls hP hD hS hl
                  refine lv_aload_n hx hb dX3_beginPage_91 rfl (lv_at hl 0 rfl) ?_
                  refine va_get (D := (dC, dI)) (ci := 3) (v := .ref a2) (C := RX3) (T := TX3) (N := 4) hx hb hT in_X3 hown hK hP 0 rfl rfl 2 (by decide) (hT _ q_fl_X3_15) (fun _ h9 => h9) rfl dX3_beginPage_92 ?_
                  refine lv_iload_n hx hb dX3_beginPage_95 rfl (lv_at hl 2 rfl) ?_
                  refine lv_iload hx hb dX3_beginPage_96 (lv_at hl 4 rfl) ?_
                  obtain ⟨h20, hf⟩ := gd_el hf
                  refine ia_st hx hb hK hP hD hS 2 0 rfl rfl (ib_in h20) (j := (tn x2)) rfl dX3_beginPage_98 (fun H locs hP hD hS => ?_)
                  have hP : va_P (dC, dI) vwCl [(a0, .inr (3, [.ref a1, .int v_allFit, .ref a2, .ref a3])), (a1, .inl (cI, 12, .inl v_rows)), (a2, .inl (cI, 13, .inl (upd v_restWeight_4 (tn x2) x4_18))), (a3, .inl (cI, 13, .inl v_nextPage_5)), (a4, .inr (4, [.ref a5])), (a5, .inl (cI, 117, .inl v_cells))] H := hP
                  have hD : va_D A [(a0, .inr (3, [.ref a1, .int v_allFit, .ref a2, .ref a3])), (a1, .inl (cI, 12, .inl v_rows)), (a2, .inl (cI, 13, .inl (upd v_restWeight_4 (tn x2) x4_18))), (a3, .inl (cI, 13, .inl v_nextPage_5)), (a4, .inr (4, [.ref a5])), (a5, .inl (cI, 117, .inl v_cells))] := hD
                  refine lv_aload_n hx hb dX3_beginPage_99 rfl (lv_at hl 0 rfl) ?_
                  refine va_get (D := (dC, dI)) (ci := 3) (v := .ref a3) (C := RX3) (T := TX3) (N := 4) hx hb hT in_X3 hown hK hP 0 rfl rfl 3 (by decide) (hT _ q_fl_X3_18) (fun _ h9 => h9) rfl dX3_beginPage_100 ?_
                  refine lv_iload_n hx hb dX3_beginPage_103 rfl (lv_at hl 2 rfl) ?_
                  refine lv_iload_n hx hb dX3_beginPage_104 rfl (lv_at hl 3 rfl) ?_
                  obtain ⟨h21, hf⟩ := gd_el hf
                  refine ia_st hx hb hK hP hD hS 3 0 rfl rfl (ib_in h21) (j := (tn x2)) rfl dX3_beginPage_105 (fun H locs hP hD hS => ?_)
                  have hP : va_P (dC, dI) vwCl [(a0, .inr (3, [.ref a1, .int v_allFit, .ref a2, .ref a3])), (a1, .inl (cI, 12, .inl v_rows)), (a2, .inl (cI, 13, .inl (upd v_restWeight_4 (tn x2) x4_18))), (a3, .inl (cI, 13, .inl (upd v_nextPage_5 (tn x2) i3_3))), (a4, .inr (4, [.ref a5])), (a5, .inl (cI, 117, .inl v_cells))] H := hP
                  have hD : va_D A [(a0, .inr (3, [.ref a1, .int v_allFit, .ref a2, .ref a3])), (a1, .inl (cI, 12, .inl v_rows)), (a2, .inl (cI, 13, .inl (upd v_restWeight_4 (tn x2) x4_18))), (a3, .inl (cI, 13, .inl (upd v_nextPage_5 (tn x2) i3_3))), (a4, .inr (4, [.ref a5])), (a5, .inl (cI, 117, .inl v_cells))] := hD
                  refine lv_iinc (v := (i3_3 + (1 : Int32))) (lv' := [(3, .int (i3_3 + (1 : Int32))), (0, .ref a0), (1, .ref a4), (2, .int x2), (4, .int x4_18)]) hx hb dX3_beginPage_106 hl (k := 3) rfl rfl (by decide) rfl (fun ls hl => ?_)
                  refine lv_goto (tgt := 12) hx hb dX3_beginPage_109 (by decide) ?_
                  exact ih12 (i3_3 + (1 : Int32)) (upd v_restWeight_4 (tn x2) x4_18) (upd v_nextPage_5 (tn x2) i3_3) (hi _ (Option.some.inj hf).symm) H locs ls hP hD hS (lv_sub hl [1, 2, 3, 0] rfl)
                refine lv_icmp_eq (tgt := 91) hx hb dX3_beginPage_77 (by decide) (fun c22 => ?_) (fun c22 => ?_)
                · replace hf := it_t c22 hf
                  exact hB91_19 () hf H locs ls hP hD hS (lv_sub hl [1, 2, 3, 4, 0] rfl)
                · replace hf := it_f c22 hf
                  refine lv_iload hx hb dX3_beginPage_80 (lv_at hl 0 rfl) ?_
                  refine lv_aload_n hx hb dX3_beginPage_82 rfl (lv_at hl 1 rfl) ?_
                  refine va_get (D := (dC, dI)) (ci := 3) (v := .ref a2) (C := RX3) (T := TX3) (N := 4) hx hb hT in_X3 hown hK hP 0 rfl rfl 2 (by decide) (hT _ q_fl_X3_15) (fun _ h9 => h9) rfl dX3_beginPage_83 ?_
                  refine lv_iload_n hx hb dX3_beginPage_86 rfl (lv_at hl 3 rfl) ?_
                  obtain ⟨h23, hf⟩ := gd_el hf
                  refine ia_ld hx hb hK hP 2 0 rfl rfl (ib_in h23) (j := (tn x2)) rfl dX3_beginPage_87 ?_
                  refine lv_icmp_gt (tgt := 106) hx hb dX3_beginPage_88 (by decide) (fun c24 => ?_) (fun c24 => ?_)
                  · replace hf := it_t c24 hf
                    refine lv_iinc (v := (i3_3 + (1 : Int32))) (lv' := [(3, .int (i3_3 + (1 : Int32))), (4, .int x4_18), (0, .ref a0), (1, .ref a4), (2, .int x2)]) hx hb dX3_beginPage_106 hl (k := 4) rfl rfl (by decide) rfl (fun ls hl => ?_)
                    refine lv_goto (tgt := 12) hx hb dX3_beginPage_109 (by decide) ?_
                    exact ih12 (i3_3 + (1 : Int32)) v_restWeight_4 v_nextPage_5 (hi _ (Option.some.inj hf).symm) H locs ls hP hD hS (lv_sub hl [2, 3, 4, 0] rfl)
                  · replace hf := it_f c24 hf
                    exact hB91_19 () hf H locs ls hP hD hS (lv_sub hl [1, 2, 3, 4, 0] rfl)
              refine lv_if_eq (tgt := 65) hx hb dX3_beginPage_57 (by decide) (fun c25 => ?_) (fun c25 => ?_)
              · replace hf := it_t c25 hf
                refine lv_iconst (v := 0) hx hb dX3_beginPage_65 (by decide) ?_
                exact hB66_17 (0 : Int32) hf H locs ls hP hD hS (lv_sub hl [0, 1, 2, 3] rfl)
              · replace hf := it_f c25 hf
                refine lv_bipush (v := 100) hx hb dX3_beginPage_60 (by decide) ?_
                refine lv_goto (tgt := 66) hx hb dX3_beginPage_62 (by decide) ?_
                exact hB66_17 (100 : Int32) hf H locs ls hP hD hS (lv_sub hl [0, 1, 2, 3] rfl)
            · replace hf := it_t c13 hf
              refine lv_goto (tgt := 106) hx hb dX3_beginPage_41 (by decide) ?_
              refine lv_iinc (v := (i3_3 + (1 : Int32))) (lv' := [(3, .int (i3_3 + (1 : Int32))), (0, .ref a0), (1, .ref a4), (2, .int x2)]) hx hb dX3_beginPage_106 hl (k := 3) rfl rfl (by decide) rfl (fun ls hl => ?_)
              refine lv_goto (tgt := 12) hx hb dX3_beginPage_109 (by decide) ?_
              exact ih12 (i3_3 + (1 : Int32)) v_restWeight_4 v_nextPage_5 (hi _ (Option.some.inj hf).symm) H locs ls hP hD hS (lv_sub hl [1, 2, 3, 0] rfl)
    obtain ⟨f3_29, v_restWeight_30, v_nextPage_31, hq, hf⟩ := bd3_el hf
    refine hL12 (f3_29, v_restWeight_30, v_nextPage_31) (fun z_26 z_27 z_28 h9 H locs ls hP hD hS hl => ?_) fuel x3_2 (upd v_restWeight (tn x2) (-4 : Int32)) v_nextPage hq H locs ls hP hD hS (lv_sub hl [1, 2, 3, 0] rfl)
    simp only [Prod.mk.injEq] at h9
    obtain ⟨h9_0, h9_1, h9_2⟩ := h9
    subst h9_0; subst h9_1; subst h9_2
    replace hf := Option.some.inj hf
    simp only [Prod.mk.injEq] at hf
    obtain ⟨hf0, hf1⟩ := hf
    subst hf0; subst hf1
    exact hret H locs ls _ dX3_beginPage_112 hP hD hS
  refine key _ ?_ _ _ _ hP hD hS hl
  intro H locs ls pc d hP hD hS
  exact W.vret hx hb hr (fun t ht hW => ⟨⟨rfl, by rw [ht]; exact hP, hD⟩, hS.F ht⟩) hS.2.2 d
def p_X3_distribute_L16 (v_rows : (Nat → Int32)) (v_cells : (Nat → Int32)) (s : Int32 × (Nat → Int32) × (Nat → Int32)) : Option ((Int32 × (Nat → Int32) × (Nat → Int32)) ⊕ (Int32 × (Nat → Int32) × (Nat → Int32))) := match s with
  | (i3_5, v_restWeight_6, v_nextPage_7) => (if i3_5 < (0 : Int32) then (some (.inr (i3_5, v_restWeight_6, v_nextPage_7))) else (bd2 (p_X3_beginPage v_rows v_restWeight_6 v_nextPage_7 v_cells i3_5) fun v_restWeight_9 v_nextPage_10 => (some (.inl ((i3_5 + (-1 : Int32)), v_restWeight_9, v_nextPage_10)))))
def p_X3_distribute (v_allFit : Int32) (v_rows : (Nat → Int32)) (v_restWeight : (Nat → Int32)) (v_nextPage : (Nat → Int32)) (v_cells : (Nat → Int32)) : Option ((Nat → Int32) × (Nat → Int32)) :=
  (bd1 (p_X4_lines v_cells) fun r_1 => (gd (ib r_1 13) (nm (r_1 - (1 : Int32)) fun x3_4 => (bd3 (loopN (p_X3_distribute_L16 v_rows v_cells) fuel (x3_4, (upd v_restWeight (tn r_1) (0 : Int32)), v_nextPage)) fun f3_15 v_restWeight_16 v_nextPage_17 => (if v_allFit = (0 : Int32) then (some ((upd v_restWeight_16 0 (-4 : Int32)), v_nextPage_17)) else (some (v_restWeight_16, v_nextPage_17)))))))
set_option maxHeartbeats 4000000 in
set_option maxRecDepth 100000 in
theorem c_X3_distribute (l : Launch) (dC : Nat → ClassId) (dI : Nat → Nat → Nat) (cI cJ cP cS : ClassId) (a0 : Nat) (a1 : Nat) (a2 : Nat) (a3 : Nat) (a4 : Nat) (a5 : Nat) (v_allFit : Int32) (v_rows : (Nat → Int32)) (v_restWeight : (Nat → Int32)) (v_nextPage : (Nat → Int32)) (v_cells : (Nat → Int32))    (v_restWeight_o : (Nat → Int32)) (v_nextPage_o : (Nat → Int32)) (hf : p_X3_distribute v_allFit v_rows v_restWeight v_nextPage v_cells = some (v_restWeight_o, v_nextPage_o)) : MC l (dC, dI) (tyl cI cJ cP cS) yX3_distribute (Cond.code yX3_distribute cX3_distribute 4 none :: TBG) ({ frames := 4, cells := 0, slots := 0, locals := 95 } : Room) [.ref a0, .ref a4] [(a0, .inr (3, [.ref a1, .int v_allFit, .ref a2, .ref a3])), (a1, .inl (cI, 12, .inl v_rows)), (a2, .inl (cI, 13, .inl v_restWeight)), (a3, .inl (cI, 13, .inl v_nextPage)), (a4, .inr (4, [.ref a5])), (a5, .inl (cI, 117, .inl v_cells))] [(a0, .inr (3, [.ref a1, .int v_allFit, .ref a2, .ref a3])), (a1, .inl (cI, 12, .inl v_rows)), (a2, .inl (cI, 13, .inl v_restWeight_o)), (a3, .inl (cI, 13, .inl v_nextPage_o)), (a4, .inr (4, [.ref a5])), (a5, .inl (cI, 117, .inl v_cells))] none := by
  intro sz
  unfold MPost
  refine Met.ofW (cc := cX3_distribute) (maxL := 4) (ret := none) (by decide) rfl ?_
  intro p e s m args below meth c s₁ B hml hv
  obtain ⟨rfl, hsz, hP, hK, hD0, hF⟩ := hv
  have hx := B.exec
  have hb := B.bytes
  have hr := B.returns
  have hT : ∀ w ∈ TBG, w.before _ s = true := fun w h => atoms_spec B.pre w (List.mem_cons_of_mem _ h)
  have hown : s.vm.findClass RX3 = some m.cls := findClass_of_methodNamed B.named
  have hlocks := B.notSynchronized
  subst hsz
  have hD := hD0.self (sz := s.heap.size)
  generalize hAe : va_A [(a0, .inr (3, [.ref a1, .int v_allFit, .ref a2, .ref a3])), (a1, .inl (cI, 12, .inl v_rows)), (a2, .inl (cI, 13, .inl v_restWeight)), (a3, .inl (cI, 13, .inl v_nextPage)), (a4, .inr (4, [.ref a5])), (a5, .inl (cI, 117, .inl v_cells))] s.heap.size = A at hD hF ⊢
  have hA : ∀ q : Nat, s.heap.size ≤ q → A q := fun q h => by rw [← hAe]; exact Or.inr h
  have hS : va_S A s.heap s.heap [] := va_S.rf
  have hl := lv_entry ([.ref a0, .ref a4]) (n := 4) (Nat.le_of_ble_eq_true rfl)
  rw [lg_entry_eq]
  generalize (lg_sl ([.ref a0, .ref a4]) ++ List.replicate (4 - (lg_sl ([.ref a0, .ref a4])).length) Slot.unset).toArray = ls at hl ⊢
  have hl : lv_has ls 4 [(0, .ref a0), (1, .ref a4)] := hl
  generalize ([.ref a0, .ref a4] : List Value).toArray = args at hT ⊢
  have key : ∀ (Q : State → Prop), (∀ (H : Heap) (locs : List Loc) (ls : Array Slot) (pc : Nat), decode cX3_distribute pc = .ok (.return_, 1) → va_P (dC, dI) vwCl [(a0, .inr (3, [.ref a1, .int v_allFit, .ref a2, .ref a3])), (a1, .inl (cI, 12, .inl v_rows)), (a2, .inl (cI, 13, .inl v_restWeight_o)), (a3, .inl (cI, 13, .inl v_nextPage_o)), (a4, .inr (4, [.ref a5])), (a5, .inl (cI, 117, .inl v_cells))] H → va_D A [(a0, .inr (3, [.ref a1, .int v_allFit, .ref a2, .ref a3])), (a1, .inl (cI, 12, .inl v_rows)), (a2, .inl (cI, 13, .inl v_restWeight_o)), (a3, .inl (cI, 13, .inl v_nextPage_o)), (a4, .inr (4, [.ref a5])), (a5, .inl (cI, 117, .inl v_cells))] → va_S A s.heap H locs → W p l e ({ frames := 4, cells := 0, slots := 0, locals := 95 } : Room) s m args below meth c H locs 0 0 Q (F0 m pc ls [])) → ∀ (H : Heap) (locs : List Loc) (ls : Array Slot), va_P (dC, dI) vwCl [(a0, .inr (3, [.ref a1, .int v_allFit, .ref a2, .ref a3])), (a1, .inl (cI, 12, .inl v_rows)), (a2, .inl (cI, 13, .inl v_restWeight)), (a3, .inl (cI, 13, .inl v_nextPage)), (a4, .inr (4, [.ref a5])), (a5, .inl (cI, 117, .inl v_cells))] H → va_D A [(a0, .inr (3, [.ref a1, .int v_allFit, .ref a2, .ref a3])), (a1, .inl (cI, 12, .inl v_rows)), (a2, .inl (cI, 13, .inl v_restWeight)), (a3, .inl (cI, 13, .inl v_nextPage)), (a4, .inr (4, [.ref a5])), (a5, .inl (cI, 117, .inl v_cells))] → va_S A s.heap H locs → lv_has ls 4 [(0, .ref a0), (1, .ref a4)] → W p l e ({ frames := 4, cells := 0, slots := 0, locals := 95 } : Room) s m args below meth c H locs 0 0 Q (F0 m 0 ls []) := by
    intro Q hret H locs ls hP hD hS hl
    refine lv_aload_n hx hb dX3_distribute_0 rfl (lv_at hl 1 rfl) ?_
    obtain ⟨r_1, hq2, hf⟩ := bd1_el hf
    refine mc_V (As := []) (rest := []) (wr := [(a0, .inr (3, [.ref a1, .int v_allFit, .ref a2, .ref a3])), (a1, .inl (cI, 12, .inl v_rows)), (a2, .inl (cI, 13, .inl v_restWeight)), (a3, .inl (cI, 13, .inl v_nextPage))]) (wn := [(a0, .inr (3, [.ref a1, .int v_allFit, .ref a2, .ref a3])), (a1, .inl (cI, 12, .inl v_rows)), (a2, .inl (cI, 13, .inl v_restWeight)), (a3, .inl (cI, 13, .inl v_nextPage)), (a4, .inr (4, [.ref a5])), (a5, .inl (cI, 117, .inl v_cells))]) ⟨hx, hb, hml, hown, hT⟩ (c_X4_lines l dC dI cI cJ cP cS a4 a5 v_cells r_1 hq2) (cwV 0 hT (gdV q_ml_X3_25 q_im_X4_lines q_se_X4_lines q_in_X4 q_co_X4_lines) rfl rfl rfl hd_X4_lines ⟨Nat.le_of_ble_eq_true rfl, Nat.le_of_ble_eq_true rfl⟩) hK hF hP hD hS hA 4 rfl rfl rfl [4, 5] [0, 1, 2, 3] [0, 1, 2, 3, 4, 5] rfl (by decide) rfl (by decide) (by decide) rfl (by decide) rfl hl.1 rfl (Nat.le_of_ble_eq_true rfl) dX3_distribute_1 ⟨Nat.zero_le _, Nat.zero_le _⟩ (fun H locs hP hD hS => ?_)
    refine W.eq (g2 := F0 m 4 ls [.int r_1]) rfl ?_
    refine lv_istore_n (lv' := [(2, .int r_1), (0, .ref a0), (1, .ref a4)]) hx hb dX3_distribute_4 rfl hl (by decide) rfl (fun ls hl => ?_)
    refine lv_aload_n hx hb dX3_distribute_5 rfl (lv_at hl 1 rfl) ?_
    refine va_get (D := (dC, dI)) (ci := 3) (v := .ref a2) (C := RX3) (T := TX3) (N := 4) hx hb hT in_X3 hown hK hP 0 rfl rfl 2 (by decide) (hT _ q_fl_X3_15) (fun _ h9 => h9) rfl dX3_distribute_6 ?_
    refine lv_iload_n hx hb dX3_distribute_9 rfl (lv_at hl 0 rfl) ?_
    refine lv_iconst (v := 0) hx hb dX3_distribute_10 (by decide) ?_
    obtain ⟨h3, hf⟩ := gd_el hf
    refine ia_st hx hb hK hP hD hS 2 0 rfl rfl (ib_in h3) (j := (tn r_1)) rfl dX3_distribute_11 (fun H locs hP hD hS => ?_)
    have hP : va_P (dC, dI) vwCl [(a0, .inr (3, [.ref a1, .int v_allFit, .ref a2, .ref a3])), (a1, .inl (cI, 12, .inl v_rows)), (a2, .inl (cI, 13, .inl (upd v_restWeight (tn r_1) (0 : Int32)))), (a3, .inl (cI, 13, .inl v_nextPage)), (a4, .inr (4, [.ref a5])), (a5, .inl (cI, 117, .inl v_cells))] H := hP
    have hD : va_D A [(a0, .inr (3, [.ref a1, .int v_allFit, .ref a2, .ref a3])), (a1, .inl (cI, 12, .inl v_rows)), (a2, .inl (cI, 13, .inl (upd v_restWeight (tn r_1) (0 : Int32)))), (a3, .inl (cI, 13, .inl v_nextPage)), (a4, .inr (4, [.ref a5])), (a5, .inl (cI, 117, .inl v_cells))] := hD
    refine lv_iload_n hx hb dX3_distribute_12 rfl (lv_at hl 0 rfl) ?_
    refine lv_iconst (v := 1) hx hb dX3_distribute_13 (by decide) ?_
    refine lv_isub hx hb dX3_distribute_14 ?_
    obtain ⟨x3_4, ex3_4, hf⟩ := nm_el hf
    refine lv_as (congrArg Value.int ex3_4) ?_
    refine lv_istore_n (lv' := [(3, .int x3_4), (2, .int r_1), (0, .ref a0), (1, .ref a4)]) hx hb dX3_distribute_15 rfl hl (by decide) rfl (fun ls hl => ?_)
    have hL16 : ∀ (rr : Int32 × (Nat → Int32) × (Nat → Int32)), (∀ (z_12 : Int32) (z_13 : (Nat → Int32)) (z_14 : (Nat → Int32)), rr = (z_12, z_13, z_14) → ∀ (H : Heap) (locs : List Loc) (ls : Array Slot), va_P (dC, dI) vwCl [(a0, .inr (3, [.ref a1, .int v_allFit, .ref a2, .ref a3])), (a1, .inl (cI, 12, .inl v_rows)), (a2, .inl (cI, 13, .inl z_13)), (a3, .inl (cI, 13, .inl z_14)), (a4, .inr (4, [.ref a5])), (a5, .inl (cI, 117, .inl v_cells))] H → va_D A [(a0, .inr (3, [.ref a1, .int v_allFit, .ref a2, .ref a3])), (a1, .inl (cI, 12, .inl v_rows)), (a2, .inl (cI, 13, .inl z_13)), (a3, .inl (cI, 13, .inl z_14)), (a4, .inr (4, [.ref a5])), (a5, .inl (cI, 117, .inl v_cells))] → va_S A s.heap H locs → lv_has ls 4 [(0, .ref a0)] → W p l e ({ frames := 4, cells := 0, slots := 0, locals := 95 } : Room) s m args below meth c H locs 0 0 Q (F0 m 32 ls [])) → ∀ (n : Nat) (i3_5 : Int32) (v_restWeight_6 : (Nat → Int32)) (v_nextPage_7 : (Nat → Int32)), loopN (p_X3_distribute_L16 v_rows v_cells) n (i3_5, v_restWeight_6, v_nextPage_7) = some rr → ∀ (H : Heap) (locs : List Loc) (ls : Array Slot), va_P (dC, dI) vwCl [(a0, .inr (3, [.ref a1, .int v_allFit, .ref a2, .ref a3])), (a1, .inl (cI, 12, .inl v_rows)), (a2, .inl (cI, 13, .inl v_restWeight_6)), (a3, .inl (cI, 13, .inl v_nextPage_7)), (a4, .inr (4, [.ref a5])), (a5, .inl (cI, 117, .inl v_cells))] H → va_D A [(a0, .inr (3, [.ref a1, .int v_allFit, .ref a2, .ref a3])), (a1, .inl (cI, 12, .inl v_rows)), (a2, .inl (cI, 13, .inl v_restWeight_6)), (a3, .inl (cI, 13, .inl v_nextPage_7)), (a4, .inr (4, [.ref a5])), (a5, .inl (cI, 117, .inl v_cells))] → va_S A s.heap H locs → lv_has ls 4 [(0, .ref a0), (1, .ref a4), (3, .int i3_5)] → W p l e ({ frames := 4, cells := 0, slots := 0, locals := 95 } : Room) s m args below meth c H locs 0 0 Q (F0 m 16 ls []) := by
      intro rr hk16 n
      induction n with
      | zero => intro i3_5 v_restWeight_6 v_nextPage_7 hf; cases hf
      | succ n ih16 =>
        intro i3_5 v_restWeight_6 v_nextPage_7 hf H locs ls hP hD hS hl
        obtain ⟨o16, hf, hi, he⟩ := loopN_el hf
        refine lv_iload_n hx hb dX3_distribute_16 rfl (lv_at hl 2 rfl) ?_
        refine lv_if_lt (tgt := 32) hx hb dX3_distribute_17 (by decide) (fun c8 => ?_) (fun c8 => ?_)
        · replace hf := it_t c8 hf
          exact hk16 _ _ _ (he _ (Option.some.inj hf).symm).symm H locs ls hP hD hS (lv_sub hl [0] rfl)
        · replace hf := it_f c8 hf
          refine lv_aload_n hx hb dX3_distribute_20 rfl (lv_at hl 0 rfl) ?_
          refine lv_aload_n hx hb dX3_distribute_21 rfl (lv_at hl 1 rfl) ?_
          refine lv_iload_n hx hb dX3_distribute_22 rfl (lv_at hl 2 rfl) ?_
          obtain ⟨v_restWeight_9, v_nextPage_10, hq11, hf⟩ := bd2_el hf
          refine mc_V (As := [.ref a4, .int i3_5]) (rest := []) (wr := []) (wn := [(a0, .inr (3, [.ref a1, .int v_allFit, .ref a2, .ref a3])), (a1, .inl (cI, 12, .inl v_rows)), (a2, .inl (cI, 13, .inl v_restWeight_9)), (a3, .inl (cI, 13, .inl v_nextPage_10)), (a4, .inr (4, [.ref a5])), (a5, .inl (cI, 117, .inl v_cells))]) ⟨hx, hb, hml, hown, hT⟩ (c_X3_beginPage l dC dI cI cJ cP cS a0 a1 a2 a3 a4 a5 v_allFit v_rows v_restWeight_6 v_nextPage_7 v_cells i3_5 v_restWeight_9 v_nextPage_10 hq11) (cwV 2 hT (gdV q_ml_X3_40 q_im_X3_beginPage q_se_X3_beginPage q_in_X3 q_co_X3_beginPage) rfl rfl rfl hd_X3_beginPage ⟨Nat.le_of_ble_eq_true rfl, Nat.le_of_ble_eq_true rfl⟩) hK hF hP hD hS hA 0 rfl rfl rfl [0, 1, 2, 3, 4, 5] [] [0, 1, 2, 3, 4, 5] rfl (by decide) rfl (by decide) (by decide) rfl (by decide) rfl hl.1 rfl (Nat.le_of_ble_eq_true rfl) dX3_distribute_23 ⟨Nat.zero_le _, Nat.zero_le _⟩ (fun H locs hP hD hS => ?_)
          refine W.eq (g2 := F0 m 26 ls []) rfl ?_
          refine lv_iinc (v := (i3_5 + (-1 : Int32))) (lv' := [(3, .int (i3_5 + (-1 : Int32))), (0, .ref a0), (1, .ref a4)]) hx hb dX3_distribute_26 hl (k := 2) rfl rfl (by decide) rfl (fun ls hl => ?_)
          refine lv_goto (tgt := 16) hx hb dX3_distribute_29 (by decide) ?_
          exact ih16 (i3_5 + (-1 : Int32)) v_restWeight_9 v_nextPage_10 (hi _ (Option.some.inj hf).symm) H locs ls hP hD hS (lv_sub hl [1, 2, 0] rfl)
    obtain ⟨f3_15, v_restWeight_16, v_nextPage_17, hq, hf⟩ := bd3_el hf
    refine hL16 (f3_15, v_restWeight_16, v_nextPage_17) (fun z_12 z_13 z_14 h9 H locs ls hP hD hS hl => ?_) fuel x3_4 (upd v_restWeight (tn r_1) (0 : Int32)) v_nextPage hq H locs ls hP hD hS (lv_sub hl [2, 3, 0] rfl)
    simp only [Prod.mk.injEq] at h9
    obtain ⟨h9_0, h9_1, h9_2⟩ := h9
    subst h9_0; subst h9_1; subst h9_2
    refine lv_aload_n hx hb dX3_distribute_32 rfl (lv_at hl 0 rfl) ?_
    refine va_get (D := (dC, dI)) (ci := 3) (v := .int v_allFit) (C := RX3) (T := TX3) (N := 4) hx hb hT in_X3 hown hK hP 0 rfl rfl 1 (by decide) (hT _ q_fl_X3_21) (fun _ h9 => h9) rfl dX3_distribute_33 ?_
    refine lv_if_ne (tgt := 47) hx hb dX3_distribute_36 (by decide) (fun c18 => ?_) (fun c18 => ?_)
    · replace hf := it_f c18 hf
      replace hf := Option.some.inj hf
      simp only [Prod.mk.injEq] at hf
      obtain ⟨hf0, hf1⟩ := hf
      subst hf0; subst hf1
      exact hret H locs ls _ dX3_distribute_47 hP hD hS
    · replace hf := it_t c18 hf
      refine lv_aload_n hx hb dX3_distribute_39 rfl (lv_at hl 0 rfl) ?_
      refine va_get (D := (dC, dI)) (ci := 3) (v := .ref a2) (C := RX3) (T := TX3) (N := 4) hx hb hT in_X3 hown hK hP 0 rfl rfl 2 (by decide) (hT _ q_fl_X3_15) (fun _ h9 => h9) rfl dX3_distribute_40 ?_
      refine lv_iconst (v := 0) hx hb dX3_distribute_43 (by decide) ?_
      refine lv_bipush (v := (-4)) hx hb dX3_distribute_44 (by decide) ?_
      refine ia_st hx hb hK hP hD hS 2 0 rfl rfl (ib_in (by decide)) (j := 0) (by decide) dX3_distribute_46 (fun H locs hP hD hS => ?_)
      have hP : va_P (dC, dI) vwCl [(a0, .inr (3, [.ref a1, .int v_allFit, .ref a2, .ref a3])), (a1, .inl (cI, 12, .inl v_rows)), (a2, .inl (cI, 13, .inl (upd v_restWeight_16 0 (-4 : Int32)))), (a3, .inl (cI, 13, .inl v_nextPage_17)), (a4, .inr (4, [.ref a5])), (a5, .inl (cI, 117, .inl v_cells))] H := hP
      have hD : va_D A [(a0, .inr (3, [.ref a1, .int v_allFit, .ref a2, .ref a3])), (a1, .inl (cI, 12, .inl v_rows)), (a2, .inl (cI, 13, .inl (upd v_restWeight_16 0 (-4 : Int32)))), (a3, .inl (cI, 13, .inl v_nextPage_17)), (a4, .inr (4, [.ref a5])), (a5, .inl (cI, 117, .inl v_cells))] := hD
      replace hf := Option.some.inj hf
      simp only [Prod.mk.injEq] at hf
      obtain ⟨hf0, hf1⟩ := hf
      subst hf0; subst hf1
      exact hret H locs ls _ dX3_distribute_47 hP hD hS
  refine key _ ?_ _ _ _ hP hD hS hl
  intro H locs ls pc d hP hD hS
  exact W.vret hx hb hr (fun t ht hW => ⟨⟨rfl, by rw [ht]; exact hP, hD⟩, hS.F ht⟩) hS.2.2 d
def p_X3_number (v_restWeight : (Nat → Int32)) : Option (Int32) :=
  (if (v_restWeight 0) = (-4 : Int32) then (some (-4 : Int32)) else (some (irem (v_restWeight 0) (100 : Int32))))
set_option maxHeartbeats 4000000 in
set_option maxRecDepth 100000 in
theorem c_X3_number (l : Launch) (dC : Nat → ClassId) (dI : Nat → Nat → Nat) (cI cJ cP cS : ClassId) (a0 : Nat) (a1 : Nat) (a2 : Nat) (a3 : Nat) (v_allFit : Int32) (v_restWeight : (Nat → Int32))   (rv : Int32)  (hf : p_X3_number v_restWeight = some rv) : MC l (dC, dI) (tyl cI cJ cP cS) yX3_number (Cond.code yX3_number cX3_number 1 (some .int) :: TBG) ({ frames := 0, cells := 0, slots := 0, locals := 0 } : Room) [.ref a0] [(a0, .inr (3, [.ref a1, .int v_allFit, .ref a2, .ref a3])), (a2, .inl (cI, 13, .inl v_restWeight))] [(a0, .inr (3, [.ref a1, .int v_allFit, .ref a2, .ref a3])), (a2, .inl (cI, 13, .inl v_restWeight))] (some (.int rv)) := by
  intro sz
  unfold MPost
  refine Met.ofW (cc := cX3_number) (maxL := 1) (ret := (some .int)) (by decide) rfl ?_
  intro p e s m args below meth c s₁ B hml hv
  obtain ⟨rfl, hsz, hP, hK, hD0, hF⟩ := hv
  have hx := B.exec
  have hb := B.bytes
  have hr := B.returns
  have hT : ∀ w ∈ TBG, w.before _ s = true := fun w h => atoms_spec B.pre w (List.mem_cons_of_mem _ h)
  have hown : s.vm.findClass RX3 = some m.cls := findClass_of_methodNamed B.named
  have hlocks := B.notSynchronized
  subst hsz
  have hD := hD0.self (sz := s.heap.size)
  generalize hAe : va_A [(a0, .inr (3, [.ref a1, .int v_allFit, .ref a2, .ref a3])), (a2, .inl (cI, 13, .inl v_restWeight))] s.heap.size = A at hD hF ⊢
  have hA : ∀ q : Nat, s.heap.size ≤ q → A q := fun q h => by rw [← hAe]; exact Or.inr h
  have hS : va_S A s.heap s.heap [] := va_S.rf
  have hl := lv_entry ([.ref a0]) (n := 1) (Nat.le_of_ble_eq_true rfl)
  rw [lg_entry_eq]
  generalize (lg_sl ([.ref a0]) ++ List.replicate (1 - (lg_sl ([.ref a0])).length) Slot.unset).toArray = ls at hl ⊢
  have hl : lv_has ls 1 [(0, .ref a0)] := hl
  generalize ([.ref a0] : List Value).toArray = args at hT ⊢
  have key : ∀ (Q : State → Prop), (∀ (H : Heap) (locs : List Loc) (ls : Array Slot) (pc : Nat), decode cX3_number pc = .ok (.ireturn, 1) → va_P (dC, dI) vwCl [(a0, .inr (3, [.ref a1, .int v_allFit, .ref a2, .ref a3])), (a2, .inl (cI, 13, .inl v_restWeight))] H → va_D A [(a0, .inr (3, [.ref a1, .int v_allFit, .ref a2, .ref a3])), (a2, .inl (cI, 13, .inl v_restWeight))] → va_S A s.heap H locs → W p l e ({ frames := 0, cells := 0, slots := 0, locals := 0 } : Room) s m args below meth c H locs 0 0 Q (F0 m pc ls [.int rv])) → ∀ (H : Heap) (locs : List Loc) (ls : Array Slot), va_P (dC, dI) vwCl [(a0, .inr (3, [.ref a1, .int v_allFit, .ref a2, .ref a3])), (a2, .inl (cI, 13, .inl v_restWeight))] H → va_D A [(a0, .inr (3, [.ref a1, .int v_allFit, .ref a2, .ref a3])), (a2, .inl (cI, 13, .inl v_restWeight))] → va_S A s.heap H locs → lv_has ls 1 [(0, .ref a0)] → W p l e ({ frames := 0, cells := 0, slots := 0, locals := 0 } : Room) s m args below meth c H locs 0 0 Q (F0 m 0 ls []) := by
    intro Q hret H locs ls hP hD hS hl
    refine lv_aload_n hx hb dX3_number_0 rfl (lv_at hl 0 rfl) ?_
    refine va_get (D := (dC, dI)) (ci := 3) (v := .ref a2) (C := RX3) (T := TX3) (N := 4) hx hb hT in_X3 hown hK hP 0 rfl rfl 2 (by decide) (hT _ q_fl_X3_15) (fun _ h9 => h9) rfl dX3_number_1 ?_
    refine lv_iconst (v := 0) hx hb dX3_number_4 (by decide) ?_
    refine ia_ld hx hb hK hP 1 0 rfl rfl (ib_in (by decide)) (j := 0) (by decide) dX3_number_5 ?_
    refine lv_bipush (v := (-4)) hx hb dX3_number_6 (by decide) ?_
    refine lv_icmp_ne (tgt := 16) hx hb dX3_number_8 (by decide) (fun c1 => ?_) (fun c1 => ?_)
    · replace hf := it_f c1 hf
      refine lv_aload_n hx hb dX3_number_16 rfl (lv_at hl 0 rfl) ?_
      refine va_get (D := (dC, dI)) (ci := 3) (v := .ref a2) (C := RX3) (T := TX3) (N := 4) hx hb hT in_X3 hown hK hP 0 rfl rfl 2 (by decide) (hT _ q_fl_X3_15) (fun _ h9 => h9) rfl dX3_number_17 ?_
      refine lv_iconst (v := 0) hx hb dX3_number_20 (by decide) ?_
      refine ia_ld hx hb hK hP 1 0 rfl rfl (ib_in (by decide)) (j := 0) (by decide) dX3_number_21 ?_
      refine lv_bipush (v := 100) hx hb dX3_number_22 (by decide) ?_
      refine lv_irem hx hb dX3_number_24 (by decide) ?_
      replace hf := Option.some.inj hf
      subst hf
      exact hret H locs ls _ dX3_number_25 hP hD hS
    · replace hf := it_t c1 hf
      refine lv_bipush (v := (-4)) hx hb dX3_number_11 (by decide) ?_
      refine lv_goto (tgt := 25) hx hb dX3_number_13 (by decide) ?_
      replace hf := Option.some.inj hf
      subst hf
      exact hret H locs ls _ dX3_number_25 hP hD hS
  refine key _ ?_ _ _ _ hP hD hS hl
  intro H locs ls pc d hP hD hS
  exact W.iret (v := rv) hx hb hr (fun t ht hW => ⟨⟨rfl, by rw [ht]; exact hP, hD⟩, hS.F ht⟩) hS.2.2 d
def p_X3_cutStanzas (v_restWeight : (Nat → Int32)) : Option (Int32) :=
  (if (v_restWeight 0) = (-4 : Int32) then (some (-4 : Int32)) else (some ((v_restWeight 0) / (100 : Int32))))
set_option maxHeartbeats 4000000 in
set_option maxRecDepth 100000 in
theorem c_X3_cutStanzas (l : Launch) (dC : Nat → ClassId) (dI : Nat → Nat → Nat) (cI cJ cP cS : ClassId) (a0 : Nat) (a1 : Nat) (a2 : Nat) (a3 : Nat) (v_allFit : Int32) (v_restWeight : (Nat → Int32))   (rv : Int32)  (hf : p_X3_cutStanzas v_restWeight = some rv) : MC l (dC, dI) (tyl cI cJ cP cS) yX3_cutStanzas (Cond.code yX3_cutStanzas cX3_cutStanzas 1 (some .int) :: TBG) ({ frames := 0, cells := 0, slots := 0, locals := 0 } : Room) [.ref a0] [(a0, .inr (3, [.ref a1, .int v_allFit, .ref a2, .ref a3])), (a2, .inl (cI, 13, .inl v_restWeight))] [(a0, .inr (3, [.ref a1, .int v_allFit, .ref a2, .ref a3])), (a2, .inl (cI, 13, .inl v_restWeight))] (some (.int rv)) := by
  intro sz
  unfold MPost
  refine Met.ofW (cc := cX3_cutStanzas) (maxL := 1) (ret := (some .int)) (by decide) rfl ?_
  intro p e s m args below meth c s₁ B hml hv
  obtain ⟨rfl, hsz, hP, hK, hD0, hF⟩ := hv
  have hx := B.exec
  have hb := B.bytes
  have hr := B.returns
  have hT : ∀ w ∈ TBG, w.before _ s = true := fun w h => atoms_spec B.pre w (List.mem_cons_of_mem _ h)
  have hown : s.vm.findClass RX3 = some m.cls := findClass_of_methodNamed B.named
  have hlocks := B.notSynchronized
  subst hsz
  have hD := hD0.self (sz := s.heap.size)
  generalize hAe : va_A [(a0, .inr (3, [.ref a1, .int v_allFit, .ref a2, .ref a3])), (a2, .inl (cI, 13, .inl v_restWeight))] s.heap.size = A at hD hF ⊢
  have hA : ∀ q : Nat, s.heap.size ≤ q → A q := fun q h => by rw [← hAe]; exact Or.inr h
  have hS : va_S A s.heap s.heap [] := va_S.rf
  have hl := lv_entry ([.ref a0]) (n := 1) (Nat.le_of_ble_eq_true rfl)
  rw [lg_entry_eq]
  generalize (lg_sl ([.ref a0]) ++ List.replicate (1 - (lg_sl ([.ref a0])).length) Slot.unset).toArray = ls at hl ⊢
  have hl : lv_has ls 1 [(0, .ref a0)] := hl
  generalize ([.ref a0] : List Value).toArray = args at hT ⊢
  have key : ∀ (Q : State → Prop), (∀ (H : Heap) (locs : List Loc) (ls : Array Slot) (pc : Nat), decode cX3_cutStanzas pc = .ok (.ireturn, 1) → va_P (dC, dI) vwCl [(a0, .inr (3, [.ref a1, .int v_allFit, .ref a2, .ref a3])), (a2, .inl (cI, 13, .inl v_restWeight))] H → va_D A [(a0, .inr (3, [.ref a1, .int v_allFit, .ref a2, .ref a3])), (a2, .inl (cI, 13, .inl v_restWeight))] → va_S A s.heap H locs → W p l e ({ frames := 0, cells := 0, slots := 0, locals := 0 } : Room) s m args below meth c H locs 0 0 Q (F0 m pc ls [.int rv])) → ∀ (H : Heap) (locs : List Loc) (ls : Array Slot), va_P (dC, dI) vwCl [(a0, .inr (3, [.ref a1, .int v_allFit, .ref a2, .ref a3])), (a2, .inl (cI, 13, .inl v_restWeight))] H → va_D A [(a0, .inr (3, [.ref a1, .int v_allFit, .ref a2, .ref a3])), (a2, .inl (cI, 13, .inl v_restWeight))] → va_S A s.heap H locs → lv_has ls 1 [(0, .ref a0)] → W p l e ({ frames := 0, cells := 0, slots := 0, locals := 0 } : Room) s m args below meth c H locs 0 0 Q (F0 m 0 ls []) := by
    intro Q hret H locs ls hP hD hS hl
    refine lv_aload_n hx hb dX3_cutStanzas_0 rfl (lv_at hl 0 rfl) ?_
    refine va_get (D := (dC, dI)) (ci := 3) (v := .ref a2) (C := RX3) (T := TX3) (N := 4) hx hb hT in_X3 hown hK hP 0 rfl rfl 2 (by decide) (hT _ q_fl_X3_15) (fun _ h9 => h9) rfl dX3_cutStanzas_1 ?_
    refine lv_iconst (v := 0) hx hb dX3_cutStanzas_4 (by decide) ?_
    refine ia_ld hx hb hK hP 1 0 rfl rfl (ib_in (by decide)) (j := 0) (by decide) dX3_cutStanzas_5 ?_
    refine lv_bipush (v := (-4)) hx hb dX3_cutStanzas_6 (by decide) ?_
    refine lv_icmp_ne (tgt := 16) hx hb dX3_cutStanzas_8 (by decide) (fun c1 => ?_) (fun c1 => ?_)
    · replace hf := it_f c1 hf
      refine lv_aload_n hx hb dX3_cutStanzas_16 rfl (lv_at hl 0 rfl) ?_
      refine va_get (D := (dC, dI)) (ci := 3) (v := .ref a2) (C := RX3) (T := TX3) (N := 4) hx hb hT in_X3 hown hK hP 0 rfl rfl 2 (by decide) (hT _ q_fl_X3_15) (fun _ h9 => h9) rfl dX3_cutStanzas_17 ?_
      refine lv_iconst (v := 0) hx hb dX3_cutStanzas_20 (by decide) ?_
      refine ia_ld hx hb hK hP 1 0 rfl rfl (ib_in (by decide)) (j := 0) (by decide) dX3_cutStanzas_21 ?_
      refine lv_bipush (v := 100) hx hb dX3_cutStanzas_22 (by decide) ?_
      refine lv_idiv hx hb dX3_cutStanzas_24 (by decide) ?_
      replace hf := Option.some.inj hf
      subst hf
      exact hret H locs ls _ dX3_cutStanzas_25 hP hD hS
    · replace hf := it_t c1 hf
      refine lv_bipush (v := (-4)) hx hb dX3_cutStanzas_11 (by decide) ?_
      refine lv_goto (tgt := 25) hx hb dX3_cutStanzas_13 (by decide) ?_
      replace hf := Option.some.inj hf
      subst hf
      exact hret H locs ls _ dX3_cutStanzas_25 hP hD hS
  refine key _ ?_ _ _ _ hP hD hS hl
  intro H locs ls pc d hP hD hS
  exact W.iret (v := rv) hx hb hr (fun t ht hW => ⟨⟨rfl, by rw [ht]; exact hP, hD⟩, hS.F ht⟩) hS.2.2 d
def p_X3_firstLineOf_L4 (v_nextPage : (Nat → Int32)) (x1 : Int32) (s : Int32 × Int32) : Option ((Int32 × Int32) ⊕ (Int32 × Int32)) := match s with
  | (i2_1, i3_2) => (if x1 ≤ i3_2 then (some (.inr (i2_1, i3_2))) else (gd (ib i2_1 13) (nm (v_nextPage (tn i2_1)) fun x2_5 => (some (.inl (x2_5, (i3_2 + (1 : Int32))))))))
def p_X3_firstLineOf (v_nextPage : (Nat → Int32)) (x1 : Int32) : Option (Int32) :=
  (bd2 (loopN (p_X3_firstLineOf_L4 v_nextPage x1) fuel ((0 : Int32), (0 : Int32))) fun f2_8 f3_9 => (some f2_8))
set_option maxHeartbeats 4000000 in
set_option maxRecDepth 100000 in
theorem c_X3_firstLineOf (l : Launch) (dC : Nat → ClassId) (dI : Nat → Nat → Nat) (cI cJ cP cS : ClassId) (a0 : Nat) (a1 : Nat) (a2 : Nat) (a3 : Nat) (v_allFit : Int32) (v_nextPage : (Nat → Int32))  (x1 : Int32) (rv : Int32)  (hf : p_X3_firstLineOf v_nextPage x1 = some rv) : MC l (dC, dI) (tyl cI cJ cP cS) yX3_firstLineOf (Cond.code yX3_firstLineOf cX3_firstLineOf 4 (some .int) :: TBG) ({ frames := 0, cells := 0, slots := 0, locals := 0 } : Room) [.ref a0, .int x1] [(a0, .inr (3, [.ref a1, .int v_allFit, .ref a2, .ref a3])), (a3, .inl (cI, 13, .inl v_nextPage))] [(a0, .inr (3, [.ref a1, .int v_allFit, .ref a2, .ref a3])), (a3, .inl (cI, 13, .inl v_nextPage))] (some (.int rv)) := by
  intro sz
  unfold MPost
  refine Met.ofW (cc := cX3_firstLineOf) (maxL := 4) (ret := (some .int)) (by decide) rfl ?_
  intro p e s m args below meth c s₁ B hml hv
  obtain ⟨rfl, hsz, hP, hK, hD0, hF⟩ := hv
  have hx := B.exec
  have hb := B.bytes
  have hr := B.returns
  have hT : ∀ w ∈ TBG, w.before _ s = true := fun w h => atoms_spec B.pre w (List.mem_cons_of_mem _ h)
  have hown : s.vm.findClass RX3 = some m.cls := findClass_of_methodNamed B.named
  have hlocks := B.notSynchronized
  subst hsz
  have hD := hD0.self (sz := s.heap.size)
  generalize hAe : va_A [(a0, .inr (3, [.ref a1, .int v_allFit, .ref a2, .ref a3])), (a3, .inl (cI, 13, .inl v_nextPage))] s.heap.size = A at hD hF ⊢
  have hA : ∀ q : Nat, s.heap.size ≤ q → A q := fun q h => by rw [← hAe]; exact Or.inr h
  have hS : va_S A s.heap s.heap [] := va_S.rf
  have hl := lv_entry ([.ref a0, .int x1]) (n := 4) (Nat.le_of_ble_eq_true rfl)
  rw [lg_entry_eq]
  generalize (lg_sl ([.ref a0, .int x1]) ++ List.replicate (4 - (lg_sl ([.ref a0, .int x1])).length) Slot.unset).toArray = ls at hl ⊢
  have hl : lv_has ls 4 [(0, .ref a0), (1, .int x1)] := hl
  generalize ([.ref a0, .int x1] : List Value).toArray = args at hT ⊢
  have key : ∀ (Q : State → Prop), (∀ (H : Heap) (locs : List Loc) (ls : Array Slot) (pc : Nat), decode cX3_firstLineOf pc = .ok (.ireturn, 1) → va_P (dC, dI) vwCl [(a0, .inr (3, [.ref a1, .int v_allFit, .ref a2, .ref a3])), (a3, .inl (cI, 13, .inl v_nextPage))] H → va_D A [(a0, .inr (3, [.ref a1, .int v_allFit, .ref a2, .ref a3])), (a3, .inl (cI, 13, .inl v_nextPage))] → va_S A s.heap H locs → W p l e ({ frames := 0, cells := 0, slots := 0, locals := 0 } : Room) s m args below meth c H locs 0 0 Q (F0 m pc ls [.int rv])) → ∀ (H : Heap) (locs : List Loc) (ls : Array Slot), va_P (dC, dI) vwCl [(a0, .inr (3, [.ref a1, .int v_allFit, .ref a2, .ref a3])), (a3, .inl (cI, 13, .inl v_nextPage))] H → va_D A [(a0, .inr (3, [.ref a1, .int v_allFit, .ref a2, .ref a3])), (a3, .inl (cI, 13, .inl v_nextPage))] → va_S A s.heap H locs → lv_has ls 4 [(0, .ref a0), (1, .int x1)] → W p l e ({ frames := 0, cells := 0, slots := 0, locals := 0 } : Room) s m args below meth c H locs 0 0 Q (F0 m 0 ls []) := by
    intro Q hret H locs ls hP hD hS hl
    refine lv_iconst (v := 0) hx hb dX3_firstLineOf_0 (by decide) ?_
    refine lv_istore_n (lv' := [(2, .int (0 : Int32)), (0, .ref a0), (1, .int x1)]) hx hb dX3_firstLineOf_1 rfl hl (by decide) rfl (fun ls hl => ?_)
    refine lv_iconst (v := 0) hx hb dX3_firstLineOf_2 (by decide) ?_
    refine lv_istore_n (lv' := [(3, .int (0 : Int32)), (2, .int (0 : Int32)), (0, .ref a0), (1, .int x1)]) hx hb dX3_firstLineOf_3 rfl hl (by decide) rfl (fun ls hl => ?_)
    have hL4 : ∀ (rr : Int32 × Int32), (∀ (z_6 : Int32) (z_7 : Int32), rr = (z_6, z_7) → ∀ (H : Heap) (locs : List Loc) (ls : Array Slot), va_P (dC, dI) vwCl [(a0, .inr (3, [.ref a1, .int v_allFit, .ref a2, .ref a3])), (a3, .inl (cI, 13, .inl v_nextPage))] H → va_D A [(a0, .inr (3, [.ref a1, .int v_allFit, .ref a2, .ref a3])), (a3, .inl (cI, 13, .inl v_nextPage))] → va_S A s.heap H locs → lv_has ls 4 [(2, .int z_6)] → W p l e ({ frames := 0, cells := 0, slots := 0, locals := 0 } : Room) s m args below meth c H locs 0 0 Q (F0 m 22 ls [])) → ∀ (n : Nat) (i2_1 : Int32) (i3_2 : Int32), loopN (p_X3_firstLineOf_L4 v_nextPage x1) n (i2_1, i3_2) = some rr → ∀ (H : Heap) (locs : List Loc) (ls : Array Slot), va_P (dC, dI) vwCl [(a0, .inr (3, [.ref a1, .int v_allFit, .ref a2, .ref a3])), (a3, .inl (cI, 13, .inl v_nextPage))] H → va_D A [(a0, .inr (3, [.ref a1, .int v_allFit, .ref a2, .ref a3])), (a3, .inl (cI, 13, .inl v_nextPage))] → va_S A s.heap H locs → lv_has ls 4 [(0, .ref a0), (1, .int x1), (2, .int i2_1), (3, .int i3_2)] → W p l e ({ frames := 0, cells := 0, slots := 0, locals := 0 } : Room) s m args below meth c H locs 0 0 Q (F0 m 4 ls []) := by
      intro rr hk4 n
      induction n with
      | zero => intro i2_1 i3_2 hf; cases hf
      | succ n ih4 =>
        intro i2_1 i3_2 hf H locs ls hP hD hS hl
        obtain ⟨o4, hf, hi, he⟩ := loopN_el hf
        refine lv_iload_n hx hb dX3_firstLineOf_4 rfl (lv_at hl 3 rfl) ?_
        refine lv_iload_n hx hb dX3_firstLineOf_5 rfl (lv_at hl 1 rfl) ?_
        refine lv_icmp_ge (tgt := 22) hx hb dX3_firstLineOf_6 (by decide) (fun c3 => ?_) (fun c3 => ?_)
        · replace hf := it_t c3 hf
          exact hk4 _ _ (he _ (Option.some.inj hf).symm).symm H locs ls hP hD hS (lv_sub hl [2] rfl)
        · replace hf := it_f c3 hf
          refine lv_aload_n hx hb dX3_firstLineOf_9 rfl (lv_at hl 0 rfl) ?_
          refine va_get (D := (dC, dI)) (ci := 3) (v := .ref a3) (C := RX3) (T := TX3) (N := 4) hx hb hT in_X3 hown hK hP 0 rfl rfl 3 (by decide) (hT _ q_fl_X3_18) (fun _ h9 => h9) rfl dX3_firstLineOf_10 ?_
          refine lv_iload_n hx hb dX3_firstLineOf_13 rfl (lv_at hl 2 rfl) ?_
          obtain ⟨h4, hf⟩ := gd_el hf
          refine ia_ld hx hb hK hP 1 0 rfl rfl (ib_in h4) (j := (tn i2_1)) rfl dX3_firstLineOf_14 ?_
          obtain ⟨x2_5, ex2_5, hf⟩ := nm_el hf
          refine lv_as (congrArg Value.int ex2_5) ?_
          refine lv_istore_n (lv' := [(2, .int x2_5), (0, .ref a0), (1, .int x1), (3, .int i3_2)]) hx hb dX3_firstLineOf_15 rfl hl (by decide) rfl (fun ls hl => ?_)
          refine lv_iinc (v := (i3_2 + (1 : Int32))) (lv' := [(3, .int (i3_2 + (1 : Int32))), (2, .int x2_5), (0, .ref a0), (1, .int x1)]) hx hb dX3_firstLineOf_16 hl (k := 3) rfl rfl (by decide) rfl (fun ls hl => ?_)
          refine lv_goto (tgt := 4) hx hb dX3_firstLineOf_19 (by decide) ?_
          exact ih4 x2_5 (i3_2 + (1 : Int32)) (hi _ (Option.some.inj hf).symm) H locs ls hP hD hS (lv_sub hl [2, 3, 1, 0] rfl)
    obtain ⟨f2_8, f3_9, hq, hf⟩ := bd2_el hf
    refine hL4 (f2_8, f3_9) (fun z_6 z_7 h9 H locs ls hP hD hS hl => ?_) fuel (0 : Int32) (0 : Int32) hq H locs ls hP hD hS (lv_sub hl [2, 3, 1, 0] rfl)
    simp only [Prod.mk.injEq] at h9
    obtain ⟨h9_0, h9_1⟩ := h9
    subst h9_0; subst h9_1
    refine lv_iload_n hx hb dX3_firstLineOf_22 rfl (lv_at hl 0 rfl) ?_
    replace hf := Option.some.inj hf
    subst hf
    exact hret H locs ls _ dX3_firstLineOf_23 hP hD hS
  refine key _ ?_ _ _ _ hP hD hS hl
  intro H locs ls pc d hP hD hS
  exact W.iret (v := rv) hx hb hr (fun t ht hW => ⟨⟨rfl, by rw [ht]; exact hP, hD⟩, hS.F ht⟩) hS.2.2 d
def p_X3_pageOf_L16 (v_nextPage : (Nat → Int32)) (x1 : Int32) (i2_2 : Int32) : Option ((Int32) ⊕ (Int32)) :=
  (if (12 : Int32) ≤ i2_2 then (some (.inr i2_2)) else (bd1 (p_X3_firstLineOf v_nextPage (i2_2 + (1 : Int32))) fun r_4 => (if x1 < r_4 then (some (.inr i2_2)) else (some (.inl (i2_2 + (1 : Int32)))))))
def p_X3_pageOf (v_restWeight : (Nat → Int32)) (v_nextPage : (Nat → Int32)) (x1 : Int32) : Option (Int32) :=
  (if (v_restWeight 0) = (-4 : Int32) then (some (-4 : Int32)) else (bd1 (loopN (p_X3_pageOf_L16 v_nextPage x1) fuel (0 : Int32)) fun f2_8 => (some f2_8)))
set_option maxHeartbeats 4000000 in
set_option maxRecDepth 100000 in
theorem c_X3_pageOf (l : Launch) (dC : Nat → ClassId) (dI : Nat → Nat → Nat) (cI cJ cP cS : ClassId) (a0 : Nat) (a1 : Nat) (a2 : Nat) (a3 : Nat) (v_allFit : Int32) (v_restWeight : (Nat → Int32)) (v_nextPage : (Nat → Int32))  (x1 : Int32) (rv : Int32)  (hf : p_X3_pageOf v_restWeight v_nextPage x1 = some rv) : MC l (dC, dI) (tyl cI cJ cP cS) yX3_pageOf (Cond.code yX3_pageOf cX3_pageOf 3 (some .int) :: TBG) ({ frames := 1, cells := 0, slots := 0, locals := 23 } : Room) [.ref a0, .int x1] [(a0, .inr (3, [.ref a1, .int v_allFit, .ref a2, .ref a3])), (a2, .inl (cI, 13, .inl v_restWeight)), (a3, .inl (cI, 13, .inl v_nextPage))] [(a0, .inr (3, [.ref a1, .int v_allFit, .ref a2, .ref a3])), (a2, .inl (cI, 13, .inl v_restWeight)), (a3, .inl (cI, 13, .inl v_nextPage))] (some (.int rv)) := by
  intro sz
  unfold MPost
  refine Met.ofW (cc := cX3_pageOf) (maxL := 3) (ret := (some .int)) (by decide) rfl ?_
  intro p e s m args below meth c s₁ B hml hv
  obtain ⟨rfl, hsz, hP, hK, hD0, hF⟩ := hv
  have hx := B.exec
  have hb := B.bytes
  have hr := B.returns
  have hT : ∀ w ∈ TBG, w.before _ s = true := fun w h => atoms_spec B.pre w (List.mem_cons_of_mem _ h)
  have hown : s.vm.findClass RX3 = some m.cls := findClass_of_methodNamed B.named
  have hlocks := B.notSynchronized
  subst hsz
  have hD := hD0.self (sz := s.heap.size)
  generalize hAe : va_A [(a0, .inr (3, [.ref a1, .int v_allFit, .ref a2, .ref a3])), (a2, .inl (cI, 13, .inl v_restWeight)), (a3, .inl (cI, 13, .inl v_nextPage))] s.heap.size = A at hD hF ⊢
  have hA : ∀ q : Nat, s.heap.size ≤ q → A q := fun q h => by rw [← hAe]; exact Or.inr h
  have hS : va_S A s.heap s.heap [] := va_S.rf
  have hl := lv_entry ([.ref a0, .int x1]) (n := 3) (Nat.le_of_ble_eq_true rfl)
  rw [lg_entry_eq]
  generalize (lg_sl ([.ref a0, .int x1]) ++ List.replicate (3 - (lg_sl ([.ref a0, .int x1])).length) Slot.unset).toArray = ls at hl ⊢
  have hl : lv_has ls 3 [(0, .ref a0), (1, .int x1)] := hl
  generalize ([.ref a0, .int x1] : List Value).toArray = args at hT ⊢
  have key : ∀ (Q : State → Prop), (∀ (H : Heap) (locs : List Loc) (ls : Array Slot) (pc : Nat), decode cX3_pageOf pc = .ok (.ireturn, 1) → va_P (dC, dI) vwCl [(a0, .inr (3, [.ref a1, .int v_allFit, .ref a2, .ref a3])), (a2, .inl (cI, 13, .inl v_restWeight)), (a3, .inl (cI, 13, .inl v_nextPage))] H → va_D A [(a0, .inr (3, [.ref a1, .int v_allFit, .ref a2, .ref a3])), (a2, .inl (cI, 13, .inl v_restWeight)), (a3, .inl (cI, 13, .inl v_nextPage))] → va_S A s.heap H locs → W p l e ({ frames := 1, cells := 0, slots := 0, locals := 23 } : Room) s m args below meth c H locs 0 0 Q (F0 m pc ls [.int rv])) → ∀ (H : Heap) (locs : List Loc) (ls : Array Slot), va_P (dC, dI) vwCl [(a0, .inr (3, [.ref a1, .int v_allFit, .ref a2, .ref a3])), (a2, .inl (cI, 13, .inl v_restWeight)), (a3, .inl (cI, 13, .inl v_nextPage))] H → va_D A [(a0, .inr (3, [.ref a1, .int v_allFit, .ref a2, .ref a3])), (a2, .inl (cI, 13, .inl v_restWeight)), (a3, .inl (cI, 13, .inl v_nextPage))] → va_S A s.heap H locs → lv_has ls 3 [(0, .ref a0), (1, .int x1)] → W p l e ({ frames := 1, cells := 0, slots := 0, locals := 23 } : Room) s m args below meth c H locs 0 0 Q (F0 m 0 ls []) := by
    intro Q hret H locs ls hP hD hS hl
    refine lv_aload_n hx hb dX3_pageOf_0 rfl (lv_at hl 0 rfl) ?_
    refine va_get (D := (dC, dI)) (ci := 3) (v := .ref a2) (C := RX3) (T := TX3) (N := 4) hx hb hT in_X3 hown hK hP 0 rfl rfl 2 (by decide) (hT _ q_fl_X3_15) (fun _ h9 => h9) rfl dX3_pageOf_1 ?_
    refine lv_iconst (v := 0) hx hb dX3_pageOf_4 (by decide) ?_
    refine ia_ld hx hb hK hP 1 0 rfl rfl (ib_in (by decide)) (j := 0) (by decide) dX3_pageOf_5 ?_
    refine lv_bipush (v := (-4)) hx hb dX3_pageOf_6 (by decide) ?_
    refine lv_icmp_ne (tgt := 14) hx hb dX3_pageOf_8 (by decide) (fun c1 => ?_) (fun c1 => ?_)
    · replace hf := it_f c1 hf
      refine lv_iconst (v := 0) hx hb dX3_pageOf_14 (by decide) ?_
      refine lv_istore_n (lv' := [(2, .int (0 : Int32)), (0, .ref a0), (1, .int x1)]) hx hb dX3_pageOf_15 rfl hl (by decide) rfl (fun ls hl => ?_)
      have hL16 : ∀ (rr : Int32), (∀ (z_7 : Int32), rr = z_7 → ∀ (H : Heap) (locs : List Loc) (ls : Array Slot), va_P (dC, dI) vwCl [(a0, .inr (3, [.ref a1, .int v_allFit, .ref a2, .ref a3])), (a2, .inl (cI, 13, .inl v_restWeight)), (a3, .inl (cI, 13, .inl v_nextPage))] H → va_D A [(a0, .inr (3, [.ref a1, .int v_allFit, .ref a2, .ref a3])), (a2, .inl (cI, 13, .inl v_restWeight)), (a3, .inl (cI, 13, .inl v_nextPage))] → va_S A s.heap H locs → lv_has ls 3 [(2, .int z_7)] → W p l e ({ frames := 1, cells := 0, slots := 0, locals := 23 } : Room) s m args below meth c H locs 0 0 Q (F0 m 39 ls [])) → ∀ (n : Nat) (i2_2 : Int32), loopN (p_X3_pageOf_L16 v_nextPage x1) n i2_2 = some rr → ∀ (H : Heap) (locs : List Loc) (ls : Array Slot), va_P (dC, dI) vwCl [(a0, .inr (3, [.ref a1, .int v_allFit, .ref a2, .ref a3])), (a2, .inl (cI, 13, .inl v_restWeight)), (a3, .inl (cI, 13, .inl v_nextPage))] H → va_D A [(a0, .inr (3, [.ref a1, .int v_allFit, .ref a2, .ref a3])), (a2, .inl (cI, 13, .inl v_restWeight)), (a3, .inl (cI, 13, .inl v_nextPage))] → va_S A s.heap H locs → lv_has ls 3 [(0, .ref a0), (1, .int x1), (2, .int i2_2)] → W p l e ({ frames := 1, cells := 0, slots := 0, locals := 23 } : Room) s m args below meth c H locs 0 0 Q (F0 m 16 ls []) := by
        intro rr hk16 n
        induction n with
        | zero => intro i2_2 hf; cases hf
        | succ n ih16 =>
          intro i2_2 hf H locs ls hP hD hS hl
          obtain ⟨o16, hf, hi, he⟩ := loopN_el hf
          refine lv_iload_n hx hb dX3_pageOf_16 rfl (lv_at hl 2 rfl) ?_
          refine lv_bipush (v := 12) hx hb dX3_pageOf_17 (by decide) ?_
          refine lv_icmp_ge (tgt := 39) hx hb dX3_pageOf_19 (by decide) (fun c3 => ?_) (fun c3 => ?_)
          · replace hf := it_t c3 hf
            exact hk16 _ (he _ (Option.some.inj hf).symm).symm H locs ls hP hD hS (lv_sub hl [2] rfl)
          · replace hf := it_f c3 hf
            refine lv_aload_n hx hb dX3_pageOf_22 rfl (lv_at hl 0 rfl) ?_
            refine lv_iload_n hx hb dX3_pageOf_23 rfl (lv_at hl 2 rfl) ?_
            refine lv_iconst (v := 1) hx hb dX3_pageOf_24 (by decide) ?_
            refine lv_iadd hx hb dX3_pageOf_25 ?_
            obtain ⟨r_4, hq5, hf⟩ := bd1_el hf
            refine mc_V (As := [.int (i2_2 + (1 : Int32))]) (rest := []) (wr := [(a2, .inl (cI, 13, .inl v_restWeight))]) (wn := [(a0, .inr (3, [.ref a1, .int v_allFit, .ref a2, .ref a3])), (a2, .inl (cI, 13, .inl v_restWeight)), (a3, .inl (cI, 13, .inl v_nextPage))]) ⟨hx, hb, hml, hown, hT⟩ (c_X3_firstLineOf l dC dI cI cJ cP cS a0 a1 a2 a3 v_allFit v_nextPage (i2_2 + (1 : Int32)) r_4 hq5) (cwV 1 hT (gdV q_ml_X3_77 q_im_X3_firstLineOf q_se_X3_firstLineOf q_in_X3 q_co_X3_firstLineOf) rfl rfl rfl hd_X3_firstLineOf ⟨Nat.le_of_ble_eq_true rfl, Nat.le_of_ble_eq_true rfl⟩) hK hF hP hD hS hA 0 rfl rfl rfl [0, 2] [1] [1, 0, 2] rfl (by decide) rfl (by decide) (by decide) rfl (by decide) rfl hl.1 rfl (Nat.le_of_ble_eq_true rfl) dX3_pageOf_26 ⟨Nat.zero_le _, Nat.zero_le _⟩ (fun H locs hP hD hS => ?_)
            refine W.eq (g2 := F0 m 29 ls [.int r_4]) rfl ?_
            refine lv_iload_n hx hb dX3_pageOf_29 rfl (lv_at hl 1 rfl) ?_
            refine lv_icmp_gt (tgt := 39) hx hb dX3_pageOf_30 (by decide) (fun c6 => ?_) (fun c6 => ?_)
            · replace hf := it_t c6 hf
              exact hk16 _ (he _ (Option.some.inj hf).symm).symm H locs ls hP hD hS (lv_sub hl [2] rfl)
            · replace hf := it_f c6 hf
              refine lv_iinc (v := (i2_2 + (1 : Int32))) (lv' := [(2, .int (i2_2 + (1 : Int32))), (0, .ref a0), (1, .int x1)]) hx hb dX3_pageOf_33 hl (k := 2) rfl rfl (by decide) rfl (fun ls hl => ?_)
              refine lv_goto (tgt := 16) hx hb dX3_pageOf_36 (by decide) ?_
              exact ih16 (i2_2 + (1 : Int32)) (hi _ (Option.some.inj hf).symm) H locs ls hP hD hS (lv_sub hl [1, 2, 0] rfl)
      obtain ⟨f2_8, hq, hf⟩ := bd1_el hf
      refine hL16 f2_8 (fun z_7 h9 H locs ls hP hD hS hl => ?_) fuel (0 : Int32) hq H locs ls hP hD hS (lv_sub hl [1, 2, 0] rfl)
      subst h9
      refine lv_iload_n hx hb dX3_pageOf_39 rfl (lv_at hl 0 rfl) ?_
      replace hf := Option.some.inj hf
      subst hf
      exact hret H locs ls _ dX3_pageOf_40 hP hD hS
    · replace hf := it_t c1 hf
      refine lv_bipush (v := (-4)) hx hb dX3_pageOf_11 (by decide) ?_
      replace hf := Option.some.inj hf
      subst hf
      exact hret H locs ls _ dX3_pageOf_13 hP hD hS
  refine key _ ?_ _ _ _ hP hD hS hl
  intro H locs ls pc d hP hD hS
  exact W.iret (v := rv) hx hb hr (fun t ht hW => ⟨⟨rfl, by rw [ht]; exact hP, hD⟩, hS.F ht⟩) hS.2.2 d
def p_X5_renew (v_isEmpty : Int32) (v_lane : Int32) (v_length : Int32) (v_elements : (Nat → Int64)) (x1 : Int32) (x2 : Int32) : Option (Int32 × Int32 × Int32 × (Nat → Int64)) :=
  (bd1 (p_J7_fill_d0a16 v_elements 24 (0 : Int64)) fun v_elements_1 => (some ((0 : Int32), x1, x2, v_elements_1)))
set_option maxHeartbeats 4000000 in
set_option maxRecDepth 100000 in
theorem c_X5_renew (l : Launch) (dC : Nat → ClassId) (dI : Nat → Nat → Nat) (cI cJ cP cS : ClassId) (a0 : Nat) (a1 : Nat) (v_isEmpty : Int32) (v_lane : Int32) (v_length : Int32) (v_elements : (Nat → Int64))  (x1 : Int32) (x2 : Int32)  (v_isEmpty_o : Int32) (v_lane_o : Int32) (v_length_o : Int32) (v_elements_o : (Nat → Int64)) (hf : p_X5_renew v_isEmpty v_lane v_length v_elements x1 x2 = some (v_isEmpty_o, v_lane_o, v_length_o, v_elements_o)) : MC l (dC, dI) (tyl cI cJ cP cS) yX5_renew (Cond.code yX5_renew cX5_renew 3 none :: TBG) ({ frames := 1, cells := 0, slots := 0, locals := 24 } : Room) [.ref a0, .int x1, .int x2] [(a0, .inr (5, [.ref a1, .int v_isEmpty, .int v_lane, .int v_length])), (a1, .inl (cJ, 24, .inr (.inl v_elements)))] [(a0, .inr (5, [.ref a1, .int v_isEmpty_o, .int v_lane_o, .int v_length_o])), (a1, .inl (cJ, 24, .inr (.inl v_elements_o)))] none := by
  intro sz
  unfold MPost
  refine Met.ofW (cc := cX5_renew) (maxL := 3) (ret := none) (by decide) rfl ?_
  intro p e s m args below meth c s₁ B hml hv
  obtain ⟨rfl, hsz, hP, hK, hD0, hF⟩ := hv
  have hx := B.exec
  have hb := B.bytes
  have hr := B.returns
  have hT : ∀ w ∈ TBG, w.before _ s = true := fun w h => atoms_spec B.pre w (List.mem_cons_of_mem _ h)
  have hown : s.vm.findClass RX5 = some m.cls := findClass_of_methodNamed B.named
  have hlocks := B.notSynchronized
  subst hsz
  have hD := hD0.self (sz := s.heap.size)
  generalize hAe : va_A [(a0, .inr (5, [.ref a1, .int v_isEmpty, .int v_lane, .int v_length])), (a1, .inl (cJ, 24, .inr (.inl v_elements)))] s.heap.size = A at hD hF ⊢
  have hA : ∀ q : Nat, s.heap.size ≤ q → A q := fun q h => by rw [← hAe]; exact Or.inr h
  have hS : va_S A s.heap s.heap [] := va_S.rf
  have hl := lv_entry ([.ref a0, .int x1, .int x2]) (n := 3) (Nat.le_of_ble_eq_true rfl)
  rw [lg_entry_eq]
  generalize (lg_sl ([.ref a0, .int x1, .int x2]) ++ List.replicate (3 - (lg_sl ([.ref a0, .int x1, .int x2])).length) Slot.unset).toArray = ls at hl ⊢
  have hl : lv_has ls 3 [(0, .ref a0), (1, .int x1), (2, .int x2)] := hl
  generalize ([.ref a0, .int x1, .int x2] : List Value).toArray = args at hT ⊢
  have key : ∀ (Q : State → Prop), (∀ (H : Heap) (locs : List Loc) (ls : Array Slot) (pc : Nat), decode cX5_renew pc = .ok (.return_, 1) → va_P (dC, dI) vwCl [(a0, .inr (5, [.ref a1, .int v_isEmpty_o, .int v_lane_o, .int v_length_o])), (a1, .inl (cJ, 24, .inr (.inl v_elements_o)))] H → va_D A [(a0, .inr (5, [.ref a1, .int v_isEmpty_o, .int v_lane_o, .int v_length_o])), (a1, .inl (cJ, 24, .inr (.inl v_elements_o)))] → va_S A s.heap H locs → W p l e ({ frames := 1, cells := 0, slots := 0, locals := 24 } : Room) s m args below meth c H locs 0 0 Q (F0 m pc ls [])) → ∀ (H : Heap) (locs : List Loc) (ls : Array Slot), va_P (dC, dI) vwCl [(a0, .inr (5, [.ref a1, .int v_isEmpty, .int v_lane, .int v_length])), (a1, .inl (cJ, 24, .inr (.inl v_elements)))] H → va_D A [(a0, .inr (5, [.ref a1, .int v_isEmpty, .int v_lane, .int v_length])), (a1, .inl (cJ, 24, .inr (.inl v_elements)))] → va_S A s.heap H locs → lv_has ls 3 [(0, .ref a0), (1, .int x1), (2, .int x2)] → W p l e ({ frames := 1, cells := 0, slots := 0, locals := 24 } : Room) s m args below meth c H locs 0 0 Q (F0 m 0 ls []) := by
    intro Q hret H locs ls hP hD hS hl
    refine lv_aload_n hx hb dX5_renew_0 rfl (lv_at hl 0 rfl) ?_
    refine va_get (D := (dC, dI)) (ci := 5) (v := .ref a1) (C := RX5) (T := TX5) (N := 4) hx hb hT in_X5 hown hK hP 0 rfl rfl 0 (by decide) (hT _ q_fl_X5_9) (fun _ h9 => h9) rfl dX5_renew_1 ?_
    refine lv_lconst (v := 0) hx hb dX5_renew_4 (by decide) ?_
    obtain ⟨v_elements_1, hq2, hf⟩ := bd1_el hf
    refine mc_S (As := [.ref a1, .long (0 : Int64)]) (rest := []) (wr := [(a0, .inr (5, [.ref a1, .int v_isEmpty, .int v_lane, .int v_length]))]) (wn := [(a0, .inr (5, [.ref a1, .int v_isEmpty, .int v_lane, .int v_length])), (a1, .inl (cJ, 24, .inr (.inl v_elements_1)))]) ⟨hx, hb, hml, hown, hT⟩ (c_J7_fill_d0a16 l dC dI cI cJ cP cS a1 v_elements 24 (0 : Int64) v_elements_1 hq2) (va_cwS 2 hT (gdS q_ml_X5_26 q_st_J7_fill_d0a16 q_in_J7 q_co_J7_fill_d0a16) rfl rfl rfl hd_J7_fill_d0a16 ⟨Nat.le_of_ble_eq_true rfl, Nat.le_of_ble_eq_true rfl⟩) hK hF hP hD hS hA [1] [0] [0, 1] rfl (by decide) rfl (by decide) (by decide) rfl (by decide) rfl hl.1 rfl (Nat.le_of_ble_eq_true rfl) dX5_renew_5 ⟨Nat.zero_le _, Nat.zero_le _⟩ (fun H locs hP hD hS => ?_)
    refine W.eq (g2 := F0 m 8 ls []) rfl ?_
    refine lv_aload_n hx hb dX5_renew_8 rfl (lv_at hl 0 rfl) ?_
    refine lv_iconst (v := 0) hx hb dX5_renew_9 (by decide) ?_
    refine va_put (D := (dC, dI)) (ci := 5) (v := .int (0 : Int32)) (ty := .boolean) (C := RX5) (T := TX5) (N := 4) hx hb hT in_X5 tyX5 tyX5_ok nmX5 hown hK hP hD hS 0 rfl rfl 1 (by decide) (hT _ q_fl_X5_15) (fun _ h9 => h9) rfl (tyX5_ok 1 (by decide)) rfl rfl (Nat.le_of_ble_eq_true rfl) dX5_renew_10 (fun H locs hP hD hS => ?_)
    have hP : va_P (dC, dI) vwCl [(a0, .inr (5, [.ref a1, .int (0 : Int32), .int v_lane, .int v_length])), (a1, .inl (cJ, 24, .inr (.inl v_elements_1)))] H := hP
    have hD : va_D A [(a0, .inr (5, [.ref a1, .int (0 : Int32), .int v_lane, .int v_length])), (a1, .inl (cJ, 24, .inr (.inl v_elements_1)))] := hD
    refine lv_aload_n hx hb dX5_renew_13 rfl (lv_at hl 0 rfl) ?_
    refine lv_iload_n hx hb dX5_renew_14 rfl (lv_at hl 1 rfl) ?_
    refine va_put (D := (dC, dI)) (ci := 5) (v := .int x1) (ty := .int) (C := RX5) (T := TX5) (N := 4) hx hb hT in_X5 tyX5 tyX5_ok nmX5 hown hK hP hD hS 0 rfl rfl 2 (by decide) (hT _ q_fl_X5_19) (fun _ h9 => h9) rfl (tyX5_ok 2 (by decide)) rfl rfl (Nat.le_of_ble_eq_true rfl) dX5_renew_15 (fun H locs hP hD hS => ?_)
    have hP : va_P (dC, dI) vwCl [(a0, .inr (5, [.ref a1, .int (0 : Int32), .int x1, .int v_length])), (a1, .inl (cJ, 24, .inr (.inl v_elements_1)))] H := hP
    have hD : va_D A [(a0, .inr (5, [.ref a1, .int (0 : Int32), .int x1, .int v_length])), (a1, .inl (cJ, 24, .inr (.inl v_elements_1)))] := hD
    refine lv_aload_n hx hb dX5_renew_18 rfl (lv_at hl 0 rfl) ?_
    refine lv_iload_n hx hb dX5_renew_19 rfl (lv_at hl 2 rfl) ?_
    refine va_put (D := (dC, dI)) (ci := 5) (v := .int x2) (ty := .int) (C := RX5) (T := TX5) (N := 4) hx hb hT in_X5 tyX5 tyX5_ok nmX5 hown hK hP hD hS 0 rfl rfl 3 (by decide) (hT _ q_fl_X5_23) (fun _ h9 => h9) rfl (tyX5_ok 3 (by decide)) rfl rfl (Nat.le_of_ble_eq_true rfl) dX5_renew_20 (fun H locs hP hD hS => ?_)
    have hP : va_P (dC, dI) vwCl [(a0, .inr (5, [.ref a1, .int (0 : Int32), .int x1, .int x2])), (a1, .inl (cJ, 24, .inr (.inl v_elements_1)))] H := hP
    have hD : va_D A [(a0, .inr (5, [.ref a1, .int (0 : Int32), .int x1, .int x2])), (a1, .inl (cJ, 24, .inr (.inl v_elements_1)))] := hD
    replace hf := Option.some.inj hf
    simp only [Prod.mk.injEq] at hf
    obtain ⟨hf0, hf1, hf2, hf3⟩ := hf
    subst hf0; subst hf1; subst hf2; subst hf3
    exact hret H locs ls _ dX5_renew_23 hP hD hS
  refine key _ ?_ _ _ _ hP hD hS hl
  intro H locs ls pc d hP hD hS
  exact W.vret hx hb hr (fun t ht hW => ⟨⟨rfl, by rw [ht]; exact hP, hD⟩, hS.F ht⟩) hS.2.2 d
def p_X5_isInside (v_length : Int32) (x1 : Int32) (x2 : Int32) : Option (Int32) :=
  (if x1 < (0 : Int32) then (some (0 : Int32)) else (if x2 < (0 : Int32) then (some (0 : Int32)) else (if v_length < x2 then (some (0 : Int32)) else (if (v_length - x2) < x1 then (some (0 : Int32)) else (some (1 : Int32))))))
set_option maxHeartbeats 4000000 in
set_option maxRecDepth 100000 in
theorem c_X5_isInside (l : Launch) (dC : Nat → ClassId) (dI : Nat → Nat → Nat) (cI cJ cP cS : ClassId) (a0 : Nat) (a1 : Nat) (v_isEmpty : Int32) (v_lane : Int32) (v_length : Int32)  (x1 : Int32) (x2 : Int32) (rv : Int32)  (hf : p_X5_isInside v_length x1 x2 = some rv) : MC l (dC, dI) (tyl cI cJ cP cS) yX5_isInside (Cond.code yX5_isInside cX5_isInside 3 (some .boolean) :: TBG) ({ frames := 0, cells := 0, slots := 0, locals := 0 } : Room) [.ref a0, .int x1, .int x2] [(a0, .inr (5, [.ref a1, .int v_isEmpty, .int v_lane, .int v_length]))] [(a0, .inr (5, [.ref a1, .int v_isEmpty, .int v_lane, .int v_length]))] (some (.int rv)) := by
  intro sz
  unfold MPost
  refine Met.ofW (cc := cX5_isInside) (maxL := 3) (ret := (some .boolean)) (by decide) rfl ?_
  intro p e s m args below meth c s₁ B hml hv
  obtain ⟨rfl, hsz, hP, hK, hD0, hF⟩ := hv
  have hx := B.exec
  have hb := B.bytes
  have hr := B.returns
  have hT : ∀ w ∈ TBG, w.before _ s = true := fun w h => atoms_spec B.pre w (List.mem_cons_of_mem _ h)
  have hown : s.vm.findClass RX5 = some m.cls := findClass_of_methodNamed B.named
  have hlocks := B.notSynchronized
  subst hsz
  have hD := hD0.self (sz := s.heap.size)
  generalize hAe : va_A [(a0, .inr (5, [.ref a1, .int v_isEmpty, .int v_lane, .int v_length]))] s.heap.size = A at hD hF ⊢
  have hA : ∀ q : Nat, s.heap.size ≤ q → A q := fun q h => by rw [← hAe]; exact Or.inr h
  have hS : va_S A s.heap s.heap [] := va_S.rf
  have hl := lv_entry ([.ref a0, .int x1, .int x2]) (n := 3) (Nat.le_of_ble_eq_true rfl)
  rw [lg_entry_eq]
  generalize (lg_sl ([.ref a0, .int x1, .int x2]) ++ List.replicate (3 - (lg_sl ([.ref a0, .int x1, .int x2])).length) Slot.unset).toArray = ls at hl ⊢
  have hl : lv_has ls 3 [(0, .ref a0), (1, .int x1), (2, .int x2)] := hl
  generalize ([.ref a0, .int x1, .int x2] : List Value).toArray = args at hT ⊢
  have key : ∀ (Q : State → Prop), (∀ (H : Heap) (locs : List Loc) (ls : Array Slot) (pc : Nat), decode cX5_isInside pc = .ok (.ireturn, 1) → narrow .boolean (.int rv) = .int rv → va_P (dC, dI) vwCl [(a0, .inr (5, [.ref a1, .int v_isEmpty, .int v_lane, .int v_length]))] H → va_D A [(a0, .inr (5, [.ref a1, .int v_isEmpty, .int v_lane, .int v_length]))] → va_S A s.heap H locs → W p l e ({ frames := 0, cells := 0, slots := 0, locals := 0 } : Room) s m args below meth c H locs 0 0 Q (F0 m pc ls [.int rv])) → ∀ (H : Heap) (locs : List Loc) (ls : Array Slot), va_P (dC, dI) vwCl [(a0, .inr (5, [.ref a1, .int v_isEmpty, .int v_lane, .int v_length]))] H → va_D A [(a0, .inr (5, [.ref a1, .int v_isEmpty, .int v_lane, .int v_length]))] → va_S A s.heap H locs → lv_has ls 3 [(0, .ref a0), (1, .int x1), (2, .int x2)] → W p l e ({ frames := 0, cells := 0, slots := 0, locals := 0 } : Room) s m args below meth c H locs 0 0 Q (F0 m 0 ls []) := by
    intro Q hret H locs ls hP hD hS hl
    refine lv_iload_n hx hb dX5_isInside_0 rfl (lv_at hl 1 rfl) ?_
    refine lv_if_lt (tgt := 30) hx hb dX5_isInside_1 (by decide) (fun c1 => ?_) (fun c1 => ?_)
    · replace hf := it_t c1 hf
      refine lv_iconst (v := 0) hx hb dX5_isInside_30 (by decide) ?_
      replace hf := Option.some.inj hf
      subst hf
      exact hret H locs ls _ dX5_isInside_31 rfl hP hD hS
    · replace hf := it_f c1 hf
      refine lv_iload_n hx hb dX5_isInside_4 rfl (lv_at hl 2 rfl) ?_
      refine lv_if_lt (tgt := 30) hx hb dX5_isInside_5 (by decide) (fun c2 => ?_) (fun c2 => ?_)
      · replace hf := it_t c2 hf
        refine lv_iconst (v := 0) hx hb dX5_isInside_30 (by decide) ?_
        replace hf := Option.some.inj hf
        subst hf
        exact hret H locs ls _ dX5_isInside_31 rfl hP hD hS
      · replace hf := it_f c2 hf
        refine lv_iload_n hx hb dX5_isInside_8 rfl (lv_at hl 2 rfl) ?_
        refine lv_aload_n hx hb dX5_isInside_9 rfl (lv_at hl 0 rfl) ?_
        refine va_get (D := (dC, dI)) (ci := 5) (v := .int v_length) (C := RX5) (T := TX5) (N := 4) hx hb hT in_X5 hown hK hP 0 rfl rfl 3 (by decide) (hT _ q_fl_X5_23) (fun _ h9 => h9) rfl dX5_isInside_10 ?_
        refine lv_icmp_gt (tgt := 30) hx hb dX5_isInside_13 (by decide) (fun c3 => ?_) (fun c3 => ?_)
        · replace hf := it_t c3 hf
          refine lv_iconst (v := 0) hx hb dX5_isInside_30 (by decide) ?_
          replace hf := Option.some.inj hf
          subst hf
          exact hret H locs ls _ dX5_isInside_31 rfl hP hD hS
        · replace hf := it_f c3 hf
          refine lv_iload_n hx hb dX5_isInside_16 rfl (lv_at hl 1 rfl) ?_
          refine lv_aload_n hx hb dX5_isInside_17 rfl (lv_at hl 0 rfl) ?_
          refine va_get (D := (dC, dI)) (ci := 5) (v := .int v_length) (C := RX5) (T := TX5) (N := 4) hx hb hT in_X5 hown hK hP 0 rfl rfl 3 (by decide) (hT _ q_fl_X5_23) (fun _ h9 => h9) rfl dX5_isInside_18 ?_
          refine lv_iload_n hx hb dX5_isInside_21 rfl (lv_at hl 2 rfl) ?_
          refine lv_isub hx hb dX5_isInside_22 ?_
          refine lv_icmp_gt (tgt := 30) hx hb dX5_isInside_23 (by decide) (fun c4 => ?_) (fun c4 => ?_)
          · replace hf := it_t c4 hf
            refine lv_iconst (v := 0) hx hb dX5_isInside_30 (by decide) ?_
            replace hf := Option.some.inj hf
            subst hf
            exact hret H locs ls _ dX5_isInside_31 rfl hP hD hS
          · replace hf := it_f c4 hf
            refine lv_iconst (v := 1) hx hb dX5_isInside_26 (by decide) ?_
            refine lv_goto (tgt := 31) hx hb dX5_isInside_27 (by decide) ?_
            replace hf := Option.some.inj hf
            subst hf
            exact hret H locs ls _ dX5_isInside_31 rfl hP hD hS
  refine key _ ?_ _ _ _ hP hD hS hl
  intro H locs ls pc d hz hP hD hS
  exact W.zret (v := rv) hx hb hr hz (fun t ht hW => ⟨⟨rfl, by rw [ht]; exact hP, hD⟩, hS.F ht⟩) hS.2.2 d
def p_X5_put (v_lane : Int32) (v_elements : (Nat → Int64)) (x1 : Int32) (x2 : Int64) : Option ((Nat → Int64)) :=
  (if v_lane = (0 : Int32) then (gd (ib x1 24) (some (vp_updL v_elements (tn x1) (Int32.toInt64 (i2b (Int64.toInt32 x2)))))) else (if v_lane = (1 : Int32) then (gd (ib x1 24) (some (vp_updL v_elements (tn x1) (Int32.toInt64 (i2s (Int64.toInt32 x2)))))) else (if v_lane = (2 : Int32) then (gd (ib x1 24) (some (vp_updL v_elements (tn x1) (Int32.toInt64 (Int64.toInt32 x2))))) else (gd (ib x1 24) (some (vp_updL v_elements (tn x1) x2))))))
set_option maxHeartbeats 4000000 in
set_option maxRecDepth 100000 in
theorem c_X5_put (l : Launch) (dC : Nat → ClassId) (dI : Nat → Nat → Nat) (cI cJ cP cS : ClassId) (a0 : Nat) (a1 : Nat) (v_isEmpty : Int32) (v_lane : Int32) (v_length : Int32) (v_elements : (Nat → Int64))  (x1 : Int32) (x2 : Int64)  (v_elements_o : (Nat → Int64)) (hf : p_X5_put v_lane v_elements x1 x2 = some v_elements_o) : MC l (dC, dI) (tyl cI cJ cP cS) yX5_put (Cond.code yX5_put cX5_put 4 none :: TBG) ({ frames := 0, cells := 0, slots := 0, locals := 0 } : Room) [.ref a0, .int x1, .long x2] [(a0, .inr (5, [.ref a1, .int v_isEmpty, .int v_lane, .int v_length])), (a1, .inl (cJ, 24, .inr (.inl v_elements)))] [(a0, .inr (5, [.ref a1, .int v_isEmpty, .int v_lane, .int v_length])), (a1, .inl (cJ, 24, .inr (.inl v_elements_o)))] none := by
  intro sz
  unfold MPost
  refine Met.ofW (cc := cX5_put) (maxL := 4) (ret := none) (by decide) rfl ?_
  intro p e s m args below meth c s₁ B hml hv
  obtain ⟨rfl, hsz, hP, hK, hD0, hF⟩ := hv
  have hx := B.exec
  have hb := B.bytes
  have hr := B.returns
  have hT : ∀ w ∈ TBG, w.before _ s = true := fun w h => atoms_spec B.pre w (List.mem_cons_of_mem _ h)
  have hown : s.vm.findClass RX5 = some m.cls := findClass_of_methodNamed B.named
  have hlocks := B.notSynchronized
  subst hsz
  have hD := hD0.self (sz := s.heap.size)
  generalize hAe : va_A [(a0, .inr (5, [.ref a1, .int v_isEmpty, .int v_lane, .int v_length])), (a1, .inl (cJ, 24, .inr (.inl v_elements)))] s.heap.size = A at hD hF ⊢
  have hA : ∀ q : Nat, s.heap.size ≤ q → A q := fun q h => by rw [← hAe]; exact Or.inr h
  have hS : va_S A s.heap s.heap [] := va_S.rf
  have hl := lv_entry ([.ref a0, .int x1, .long x2]) (n := 4) (Nat.le_of_ble_eq_true rfl)
  rw [lg_entry_eq]
  generalize (lg_sl ([.ref a0, .int x1, .long x2]) ++ List.replicate (4 - (lg_sl ([.ref a0, .int x1, .long x2])).length) Slot.unset).toArray = ls at hl ⊢
  have hl : lv_has ls 4 [(0, .ref a0), (1, .int x1), (2, .long x2)] := hl
  generalize ([.ref a0, .int x1, .long x2] : List Value).toArray = args at hT ⊢
  have key : ∀ (Q : State → Prop), (∀ (H : Heap) (locs : List Loc) (ls : Array Slot) (pc : Nat), decode cX5_put pc = .ok (.return_, 1) → va_P (dC, dI) vwCl [(a0, .inr (5, [.ref a1, .int v_isEmpty, .int v_lane, .int v_length])), (a1, .inl (cJ, 24, .inr (.inl v_elements_o)))] H → va_D A [(a0, .inr (5, [.ref a1, .int v_isEmpty, .int v_lane, .int v_length])), (a1, .inl (cJ, 24, .inr (.inl v_elements_o)))] → va_S A s.heap H locs → W p l e ({ frames := 0, cells := 0, slots := 0, locals := 0 } : Room) s m args below meth c H locs 0 0 Q (F0 m pc ls [])) → ∀ (H : Heap) (locs : List Loc) (ls : Array Slot), va_P (dC, dI) vwCl [(a0, .inr (5, [.ref a1, .int v_isEmpty, .int v_lane, .int v_length])), (a1, .inl (cJ, 24, .inr (.inl v_elements)))] H → va_D A [(a0, .inr (5, [.ref a1, .int v_isEmpty, .int v_lane, .int v_length])), (a1, .inl (cJ, 24, .inr (.inl v_elements)))] → va_S A s.heap H locs → lv_has ls 4 [(0, .ref a0), (1, .int x1), (2, .long x2)] → W p l e ({ frames := 0, cells := 0, slots := 0, locals := 0 } : Room) s m args below meth c H locs 0 0 Q (F0 m 0 ls []) := by
    intro Q hret H locs ls hP hD hS hl
    refine lv_aload_n hx hb dX5_put_0 rfl (lv_at hl 0 rfl) ?_
    refine va_get (D := (dC, dI)) (ci := 5) (v := .int v_lane) (C := RX5) (T := TX5) (N := 4) hx hb hT in_X5 hown hK hP 0 rfl rfl 2 (by decide) (hT _ q_fl_X5_19) (fun _ h9 => h9) rfl dX5_put_1 ?_
    by_cases c1 : v_lane = (0 : Int32)
    · replace hf := it_t c1 hf
      refine lv_tableIn (tgt := 32) (off := 28) hx hb dX5_put_4 (by rw [c1]; decide) (by rw [c1]; decide) (by rw [c1]; rfl) (by decide) ?_
      refine lv_aload_n hx hb dX5_put_32 rfl (lv_at hl 0 rfl) ?_
      refine va_get (D := (dC, dI)) (ci := 5) (v := .ref a1) (C := RX5) (T := TX5) (N := 4) hx hb hT in_X5 hown hK hP 0 rfl rfl 0 (by decide) (hT _ q_fl_X5_9) (fun _ h9 => h9) rfl dX5_put_33 ?_
      refine lv_iload_n hx hb dX5_put_36 rfl (lv_at hl 1 rfl) ?_
      refine lv_lload_n hx hb dX5_put_37 rfl (lv_at hl 2 rfl) ?_
      refine lv_l2i hx hb dX5_put_38 rfl ?_
      refine lv_i2b hx hb dX5_put_39 rfl ?_
      refine lv_i2l hx hb dX5_put_40 rfl ?_
      obtain ⟨h2, hf⟩ := gd_el hf
      refine la_st hx hb hK hP hD hS 1 1 rfl rfl (ib_in h2) (j := (tn x1)) rfl dX5_put_41 (fun H locs hP hD hS => ?_)
      have hP : va_P (dC, dI) vwCl [(a0, .inr (5, [.ref a1, .int v_isEmpty, .int v_lane, .int v_length])), (a1, .inl (cJ, 24, .inr (.inl (vp_updL v_elements (tn x1) (Int32.toInt64 (i2b (Int64.toInt32 x2)))))))] H := hP
      have hD : va_D A [(a0, .inr (5, [.ref a1, .int v_isEmpty, .int v_lane, .int v_length])), (a1, .inl (cJ, 24, .inr (.inl (vp_updL v_elements (tn x1) (Int32.toInt64 (i2b (Int64.toInt32 x2)))))))] := hD
      refine lv_goto (tgt := 77) hx hb dX5_put_42 (by decide) ?_
      replace hf := Option.some.inj hf
      subst hf
      exact hret H locs ls _ dX5_put_77 hP hD hS
    replace hf := it_f c1 hf
    by_cases c3 : v_lane = (1 : Int32)
    · replace hf := it_t c3 hf
      refine lv_tableIn (tgt := 45) (off := 41) hx hb dX5_put_4 (by rw [c3]; decide) (by rw [c3]; decide) (by rw [c3]; rfl) (by decide) ?_
      refine lv_aload_n hx hb dX5_put_45 rfl (lv_at hl 0 rfl) ?_
      refine va_get (D := (dC, dI)) (ci := 5) (v := .ref a1) (C := RX5) (T := TX5) (N := 4) hx hb hT in_X5 hown hK hP 0 rfl rfl 0 (by decide) (hT _ q_fl_X5_9) (fun _ h9 => h9) rfl dX5_put_46 ?_
      refine lv_iload_n hx hb dX5_put_49 rfl (lv_at hl 1 rfl) ?_
      refine lv_lload_n hx hb dX5_put_50 rfl (lv_at hl 2 rfl) ?_
      refine lv_l2i hx hb dX5_put_51 rfl ?_
      refine lv_i2s hx hb dX5_put_52 rfl ?_
      refine lv_i2l hx hb dX5_put_53 rfl ?_
      obtain ⟨h4, hf⟩ := gd_el hf
      refine la_st hx hb hK hP hD hS 1 1 rfl rfl (ib_in h4) (j := (tn x1)) rfl dX5_put_54 (fun H locs hP hD hS => ?_)
      have hP : va_P (dC, dI) vwCl [(a0, .inr (5, [.ref a1, .int v_isEmpty, .int v_lane, .int v_length])), (a1, .inl (cJ, 24, .inr (.inl (vp_updL v_elements (tn x1) (Int32.toInt64 (i2s (Int64.toInt32 x2)))))))] H := hP
      have hD : va_D A [(a0, .inr (5, [.ref a1, .int v_isEmpty, .int v_lane, .int v_length])), (a1, .inl (cJ, 24, .inr (.inl (vp_updL v_elements (tn x1) (Int32.toInt64 (i2s (Int64.toInt32 x2)))))))] := hD
      refine lv_goto (tgt := 77) hx hb dX5_put_55 (by decide) ?_
      replace hf := Option.some.inj hf
      subst hf
      exact hret H locs ls _ dX5_put_77 hP hD hS
    replace hf := it_f c3 hf
    by_cases c5 : v_lane = (2 : Int32)
    · replace hf := it_t c5 hf
      refine lv_tableIn (tgt := 58) (off := 54) hx hb dX5_put_4 (by rw [c5]; decide) (by rw [c5]; decide) (by rw [c5]; rfl) (by decide) ?_
      refine lv_aload_n hx hb dX5_put_58 rfl (lv_at hl 0 rfl) ?_
      refine va_get (D := (dC, dI)) (ci := 5) (v := .ref a1) (C := RX5) (T := TX5) (N := 4) hx hb hT in_X5 hown hK hP 0 rfl rfl 0 (by decide) (hT _ q_fl_X5_9) (fun _ h9 => h9) rfl dX5_put_59 ?_
      refine lv_iload_n hx hb dX5_put_62 rfl (lv_at hl 1 rfl) ?_
      refine lv_lload_n hx hb dX5_put_63 rfl (lv_at hl 2 rfl) ?_
      refine lv_l2i hx hb dX5_put_64 rfl ?_
      refine lv_i2l hx hb dX5_put_65 rfl ?_
      obtain ⟨h6, hf⟩ := gd_el hf
      refine la_st hx hb hK hP hD hS 1 1 rfl rfl (ib_in h6) (j := (tn x1)) rfl dX5_put_66 (fun H locs hP hD hS => ?_)
      have hP : va_P (dC, dI) vwCl [(a0, .inr (5, [.ref a1, .int v_isEmpty, .int v_lane, .int v_length])), (a1, .inl (cJ, 24, .inr (.inl (vp_updL v_elements (tn x1) (Int32.toInt64 (Int64.toInt32 x2))))))] H := hP
      have hD : va_D A [(a0, .inr (5, [.ref a1, .int v_isEmpty, .int v_lane, .int v_length])), (a1, .inl (cJ, 24, .inr (.inl (vp_updL v_elements (tn x1) (Int32.toInt64 (Int64.toInt32 x2))))))] := hD
      refine lv_goto (tgt := 77) hx hb dX5_put_67 (by decide) ?_
      replace hf := Option.some.inj hf
      subst hf
      exact hret H locs ls _ dX5_put_77 hP hD hS
    replace hf := it_f c5 hf
    refine lv_tableOut (tgt := 70) hx hb dX5_put_4 (by have ec1 := ne_ti (n := 0) (by decide) c1; have ec3 := ne_ti (n := 1) (by decide) c3; have ec5 := ne_ti (n := 2) (by decide) c5; omega) (by decide) ?_
    refine lv_aload_n hx hb dX5_put_70 rfl (lv_at hl 0 rfl) ?_
    refine va_get (D := (dC, dI)) (ci := 5) (v := .ref a1) (C := RX5) (T := TX5) (N := 4) hx hb hT in_X5 hown hK hP 0 rfl rfl 0 (by decide) (hT _ q_fl_X5_9) (fun _ h9 => h9) rfl dX5_put_71 ?_
    refine lv_iload_n hx hb dX5_put_74 rfl (lv_at hl 1 rfl) ?_
    refine lv_lload_n hx hb dX5_put_75 rfl (lv_at hl 2 rfl) ?_
    obtain ⟨h7, hf⟩ := gd_el hf
    refine la_st hx hb hK hP hD hS 1 1 rfl rfl (ib_in h7) (j := (tn x1)) rfl dX5_put_76 (fun H locs hP hD hS => ?_)
    have hP : va_P (dC, dI) vwCl [(a0, .inr (5, [.ref a1, .int v_isEmpty, .int v_lane, .int v_length])), (a1, .inl (cJ, 24, .inr (.inl (vp_updL v_elements (tn x1) x2))))] H := hP
    have hD : va_D A [(a0, .inr (5, [.ref a1, .int v_isEmpty, .int v_lane, .int v_length])), (a1, .inl (cJ, 24, .inr (.inl (vp_updL v_elements (tn x1) x2))))] := hD
    replace hf := Option.some.inj hf
    subst hf
    exact hret H locs ls _ dX5_put_77 hP hD hS
  refine key _ ?_ _ _ _ hP hD hS hl
  intro H locs ls pc d hP hD hS
  exact W.vret hx hb hr (fun t ht hW => ⟨⟨rfl, by rw [ht]; exact hP, hD⟩, hS.F ht⟩) hS.2.2 d
def p_X5_addsUpTo_L6 (v_elements : (Nat → Int64)) (x2 : Int32) (x3 : Int32) (s : Int64 × Int32) : Option ((Int64 × Int32) ⊕ ((Int64 × Int32) ⊕ (Int32))) := match s with
  | (i4_1, i6_2) => (if (x2 + x3) ≤ i6_2 then (some (.inr (.inl (i4_1, i6_2)))) else (gd (ib i6_2 24) (if (lg_cmp (v_elements (tn i6_2)) (1 : Int64)) < (0 : Int32) then (some (.inr (.inr (0 : Int32)))) else (gd (ib i6_2 24) (if (lg_cmp (v_elements (tn i6_2)) (12 : Int64)) ≤ (0 : Int32) then (gd (ib i6_2 24) (nm (i4_1 + (v_elements (tn i6_2))) fun x4_9 => (some (.inl (x4_9, (i6_2 + (1 : Int32))))))) else (some (.inr (.inr (0 : Int32)))))))))
def p_X5_addsUpTo (v_elements : (Nat → Int64)) (x1 : Int32) (x2 : Int32) (x3 : Int32) : Option (Int32) :=
  (bdS (loopN (p_X5_addsUpTo_L6 v_elements x2 x3) fuel ((0 : Int64), x2)) (fun q => bd2 (some q) fun f4_13 f6_14 => (if (lg_cmp f4_13 (Int32.toInt64 x1)) = (0 : Int32) then (some (1 : Int32)) else (some (0 : Int32)))) (fun q => some q))
set_option maxHeartbeats 4000000 in
set_option maxRecDepth 100000 in
theorem c_X5_addsUpTo (l : Launch) (dC : Nat → ClassId) (dI : Nat → Nat → Nat) (cI cJ cP cS : ClassId) (a0 : Nat) (a1 : Nat) (v_isEmpty : Int32) (v_lane : Int32) (v_length : Int32) (v_elements : (Nat → Int64))  (x1 : Int32) (x2 : Int32) (x3 : Int32) (rv : Int32)  (hf : p_X5_addsUpTo v_elements x1 x2 x3 = some rv) : MC l (dC, dI) (tyl cI cJ cP cS) yX5_addsUpTo (Cond.code yX5_addsUpTo cX5_addsUpTo 7 (some .boolean) :: TBG) ({ frames := 0, cells := 0, slots := 0, locals := 0 } : Room) [.ref a0, .int x1, .int x2, .int x3] [(a0, .inr (5, [.ref a1, .int v_isEmpty, .int v_lane, .int v_length])), (a1, .inl (cJ, 24, .inr (.inl v_elements)))] [(a0, .inr (5, [.ref a1, .int v_isEmpty, .int v_lane, .int v_length])), (a1, .inl (cJ, 24, .inr (.inl v_elements)))] (some (.int rv)) := by
  intro sz
  unfold MPost
  refine Met.ofW (cc := cX5_addsUpTo) (maxL := 7) (ret := (some .boolean)) (by decide) rfl ?_
  intro p e s m args below meth c s₁ B hml hv
  obtain ⟨rfl, hsz, hP, hK, hD0, hF⟩ := hv
  have hx := B.exec
  have hb := B.bytes
  have hr := B.returns
  have hT : ∀ w ∈ TBG, w.before _ s = true := fun w h => atoms_spec B.pre w (List.mem_cons_of_mem _ h)
  have hown : s.vm.findClass RX5 = some m.cls := findClass_of_methodNamed B.named
  have hlocks := B.notSynchronized
  subst hsz
  have hD := hD0.self (sz := s.heap.size)
  generalize hAe : va_A [(a0, .inr (5, [.ref a1, .int v_isEmpty, .int v_lane, .int v_length])), (a1, .inl (cJ, 24, .inr (.inl v_elements)))] s.heap.size = A at hD hF ⊢
  have hA : ∀ q : Nat, s.heap.size ≤ q → A q := fun q h => by rw [← hAe]; exact Or.inr h
  have hS : va_S A s.heap s.heap [] := va_S.rf
  have hl := lv_entry ([.ref a0, .int x1, .int x2, .int x3]) (n := 7) (Nat.le_of_ble_eq_true rfl)
  rw [lg_entry_eq]
  generalize (lg_sl ([.ref a0, .int x1, .int x2, .int x3]) ++ List.replicate (7 - (lg_sl ([.ref a0, .int x1, .int x2, .int x3])).length) Slot.unset).toArray = ls at hl ⊢
  have hl : lv_has ls 7 [(0, .ref a0), (1, .int x1), (2, .int x2), (3, .int x3)] := hl
  generalize ([.ref a0, .int x1, .int x2, .int x3] : List Value).toArray = args at hT ⊢
  have key : ∀ (Q : State → Prop), (∀ (H : Heap) (locs : List Loc) (ls : Array Slot) (pc : Nat), decode cX5_addsUpTo pc = .ok (.ireturn, 1) → narrow .boolean (.int rv) = .int rv → va_P (dC, dI) vwCl [(a0, .inr (5, [.ref a1, .int v_isEmpty, .int v_lane, .int v_length])), (a1, .inl (cJ, 24, .inr (.inl v_elements)))] H → va_D A [(a0, .inr (5, [.ref a1, .int v_isEmpty, .int v_lane, .int v_length])), (a1, .inl (cJ, 24, .inr (.inl v_elements)))] → va_S A s.heap H locs → W p l e ({ frames := 0, cells := 0, slots := 0, locals := 0 } : Room) s m args below meth c H locs 0 0 Q (F0 m pc ls [.int rv])) → ∀ (H : Heap) (locs : List Loc) (ls : Array Slot), va_P (dC, dI) vwCl [(a0, .inr (5, [.ref a1, .int v_isEmpty, .int v_lane, .int v_length])), (a1, .inl (cJ, 24, .inr (.inl v_elements)))] H → va_D A [(a0, .inr (5, [.ref a1, .int v_isEmpty, .int v_lane, .int v_length])), (a1, .inl (cJ, 24, .inr (.inl v_elements)))] → va_S A s.heap H locs → lv_has ls 7 [(0, .ref a0), (1, .int x1), (2, .int x2), (3, .int x3)] → W p l e ({ frames := 0, cells := 0, slots := 0, locals := 0 } : Room) s m args below meth c H locs 0 0 Q (F0 m 0 ls []) := by
    intro Q hret H locs ls hP hD hS hl
    refine lv_lconst (v := 0) hx hb dX5_addsUpTo_0 (by decide) ?_
    refine lv_lstore (lv' := [(4, .long (0 : Int64)), (0, .ref a0), (1, .int x1), (2, .int x2), (3, .int x3)]) hx hb dX5_addsUpTo_1 hl (by decide) rfl (fun ls hl => ?_)
    refine lv_iload_n hx hb dX5_addsUpTo_3 rfl (lv_at hl 3 rfl) ?_
    refine lv_istore (lv' := [(6, .int x2), (4, .long (0 : Int64)), (0, .ref a0), (1, .int x1), (2, .int x2), (3, .int x3)]) hx hb dX5_addsUpTo_4 hl (by decide) rfl (fun ls hl => ?_)
    have hL6 : ∀ (rr : (Int64 × Int32) ⊕ (Int32)), (∀ (z_10 : Int64) (z_11 : Int32), rr = .inl (z_10, z_11) → ∀ (H : Heap) (locs : List Loc) (ls : Array Slot), va_P (dC, dI) vwCl [(a0, .inr (5, [.ref a1, .int v_isEmpty, .int v_lane, .int v_length])), (a1, .inl (cJ, 24, .inr (.inl v_elements)))] H → va_D A [(a0, .inr (5, [.ref a1, .int v_isEmpty, .int v_lane, .int v_length])), (a1, .inl (cJ, 24, .inr (.inl v_elements)))] → va_S A s.heap H locs → lv_has ls 7 [(1, .int x1), (4, .long z_10)] → W p l e ({ frames := 0, cells := 0, slots := 0, locals := 0 } : Room) s m args below meth c H locs 0 0 Q (F0 m 60 ls [])) → (∀ (u_12 : Int32), rr = .inr u_12 → ∀ (H : Heap) (locs : List Loc) (ls : Array Slot) (pc : Nat), decode cX5_addsUpTo pc = .ok (.ireturn, 1) → narrow .boolean (.int u_12) = .int u_12 → va_P (dC, dI) vwCl [(a0, .inr (5, [.ref a1, .int v_isEmpty, .int v_lane, .int v_length])), (a1, .inl (cJ, 24, .inr (.inl v_elements)))] H → va_D A [(a0, .inr (5, [.ref a1, .int v_isEmpty, .int v_lane, .int v_length])), (a1, .inl (cJ, 24, .inr (.inl v_elements)))] → va_S A s.heap H locs → W p l e ({ frames := 0, cells := 0, slots := 0, locals := 0 } : Room) s m args below meth c H locs 0 0 Q (F0 m pc ls [.int u_12])) → ∀ (n : Nat) (i4_1 : Int64) (i6_2 : Int32), loopN (p_X5_addsUpTo_L6 v_elements x2 x3) n (i4_1, i6_2) = some rr → ∀ (H : Heap) (locs : List Loc) (ls : Array Slot), va_P (dC, dI) vwCl [(a0, .inr (5, [.ref a1, .int v_isEmpty, .int v_lane, .int v_length])), (a1, .inl (cJ, 24, .inr (.inl v_elements)))] H → va_D A [(a0, .inr (5, [.ref a1, .int v_isEmpty, .int v_lane, .int v_length])), (a1, .inl (cJ, 24, .inr (.inl v_elements)))] → va_S A s.heap H locs → lv_has ls 7 [(0, .ref a0), (1, .int x1), (2, .int x2), (3, .int x3), (4, .long i4_1), (6, .int i6_2)] → W p l e ({ frames := 0, cells := 0, slots := 0, locals := 0 } : Room) s m args below meth c H locs 0 0 Q (F0 m 6 ls []) := by
      intro rr hk6 hkr6 n
      induction n with
      | zero => intro i4_1 i6_2 hf; cases hf
      | succ n ih6 =>
        intro i4_1 i6_2 hf H locs ls hP hD hS hl
        obtain ⟨o6, hf, hi, he⟩ := loopN_el hf
        refine lv_iload hx hb dX5_addsUpTo_6 (lv_at hl 5 rfl) ?_
        refine lv_iload_n hx hb dX5_addsUpTo_8 rfl (lv_at hl 2 rfl) ?_
        refine lv_iload_n hx hb dX5_addsUpTo_9 rfl (lv_at hl 3 rfl) ?_
        refine lv_iadd hx hb dX5_addsUpTo_10 ?_
        refine lv_icmp_ge (tgt := 60) hx hb dX5_addsUpTo_11 (by decide) (fun c3 => ?_) (fun c3 => ?_)
        · replace hf := it_t c3 hf
          exact hk6 _ _ (he _ (Option.some.inj hf).symm).symm H locs ls hP hD hS (lv_sub hl [1, 4] rfl)
        · replace hf := it_f c3 hf
          refine lv_aload_n hx hb dX5_addsUpTo_14 rfl (lv_at hl 0 rfl) ?_
          refine va_get (D := (dC, dI)) (ci := 5) (v := .ref a1) (C := RX5) (T := TX5) (N := 4) hx hb hT in_X5 hown hK hP 0 rfl rfl 0 (by decide) (hT _ q_fl_X5_9) (fun _ h9 => h9) rfl dX5_addsUpTo_15 ?_
          refine lv_iload hx hb dX5_addsUpTo_18 (lv_at hl 5 rfl) ?_
          obtain ⟨h4, hf⟩ := gd_el hf
          refine la_ld hx hb hK hP 1 1 rfl rfl (ib_in h4) (j := (tn i6_2)) rfl dX5_addsUpTo_20 ?_
          refine lv_lconst (v := 1) hx hb dX5_addsUpTo_21 (by decide) ?_
          refine W.lcmp hx hb dX5_addsUpTo_22 ?_
          refine lv_if_lt (tgt := 40) hx hb dX5_addsUpTo_23 (by decide) (fun c5 => ?_) (fun c5 => ?_)
          · replace hf := it_t c5 hf
            refine lv_iconst (v := 0) hx hb dX5_addsUpTo_40 (by decide) ?_
            exact hkr6 _ (he _ (Option.some.inj hf).symm).symm H locs ls _ dX5_addsUpTo_41 rfl hP hD hS
          · replace hf := it_f c5 hf
            refine lv_aload_n hx hb dX5_addsUpTo_26 rfl (lv_at hl 0 rfl) ?_
            refine va_get (D := (dC, dI)) (ci := 5) (v := .ref a1) (C := RX5) (T := TX5) (N := 4) hx hb hT in_X5 hown hK hP 0 rfl rfl 0 (by decide) (hT _ q_fl_X5_9) (fun _ h9 => h9) rfl dX5_addsUpTo_27 ?_
            refine lv_iload hx hb dX5_addsUpTo_30 (lv_at hl 5 rfl) ?_
            obtain ⟨h6, hf⟩ := gd_el hf
            refine la_ld hx hb hK hP 1 1 rfl rfl (ib_in h6) (j := (tn i6_2)) rfl dX5_addsUpTo_32 ?_
            refine lv_ldc2 hx hb hown (hT _ q_kl_X5_32) dX5_addsUpTo_33 ?_
            refine W.lcmp hx hb dX5_addsUpTo_36 ?_
            refine lv_if_le (tgt := 42) hx hb dX5_addsUpTo_37 (by decide) (fun c7 => ?_) (fun c7 => ?_)
            · replace hf := it_t c7 hf
              refine lv_lload hx hb dX5_addsUpTo_42 (lv_at hl 4 rfl) ?_
              refine lv_aload_n hx hb dX5_addsUpTo_44 rfl (lv_at hl 0 rfl) ?_
              refine va_get (D := (dC, dI)) (ci := 5) (v := .ref a1) (C := RX5) (T := TX5) (N := 4) hx hb hT in_X5 hown hK hP 0 rfl rfl 0 (by decide) (hT _ q_fl_X5_9) (fun _ h9 => h9) rfl dX5_addsUpTo_45 ?_
              refine lv_iload hx hb dX5_addsUpTo_48 (lv_at hl 5 rfl) ?_
              obtain ⟨h8, hf⟩ := gd_el hf
              refine la_ld hx hb hK hP 1 1 rfl rfl (ib_in h8) (j := (tn i6_2)) rfl dX5_addsUpTo_50 ?_
              refine lv_ladd hx hb dX5_addsUpTo_51 ?_
              obtain ⟨x4_9, ex4_9, hf⟩ := nm_el hf
              refine lv_as (congrArg Value.long ex4_9) ?_
              refine lv_lstore (lv' := [(4, .long x4_9), (0, .ref a0), (1, .int x1), (2, .int x2), (3, .int x3), (6, .int i6_2)]) hx hb dX5_addsUpTo_52 hl (by decide) rfl (fun ls hl => ?_)
              refine lv_iinc (v := (i6_2 + (1 : Int32))) (lv' := [(6, .int (i6_2 + (1 : Int32))), (4, .long x4_9), (0, .ref a0), (1, .int x1), (2, .int x2), (3, .int x3)]) hx hb dX5_addsUpTo_54 hl (k := 5) rfl rfl (by decide) rfl (fun ls hl => ?_)
              refine lv_goto (tgt := 6) hx hb dX5_addsUpTo_57 (by decide) ?_
              exact ih6 x4_9 (i6_2 + (1 : Int32)) (hi _ (Option.some.inj hf).symm) H locs ls hP hD hS (lv_sub hl [2, 3, 4, 5, 1, 0] rfl)
            · replace hf := it_f c7 hf
              refine lv_iconst (v := 0) hx hb dX5_addsUpTo_40 (by decide) ?_
              exact hkr6 _ (he _ (Option.some.inj hf).symm).symm H locs ls _ dX5_addsUpTo_41 rfl hP hD hS
    rcases bdS_el hf with ⟨q, hq, hf⟩ | ⟨q, hq, hf⟩
    · obtain ⟨f4_13, f6_14, eq9, hf⟩ := bd2_el hf
      cases eq9
      refine hL6 (.inl (f4_13, f6_14)) (fun z_10 z_11 h9 H locs ls hP hD hS hl => ?_) (fun _ h9 => by cases h9) fuel (0 : Int64) x2 hq H locs ls hP hD hS (lv_sub hl [2, 3, 4, 5, 1, 0] rfl)
      replace h9 := Sum.inl.inj h9
      simp only [Prod.mk.injEq] at h9
      obtain ⟨h9_0, h9_1⟩ := h9
      subst h9_0; subst h9_1
      refine lv_lload hx hb dX5_addsUpTo_60 (lv_at hl 1 rfl) ?_
      refine lv_iload_n hx hb dX5_addsUpTo_62 rfl (lv_at hl 0 rfl) ?_
      refine lv_i2l hx hb dX5_addsUpTo_63 rfl ?_
      refine W.lcmp hx hb dX5_addsUpTo_64 ?_
      refine lv_if_ne (tgt := 72) hx hb dX5_addsUpTo_65 (by decide) (fun c15 => ?_) (fun c15 => ?_)
      · replace hf := it_f c15 hf
        refine lv_iconst (v := 0) hx hb dX5_addsUpTo_72 (by decide) ?_
        replace hf := Option.some.inj hf
        subst hf
        exact hret H locs ls _ dX5_addsUpTo_73 rfl hP hD hS
      · replace hf := it_t c15 hf
        refine lv_iconst (v := 1) hx hb dX5_addsUpTo_68 (by decide) ?_
        refine lv_goto (tgt := 73) hx hb dX5_addsUpTo_69 (by decide) ?_
        replace hf := Option.some.inj hf
        subst hf
        exact hret H locs ls _ dX5_addsUpTo_73 rfl hP hD hS
    · refine hL6 (.inr q) (fun _ _ h9 => by cases h9) ?_ fuel (0 : Int64) x2 hq H locs ls hP hD hS (lv_sub hl [2, 3, 4, 5, 1, 0] rfl)
      intro z0 h9
      replace h9 := Sum.inr.inj h9
      subst h9
      cases hf
      exact hret
  refine key _ ?_ _ _ _ hP hD hS hl
  intro H locs ls pc d hz hP hD hS
  exact W.zret (v := rv) hx hb hr hz (fun t ht hW => ⟨⟨rfl, by rw [ht]; exact hP, hD⟩, hS.F ht⟩) hS.2.2 d
def p_X6_append (v_length : Int32) (v_characters : (Nat → Int32)) (x1 : Int32) : Option (Int32 × Int32 × (Nat → Int32)) :=
  (if x1 < (32 : Int32) then (some ((-1 : Int32), v_length, v_characters)) else (if x1 ≤ (126 : Int32) then (if v_length < (90 : Int32) then (gd (ib v_length 90) (some ((v_length + (1 : Int32)), (v_length + (1 : Int32)), (upd v_characters (tn v_length) x1)))) else (some ((-3 : Int32), v_length, v_characters))) else (some ((-1 : Int32), v_length, v_characters))))
set_option maxHeartbeats 4000000 in
set_option maxRecDepth 100000 in
theorem c_X6_append (l : Launch) (dC : Nat → ClassId) (dI : Nat → Nat → Nat) (cI cJ cP cS : ClassId) (a0 : Nat) (a1 : Nat) (a2 : Nat) (v_length : Int32) (v_afterBar : Int32) (v_afterDigit : Int32) (v_characters : (Nat → Int32))  (x1 : Int32) (rv : Int32) (v_length_o : Int32) (v_characters_o : (Nat → Int32)) (hf : p_X6_append v_length v_characters x1 = some (rv, v_length_o, v_characters_o)) : MC l (dC, dI) (tyl cI cJ cP cS) yX6_append (Cond.code yX6_append cX6_append 2 (some .int) :: TBG) ({ frames := 0, cells := 0, slots := 0, locals := 0 } : Room) [.ref a0, .int x1] [(a0, .inr (6, [.ref a1, .int v_length, .ref a2, .int v_afterBar, .int v_afterDigit])), (a1, .inl (cI, 90, .inl v_characters))] [(a0, .inr (6, [.ref a1, .int v_length_o, .ref a2, .int v_afterBar, .int v_afterDigit])), (a1, .inl (cI, 90, .inl v_characters_o))] (some (.int rv)) := by
  intro sz
  unfold MPost
  refine Met.ofW (cc := cX6_append) (maxL := 2) (ret := (some .int)) (by decide) rfl ?_
  intro p e s m args below meth c s₁ B hml hv
  obtain ⟨rfl, hsz, hP, hK, hD0, hF⟩ := hv
  have hx := B.exec
  have hb := B.bytes
  have hr := B.returns
  have hT : ∀ w ∈ TBG, w.before _ s = true := fun w h => atoms_spec B.pre w (List.mem_cons_of_mem _ h)
  have hown : s.vm.findClass RX6 = some m.cls := findClass_of_methodNamed B.named
  have hlocks := B.notSynchronized
  subst hsz
  have hD := hD0.self (sz := s.heap.size)
  generalize hAe : va_A [(a0, .inr (6, [.ref a1, .int v_length, .ref a2, .int v_afterBar, .int v_afterDigit])), (a1, .inl (cI, 90, .inl v_characters))] s.heap.size = A at hD hF ⊢
  have hA : ∀ q : Nat, s.heap.size ≤ q → A q := fun q h => by rw [← hAe]; exact Or.inr h
  have hS : va_S A s.heap s.heap [] := va_S.rf
  have hl := lv_entry ([.ref a0, .int x1]) (n := 2) (Nat.le_of_ble_eq_true rfl)
  rw [lg_entry_eq]
  generalize (lg_sl ([.ref a0, .int x1]) ++ List.replicate (2 - (lg_sl ([.ref a0, .int x1])).length) Slot.unset).toArray = ls at hl ⊢
  have hl : lv_has ls 2 [(0, .ref a0), (1, .int x1)] := hl
  generalize ([.ref a0, .int x1] : List Value).toArray = args at hT ⊢
  have key : ∀ (Q : State → Prop), (∀ (H : Heap) (locs : List Loc) (ls : Array Slot) (pc : Nat), decode cX6_append pc = .ok (.ireturn, 1) → va_P (dC, dI) vwCl [(a0, .inr (6, [.ref a1, .int v_length_o, .ref a2, .int v_afterBar, .int v_afterDigit])), (a1, .inl (cI, 90, .inl v_characters_o))] H → va_D A [(a0, .inr (6, [.ref a1, .int v_length_o, .ref a2, .int v_afterBar, .int v_afterDigit])), (a1, .inl (cI, 90, .inl v_characters_o))] → va_S A s.heap H locs → W p l e ({ frames := 0, cells := 0, slots := 0, locals := 0 } : Room) s m args below meth c H locs 0 0 Q (F0 m pc ls [.int rv])) → ∀ (H : Heap) (locs : List Loc) (ls : Array Slot), va_P (dC, dI) vwCl [(a0, .inr (6, [.ref a1, .int v_length, .ref a2, .int v_afterBar, .int v_afterDigit])), (a1, .inl (cI, 90, .inl v_characters))] H → va_D A [(a0, .inr (6, [.ref a1, .int v_length, .ref a2, .int v_afterBar, .int v_afterDigit])), (a1, .inl (cI, 90, .inl v_characters))] → va_S A s.heap H locs → lv_has ls 2 [(0, .ref a0), (1, .int x1)] → W p l e ({ frames := 0, cells := 0, slots := 0, locals := 0 } : Room) s m args below meth c H locs 0 0 Q (F0 m 0 ls []) := by
    intro Q hret H locs ls hP hD hS hl
    refine lv_iload_n hx hb dX6_append_0 rfl (lv_at hl 1 rfl) ?_
    refine lv_bipush (v := 32) hx hb dX6_append_1 (by decide) ?_
    refine lv_icmp_lt (tgt := 12) hx hb dX6_append_3 (by decide) (fun c1 => ?_) (fun c1 => ?_)
    · replace hf := it_t c1 hf
      refine lv_iconst (v := (-1)) hx hb dX6_append_12 (by decide) ?_
      replace hf := Option.some.inj hf
      simp only [Prod.mk.injEq] at hf
      obtain ⟨hf0, hf1, hf2⟩ := hf
      subst hf0; subst hf1; subst hf2
      exact hret H locs ls _ dX6_append_13 hP hD hS
    · replace hf := it_f c1 hf
      refine lv_iload_n hx hb dX6_append_6 rfl (lv_at hl 1 rfl) ?_
      refine lv_bipush (v := 126) hx hb dX6_append_7 (by decide) ?_
      refine lv_icmp_le (tgt := 14) hx hb dX6_append_9 (by decide) (fun c2 => ?_) (fun c2 => ?_)
      · replace hf := it_t c2 hf
        refine lv_aload_n hx hb dX6_append_14 rfl (lv_at hl 0 rfl) ?_
        refine va_get (D := (dC, dI)) (ci := 6) (v := .int v_length) (C := RX6) (T := TX6) (N := 5) hx hb hT in_X6 hown hK hP 0 rfl rfl 1 (by decide) (hT _ q_fl_X6_15) (fun _ h9 => h9) rfl dX6_append_15 ?_
        refine lv_bipush (v := 90) hx hb dX6_append_18 (by decide) ?_
        refine lv_icmp_lt (tgt := 26) hx hb dX6_append_20 (by decide) (fun c3 => ?_) (fun c3 => ?_)
        · replace hf := it_t c3 hf
          refine lv_aload_n hx hb dX6_append_26 rfl (lv_at hl 0 rfl) ?_
          refine va_get (D := (dC, dI)) (ci := 6) (v := .ref a1) (C := RX6) (T := TX6) (N := 5) hx hb hT in_X6 hown hK hP 0 rfl rfl 0 (by decide) (hT _ q_fl_X6_9) (fun _ h9 => h9) rfl dX6_append_27 ?_
          refine lv_aload_n hx hb dX6_append_30 rfl (lv_at hl 0 rfl) ?_
          refine va_get (D := (dC, dI)) (ci := 6) (v := .int v_length) (C := RX6) (T := TX6) (N := 5) hx hb hT in_X6 hown hK hP 0 rfl rfl 1 (by decide) (hT _ q_fl_X6_15) (fun _ h9 => h9) rfl dX6_append_31 ?_
          refine lv_iload_n hx hb dX6_append_34 rfl (lv_at hl 1 rfl) ?_
          obtain ⟨h4, hf⟩ := gd_el hf
          refine ia_st hx hb hK hP hD hS 1 0 rfl rfl (ib_in h4) (j := (tn v_length)) rfl dX6_append_35 (fun H locs hP hD hS => ?_)
          have hP : va_P (dC, dI) vwCl [(a0, .inr (6, [.ref a1, .int v_length, .ref a2, .int v_afterBar, .int v_afterDigit])), (a1, .inl (cI, 90, .inl (upd v_characters (tn v_length) x1)))] H := hP
          have hD : va_D A [(a0, .inr (6, [.ref a1, .int v_length, .ref a2, .int v_afterBar, .int v_afterDigit])), (a1, .inl (cI, 90, .inl (upd v_characters (tn v_length) x1)))] := hD
          refine lv_aload_n hx hb dX6_append_36 rfl (lv_at hl 0 rfl) ?_
          refine lv_dup hx hb dX6_append_37 rfl ?_
          refine va_get (D := (dC, dI)) (ci := 6) (v := .int v_length) (C := RX6) (T := TX6) (N := 5) hx hb hT in_X6 hown hK hP 0 rfl rfl 1 (by decide) (hT _ q_fl_X6_15) (fun _ h9 => h9) rfl dX6_append_38 ?_
          refine lv_iconst (v := 1) hx hb dX6_append_41 (by decide) ?_
          refine lv_iadd hx hb dX6_append_42 ?_
          refine va_put (D := (dC, dI)) (ci := 6) (v := .int (v_length + (1 : Int32))) (ty := .int) (C := RX6) (T := TX6) (N := 5) hx hb hT in_X6 tyX6 tyX6_ok nmX6 hown hK hP hD hS 0 rfl rfl 1 (by decide) (hT _ q_fl_X6_15) (fun _ h9 => h9) rfl (tyX6_ok 1 (by decide)) rfl rfl (Nat.le_of_ble_eq_true rfl) dX6_append_43 (fun H locs hP hD hS => ?_)
          have hP : va_P (dC, dI) vwCl [(a0, .inr (6, [.ref a1, .int (v_length + (1 : Int32)), .ref a2, .int v_afterBar, .int v_afterDigit])), (a1, .inl (cI, 90, .inl (upd v_characters (tn v_length) x1)))] H := hP
          have hD : va_D A [(a0, .inr (6, [.ref a1, .int (v_length + (1 : Int32)), .ref a2, .int v_afterBar, .int v_afterDigit])), (a1, .inl (cI, 90, .inl (upd v_characters (tn v_length) x1)))] := hD
          refine lv_aload_n hx hb dX6_append_46 rfl (lv_at hl 0 rfl) ?_
          refine va_get (D := (dC, dI)) (ci := 6) (v := .int (v_length + (1 : Int32))) (C := RX6) (T := TX6) (N := 5) hx hb hT in_X6 hown hK hP 0 rfl rfl 1 (by decide) (hT _ q_fl_X6_15) (fun _ h9 => h9) rfl dX6_append_47 ?_
          replace hf := Option.some.inj hf
          simp only [Prod.mk.injEq] at hf
          obtain ⟨hf0, hf1, hf2⟩ := hf
          subst hf0; subst hf1; subst hf2
          exact hret H locs ls _ dX6_append_50 hP hD hS
        · replace hf := it_f c3 hf
          refine lv_bipush (v := (-3)) hx hb dX6_append_23 (by decide) ?_
          replace hf := Option.some.inj hf
          simp only [Prod.mk.injEq] at hf
          obtain ⟨hf0, hf1, hf2⟩ := hf
          subst hf0; subst hf1; subst hf2
          exact hret H locs ls _ dX6_append_25 hP hD hS
      · replace hf := it_f c2 hf
        refine lv_iconst (v := (-1)) hx hb dX6_append_12 (by decide) ?_
        replace hf := Option.some.inj hf
        simp only [Prod.mk.injEq] at hf
        obtain ⟨hf0, hf1, hf2⟩ := hf
        subst hf0; subst hf1; subst hf2
        exact hret H locs ls _ dX6_append_13 hP hD hS
  refine key _ ?_ _ _ _ hP hD hS hl
  intro H locs ls pc d hP hD hS
  exact W.iret (v := rv) hx hb hr (fun t ht hW => ⟨⟨rfl, by rw [ht]; exact hP, hD⟩, hS.F ht⟩) hS.2.2 d
def p_X6_acceptsLine_B12_1 (v_cells : (Nat → Int32)) (x1 : Int32) (w0_1 : Int32) : Option (Int32 × Int32 × Int32 × (Nat → Int32)) :=
  (bd2 (p_X4_addLine v_cells x1 w0_1) fun r_2 v_cells_3 => (if r_2 < (0 : Int32) then (some ((0 : Int32), (0 : Int32), (0 : Int32), v_cells_3)) else (some ((1 : Int32), (0 : Int32), (0 : Int32), v_cells_3))))
def p_X6_acceptsLine (v_afterBar : Int32) (v_afterDigit : Int32) (v_cells : (Nat → Int32)) (x1 : Int32) : Option (Int32 × Int32 × Int32 × (Nat → Int32)) :=
  (if v_afterBar = (0 : Int32) then (p_X6_acceptsLine_B12_1 v_cells x1 (0 : Int32)) else (p_X6_acceptsLine_B12_1 v_cells x1 (1 : Int32)))
set_option maxHeartbeats 4000000 in
set_option maxRecDepth 100000 in
theorem c_X6_acceptsLine (l : Launch) (dC : Nat → ClassId) (dI : Nat → Nat → Nat) (cI cJ cP cS : ClassId) (a0 : Nat) (a1 : Nat) (a2 : Nat) (a3 : Nat) (v_length : Int32) (v_afterBar : Int32) (v_afterDigit : Int32) (v_cells : (Nat → Int32))  (x1 : Int32) (rv : Int32) (v_afterBar_o : Int32) (v_afterDigit_o : Int32) (v_cells_o : (Nat → Int32)) (hf : p_X6_acceptsLine v_afterBar v_afterDigit v_cells x1 = some (rv, v_afterBar_o, v_afterDigit_o, v_cells_o)) : MC l (dC, dI) (tyl cI cJ cP cS) yX6_acceptsLine (Cond.code yX6_acceptsLine cX6_acceptsLine 3 (some .boolean) :: TBG) ({ frames := 2, cells := 0, slots := 0, locals := 43 } : Room) [.ref a0, .int x1] [(a0, .inr (6, [.ref a1, .int v_length, .ref a2, .int v_afterBar, .int v_afterDigit])), (a2, .inr (4, [.ref a3])), (a3, .inl (cI, 117, .inl v_cells))] [(a0, .inr (6, [.ref a1, .int v_length, .ref a2, .int v_afterBar_o, .int v_afterDigit_o])), (a2, .inr (4, [.ref a3])), (a3, .inl (cI, 117, .inl v_cells_o))] (some (.int rv)) := by
  intro sz
  unfold MPost
  refine Met.ofW (cc := cX6_acceptsLine) (maxL := 3) (ret := (some .boolean)) (by decide) rfl ?_
  intro p e s m args below meth c s₁ B hml hv
  obtain ⟨rfl, hsz, hP, hK, hD0, hF⟩ := hv
  have hx := B.exec
  have hb := B.bytes
  have hr := B.returns
  have hT : ∀ w ∈ TBG, w.before _ s = true := fun w h => atoms_spec B.pre w (List.mem_cons_of_mem _ h)
  have hown : s.vm.findClass RX6 = some m.cls := findClass_of_methodNamed B.named
  have hlocks := B.notSynchronized
  subst hsz
  have hD := hD0.self (sz := s.heap.size)
  generalize hAe : va_A [(a0, .inr (6, [.ref a1, .int v_length, .ref a2, .int v_afterBar, .int v_afterDigit])), (a2, .inr (4, [.ref a3])), (a3, .inl (cI, 117, .inl v_cells))] s.heap.size = A at hD hF ⊢
  have hA : ∀ q : Nat, s.heap.size ≤ q → A q := fun q h => by rw [← hAe]; exact Or.inr h
  have hS : va_S A s.heap s.heap [] := va_S.rf
  have hl := lv_entry ([.ref a0, .int x1]) (n := 3) (Nat.le_of_ble_eq_true rfl)
  rw [lg_entry_eq]
  generalize (lg_sl ([.ref a0, .int x1]) ++ List.replicate (3 - (lg_sl ([.ref a0, .int x1])).length) Slot.unset).toArray = ls at hl ⊢
  have hl : lv_has ls 3 [(0, .ref a0), (1, .int x1)] := hl
  generalize ([.ref a0, .int x1] : List Value).toArray = args at hT ⊢
  have key : ∀ (Q : State → Prop), (∀ (H : Heap) (locs : List Loc) (ls : Array Slot) (pc : Nat), decode cX6_acceptsLine pc = .ok (.ireturn, 1) → narrow .boolean (.int rv) = .int rv → va_P (dC, dI) vwCl [(a0, .inr (6, [.ref a1, .int v_length, .ref a2, .int v_afterBar_o, .int v_afterDigit_o])), (a2, .inr (4, [.ref a3])), (a3, .inl (cI, 117, .inl v_cells_o))] H → va_D A [(a0, .inr (6, [.ref a1, .int v_length, .ref a2, .int v_afterBar_o, .int v_afterDigit_o])), (a2, .inr (4, [.ref a3])), (a3, .inl (cI, 117, .inl v_cells_o))] → va_S A s.heap H locs → W p l e ({ frames := 2, cells := 0, slots := 0, locals := 43 } : Room) s m args below meth c H locs 0 0 Q (F0 m pc ls [.int rv])) → ∀ (H : Heap) (locs : List Loc) (ls : Array Slot), va_P (dC, dI) vwCl [(a0, .inr (6, [.ref a1, .int v_length, .ref a2, .int v_afterBar, .int v_afterDigit])), (a2, .inr (4, [.ref a3])), (a3, .inl (cI, 117, .inl v_cells))] H → va_D A [(a0, .inr (6, [.ref a1, .int v_length, .ref a2, .int v_afterBar, .int v_afterDigit])), (a2, .inr (4, [.ref a3])), (a3, .inl (cI, 117, .inl v_cells))] → va_S A s.heap H locs → lv_has ls 3 [(0, .ref a0), (1, .int x1)] → W p l e ({ frames := 2, cells := 0, slots := 0, locals := 43 } : Room) s m args below meth c H locs 0 0 Q (F0 m 0 ls []) := by
    intro Q hret H locs ls hP hD hS hl
    refine lv_aload_n hx hb dX6_acceptsLine_0 rfl (lv_at hl 0 rfl) ?_
    refine va_get (D := (dC, dI)) (ci := 6) (v := .int v_afterBar) (C := RX6) (T := TX6) (N := 5) hx hb hT in_X6 hown hK hP 0 rfl rfl 3 (by decide) (hT _ q_fl_X6_29) (fun _ h9 => h9) rfl dX6_acceptsLine_1 ?_
    have hB12_1 : ∀ (w0_1 : Int32), p_X6_acceptsLine_B12_1 v_cells x1 w0_1 = some (rv, v_afterBar_o, v_afterDigit_o, v_cells_o) → ∀ (H : Heap) (locs : List Loc) (ls : Array Slot), va_P (dC, dI) vwCl [(a0, .inr (6, [.ref a1, .int v_length, .ref a2, .int v_afterBar, .int v_afterDigit])), (a2, .inr (4, [.ref a3])), (a3, .inl (cI, 117, .inl v_cells))] H → va_D A [(a0, .inr (6, [.ref a1, .int v_length, .ref a2, .int v_afterBar, .int v_afterDigit])), (a2, .inr (4, [.ref a3])), (a3, .inl (cI, 117, .inl v_cells))] → va_S A s.heap H locs → lv_has ls 3 [(0, .ref a0), (1, .int x1)] → W p l e ({ frames := 2, cells := 0, slots := 0, locals := 43 } : Room) s m args below meth c H locs 0 0 Q (F0 m 12 ls [.int w0_1]) := by
      intro w0_1 hf H locs ls hP hD hS hl
      refine lv_istore_n (lv' := [(2, .int w0_1), (0, .ref a0), (1, .int x1)]) hx hb dX6_acceptsLine_12 rfl hl (by decide) rfl (fun ls hl => ?_)
      refine lv_aload_n hx hb dX6_acceptsLine_13 rfl (lv_at hl 1 rfl) ?_
      refine lv_iconst (v := 0) hx hb dX6_acceptsLine_14 (by decide) ?_
      refine va_put (D := (dC, dI)) (ci := 6) (v := .int (0 : Int32)) (ty := .boolean) (C := RX6) (T := TX6) (N := 5) hx hb hT in_X6 tyX6 tyX6_ok nmX6 hown hK hP hD hS 0 rfl rfl 3 (by decide) (hT _ q_fl_X6_29) (fun _ h9 => h9) rfl (tyX6_ok 3 (by decide)) rfl rfl (Nat.le_of_ble_eq_true rfl) dX6_acceptsLine_15 (fun H locs hP hD hS => ?_)
      have hP : va_P (dC, dI) vwCl [(a0, .inr (6, [.ref a1, .int v_length, .ref a2, .int (0 : Int32), .int v_afterDigit])), (a2, .inr (4, [.ref a3])), (a3, .inl (cI, 117, .inl v_cells))] H := hP
      have hD : va_D A [(a0, .inr (6, [.ref a1, .int v_length, .ref a2, .int (0 : Int32), .int v_afterDigit])), (a2, .inr (4, [.ref a3])), (a3, .inl (cI, 117, .inl v_cells))] := hD
      refine lv_aload_n hx hb dX6_acceptsLine_18 rfl (lv_at hl 1 rfl) ?_
      refine lv_iconst (v := 0) hx hb dX6_acceptsLine_19 (by decide) ?_
      refine va_put (D := (dC, dI)) (ci := 6) (v := .int (0 : Int32)) (ty := .boolean) (C := RX6) (T := TX6) (N := 5) hx hb hT in_X6 tyX6 tyX6_ok nmX6 hown hK hP hD hS 0 rfl rfl 4 (by decide) (hT _ q_fl_X6_33) (fun _ h9 => h9) rfl (tyX6_ok 4 (by decide)) rfl rfl (Nat.le_of_ble_eq_true rfl) dX6_acceptsLine_20 (fun H locs hP hD hS => ?_)
      have hP : va_P (dC, dI) vwCl [(a0, .inr (6, [.ref a1, .int v_length, .ref a2, .int (0 : Int32), .int (0 : Int32)])), (a2, .inr (4, [.ref a3])), (a3, .inl (cI, 117, .inl v_cells))] H := hP
      have hD : va_D A [(a0, .inr (6, [.ref a1, .int v_length, .ref a2, .int (0 : Int32), .int (0 : Int32)])), (a2, .inr (4, [.ref a3])), (a3, .inl (cI, 117, .inl v_cells))] := hD
      refine lv_aload_n hx hb dX6_acceptsLine_23 rfl (lv_at hl 1 rfl) ?_
      refine va_get (D := (dC, dI)) (ci := 6) (v := .ref a2) (C := RX6) (T := TX6) (N := 5) hx hb hT in_X6 hown hK hP 0 rfl rfl 2 (by decide) (hT _ q_fl_X6_22) (fun _ h9 => h9) rfl dX6_acceptsLine_24 ?_
      refine lv_iload_n hx hb dX6_acceptsLine_27 rfl (lv_at hl 2 rfl) ?_
      refine lv_iload_n hx hb dX6_acceptsLine_28 rfl (lv_at hl 0 rfl) ?_
      obtain ⟨r_2, v_cells_3, hq4, hf⟩ := bd2_el hf
      refine mc_V (As := [.int x1, .int w0_1]) (rest := []) (wr := [(a0, .inr (6, [.ref a1, .int v_length, .ref a2, .int (0 : Int32), .int (0 : Int32)]))]) (wn := [(a0, .inr (6, [.ref a1, .int v_length, .ref a2, .int (0 : Int32), .int (0 : Int32)])), (a2, .inr (4, [.ref a3])), (a3, .inl (cI, 117, .inl v_cells_3))]) ⟨hx, hb, hml, hown, hT⟩ (c_X4_addLine l dC dI cI cJ cP cS a2 a3 v_cells x1 w0_1 r_2 v_cells_3 hq4) (cwV 2 hT (gdV q_ml_X6_54 q_im_X4_addLine q_se_X4_addLine q_in_X4 q_co_X4_addLine) rfl rfl rfl hd_X4_addLine ⟨Nat.le_of_ble_eq_true rfl, Nat.le_of_ble_eq_true rfl⟩) hK hF hP hD hS hA 1 rfl rfl rfl [1, 2] [0] [0, 1, 2] rfl (by decide) rfl (by decide) (by decide) rfl (by decide) rfl hl.1 rfl (Nat.le_of_ble_eq_true rfl) dX6_acceptsLine_29 ⟨Nat.zero_le _, Nat.zero_le _⟩ (fun H locs hP hD hS => ?_)
      refine W.eq (g2 := F0 m 32 ls [.int r_2]) rfl ?_
      refine lv_if_lt (tgt := 39) hx hb dX6_acceptsLine_32 (by decide) (fun c5 => ?_) (fun c5 => ?_)
      · replace hf := it_t c5 hf
        refine lv_iconst (v := 0) hx hb dX6_acceptsLine_39 (by decide) ?_
        replace hf := Option.some.inj hf
        simp only [Prod.mk.injEq] at hf
        obtain ⟨hf0, hf1, hf2, hf3⟩ := hf
        subst hf0; subst hf1; subst hf2; subst hf3
        exact hret H locs ls _ dX6_acceptsLine_40 rfl hP hD hS
      · replace hf := it_f c5 hf
        refine lv_iconst (v := 1) hx hb dX6_acceptsLine_35 (by decide) ?_
        refine lv_goto (tgt := 40) hx hb dX6_acceptsLine_36 (by decide) ?_
        replace hf := Option.some.inj hf
        simp only [Prod.mk.injEq] at hf
        obtain ⟨hf0, hf1, hf2, hf3⟩ := hf
        subst hf0; subst hf1; subst hf2; subst hf3
        exact hret H locs ls _ dX6_acceptsLine_40 rfl hP hD hS
    refine lv_if_eq (tgt := 11) hx hb dX6_acceptsLine_4 (by decide) (fun c6 => ?_) (fun c6 => ?_)
    · replace hf := it_t c6 hf
      refine lv_iconst (v := 0) hx hb dX6_acceptsLine_11 (by decide) ?_
      exact hB12_1 (0 : Int32) hf H locs ls hP hD hS (lv_sub hl [0, 1] rfl)
    · replace hf := it_f c6 hf
      refine lv_iconst (v := 1) hx hb dX6_acceptsLine_7 (by decide) ?_
      refine lv_goto (tgt := 12) hx hb dX6_acceptsLine_8 (by decide) ?_
      exact hB12_1 (1 : Int32) hf H locs ls hP hD hS (lv_sub hl [0, 1] rfl)
  refine key _ ?_ _ _ _ hP hD hS hl
  intro H locs ls pc d hz hP hD hS
  exact W.zret (v := rv) hx hb hr hz (fun t ht hW => ⟨⟨rfl, by rw [ht]; exact hP, hD⟩, hS.F ht⟩) hS.2.2 d
def p_X6_pauseOf (x0 : Int32) : Option (Int32) :=
  (if x0 = (33 : Int32) then (some (3 : Int32)) else (if x0 = (44 : Int32) then (some (1 : Int32)) else (if x0 = (46 : Int32) then (some (2 : Int32)) else (some (0 : Int32)))))
set_option maxHeartbeats 4000000 in
set_option maxRecDepth 100000 in
theorem c_X6_pauseOf (l : Launch) (dC : Nat → ClassId) (dI : Nat → Nat → Nat) (cI cJ cP cS : ClassId)    (x0 : Int32) (rv : Int32)  (hf : p_X6_pauseOf x0 = some rv) : MC l (dC, dI) (tyl cI cJ cP cS) yX6_pauseOf (Cond.code yX6_pauseOf cX6_pauseOf 1 (some .int) :: TBG) ({ frames := 0, cells := 0, slots := 0, locals := 0 } : Room) [.int x0] [] [] (some (.int rv)) := by
  intro sz
  unfold MPost
  refine Met.ofW (cc := cX6_pauseOf) (maxL := 1) (ret := (some .int)) (by decide) rfl ?_
  intro p e s m args below meth c s₁ B hml hv
  obtain ⟨rfl, hsz, hP, hK, hD0, hF⟩ := hv
  have hx := B.exec
  have hb := B.bytes
  have hr := B.returns
  have hT : ∀ w ∈ TBG, w.before _ s = true := fun w h => atoms_spec B.pre w (List.mem_cons_of_mem _ h)
  have hown : s.vm.findClass RX6 = some m.cls := findClass_of_methodNamed B.named
  have hlocks := B.notSynchronized
  subst hsz
  have hD := hD0.self (sz := s.heap.size)
  generalize hAe : va_A [] s.heap.size = A at hD hF ⊢
  have hA : ∀ q : Nat, s.heap.size ≤ q → A q := fun q h => by rw [← hAe]; exact Or.inr h
  have hS : va_S A s.heap s.heap [] := va_S.rf
  have hl := lv_entry ([.int x0]) (n := 1) (Nat.le_of_ble_eq_true rfl)
  rw [lg_entry_eq]
  generalize (lg_sl ([.int x0]) ++ List.replicate (1 - (lg_sl ([.int x0])).length) Slot.unset).toArray = ls at hl ⊢
  have hl : lv_has ls 1 [(0, .int x0)] := hl
  generalize ([.int x0] : List Value).toArray = args at hT ⊢
  have key : ∀ (Q : State → Prop), (∀ (H : Heap) (locs : List Loc) (ls : Array Slot) (pc : Nat), decode cX6_pauseOf pc = .ok (.ireturn, 1) → va_P (dC, dI) vwCl [] H → va_D A [] → va_S A s.heap H locs → W p l e ({ frames := 0, cells := 0, slots := 0, locals := 0 } : Room) s m args below meth c H locs 0 0 Q (F0 m pc ls [.int rv])) → ∀ (H : Heap) (locs : List Loc) (ls : Array Slot), va_P (dC, dI) vwCl [] H → va_D A [] → va_S A s.heap H locs → lv_has ls 1 [(0, .int x0)] → W p l e ({ frames := 0, cells := 0, slots := 0, locals := 0 } : Room) s m args below meth c H locs 0 0 Q (F0 m 0 ls []) := by
    intro Q hret H locs ls hP hD hS hl
    refine lv_iload_n hx hb dX6_pauseOf_0 rfl (lv_at hl 0 rfl) ?_
    by_cases c1 : x0 = (33 : Int32)
    · replace hf := it_t c1 hf
      refine lv_lookup (tgt := 40) (off := 39) hx hb dX6_pauseOf_1 (by decide) (by rw [c1]; decide) (by decide) ?_
      refine lv_iconst (v := 3) hx hb dX6_pauseOf_40 (by decide) ?_
      replace hf := Option.some.inj hf
      subst hf
      exact hret H locs ls _ dX6_pauseOf_41 hP hD hS
    replace hf := it_f c1 hf
    by_cases c2 : x0 = (44 : Int32)
    · replace hf := it_t c2 hf
      refine lv_lookup (tgt := 36) (off := 35) hx hb dX6_pauseOf_1 (by decide) (by rw [c2]; decide) (by decide) ?_
      refine lv_iconst (v := 1) hx hb dX6_pauseOf_36 (by decide) ?_
      replace hf := Option.some.inj hf
      subst hf
      exact hret H locs ls _ dX6_pauseOf_37 hP hD hS
    replace hf := it_f c2 hf
    by_cases c3 : x0 = (46 : Int32)
    · replace hf := it_t c3 hf
      refine lv_lookup (tgt := 38) (off := 37) hx hb dX6_pauseOf_1 (by decide) (by rw [c3]; decide) (by decide) ?_
      refine lv_iconst (v := 2) hx hb dX6_pauseOf_38 (by decide) ?_
      replace hf := Option.some.inj hf
      subst hf
      exact hret H locs ls _ dX6_pauseOf_39 hP hD hS
    replace hf := it_f c3 hf
    refine lv_lookup (tgt := 42) (off := 41) hx hb dX6_pauseOf_1 (by decide) (by have ec1 := ne_ti (n := 33) (by decide) c1; have ec2 := ne_ti (n := 44) (by decide) c2; have ec3 := ne_ti (n := 46) (by decide) c3; exact lk_3 ec1 ec2 ec3) (by decide) ?_
    refine lv_iconst (v := 0) hx hb dX6_pauseOf_42 (by decide) ?_
    replace hf := Option.some.inj hf
    subst hf
    exact hret H locs ls _ dX6_pauseOf_43 hP hD hS
  refine key _ ?_ _ _ _ hP hD hS hl
  intro H locs ls pc d hP hD hS
  exact W.iret (v := rv) hx hb hr (fun t ht hW => ⟨⟨rfl, by rw [ht]; exact hP, hD⟩, hS.F ht⟩) hS.2.2 d
def p_X6_acceptsPause (v_afterDigit : Int32) (v_cells : (Nat → Int32)) (x1 : Int32) : Option (Int32 × Int32 × (Nat → Int32)) :=
  (bd1 (p_X6_pauseOf x1) fun r_1 => (if r_1 = (0 : Int32) then (some ((0 : Int32), v_afterDigit, v_cells)) else (if v_afterDigit = (0 : Int32) then (some ((0 : Int32), v_afterDigit, v_cells)) else (bd1 (p_X4_setLastPause v_cells r_1) fun v_cells_5 => (some ((1 : Int32), (0 : Int32), v_cells_5))))))
set_option maxHeartbeats 4000000 in
set_option maxRecDepth 100000 in
theorem c_X6_acceptsPause (l : Launch) (dC : Nat → ClassId) (dI : Nat → Nat → Nat) (cI cJ cP cS : ClassId) (a0 : Nat) (a1 : Nat) (a2 : Nat) (a3 : Nat) (v_length : Int32) (v_afterBar : Int32) (v_afterDigit : Int32) (v_cells : (Nat → Int32))  (x1 : Int32) (rv : Int32) (v_afterDigit_o : Int32) (v_cells_o : (Nat → Int32)) (hf : p_X6_acceptsPause v_afterDigit v_cells x1 = some (rv, v_afterDigit_o, v_cells_o)) : MC l (dC, dI) (tyl cI cJ cP cS) yX6_acceptsPause (Cond.code yX6_acceptsPause cX6_acceptsPause 3 (some .boolean) :: TBG) ({ frames := 2, cells := 0, slots := 0, locals := 45 } : Room) [.ref a0, .int x1] [(a0, .inr (6, [.ref a1, .int v_length, .ref a2, .int v_afterBar, .int v_afterDigit])), (a2, .inr (4, [.ref a3])), (a3, .inl (cI, 117, .inl v_cells))] [(a0, .inr (6, [.ref a1, .int v_length, .ref a2, .int v_afterBar, .int v_afterDigit_o])), (a2, .inr (4, [.ref a3])), (a3, .inl (cI, 117, .inl v_cells_o))] (some (.int rv)) := by
  intro sz
  unfold MPost
  refine Met.ofW (cc := cX6_acceptsPause) (maxL := 3) (ret := (some .boolean)) (by decide) rfl ?_
  intro p e s m args below meth c s₁ B hml hv
  obtain ⟨rfl, hsz, hP, hK, hD0, hF⟩ := hv
  have hx := B.exec
  have hb := B.bytes
  have hr := B.returns
  have hT : ∀ w ∈ TBG, w.before _ s = true := fun w h => atoms_spec B.pre w (List.mem_cons_of_mem _ h)
  have hown : s.vm.findClass RX6 = some m.cls := findClass_of_methodNamed B.named
  have hlocks := B.notSynchronized
  subst hsz
  have hD := hD0.self (sz := s.heap.size)
  generalize hAe : va_A [(a0, .inr (6, [.ref a1, .int v_length, .ref a2, .int v_afterBar, .int v_afterDigit])), (a2, .inr (4, [.ref a3])), (a3, .inl (cI, 117, .inl v_cells))] s.heap.size = A at hD hF ⊢
  have hA : ∀ q : Nat, s.heap.size ≤ q → A q := fun q h => by rw [← hAe]; exact Or.inr h
  have hS : va_S A s.heap s.heap [] := va_S.rf
  have hl := lv_entry ([.ref a0, .int x1]) (n := 3) (Nat.le_of_ble_eq_true rfl)
  rw [lg_entry_eq]
  generalize (lg_sl ([.ref a0, .int x1]) ++ List.replicate (3 - (lg_sl ([.ref a0, .int x1])).length) Slot.unset).toArray = ls at hl ⊢
  have hl : lv_has ls 3 [(0, .ref a0), (1, .int x1)] := hl
  generalize ([.ref a0, .int x1] : List Value).toArray = args at hT ⊢
  have key : ∀ (Q : State → Prop), (∀ (H : Heap) (locs : List Loc) (ls : Array Slot) (pc : Nat), decode cX6_acceptsPause pc = .ok (.ireturn, 1) → narrow .boolean (.int rv) = .int rv → va_P (dC, dI) vwCl [(a0, .inr (6, [.ref a1, .int v_length, .ref a2, .int v_afterBar, .int v_afterDigit_o])), (a2, .inr (4, [.ref a3])), (a3, .inl (cI, 117, .inl v_cells_o))] H → va_D A [(a0, .inr (6, [.ref a1, .int v_length, .ref a2, .int v_afterBar, .int v_afterDigit_o])), (a2, .inr (4, [.ref a3])), (a3, .inl (cI, 117, .inl v_cells_o))] → va_S A s.heap H locs → W p l e ({ frames := 2, cells := 0, slots := 0, locals := 45 } : Room) s m args below meth c H locs 0 0 Q (F0 m pc ls [.int rv])) → ∀ (H : Heap) (locs : List Loc) (ls : Array Slot), va_P (dC, dI) vwCl [(a0, .inr (6, [.ref a1, .int v_length, .ref a2, .int v_afterBar, .int v_afterDigit])), (a2, .inr (4, [.ref a3])), (a3, .inl (cI, 117, .inl v_cells))] H → va_D A [(a0, .inr (6, [.ref a1, .int v_length, .ref a2, .int v_afterBar, .int v_afterDigit])), (a2, .inr (4, [.ref a3])), (a3, .inl (cI, 117, .inl v_cells))] → va_S A s.heap H locs → lv_has ls 3 [(0, .ref a0), (1, .int x1)] → W p l e ({ frames := 2, cells := 0, slots := 0, locals := 45 } : Room) s m args below meth c H locs 0 0 Q (F0 m 0 ls []) := by
    intro Q hret H locs ls hP hD hS hl
    refine lv_iload_n hx hb dX6_acceptsPause_0 rfl (lv_at hl 1 rfl) ?_
    obtain ⟨r_1, hq2, hf⟩ := bd1_el hf
    refine mc_S (As := [.int x1]) (rest := []) (wr := [(a0, .inr (6, [.ref a1, .int v_length, .ref a2, .int v_afterBar, .int v_afterDigit])), (a2, .inr (4, [.ref a3])), (a3, .inl (cI, 117, .inl v_cells))]) (wn := [(a0, .inr (6, [.ref a1, .int v_length, .ref a2, .int v_afterBar, .int v_afterDigit])), (a2, .inr (4, [.ref a3])), (a3, .inl (cI, 117, .inl v_cells))]) ⟨hx, hb, hml, hown, hT⟩ (c_X6_pauseOf l dC dI cI cJ cP cS x1 r_1 hq2) (va_cwS 1 hT (gdS q_ml_X6_57 q_st_X6_pauseOf q_in_X6 q_co_X6_pauseOf) rfl rfl rfl hd_X6_pauseOf ⟨Nat.le_of_ble_eq_true rfl, Nat.le_of_ble_eq_true rfl⟩) hK hF hP hD hS hA [] [0, 1, 2] [0, 1, 2] rfl (by decide) rfl (by decide) (by decide) rfl (by decide) rfl hl.1 rfl (Nat.le_of_ble_eq_true rfl) dX6_acceptsPause_1 ⟨Nat.zero_le _, Nat.zero_le _⟩ (fun H locs hP hD hS => ?_)
    refine W.eq (g2 := F0 m 4 ls [.int r_1]) rfl ?_
    refine lv_istore_n (lv' := [(2, .int r_1), (0, .ref a0), (1, .int x1)]) hx hb dX6_acceptsPause_4 rfl hl (by decide) rfl (fun ls hl => ?_)
    refine lv_iload_n hx hb dX6_acceptsPause_5 rfl (lv_at hl 0 rfl) ?_
    refine lv_if_eq (tgt := 16) hx hb dX6_acceptsPause_6 (by decide) (fun c3 => ?_) (fun c3 => ?_)
    · replace hf := it_t c3 hf
      refine lv_iconst (v := 0) hx hb dX6_acceptsPause_16 (by decide) ?_
      replace hf := Option.some.inj hf
      simp only [Prod.mk.injEq] at hf
      obtain ⟨hf0, hf1, hf2⟩ := hf
      subst hf0; subst hf1; subst hf2
      exact hret H locs ls _ dX6_acceptsPause_17 rfl hP hD hS
    · replace hf := it_f c3 hf
      refine lv_aload_n hx hb dX6_acceptsPause_9 rfl (lv_at hl 1 rfl) ?_
      refine va_get (D := (dC, dI)) (ci := 6) (v := .int v_afterDigit) (C := RX6) (T := TX6) (N := 5) hx hb hT in_X6 hown hK hP 0 rfl rfl 4 (by decide) (hT _ q_fl_X6_33) (fun _ h9 => h9) rfl dX6_acceptsPause_10 ?_
      refine lv_if_ne (tgt := 18) hx hb dX6_acceptsPause_13 (by decide) (fun c4 => ?_) (fun c4 => ?_)
      · replace hf := it_f c4 hf
        refine lv_aload_n hx hb dX6_acceptsPause_18 rfl (lv_at hl 1 rfl) ?_
        refine lv_iconst (v := 0) hx hb dX6_acceptsPause_19 (by decide) ?_
        refine va_put (D := (dC, dI)) (ci := 6) (v := .int (0 : Int32)) (ty := .boolean) (C := RX6) (T := TX6) (N := 5) hx hb hT in_X6 tyX6 tyX6_ok nmX6 hown hK hP hD hS 0 rfl rfl 4 (by decide) (hT _ q_fl_X6_33) (fun _ h9 => h9) rfl (tyX6_ok 4 (by decide)) rfl rfl (Nat.le_of_ble_eq_true rfl) dX6_acceptsPause_20 (fun H locs hP hD hS => ?_)
        have hP : va_P (dC, dI) vwCl [(a0, .inr (6, [.ref a1, .int v_length, .ref a2, .int v_afterBar, .int (0 : Int32)])), (a2, .inr (4, [.ref a3])), (a3, .inl (cI, 117, .inl v_cells))] H := hP
        have hD : va_D A [(a0, .inr (6, [.ref a1, .int v_length, .ref a2, .int v_afterBar, .int (0 : Int32)])), (a2, .inr (4, [.ref a3])), (a3, .inl (cI, 117, .inl v_cells))] := hD
        refine lv_aload_n hx hb dX6_acceptsPause_23 rfl (lv_at hl 1 rfl) ?_
        refine va_get (D := (dC, dI)) (ci := 6) (v := .ref a2) (C := RX6) (T := TX6) (N := 5) hx hb hT in_X6 hown hK hP 0 rfl rfl 2 (by decide) (hT _ q_fl_X6_22) (fun _ h9 => h9) rfl dX6_acceptsPause_24 ?_
        refine lv_iload_n hx hb dX6_acceptsPause_27 rfl (lv_at hl 0 rfl) ?_
        obtain ⟨v_cells_5, hq6, hf⟩ := bd1_el hf
        refine mc_V (As := [.int r_1]) (rest := []) (wr := [(a0, .inr (6, [.ref a1, .int v_length, .ref a2, .int v_afterBar, .int (0 : Int32)]))]) (wn := [(a0, .inr (6, [.ref a1, .int v_length, .ref a2, .int v_afterBar, .int (0 : Int32)])), (a2, .inr (4, [.ref a3])), (a3, .inl (cI, 117, .inl v_cells_5))]) ⟨hx, hb, hml, hown, hT⟩ (c_X4_setLastPause l dC dI cI cJ cP cS a2 a3 v_cells r_1 v_cells_5 hq6) (cwV 1 hT (gdV q_ml_X6_61 q_im_X4_setLastPause q_se_X4_setLastPause q_in_X4 q_co_X4_setLastPause) rfl rfl rfl hd_X4_setLastPause ⟨Nat.le_of_ble_eq_true rfl, Nat.le_of_ble_eq_true rfl⟩) hK hF hP hD hS hA 1 rfl rfl rfl [1, 2] [0] [0, 1, 2] rfl (by decide) rfl (by decide) (by decide) rfl (by decide) rfl hl.1 rfl (Nat.le_of_ble_eq_true rfl) dX6_acceptsPause_28 ⟨Nat.zero_le _, Nat.zero_le _⟩ (fun H locs hP hD hS => ?_)
        refine W.eq (g2 := F0 m 31 ls []) rfl ?_
        refine lv_iconst (v := 1) hx hb dX6_acceptsPause_31 (by decide) ?_
        replace hf := Option.some.inj hf
        simp only [Prod.mk.injEq] at hf
        obtain ⟨hf0, hf1, hf2⟩ := hf
        subst hf0; subst hf1; subst hf2
        exact hret H locs ls _ dX6_acceptsPause_32 rfl hP hD hS
      · replace hf := it_t c4 hf
        refine lv_iconst (v := 0) hx hb dX6_acceptsPause_16 (by decide) ?_
        replace hf := Option.some.inj hf
        simp only [Prod.mk.injEq] at hf
        obtain ⟨hf0, hf1, hf2⟩ := hf
        subst hf0; subst hf1; subst hf2
        exact hret H locs ls _ dX6_acceptsPause_17 rfl hP hD hS
  refine key _ ?_ _ _ _ hP hD hS hl
  intro H locs ls pc d hz hP hD hS
  exact W.zret (v := rv) hx hb hr hz (fun t ht hW => ⟨⟨rfl, by rw [ht]; exact hP, hD⟩, hS.F ht⟩) hS.2.2 d
def p_X6_accepts_B78_4 (v_afterBar : Int32) (v_afterDigit : Int32) (v_cells : (Nat → Int32)) (x1 : Int32) : Option (Int32 × Int32 × Int32 × (Nat → Int32)) :=
  (if x1 = (124 : Int32) then (some ((1 : Int32), (1 : Int32), v_afterDigit, v_cells)) else (bd3 (p_X6_acceptsPause v_afterDigit v_cells x1) fun r_6 v_afterDigit_7 v_cells_8 => (gd (b01 r_6) (some (r_6, v_afterBar, v_afterDigit_7, v_cells_8)))))
def p_X6_accepts_B21_0 (v_afterBar : Int32) (v_afterDigit : Int32) (v_cells : (Nat → Int32)) (x1 : Int32) : Option (Int32 × Int32 × Int32 × (Nat → Int32)) :=
  (if v_afterBar = (0 : Int32) then (bd1 (p_X4_lines v_cells) fun r_2 => (if r_2 = (0 : Int32) then (some ((0 : Int32), v_afterBar, v_afterDigit, v_cells)) else (if x1 < (49 : Int32) then (p_X6_accepts_B78_4 v_afterBar v_afterDigit v_cells x1) else (if (57 : Int32) < x1 then (p_X6_accepts_B78_4 v_afterBar v_afterDigit v_cells x1) else (bd2 (p_X4_addWord v_cells (x1 - (48 : Int32)) (0 : Int32)) fun r_13 v_cells_14 => (if r_13 ≤ (0 : Int32) then (some ((0 : Int32), v_afterBar, (1 : Int32), v_cells_14)) else (some ((1 : Int32), v_afterBar, (1 : Int32), v_cells_14)))))))) else (some ((0 : Int32), v_afterBar, v_afterDigit, v_cells)))
def p_X6_accepts (v_afterBar : Int32) (v_afterDigit : Int32) (v_cells : (Nat → Int32)) (x1 : Int32) : Option (Int32 × Int32 × Int32 × (Nat → Int32)) :=
  (if x1 < (65 : Int32) then (p_X6_accepts_B21_0 v_afterBar v_afterDigit v_cells x1) else (if (68 : Int32) < x1 then (p_X6_accepts_B21_0 v_afterBar v_afterDigit v_cells x1) else (bd4 (p_X6_acceptsLine v_afterBar v_afterDigit v_cells (x1 - (65 : Int32))) fun r_19 v_afterBar_20 v_afterDigit_21 v_cells_22 => (gd (b01 r_19) (some (r_19, v_afterBar_20, v_afterDigit_21, v_cells_22))))))
set_option maxHeartbeats 4000000 in
set_option maxRecDepth 100000 in
theorem c_X6_accepts (l : Launch) (dC : Nat → ClassId) (dI : Nat → Nat → Nat) (cI cJ cP cS : ClassId) (a0 : Nat) (a1 : Nat) (a2 : Nat) (a3 : Nat) (v_length : Int32) (v_afterBar : Int32) (v_afterDigit : Int32) (v_cells : (Nat → Int32))  (x1 : Int32) (rv : Int32) (v_afterBar_o : Int32) (v_afterDigit_o : Int32) (v_cells_o : (Nat → Int32)) (hf : p_X6_accepts v_afterBar v_afterDigit v_cells x1 = some (rv, v_afterBar_o, v_afterDigit_o, v_cells_o)) : MC l (dC, dI) (tyl cI cJ cP cS) yX6_accepts (Cond.code yX6_accepts cX6_accepts 2 (some .boolean) :: TBG) ({ frames := 3, cells := 0, slots := 0, locals := 67 } : Room) [.ref a0, .int x1] [(a0, .inr (6, [.ref a1, .int v_length, .ref a2, .int v_afterBar, .int v_afterDigit])), (a2, .inr (4, [.ref a3])), (a3, .inl (cI, 117, .inl v_cells))] [(a0, .inr (6, [.ref a1, .int v_length, .ref a2, .int v_afterBar_o, .int v_afterDigit_o])), (a2, .inr (4, [.ref a3])), (a3, .inl (cI, 117, .inl v_cells_o))] (some (.int rv)) := by
  intro sz
  unfold MPost
  refine Met.ofW (cc := cX6_accepts) (maxL := 2) (ret := (some .boolean)) (by decide) rfl ?_
  intro p e s m args below meth c s₁ B hml hv
  obtain ⟨rfl, hsz, hP, hK, hD0, hF⟩ := hv
  have hx := B.exec
  have hb := B.bytes
  have hr := B.returns
  have hT : ∀ w ∈ TBG, w.before _ s = true := fun w h => atoms_spec B.pre w (List.mem_cons_of_mem _ h)
  have hown : s.vm.findClass RX6 = some m.cls := findClass_of_methodNamed B.named
  have hlocks := B.notSynchronized
  subst hsz
  have hD := hD0.self (sz := s.heap.size)
  generalize hAe : va_A [(a0, .inr (6, [.ref a1, .int v_length, .ref a2, .int v_afterBar, .int v_afterDigit])), (a2, .inr (4, [.ref a3])), (a3, .inl (cI, 117, .inl v_cells))] s.heap.size = A at hD hF ⊢
  have hA : ∀ q : Nat, s.heap.size ≤ q → A q := fun q h => by rw [← hAe]; exact Or.inr h
  have hS : va_S A s.heap s.heap [] := va_S.rf
  have hl := lv_entry ([.ref a0, .int x1]) (n := 2) (Nat.le_of_ble_eq_true rfl)
  rw [lg_entry_eq]
  generalize (lg_sl ([.ref a0, .int x1]) ++ List.replicate (2 - (lg_sl ([.ref a0, .int x1])).length) Slot.unset).toArray = ls at hl ⊢
  have hl : lv_has ls 2 [(0, .ref a0), (1, .int x1)] := hl
  generalize ([.ref a0, .int x1] : List Value).toArray = args at hT ⊢
  have key : ∀ (Q : State → Prop), (∀ (H : Heap) (locs : List Loc) (ls : Array Slot) (pc : Nat), decode cX6_accepts pc = .ok (.ireturn, 1) → narrow .boolean (.int rv) = .int rv → va_P (dC, dI) vwCl [(a0, .inr (6, [.ref a1, .int v_length, .ref a2, .int v_afterBar_o, .int v_afterDigit_o])), (a2, .inr (4, [.ref a3])), (a3, .inl (cI, 117, .inl v_cells_o))] H → va_D A [(a0, .inr (6, [.ref a1, .int v_length, .ref a2, .int v_afterBar_o, .int v_afterDigit_o])), (a2, .inr (4, [.ref a3])), (a3, .inl (cI, 117, .inl v_cells_o))] → va_S A s.heap H locs → W p l e ({ frames := 3, cells := 0, slots := 0, locals := 67 } : Room) s m args below meth c H locs 0 0 Q (F0 m pc ls [.int rv])) → ∀ (H : Heap) (locs : List Loc) (ls : Array Slot), va_P (dC, dI) vwCl [(a0, .inr (6, [.ref a1, .int v_length, .ref a2, .int v_afterBar, .int v_afterDigit])), (a2, .inr (4, [.ref a3])), (a3, .inl (cI, 117, .inl v_cells))] H → va_D A [(a0, .inr (6, [.ref a1, .int v_length, .ref a2, .int v_afterBar, .int v_afterDigit])), (a2, .inr (4, [.ref a3])), (a3, .inl (cI, 117, .inl v_cells))] → va_S A s.heap H locs → lv_has ls 2 [(0, .ref a0), (1, .int x1)] → W p l e ({ frames := 3, cells := 0, slots := 0, locals := 67 } : Room) s m args below meth c H locs 0 0 Q (F0 m 0 ls []) := by
    intro Q hret H locs ls hP hD hS hl
    refine lv_iload_n hx hb dX6_accepts_0 rfl (lv_at hl 1 rfl) ?_
    refine lv_bipush (v := 65) hx hb dX6_accepts_1 (by decide) ?_
    have hB21_0 : ∀ (_ : Unit), p_X6_accepts_B21_0 v_afterBar v_afterDigit v_cells x1 = some (rv, v_afterBar_o, v_afterDigit_o, v_cells_o) → ∀ (H : Heap) (locs : List Loc) (ls : Array Slot), va_P (dC, dI) vwCl [(a0, .inr (6, [.ref a1, .int v_length, .ref a2, .int v_afterBar, .int v_afterDigit])), (a2, .inr (4, [.ref a3])), (a3, .inl (cI, 117, .inl v_cells))] H → va_D A [(a0, .inr (6, [.ref a1, .int v_length, .ref a2, .int v_afterBar, .int v_afterDigit])), (a2, .inr (4, [.ref a3])), (a3, .inl (cI, 117, .inl v_cells))] → va_S A s.heap H locs → lv_has ls 2 [(0, .ref a0), (1, .int x1)] → W p l e ({ frames := 3, cells := 0, slots := 0, locals := 67 } : Room) s m args below meth c H locs 0 0 Q (F0 m 21 ls []) := by
      intro _ hf H locs ls hP hD hS hl
      refine lv_aload_n hx hb dX6_accepts_21 rfl (lv_at hl 0 rfl) ?_
      refine va_get (D := (dC, dI)) (ci := 6) (v := .int v_afterBar) (C := RX6) (T := TX6) (N := 5) hx hb hT in_X6 hown hK hP 0 rfl rfl 3 (by decide) (hT _ q_fl_X6_29) (fun _ h9 => h9) rfl dX6_accepts_22 ?_
      refine lv_if_ne (tgt := 38) hx hb dX6_accepts_25 (by decide) (fun c1 => ?_) (fun c1 => ?_)
      · replace hf := it_f c1 hf
        refine lv_iconst (v := 0) hx hb dX6_accepts_38 (by decide) ?_
        replace hf := Option.some.inj hf
        simp only [Prod.mk.injEq] at hf
        obtain ⟨hf0, hf1, hf2, hf3⟩ := hf
        subst hf0; subst hf1; subst hf2; subst hf3
        exact hret H locs ls _ dX6_accepts_39 rfl hP hD hS
      · replace hf := it_t c1 hf
        refine lv_aload_n hx hb dX6_accepts_28 rfl (lv_at hl 0 rfl) ?_
        refine va_get (D := (dC, dI)) (ci := 6) (v := .ref a2) (C := RX6) (T := TX6) (N := 5) hx hb hT in_X6 hown hK hP 0 rfl rfl 2 (by decide) (hT _ q_fl_X6_22) (fun _ h9 => h9) rfl dX6_accepts_29 ?_
        obtain ⟨r_2, hq3, hf⟩ := bd1_el hf
        refine mc_V (As := []) (rest := []) (wr := [(a0, .inr (6, [.ref a1, .int v_length, .ref a2, .int v_afterBar, .int v_afterDigit]))]) (wn := [(a0, .inr (6, [.ref a1, .int v_length, .ref a2, .int v_afterBar, .int v_afterDigit])), (a2, .inr (4, [.ref a3])), (a3, .inl (cI, 117, .inl v_cells))]) ⟨hx, hb, hml, hown, hT⟩ (c_X4_lines l dC dI cI cJ cP cS a2 a3 v_cells r_2 hq3) (cwV 0 hT (gdV q_ml_X6_43 q_im_X4_lines q_se_X4_lines q_in_X4 q_co_X4_lines) rfl rfl rfl hd_X4_lines ⟨Nat.le_of_ble_eq_true rfl, Nat.le_of_ble_eq_true rfl⟩) hK hF hP hD hS hA 1 rfl rfl rfl [1, 2] [0] [0, 1, 2] rfl (by decide) rfl (by decide) (by decide) rfl (by decide) rfl hl.1 rfl (Nat.le_of_ble_eq_true rfl) dX6_accepts_32 ⟨Nat.zero_le _, Nat.zero_le _⟩ (fun H locs hP hD hS => ?_)
        refine W.eq (g2 := F0 m 35 ls [.int r_2]) rfl ?_
        refine lv_if_ne (tgt := 40) hx hb dX6_accepts_35 (by decide) (fun c4 => ?_) (fun c4 => ?_)
        · replace hf := it_f c4 hf
          refine lv_iload_n hx hb dX6_accepts_40 rfl (lv_at hl 1 rfl) ?_
          refine lv_bipush (v := 49) hx hb dX6_accepts_41 (by decide) ?_
          have hB78_4 : ∀ (_ : Unit), p_X6_accepts_B78_4 v_afterBar v_afterDigit v_cells x1 = some (rv, v_afterBar_o, v_afterDigit_o, v_cells_o) → ∀ (H : Heap) (locs : List Loc) (ls : Array Slot), va_P (dC, dI) vwCl [(a0, .inr (6, [.ref a1, .int v_length, .ref a2, .int v_afterBar, .int v_afterDigit])), (a2, .inr (4, [.ref a3])), (a3, .inl (cI, 117, .inl v_cells))] H → va_D A [(a0, .inr (6, [.ref a1, .int v_length, .ref a2, .int v_afterBar, .int v_afterDigit])), (a2, .inr (4, [.ref a3])), (a3, .inl (cI, 117, .inl v_cells))] → va_S A s.heap H locs → lv_has ls 2 [(0, .ref a0), (1, .int x1)] → W p l e ({ frames := 3, cells := 0, slots := 0, locals := 67 } : Room) s m args below meth c H locs 0 0 Q (F0 m 78 ls []) := by
            intro _ hf H locs ls hP hD hS hl
            refine lv_iload_n hx hb dX6_accepts_78 rfl (lv_at hl 1 rfl) ?_
            refine lv_bipush (v := 124) hx hb dX6_accepts_79 (by decide) ?_
            refine lv_icmp_ne (tgt := 91) hx hb dX6_accepts_81 (by decide) (fun c5 => ?_) (fun c5 => ?_)
            · replace hf := it_f c5 hf
              refine lv_aload_n hx hb dX6_accepts_91 rfl (lv_at hl 0 rfl) ?_
              refine lv_iload_n hx hb dX6_accepts_92 rfl (lv_at hl 1 rfl) ?_
              obtain ⟨r_6, v_afterDigit_7, v_cells_8, hq9, hf⟩ := bd3_el hf
              refine mc_V (As := [.int x1]) (rest := []) (wr := []) (wn := [(a0, .inr (6, [.ref a1, .int v_length, .ref a2, .int v_afterBar, .int v_afterDigit_7])), (a2, .inr (4, [.ref a3])), (a3, .inl (cI, 117, .inl v_cells_8))]) ⟨hx, hb, hml, hown, hT⟩ (c_X6_acceptsPause l dC dI cI cJ cP cS a0 a1 a2 a3 v_length v_afterBar v_afterDigit v_cells x1 r_6 v_afterDigit_7 v_cells_8 hq9) (cwV 1 hT (gdV q_ml_X6_51 q_im_X6_acceptsPause q_se_X6_acceptsPause q_in_X6 q_co_X6_acceptsPause) rfl rfl rfl hd_X6_acceptsPause ⟨Nat.le_of_ble_eq_true rfl, Nat.le_of_ble_eq_true rfl⟩) hK hF hP hD hS hA 0 rfl rfl rfl [0, 1, 2] [] [0, 1, 2] rfl (by decide) rfl (by decide) (by decide) rfl (by decide) rfl hl.1 rfl (Nat.le_of_ble_eq_true rfl) dX6_accepts_93 ⟨Nat.zero_le _, Nat.zero_le _⟩ (fun H locs hP hD hS => ?_)
              refine W.eq (g2 := F0 m 96 ls [.int r_6]) rfl ?_
              obtain ⟨h10, hf⟩ := gd_el hf
              replace hf := Option.some.inj hf
              simp only [Prod.mk.injEq] at hf
              obtain ⟨hf0, hf1, hf2, hf3⟩ := hf
              subst hf0; subst hf1; subst hf2; subst hf3
              exact hret H locs ls _ dX6_accepts_96 (b01_nar h10) hP hD hS
            · replace hf := it_t c5 hf
              refine lv_aload_n hx hb dX6_accepts_84 rfl (lv_at hl 0 rfl) ?_
              refine lv_iconst (v := 1) hx hb dX6_accepts_85 (by decide) ?_
              refine va_put (D := (dC, dI)) (ci := 6) (v := .int (1 : Int32)) (ty := .boolean) (C := RX6) (T := TX6) (N := 5) hx hb hT in_X6 tyX6 tyX6_ok nmX6 hown hK hP hD hS 0 rfl rfl 3 (by decide) (hT _ q_fl_X6_29) (fun _ h9 => h9) rfl (tyX6_ok 3 (by decide)) rfl rfl (Nat.le_of_ble_eq_true rfl) dX6_accepts_86 (fun H locs hP hD hS => ?_)
              have hP : va_P (dC, dI) vwCl [(a0, .inr (6, [.ref a1, .int v_length, .ref a2, .int (1 : Int32), .int v_afterDigit])), (a2, .inr (4, [.ref a3])), (a3, .inl (cI, 117, .inl v_cells))] H := hP
              have hD : va_D A [(a0, .inr (6, [.ref a1, .int v_length, .ref a2, .int (1 : Int32), .int v_afterDigit])), (a2, .inr (4, [.ref a3])), (a3, .inl (cI, 117, .inl v_cells))] := hD
              refine lv_iconst (v := 1) hx hb dX6_accepts_89 (by decide) ?_
              replace hf := Option.some.inj hf
              simp only [Prod.mk.injEq] at hf
              obtain ⟨hf0, hf1, hf2, hf3⟩ := hf
              subst hf0; subst hf1; subst hf2; subst hf3
              exact hret H locs ls _ dX6_accepts_90 rfl hP hD hS
          refine lv_icmp_lt (tgt := 78) hx hb dX6_accepts_43 (by decide) (fun c11 => ?_) (fun c11 => ?_)
          · replace hf := it_t c11 hf
            exact hB78_4 () hf H locs ls hP hD hS (lv_sub hl [0, 1] rfl)
          · replace hf := it_f c11 hf
            refine lv_iload_n hx hb dX6_accepts_46 rfl (lv_at hl 1 rfl) ?_
            refine lv_bipush (v := 57) hx hb dX6_accepts_47 (by decide) ?_
            refine lv_icmp_gt (tgt := 78) hx hb dX6_accepts_49 (by decide) (fun c12 => ?_) (fun c12 => ?_)
            · replace hf := it_t c12 hf
              exact hB78_4 () hf H locs ls hP hD hS (lv_sub hl [0, 1] rfl)
            · replace hf := it_f c12 hf
              refine lv_aload_n hx hb dX6_accepts_52 rfl (lv_at hl 0 rfl) ?_
              refine lv_iconst (v := 1) hx hb dX6_accepts_53 (by decide) ?_
              refine va_put (D := (dC, dI)) (ci := 6) (v := .int (1 : Int32)) (ty := .boolean) (C := RX6) (T := TX6) (N := 5) hx hb hT in_X6 tyX6 tyX6_ok nmX6 hown hK hP hD hS 0 rfl rfl 4 (by decide) (hT _ q_fl_X6_33) (fun _ h9 => h9) rfl (tyX6_ok 4 (by decide)) rfl rfl (Nat.le_of_ble_eq_true rfl) dX6_accepts_54 (fun H locs hP hD hS => ?_)
              have hP : va_P (dC, dI) vwCl [(a0, .inr (6, [.ref a1, .int v_length, .ref a2, .int v_afterBar, .int (1 : Int32)])), (a2, .inr (4, [.ref a3])), (a3, .inl (cI, 117, .inl v_cells))] H := hP
              have hD : va_D A [(a0, .inr (6, [.ref a1, .int v_length, .ref a2, .int v_afterBar, .int (1 : Int32)])), (a2, .inr (4, [.ref a3])), (a3, .inl (cI, 117, .inl v_cells))] := hD
              refine lv_aload_n hx hb dX6_accepts_57 rfl (lv_at hl 0 rfl) ?_
              refine va_get (D := (dC, dI)) (ci := 6) (v := .ref a2) (C := RX6) (T := TX6) (N := 5) hx hb hT in_X6 hown hK hP 0 rfl rfl 2 (by decide) (hT _ q_fl_X6_22) (fun _ h9 => h9) rfl dX6_accepts_58 ?_
              refine lv_iload_n hx hb dX6_accepts_61 rfl (lv_at hl 1 rfl) ?_
              refine lv_bipush (v := 48) hx hb dX6_accepts_62 (by decide) ?_
              refine lv_isub hx hb dX6_accepts_64 ?_
              refine lv_iconst (v := 0) hx hb dX6_accepts_65 (by decide) ?_
              obtain ⟨r_13, v_cells_14, hq15, hf⟩ := bd2_el hf
              refine mc_V (As := [.int (x1 - (48 : Int32)), .int (0 : Int32)]) (rest := []) (wr := [(a0, .inr (6, [.ref a1, .int v_length, .ref a2, .int v_afterBar, .int (1 : Int32)]))]) (wn := [(a0, .inr (6, [.ref a1, .int v_length, .ref a2, .int v_afterBar, .int (1 : Int32)])), (a2, .inr (4, [.ref a3])), (a3, .inl (cI, 117, .inl v_cells_14))]) ⟨hx, hb, hml, hown, hT⟩ (c_X4_addWord l dC dI cI cJ cP cS a2 a3 v_cells (x1 - (48 : Int32)) (0 : Int32) r_13 v_cells_14 hq15) (cwV 2 hT (gdV q_ml_X6_47 q_im_X4_addWord q_se_X4_addWord q_in_X4 q_co_X4_addWord) rfl rfl rfl hd_X4_addWord ⟨Nat.le_of_ble_eq_true rfl, Nat.le_of_ble_eq_true rfl⟩) hK hF hP hD hS hA 1 rfl rfl rfl [1, 2] [0] [0, 1, 2] rfl (by decide) rfl (by decide) (by decide) rfl (by decide) rfl hl.1 rfl (Nat.le_of_ble_eq_true rfl) dX6_accepts_66 ⟨Nat.zero_le _, Nat.zero_le _⟩ (fun H locs hP hD hS => ?_)
              refine W.eq (g2 := F0 m 69 ls [.int r_13]) rfl ?_
              refine lv_if_le (tgt := 76) hx hb dX6_accepts_69 (by decide) (fun c16 => ?_) (fun c16 => ?_)
              · replace hf := it_t c16 hf
                refine lv_iconst (v := 0) hx hb dX6_accepts_76 (by decide) ?_
                replace hf := Option.some.inj hf
                simp only [Prod.mk.injEq] at hf
                obtain ⟨hf0, hf1, hf2, hf3⟩ := hf
                subst hf0; subst hf1; subst hf2; subst hf3
                exact hret H locs ls _ dX6_accepts_77 rfl hP hD hS
              · replace hf := it_f c16 hf
                refine lv_iconst (v := 1) hx hb dX6_accepts_72 (by decide) ?_
                refine lv_goto (tgt := 77) hx hb dX6_accepts_73 (by decide) ?_
                replace hf := Option.some.inj hf
                simp only [Prod.mk.injEq] at hf
                obtain ⟨hf0, hf1, hf2, hf3⟩ := hf
                subst hf0; subst hf1; subst hf2; subst hf3
                exact hret H locs ls _ dX6_accepts_77 rfl hP hD hS
        · replace hf := it_t c4 hf
          refine lv_iconst (v := 0) hx hb dX6_accepts_38 (by decide) ?_
          replace hf := Option.some.inj hf
          simp only [Prod.mk.injEq] at hf
          obtain ⟨hf0, hf1, hf2, hf3⟩ := hf
          subst hf0; subst hf1; subst hf2; subst hf3
          exact hret H locs ls _ dX6_accepts_39 rfl hP hD hS
    refine lv_icmp_lt (tgt := 21) hx hb dX6_accepts_3 (by decide) (fun c17 => ?_) (fun c17 => ?_)
    · replace hf := it_t c17 hf
      exact hB21_0 () hf H locs ls hP hD hS (lv_sub hl [0, 1] rfl)
    · replace hf := it_f c17 hf
      refine lv_iload_n hx hb dX6_accepts_6 rfl (lv_at hl 1 rfl) ?_
      refine lv_bipush (v := 68) hx hb dX6_accepts_7 (by decide) ?_
      refine lv_icmp_gt (tgt := 21) hx hb dX6_accepts_9 (by decide) (fun c18 => ?_) (fun c18 => ?_)
      · replace hf := it_t c18 hf
        exact hB21_0 () hf H locs ls hP hD hS (lv_sub hl [0, 1] rfl)
      · replace hf := it_f c18 hf
        refine lv_aload_n hx hb dX6_accepts_12 rfl (lv_at hl 0 rfl) ?_
        refine lv_iload_n hx hb dX6_accepts_13 rfl (lv_at hl 1 rfl) ?_
        refine lv_bipush (v := 65) hx hb dX6_accepts_14 (by decide) ?_
        refine lv_isub hx hb dX6_accepts_16 ?_
        obtain ⟨r_19, v_afterBar_20, v_afterDigit_21, v_cells_22, hq23, hf⟩ := bd4_el hf
        refine mc_V (As := [.int (x1 - (65 : Int32))]) (rest := []) (wr := []) (wn := [(a0, .inr (6, [.ref a1, .int v_length, .ref a2, .int v_afterBar_20, .int v_afterDigit_21])), (a2, .inr (4, [.ref a3])), (a3, .inl (cI, 117, .inl v_cells_22))]) ⟨hx, hb, hml, hown, hT⟩ (c_X6_acceptsLine l dC dI cI cJ cP cS a0 a1 a2 a3 v_length v_afterBar v_afterDigit v_cells (x1 - (65 : Int32)) r_19 v_afterBar_20 v_afterDigit_21 v_cells_22 hq23) (cwV 1 hT (gdV q_ml_X6_40 q_im_X6_acceptsLine q_se_X6_acceptsLine q_in_X6 q_co_X6_acceptsLine) rfl rfl rfl hd_X6_acceptsLine ⟨Nat.le_of_ble_eq_true rfl, Nat.le_of_ble_eq_true rfl⟩) hK hF hP hD hS hA 0 rfl rfl rfl [0, 1, 2] [] [0, 1, 2] rfl (by decide) rfl (by decide) (by decide) rfl (by decide) rfl hl.1 rfl (Nat.le_of_ble_eq_true rfl) dX6_accepts_17 ⟨Nat.zero_le _, Nat.zero_le _⟩ (fun H locs hP hD hS => ?_)
        refine W.eq (g2 := F0 m 20 ls [.int r_19]) rfl ?_
        obtain ⟨h24, hf⟩ := gd_el hf
        replace hf := Option.some.inj hf
        simp only [Prod.mk.injEq] at hf
        obtain ⟨hf0, hf1, hf2, hf3⟩ := hf
        subst hf0; subst hf1; subst hf2; subst hf3
        exact hret H locs ls _ dX6_accepts_20 (b01_nar h24) hP hD hS
  refine key _ ?_ _ _ _ hP hD hS hl
  intro H locs ls pc d hz hP hD hS
  exact W.zret (v := rv) hx hb hr hz (fun t ht hW => ⟨⟨rfl, by rw [ht]; exact hP, hD⟩, hS.F ht⟩) hS.2.2 d
def p_X6_parse_L19 (v_length : Int32) (v_characters : (Nat → Int32)) (s : Int32 × Int32 × Int32 × (Nat → Int32)) : Option ((Int32 × Int32 × Int32 × (Nat → Int32)) ⊕ ((Int32 × Int32 × Int32 × (Nat → Int32)) ⊕ (Int32 × Int32 × Int32 × (Nat → Int32)))) := match s with
  | (i1_3, v_afterBar_4, v_afterDigit_5, v_cells_6) => (if v_length ≤ i1_3 then (some (.inr (.inl (i1_3, v_afterBar_4, v_afterDigit_5, v_cells_6)))) else (gd (ib i1_3 90) (if (v_characters (tn i1_3)) = (32 : Int32) then (some (.inl ((i1_3 + (1 : Int32)), v_afterBar_4, v_afterDigit_5, v_cells_6))) else (gd (ib i1_3 90) (bd4 (p_X6_accepts v_afterBar_4 v_afterDigit_5 v_cells_6 (v_characters (tn i1_3))) fun r_11 v_afterBar_12 v_afterDigit_13 v_cells_14 => (if r_11 = (0 : Int32) then (some (.inr (.inr (i1_3, v_afterBar_12, v_afterDigit_13, v_cells_14)))) else (some (.inl ((i1_3 + (1 : Int32)), v_afterBar_12, v_afterDigit_13, v_cells_14)))))))))
def p_X6_parse (v_length : Int32) (v_afterBar : Int32) (v_afterDigit : Int32) (v_characters : (Nat → Int32)) (v_cells : (Nat → Int32)) : Option (Int32 × Int32 × Int32 × (Nat → Int32)) :=
  (bd1 (p_X4_removeAllLines v_cells) fun v_cells_1 => (bdS (loopN (p_X6_parse_L19 v_length v_characters) fuel ((0 : Int32), (0 : Int32), (0 : Int32), v_cells_1)) (fun q => bd4 (some q) fun f1_25 v_afterBar_26 v_afterDigit_27 v_cells_28 => (if v_afterBar_26 = (0 : Int32) then (some ((-1 : Int32), v_afterBar_26, v_afterDigit_27, v_cells_28)) else (some (v_length, v_afterBar_26, v_afterDigit_27, v_cells_28)))) (fun q => some q)))
set_option maxHeartbeats 4000000 in
set_option maxRecDepth 100000 in
theorem c_X6_parse (l : Launch) (dC : Nat → ClassId) (dI : Nat → Nat → Nat) (cI cJ cP cS : ClassId) (a0 : Nat) (a1 : Nat) (a2 : Nat) (a3 : Nat) (v_length : Int32) (v_afterBar : Int32) (v_afterDigit : Int32) (v_characters : (Nat → Int32)) (v_cells : (Nat → Int32))   (rv : Int32) (v_afterBar_o : Int32) (v_afterDigit_o : Int32) (v_cells_o : (Nat → Int32)) (hf : p_X6_parse v_length v_afterBar v_afterDigit v_characters v_cells = some (rv, v_afterBar_o, v_afterDigit_o, v_cells_o)) : MC l (dC, dI) (tyl cI cJ cP cS) yX6_parse (Cond.code yX6_parse cX6_parse 2 (some .int) :: TBG) ({ frames := 4, cells := 0, slots := 0, locals := 88 } : Room) [.ref a0] [(a0, .inr (6, [.ref a1, .int v_length, .ref a2, .int v_afterBar, .int v_afterDigit])), (a1, .inl (cI, 90, .inl v_characters)), (a2, .inr (4, [.ref a3])), (a3, .inl (cI, 117, .inl v_cells))] [(a0, .inr (6, [.ref a1, .int v_length, .ref a2, .int v_afterBar_o, .int v_afterDigit_o])), (a1, .inl (cI, 90, .inl v_characters)), (a2, .inr (4, [.ref a3])), (a3, .inl (cI, 117, .inl v_cells_o))] (some (.int rv)) := by
  intro sz
  unfold MPost
  refine Met.ofW (cc := cX6_parse) (maxL := 2) (ret := (some .int)) (by decide) rfl ?_
  intro p e s m args below meth c s₁ B hml hv
  obtain ⟨rfl, hsz, hP, hK, hD0, hF⟩ := hv
  have hx := B.exec
  have hb := B.bytes
  have hr := B.returns
  have hT : ∀ w ∈ TBG, w.before _ s = true := fun w h => atoms_spec B.pre w (List.mem_cons_of_mem _ h)
  have hown : s.vm.findClass RX6 = some m.cls := findClass_of_methodNamed B.named
  have hlocks := B.notSynchronized
  subst hsz
  have hD := hD0.self (sz := s.heap.size)
  generalize hAe : va_A [(a0, .inr (6, [.ref a1, .int v_length, .ref a2, .int v_afterBar, .int v_afterDigit])), (a1, .inl (cI, 90, .inl v_characters)), (a2, .inr (4, [.ref a3])), (a3, .inl (cI, 117, .inl v_cells))] s.heap.size = A at hD hF ⊢
  have hA : ∀ q : Nat, s.heap.size ≤ q → A q := fun q h => by rw [← hAe]; exact Or.inr h
  have hS : va_S A s.heap s.heap [] := va_S.rf
  have hl := lv_entry ([.ref a0]) (n := 2) (Nat.le_of_ble_eq_true rfl)
  rw [lg_entry_eq]
  generalize (lg_sl ([.ref a0]) ++ List.replicate (2 - (lg_sl ([.ref a0])).length) Slot.unset).toArray = ls at hl ⊢
  have hl : lv_has ls 2 [(0, .ref a0)] := hl
  generalize ([.ref a0] : List Value).toArray = args at hT ⊢
  have key : ∀ (Q : State → Prop), (∀ (H : Heap) (locs : List Loc) (ls : Array Slot) (pc : Nat), decode cX6_parse pc = .ok (.ireturn, 1) → va_P (dC, dI) vwCl [(a0, .inr (6, [.ref a1, .int v_length, .ref a2, .int v_afterBar_o, .int v_afterDigit_o])), (a1, .inl (cI, 90, .inl v_characters)), (a2, .inr (4, [.ref a3])), (a3, .inl (cI, 117, .inl v_cells_o))] H → va_D A [(a0, .inr (6, [.ref a1, .int v_length, .ref a2, .int v_afterBar_o, .int v_afterDigit_o])), (a1, .inl (cI, 90, .inl v_characters)), (a2, .inr (4, [.ref a3])), (a3, .inl (cI, 117, .inl v_cells_o))] → va_S A s.heap H locs → W p l e ({ frames := 4, cells := 0, slots := 0, locals := 88 } : Room) s m args below meth c H locs 0 0 Q (F0 m pc ls [.int rv])) → ∀ (H : Heap) (locs : List Loc) (ls : Array Slot), va_P (dC, dI) vwCl [(a0, .inr (6, [.ref a1, .int v_length, .ref a2, .int v_afterBar, .int v_afterDigit])), (a1, .inl (cI, 90, .inl v_characters)), (a2, .inr (4, [.ref a3])), (a3, .inl (cI, 117, .inl v_cells))] H → va_D A [(a0, .inr (6, [.ref a1, .int v_length, .ref a2, .int v_afterBar, .int v_afterDigit])), (a1, .inl (cI, 90, .inl v_characters)), (a2, .inr (4, [.ref a3])), (a3, .inl (cI, 117, .inl v_cells))] → va_S A s.heap H locs → lv_has ls 2 [(0, .ref a0)] → W p l e ({ frames := 4, cells := 0, slots := 0, locals := 88 } : Room) s m args below meth c H locs 0 0 Q (F0 m 0 ls []) := by
    intro Q hret H locs ls hP hD hS hl
    refine lv_aload_n hx hb dX6_parse_0 rfl (lv_at hl 0 rfl) ?_
    refine va_get (D := (dC, dI)) (ci := 6) (v := .ref a2) (C := RX6) (T := TX6) (N := 5) hx hb hT in_X6 hown hK hP 0 rfl rfl 2 (by decide) (hT _ q_fl_X6_22) (fun _ h9 => h9) rfl dX6_parse_1 ?_
    obtain ⟨v_cells_1, hq2, hf⟩ := bd1_el hf
    refine mc_V (As := []) (rest := []) (wr := [(a0, .inr (6, [.ref a1, .int v_length, .ref a2, .int v_afterBar, .int v_afterDigit])), (a1, .inl (cI, 90, .inl v_characters))]) (wn := [(a0, .inr (6, [.ref a1, .int v_length, .ref a2, .int v_afterBar, .int v_afterDigit])), (a1, .inl (cI, 90, .inl v_characters)), (a2, .inr (4, [.ref a3])), (a3, .inl (cI, 117, .inl v_cells_1))]) ⟨hx, hb, hml, hown, hT⟩ (c_X4_removeAllLines l dC dI cI cJ cP cS a2 a3 v_cells v_cells_1 hq2) (cwV 0 hT (gdV q_ml_X6_26 q_im_X4_removeAllLines q_se_X4_removeAllLines q_in_X4 q_co_X4_removeAllLines) rfl rfl rfl hd_X4_removeAllLines ⟨Nat.le_of_ble_eq_true rfl, Nat.le_of_ble_eq_true rfl⟩) hK hF hP hD hS hA 2 rfl rfl rfl [2, 3] [0, 1] [0, 1, 2, 3] rfl (by decide) rfl (by decide) (by decide) rfl (by decide) rfl hl.1 rfl (Nat.le_of_ble_eq_true rfl) dX6_parse_4 ⟨Nat.zero_le _, Nat.zero_le _⟩ (fun H locs hP hD hS => ?_)
    refine W.eq (g2 := F0 m 7 ls []) rfl ?_
    refine lv_aload_n hx hb dX6_parse_7 rfl (lv_at hl 0 rfl) ?_
    refine lv_iconst (v := 0) hx hb dX6_parse_8 (by decide) ?_
    refine va_put (D := (dC, dI)) (ci := 6) (v := .int (0 : Int32)) (ty := .boolean) (C := RX6) (T := TX6) (N := 5) hx hb hT in_X6 tyX6 tyX6_ok nmX6 hown hK hP hD hS 0 rfl rfl 3 (by decide) (hT _ q_fl_X6_29) (fun _ h9 => h9) rfl (tyX6_ok 3 (by decide)) rfl rfl (Nat.le_of_ble_eq_true rfl) dX6_parse_9 (fun H locs hP hD hS => ?_)
    have hP : va_P (dC, dI) vwCl [(a0, .inr (6, [.ref a1, .int v_length, .ref a2, .int (0 : Int32), .int v_afterDigit])), (a1, .inl (cI, 90, .inl v_characters)), (a2, .inr (4, [.ref a3])), (a3, .inl (cI, 117, .inl v_cells_1))] H := hP
    have hD : va_D A [(a0, .inr (6, [.ref a1, .int v_length, .ref a2, .int (0 : Int32), .int v_afterDigit])), (a1, .inl (cI, 90, .inl v_characters)), (a2, .inr (4, [.ref a3])), (a3, .inl (cI, 117, .inl v_cells_1))] := hD
    refine lv_aload_n hx hb dX6_parse_12 rfl (lv_at hl 0 rfl) ?_
    refine lv_iconst (v := 0) hx hb dX6_parse_13 (by decide) ?_
    refine va_put (D := (dC, dI)) (ci := 6) (v := .int (0 : Int32)) (ty := .boolean) (C := RX6) (T := TX6) (N := 5) hx hb hT in_X6 tyX6 tyX6_ok nmX6 hown hK hP hD hS 0 rfl rfl 4 (by decide) (hT _ q_fl_X6_33) (fun _ h9 => h9) rfl (tyX6_ok 4 (by decide)) rfl rfl (Nat.le_of_ble_eq_true rfl) dX6_parse_14 (fun H locs hP hD hS => ?_)
    have hP : va_P (dC, dI) vwCl [(a0, .inr (6, [.ref a1, .int v_length, .ref a2, .int (0 : Int32), .int (0 : Int32)])), (a1, .inl (cI, 90, .inl v_characters)), (a2, .inr (4, [.ref a3])), (a3, .inl (cI, 117, .inl v_cells_1))] H := hP
    have hD : va_D A [(a0, .inr (6, [.ref a1, .int v_length, .ref a2, .int (0 : Int32), .int (0 : Int32)])), (a1, .inl (cI, 90, .inl v_characters)), (a2, .inr (4, [.ref a3])), (a3, .inl (cI, 117, .inl v_cells_1))] := hD
    refine lv_iconst (v := 0) hx hb dX6_parse_17 (by decide) ?_
    refine lv_istore_n (lv' := [(1, .int (0 : Int32)), (0, .ref a0)]) hx hb dX6_parse_18 rfl hl (by decide) rfl (fun ls hl => ?_)
    have hL19 : ∀ (rr : (Int32 × Int32 × Int32 × (Nat → Int32)) ⊕ (Int32 × Int32 × Int32 × (Nat → Int32))), (∀ (z_17 : Int32) (z_18 : Int32) (z_19 : Int32) (z_20 : (Nat → Int32)), rr = .inl (z_17, z_18, z_19, z_20) → ∀ (H : Heap) (locs : List Loc) (ls : Array Slot), va_P (dC, dI) vwCl [(a0, .inr (6, [.ref a1, .int v_length, .ref a2, .int z_18, .int z_19])), (a1, .inl (cI, 90, .inl v_characters)), (a2, .inr (4, [.ref a3])), (a3, .inl (cI, 117, .inl z_20))] H → va_D A [(a0, .inr (6, [.ref a1, .int v_length, .ref a2, .int z_18, .int z_19])), (a1, .inl (cI, 90, .inl v_characters)), (a2, .inr (4, [.ref a3])), (a3, .inl (cI, 117, .inl z_20))] → va_S A s.heap H locs → lv_has ls 2 [(0, .ref a0)] → W p l e ({ frames := 4, cells := 0, slots := 0, locals := 88 } : Room) s m args below meth c H locs 0 0 Q (F0 m 59 ls [])) → (∀ (u_21 : Int32) (u_22 : Int32) (u_23 : Int32) (u_24 : (Nat → Int32)), rr = .inr (u_21, u_22, u_23, u_24) → ∀ (H : Heap) (locs : List Loc) (ls : Array Slot) (pc : Nat), decode cX6_parse pc = .ok (.ireturn, 1) → va_P (dC, dI) vwCl [(a0, .inr (6, [.ref a1, .int v_length, .ref a2, .int u_22, .int u_23])), (a1, .inl (cI, 90, .inl v_characters)), (a2, .inr (4, [.ref a3])), (a3, .inl (cI, 117, .inl u_24))] H → va_D A [(a0, .inr (6, [.ref a1, .int v_length, .ref a2, .int u_22, .int u_23])), (a1, .inl (cI, 90, .inl v_characters)), (a2, .inr (4, [.ref a3])), (a3, .inl (cI, 117, .inl u_24))] → va_S A s.heap H locs → W p l e ({ frames := 4, cells := 0, slots := 0, locals := 88 } : Room) s m args below meth c H locs 0 0 Q (F0 m pc ls [.int u_21])) → ∀ (n : Nat) (i1_3 : Int32) (v_afterBar_4 : Int32) (v_afterDigit_5 : Int32) (v_cells_6 : (Nat → Int32)), loopN (p_X6_parse_L19 v_length v_characters) n (i1_3, v_afterBar_4, v_afterDigit_5, v_cells_6) = some rr → ∀ (H : Heap) (locs : List Loc) (ls : Array Slot), va_P (dC, dI) vwCl [(a0, .inr (6, [.ref a1, .int v_length, .ref a2, .int v_afterBar_4, .int v_afterDigit_5])), (a1, .inl (cI, 90, .inl v_characters)), (a2, .inr (4, [.ref a3])), (a3, .inl (cI, 117, .inl v_cells_6))] H → va_D A [(a0, .inr (6, [.ref a1, .int v_length, .ref a2, .int v_afterBar_4, .int v_afterDigit_5])), (a1, .inl (cI, 90, .inl v_characters)), (a2, .inr (4, [.ref a3])), (a3, .inl (cI, 117, .inl v_cells_6))] → va_S A s.heap H locs → lv_has ls 2 [(0, .ref a0), (1, .int i1_3)] → W p l e ({ frames := 4, cells := 0, slots := 0, locals := 88 } : Room) s m args below meth c H locs 0 0 Q (F0 m 19 ls []) := by
      intro rr hk19 hkr19 n
      induction n with
      | zero => intro i1_3 v_afterBar_4 v_afterDigit_5 v_cells_6 hf; cases hf
      | succ n ih19 =>
        intro i1_3 v_afterBar_4 v_afterDigit_5 v_cells_6 hf H locs ls hP hD hS hl
        obtain ⟨o19, hf, hi, he⟩ := loopN_el hf
        refine lv_iload_n hx hb dX6_parse_19 rfl (lv_at hl 1 rfl) ?_
        refine lv_aload_n hx hb dX6_parse_20 rfl (lv_at hl 0 rfl) ?_
        refine va_get (D := (dC, dI)) (ci := 6) (v := .int v_length) (C := RX6) (T := TX6) (N := 5) hx hb hT in_X6 hown hK hP 0 rfl rfl 1 (by decide) (hT _ q_fl_X6_15) (fun _ h9 => h9) rfl dX6_parse_21 ?_
        refine lv_icmp_ge (tgt := 59) hx hb dX6_parse_24 (by decide) (fun c7 => ?_) (fun c7 => ?_)
        · replace hf := it_t c7 hf
          exact hk19 _ _ _ _ (he _ (Option.some.inj hf).symm).symm H locs ls hP hD hS (lv_sub hl [0] rfl)
        · replace hf := it_f c7 hf
          refine lv_aload_n hx hb dX6_parse_27 rfl (lv_at hl 0 rfl) ?_
          refine va_get (D := (dC, dI)) (ci := 6) (v := .ref a1) (C := RX6) (T := TX6) (N := 5) hx hb hT in_X6 hown hK hP 0 rfl rfl 0 (by decide) (hT _ q_fl_X6_9) (fun _ h9 => h9) rfl dX6_parse_28 ?_
          refine lv_iload_n hx hb dX6_parse_31 rfl (lv_at hl 1 rfl) ?_
          obtain ⟨h8, hf⟩ := gd_el hf
          refine ia_ld hx hb hK hP 1 0 rfl rfl (ib_in h8) (j := (tn i1_3)) rfl dX6_parse_32 ?_
          refine lv_bipush (v := 32) hx hb dX6_parse_33 (by decide) ?_
          refine lv_icmp_eq (tgt := 53) hx hb dX6_parse_35 (by decide) (fun c9 => ?_) (fun c9 => ?_)
          · replace hf := it_t c9 hf
            refine lv_iinc (v := (i1_3 + (1 : Int32))) (lv' := [(1, .int (i1_3 + (1 : Int32))), (0, .ref a0)]) hx hb dX6_parse_53 hl (k := 1) rfl rfl (by decide) rfl (fun ls hl => ?_)
            refine lv_goto (tgt := 19) hx hb dX6_parse_56 (by decide) ?_
            exact ih19 (i1_3 + (1 : Int32)) v_afterBar_4 v_afterDigit_5 v_cells_6 (hi _ (Option.some.inj hf).symm) H locs ls hP hD hS (lv_sub hl [1, 0] rfl)
          · replace hf := it_f c9 hf
            refine lv_aload_n hx hb dX6_parse_38 rfl (lv_at hl 0 rfl) ?_
            refine lv_aload_n hx hb dX6_parse_39 rfl (lv_at hl 0 rfl) ?_
            refine va_get (D := (dC, dI)) (ci := 6) (v := .ref a1) (C := RX6) (T := TX6) (N := 5) hx hb hT in_X6 hown hK hP 0 rfl rfl 0 (by decide) (hT _ q_fl_X6_9) (fun _ h9 => h9) rfl dX6_parse_40 ?_
            refine lv_iload_n hx hb dX6_parse_43 rfl (lv_at hl 1 rfl) ?_
            obtain ⟨h10, hf⟩ := gd_el hf
            refine ia_ld hx hb hK hP 1 0 rfl rfl (ib_in h10) (j := (tn i1_3)) rfl dX6_parse_44 ?_
            obtain ⟨r_11, v_afterBar_12, v_afterDigit_13, v_cells_14, hq15, hf⟩ := bd4_el hf
            refine mc_V (As := [.int (v_characters (tn i1_3))]) (rest := []) (wr := [(a1, .inl (cI, 90, .inl v_characters))]) (wn := [(a0, .inr (6, [.ref a1, .int v_length, .ref a2, .int v_afterBar_12, .int v_afterDigit_13])), (a1, .inl (cI, 90, .inl v_characters)), (a2, .inr (4, [.ref a3])), (a3, .inl (cI, 117, .inl v_cells_14))]) ⟨hx, hb, hml, hown, hT⟩ (c_X6_accepts l dC dI cI cJ cP cS a0 a1 a2 a3 v_length v_afterBar_4 v_afterDigit_5 v_cells_6 (v_characters (tn i1_3)) r_11 v_afterBar_12 v_afterDigit_13 v_cells_14 hq15) (cwV 1 hT (gdV q_ml_X6_36 q_im_X6_accepts q_se_X6_accepts q_in_X6 q_co_X6_accepts) rfl rfl rfl hd_X6_accepts ⟨Nat.le_of_ble_eq_true rfl, Nat.le_of_ble_eq_true rfl⟩) hK hF hP hD hS hA 0 rfl rfl rfl [0, 2, 3] [1] [1, 0, 2, 3] rfl (by decide) rfl (by decide) (by decide) rfl (by decide) rfl hl.1 rfl (Nat.le_of_ble_eq_true rfl) dX6_parse_45 ⟨Nat.zero_le _, Nat.zero_le _⟩ (fun H locs hP hD hS => ?_)
            refine W.eq (g2 := F0 m 48 ls [.int r_11]) rfl ?_
            refine lv_if_ne (tgt := 53) hx hb dX6_parse_48 (by decide) (fun c16 => ?_) (fun c16 => ?_)
            · replace hf := it_f c16 hf
              refine lv_iinc (v := (i1_3 + (1 : Int32))) (lv' := [(1, .int (i1_3 + (1 : Int32))), (0, .ref a0)]) hx hb dX6_parse_53 hl (k := 1) rfl rfl (by decide) rfl (fun ls hl => ?_)
              refine lv_goto (tgt := 19) hx hb dX6_parse_56 (by decide) ?_
              exact ih19 (i1_3 + (1 : Int32)) v_afterBar_12 v_afterDigit_13 v_cells_14 (hi _ (Option.some.inj hf).symm) H locs ls hP hD hS (lv_sub hl [1, 0] rfl)
            · replace hf := it_t c16 hf
              refine lv_iload_n hx hb dX6_parse_51 rfl (lv_at hl 1 rfl) ?_
              exact hkr19 _ _ _ _ (he _ (Option.some.inj hf).symm).symm H locs ls _ dX6_parse_52 hP hD hS
    rcases bdS_el hf with ⟨q, hq, hf⟩ | ⟨q, hq, hf⟩
    · obtain ⟨f1_25, v_afterBar_26, v_afterDigit_27, v_cells_28, eq9, hf⟩ := bd4_el hf
      cases eq9
      refine hL19 (.inl (f1_25, v_afterBar_26, v_afterDigit_27, v_cells_28)) (fun z_17 z_18 z_19 z_20 h9 H locs ls hP hD hS hl => ?_) (fun _ _ _ _ h9 => by cases h9) fuel (0 : Int32) (0 : Int32) (0 : Int32) v_cells_1 hq H locs ls hP hD hS (lv_sub hl [1, 0] rfl)
      replace h9 := Sum.inl.inj h9
      simp only [Prod.mk.injEq] at h9
      obtain ⟨h9_0, h9_1, h9_2, h9_3⟩ := h9
      subst h9_0; subst h9_1; subst h9_2; subst h9_3
      refine lv_aload_n hx hb dX6_parse_59 rfl (lv_at hl 0 rfl) ?_
      refine va_get (D := (dC, dI)) (ci := 6) (v := .int v_afterBar_26) (C := RX6) (T := TX6) (N := 5) hx hb hT in_X6 hown hK hP 0 rfl rfl 3 (by decide) (hT _ q_fl_X6_29) (fun _ h9 => h9) rfl dX6_parse_60 ?_
      refine lv_if_eq (tgt := 73) hx hb dX6_parse_63 (by decide) (fun c29 => ?_) (fun c29 => ?_)
      · replace hf := it_t c29 hf
        refine lv_iconst (v := (-1)) hx hb dX6_parse_73 (by decide) ?_
        replace hf := Option.some.inj hf
        simp only [Prod.mk.injEq] at hf
        obtain ⟨hf0, hf1, hf2, hf3⟩ := hf
        subst hf0; subst hf1; subst hf2; subst hf3
        exact hret H locs ls _ dX6_parse_74 hP hD hS
      · replace hf := it_f c29 hf
        refine lv_aload_n hx hb dX6_parse_66 rfl (lv_at hl 0 rfl) ?_
        refine va_get (D := (dC, dI)) (ci := 6) (v := .int v_length) (C := RX6) (T := TX6) (N := 5) hx hb hT in_X6 hown hK hP 0 rfl rfl 1 (by decide) (hT _ q_fl_X6_15) (fun _ h9 => h9) rfl dX6_parse_67 ?_
        refine lv_goto (tgt := 74) hx hb dX6_parse_70 (by decide) ?_
        replace hf := Option.some.inj hf
        simp only [Prod.mk.injEq] at hf
        obtain ⟨hf0, hf1, hf2, hf3⟩ := hf
        subst hf0; subst hf1; subst hf2; subst hf3
        exact hret H locs ls _ dX6_parse_74 hP hD hS
    · refine hL19 (.inr q) (fun _ _ _ _ h9 => by cases h9) ?_ fuel (0 : Int32) (0 : Int32) (0 : Int32) v_cells_1 hq H locs ls hP hD hS (lv_sub hl [1, 0] rfl)
      intro z0 z1 z2 z3 h9
      replace h9 := Sum.inr.inj h9
      subst h9
      cases hf
      exact hret
  refine key _ ?_ _ _ _ hP hD hS hl
  intro H locs ls pc d hP hD hS
  exact W.iret (v := rv) hx hb hr (fun t ht hW => ⟨⟨rfl, by rw [ht]; exact hP, hD⟩, hS.F ht⟩) hS.2.2 d
