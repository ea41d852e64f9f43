def p_X8_in (x0 : Int64) (x2 : Int64) (x4 : Int64) : Option (Int32) :=
  (if (lg_cmp x0 x2) < (0 : Int32) then (some (0 : Int32)) else (if (0 : Int32) < (lg_cmp x0 x4) then (some (0 : Int32)) else (some (1 : Int32))))
set_option maxHeartbeats 4000000 in
set_option maxRecDepth 100000 in
theorem c_X8_in (l : Launch) (dC : Nat → ClassId) (dI : Nat → Nat → Nat) (cI cJ cP cS : ClassId)    (x0 : Int64) (x2 : Int64) (x4 : Int64) (rv : Int32)  (hf : p_X8_in x0 x2 x4 = some rv) : MC l (dC, dI) (tyl cI cJ cP cS) yX8_in (Cond.code yX8_in cX8_in 6 (some .boolean) :: TBG) ({ frames := 0, cells := 0, slots := 0, locals := 0 } : Room) [.long x0, .long x2, .long x4] [] [] (some (.int rv)) := by
  intro sz
  unfold MPost
  refine Met.ofW (cc := cX8_in) (maxL := 6) (ret := (some .boolean)) (by decide) rfl ?_
  intro p e s m args below meth c s₁ B hml hv
  obtain ⟨rfl, hsz, hP, hK, hD0, hF⟩ := hv
  have hx := B.exec
  have hb := B.bytes
  have hr := B.returns
  have hT : ∀ w ∈ TBG, w.before _ s = true := fun w h => atoms_spec B.pre w (List.mem_cons_of_mem _ h)
  have hown : s.vm.findClass RX8 = some m.cls := findClass_of_methodNamed B.named
  have hlocks := B.notSynchronized
  subst hsz
  have hD := hD0.self (sz := s.heap.size)
  generalize hAe : va_A [] s.heap.size = A at hD hF ⊢
  have hA : ∀ q : Nat, s.heap.size ≤ q → A q := fun q h => by rw [← hAe]; exact Or.inr h
  have hS : va_S A s.heap s.heap [] := va_S.rf
  have hl := lv_entry ([.long x0, .long x2, .long x4]) (n := 6) (Nat.le_of_ble_eq_true rfl)
  rw [lg_entry_eq]
  generalize (lg_sl ([.long x0, .long x2, .long x4]) ++ List.replicate (6 - (lg_sl ([.long x0, .long x2, .long x4])).length) Slot.unset).toArray = ls at hl ⊢
  have hl : lv_has ls 6 [(0, .long x0), (2, .long x2), (4, .long x4)] := hl
  generalize ([.long x0, .long x2, .long x4] : List Value).toArray = args at hT ⊢
  have key : ∀ (Q : State → Prop), (∀ (H : Heap) (locs : List Loc) (ls : Array Slot) (pc : Nat), decode cX8_in pc = .ok (.ireturn, 1) → narrow .boolean (.int rv) = .int rv → va_P (dC, dI) vwCl [] H → va_D A [] → va_S A s.heap H locs → W p l e ({ frames := 0, cells := 0, slots := 0, locals := 0 } : Room) s m args below meth c H locs 0 0 Q (F0 m pc ls [.int rv])) → ∀ (H : Heap) (locs : List Loc) (ls : Array Slot), va_P (dC, dI) vwCl [] H → va_D A [] → va_S A s.heap H locs → lv_has ls 6 [(0, .long x0), (2, .long x2), (4, .long x4)] → W p l e ({ frames := 0, cells := 0, slots := 0, locals := 0 } : Room) s m args below meth c H locs 0 0 Q (F0 m 0 ls []) := by
    intro Q hret H locs ls hP hD hS hl
    refine lv_lload_n hx hb dX8_in_0 rfl (lv_at hl 0 rfl) ?_
    refine lv_lload_n hx hb dX8_in_1 rfl (lv_at hl 1 rfl) ?_
    refine W.lcmp hx hb dX8_in_2 ?_
    refine lv_if_lt (tgt := 17) hx hb dX8_in_3 (by decide) (fun c1 => ?_) (fun c1 => ?_)
    · replace hf := it_t c1 hf
      refine lv_iconst (v := 0) hx hb dX8_in_17 (by decide) ?_
      replace hf := Option.some.inj hf
      subst hf
      exact hret H locs ls _ dX8_in_18 rfl hP hD hS
    · replace hf := it_f c1 hf
      refine lv_lload_n hx hb dX8_in_6 rfl (lv_at hl 0 rfl) ?_
      refine lv_lload hx hb dX8_in_7 (lv_at hl 2 rfl) ?_
      refine W.lcmp hx hb dX8_in_9 ?_
      refine lv_if_gt (tgt := 17) hx hb dX8_in_10 (by decide) (fun c2 => ?_) (fun c2 => ?_)
      · replace hf := it_t c2 hf
        refine lv_iconst (v := 0) hx hb dX8_in_17 (by decide) ?_
        replace hf := Option.some.inj hf
        subst hf
        exact hret H locs ls _ dX8_in_18 rfl hP hD hS
      · replace hf := it_f c2 hf
        refine lv_iconst (v := 1) hx hb dX8_in_13 (by decide) ?_
        refine lv_goto (tgt := 18) hx hb dX8_in_14 (by decide) ?_
        replace hf := Option.some.inj hf
        subst hf
        exact hret H locs ls _ dX8_in_18 rfl hP hD hS
  refine key _ ?_ _ _ _ hP hD hS hl
  intro H locs ls pc d hz hP hD hS
  exact W.zret (v := rv) hx hb hr hz (fun t ht hW => ⟨⟨rfl, by rw [ht]; exact hP, hD⟩, hS.F ht⟩) hS.2.2 d
def p_X8_isLine (v_now : (Nat → Int32)) (x1 : Int32) : Option (Int32) :=
  (bd1 (p_X8_in (Int32.toInt64 x1) (0 : Int64) (Int32.toInt64 ((v_now 0) - (1 : Int32)))) fun r_1 => (gd (b01 r_1) (some r_1)))
set_option maxHeartbeats 4000000 in
set_option maxRecDepth 100000 in
theorem c_X8_isLine (l : Launch) (dC : Nat → ClassId) (dI : Nat → Nat → Nat) (cI cJ cP cS : ClassId) (a0 : Nat) (a1 : Nat) (a2 : Nat) (a3 : Nat) (a4 : Nat) (a5 : Nat) (a6 : Nat) (a7 : Nat) (a8 : Nat) (a9 : Nat) (a10 : Nat) (a11 : Nat) (a12 : Nat) (a13 : Nat) (a14 : Nat) (a15 : Nat) (a16 : Nat) (v_acts : Int32) (v_keptActs : Int32) (v_typed : Int32) (v_isSet : Int32) (v_arePages : Int32) (v_place : Int32) (v_readMany : Int32) (v_now : (Nat → Int32))  (x1 : Int32) (rv : Int32)  (hf : p_X8_isLine v_now x1 = some rv) : MC l (dC, dI) (tyl cI cJ cP cS) yX8_isLine (Cond.code yX8_isLine cX8_isLine 2 (some .boolean) :: TBG) ({ frames := 1, cells := 0, slots := 0, locals := 25 } : Room) [.ref a0, .int x1] [(a0, .inr (8, [.ref a1, .ref a2, .int v_acts, .ref a3, .ref a4, .int v_keptActs, .ref a5, .int v_typed, .ref a6, .ref a7, .ref a8, .ref a9, .ref a10, .int v_isSet, .ref a11, .ref a12, .ref a13, .int v_arePages, .ref a14, .ref a15, .int v_place, .ref a16, .int v_readMany])), (a1, .inl (cI, 189, .inl v_now))] [(a0, .inr (8, [.ref a1, .ref a2, .int v_acts, .ref a3, .ref a4, .int v_keptActs, .ref a5, .int v_typed, .ref a6, .ref a7, .ref a8, .ref a9, .ref a10, .int v_isSet, .ref a11, .ref a12, .ref a13, .int v_arePages, .ref a14, .ref a15, .int v_place, .ref a16, .int v_readMany])), (a1, .inl (cI, 189, .inl v_now))] (some (.int rv)) := by
  intro sz
  unfold MPost
  refine Met.ofW (cc := cX8_isLine) (maxL := 2) (ret := (some .boolean)) (by decide) rfl ?_
  intro p e s m args below meth c s₁ B hml hv
  obtain ⟨rfl, hsz, hP, hK, hD0, hF⟩ := hv
  have hx := B.exec
  have hb := B.bytes
  have hr := B.returns
  have hT : ∀ w ∈ TBG, w.before _ s = true := fun w h => atoms_spec B.pre w (List.mem_cons_of_mem _ h)
  have hown : s.vm.findClass RX8 = some m.cls := findClass_of_methodNamed B.named
  have hlocks := B.notSynchronized
  subst hsz
  have hD := hD0.self (sz := s.heap.size)
  generalize hAe : va_A [(a0, .inr (8, [.ref a1, .ref a2, .int v_acts, .ref a3, .ref a4, .int v_keptActs, .ref a5, .int v_typed, .ref a6, .ref a7, .ref a8, .ref a9, .ref a10, .int v_isSet, .ref a11, .ref a12, .ref a13, .int v_arePages, .ref a14, .ref a15, .int v_place, .ref a16, .int v_readMany])), (a1, .inl (cI, 189, .inl v_now))] s.heap.size = A at hD hF ⊢
  have hA : ∀ q : Nat, s.heap.size ≤ q → A q := fun q h => by rw [← hAe]; exact Or.inr h
  have hS : va_S A s.heap s.heap [] := va_S.rf
  have hl := lv_entry ([.ref a0, .int x1]) (n := 2) (Nat.le_of_ble_eq_true rfl)
  rw [lg_entry_eq]
  generalize (lg_sl ([.ref a0, .int x1]) ++ List.replicate (2 - (lg_sl ([.ref a0, .int x1])).length) Slot.unset).toArray = ls at hl ⊢
  have hl : lv_has ls 2 [(0, .ref a0), (1, .int x1)] := hl
  generalize ([.ref a0, .int x1] : List Value).toArray = args at hT ⊢
  have key : ∀ (Q : State → Prop), (∀ (H : Heap) (locs : List Loc) (ls : Array Slot) (pc : Nat), decode cX8_isLine pc = .ok (.ireturn, 1) → narrow .boolean (.int rv) = .int rv → va_P (dC, dI) vwCl [(a0, .inr (8, [.ref a1, .ref a2, .int v_acts, .ref a3, .ref a4, .int v_keptActs, .ref a5, .int v_typed, .ref a6, .ref a7, .ref a8, .ref a9, .ref a10, .int v_isSet, .ref a11, .ref a12, .ref a13, .int v_arePages, .ref a14, .ref a15, .int v_place, .ref a16, .int v_readMany])), (a1, .inl (cI, 189, .inl v_now))] H → va_D A [(a0, .inr (8, [.ref a1, .ref a2, .int v_acts, .ref a3, .ref a4, .int v_keptActs, .ref a5, .int v_typed, .ref a6, .ref a7, .ref a8, .ref a9, .ref a10, .int v_isSet, .ref a11, .ref a12, .ref a13, .int v_arePages, .ref a14, .ref a15, .int v_place, .ref a16, .int v_readMany])), (a1, .inl (cI, 189, .inl v_now))] → va_S A s.heap H locs → W p l e ({ frames := 1, cells := 0, slots := 0, locals := 25 } : Room) s m args below meth c H locs 0 0 Q (F0 m pc ls [.int rv])) → ∀ (H : Heap) (locs : List Loc) (ls : Array Slot), va_P (dC, dI) vwCl [(a0, .inr (8, [.ref a1, .ref a2, .int v_acts, .ref a3, .ref a4, .int v_keptActs, .ref a5, .int v_typed, .ref a6, .ref a7, .ref a8, .ref a9, .ref a10, .int v_isSet, .ref a11, .ref a12, .ref a13, .int v_arePages, .ref a14, .ref a15, .int v_place, .ref a16, .int v_readMany])), (a1, .inl (cI, 189, .inl v_now))] H → va_D A [(a0, .inr (8, [.ref a1, .ref a2, .int v_acts, .ref a3, .ref a4, .int v_keptActs, .ref a5, .int v_typed, .ref a6, .ref a7, .ref a8, .ref a9, .ref a10, .int v_isSet, .ref a11, .ref a12, .ref a13, .int v_arePages, .ref a14, .ref a15, .int v_place, .ref a16, .int v_readMany])), (a1, .inl (cI, 189, .inl v_now))] → va_S A s.heap H locs → lv_has ls 2 [(0, .ref a0), (1, .int x1)] → W p l e ({ frames := 1, cells := 0, slots := 0, locals := 25 } : Room) s m args below meth c H locs 0 0 Q (F0 m 0 ls []) := by
    intro Q hret H locs ls hP hD hS hl
    refine lv_iload_n hx hb dX8_isLine_0 rfl (lv_at hl 1 rfl) ?_
    refine lv_i2l hx hb dX8_isLine_1 rfl ?_
    refine lv_lconst (v := 0) hx hb dX8_isLine_2 (by decide) ?_
    refine lv_aload_n hx hb dX8_isLine_3 rfl (lv_at hl 0 rfl) ?_
    refine va_get (D := (dC, dI)) (ci := 8) (v := .ref a1) (C := RX8) (T := TX8) (N := 23) hx hb hT in_X8 hown hK hP 0 rfl rfl 0 (by decide) (hT _ q_fl_X8_7) (fun _ h9 => h9) rfl dX8_isLine_4 ?_
    refine lv_iconst (v := 0) hx hb dX8_isLine_7 (by decide) ?_
    refine ia_ld hx hb hK hP 1 0 rfl rfl (ib_in (by decide)) (j := 0) (by decide) dX8_isLine_8 ?_
    refine lv_iconst (v := 1) hx hb dX8_isLine_9 (by decide) ?_
    refine lv_isub hx hb dX8_isLine_10 ?_
    refine lv_i2l hx hb dX8_isLine_11 rfl ?_
    obtain ⟨r_1, hq2, hf⟩ := bd1_el hf
    refine mc_S (As := [.long (Int32.toInt64 x1), .long (0 : Int64), .long (Int32.toInt64 ((v_now 0) - (1 : Int32)))]) (rest := []) (wr := [(a0, .inr (8, [.ref a1, .ref a2, .int v_acts, .ref a3, .ref a4, .int v_keptActs, .ref a5, .int v_typed, .ref a6, .ref a7, .ref a8, .ref a9, .ref a10, .int v_isSet, .ref a11, .ref a12, .ref a13, .int v_arePages, .ref a14, .ref a15, .int v_place, .ref a16, .int v_readMany])), (a1, .inl (cI, 189, .inl v_now))]) (wn := [(a0, .inr (8, [.ref a1, .ref a2, .int v_acts, .ref a3, .ref a4, .int v_keptActs, .ref a5, .int v_typed, .ref a6, .ref a7, .ref a8, .ref a9, .ref a10, .int v_isSet, .ref a11, .ref a12, .ref a13, .int v_arePages, .ref a14, .ref a15, .int v_place, .ref a16, .int v_readMany])), (a1, .inl (cI, 189, .inl v_now))]) ⟨hx, hb, hml, hown, hT⟩ (c_X8_in l dC dI cI cJ cP cS (Int32.toInt64 x1) (0 : Int64) (Int32.toInt64 ((v_now 0) - (1 : Int32))) r_1 hq2) (va_cwS 3 hT (gdS q_ml_X8_63 q_st_X8_in q_in_X8 q_co_X8_in) rfl rfl rfl hd_X8_in ⟨Nat.le_of_ble_eq_true rfl, Nat.le_of_ble_eq_true rfl⟩) hK hF hP hD hS hA [] [0, 1] [0, 1] rfl (by decide) rfl (by decide) (by decide) rfl (by decide) rfl hl.1 rfl (Nat.le_of_ble_eq_true rfl) dX8_isLine_12 ⟨Nat.zero_le _, Nat.zero_le _⟩ (fun H locs hP hD hS => ?_)
    refine W.eq (g2 := F0 m 15 ls [.int r_1]) rfl ?_
    obtain ⟨h3, hf⟩ := gd_el hf
    replace hf := Option.some.inj hf
    subst hf
    exact hret H locs ls _ dX8_isLine_15 (b01_nar h3) hP hD hS
  refine key _ ?_ _ _ _ hP hD hS hl
  intro H locs ls pc d hz hP hD hS
  exact W.zret (v := rv) hx hb hr hz (fun t ht hW => ⟨⟨rfl, by rw [ht]; exact hP, hD⟩, hS.F ht⟩) hS.2.2 d
def p_X8_at (v_now : (Nat → Int32)) (x1 : Int32) (x2 : Int32) : Option (Int32) :=
  (gd (ib (((9 : Int32) + ((15 : Int32) * x1)) + x2) 189) (some (v_now (tn (((9 : Int32) + ((15 : Int32) * x1)) + x2)))))
set_option maxHeartbeats 4000000 in
set_option maxRecDepth 100000 in
theorem c_X8_at (l : Launch) (dC : Nat → ClassId) (dI : Nat → Nat → Nat) (cI cJ cP cS : ClassId) (a0 : Nat) (a1 : Nat) (a2 : Nat) (a3 : Nat) (a4 : Nat) (a5 : Nat) (a6 : Nat) (a7 : Nat) (a8 : Nat) (a9 : Nat) (a10 : Nat) (a11 : Nat) (a12 : Nat) (a13 : Nat) (a14 : Nat) (a15 : Nat) (a16 : Nat) (v_acts : Int32) (v_keptActs : Int32) (v_typed : Int32) (v_isSet : Int32) (v_arePages : Int32) (v_place : Int32) (v_readMany : Int32) (v_now : (Nat → Int32))  (x1 : Int32) (x2 : Int32) (rv : Int32)  (hf : p_X8_at v_now x1 x2 = some rv) : MC l (dC, dI) (tyl cI cJ cP cS) yX8_at (Cond.code yX8_at cX8_at 3 (some .int) :: TBG) ({ frames := 0, cells := 0, slots := 0, locals := 0 } : Room) [.ref a0, .int x1, .int x2] [(a0, .inr (8, [.ref a1, .ref a2, .int v_acts, .ref a3, .ref a4, .int v_keptActs, .ref a5, .int v_typed, .ref a6, .ref a7, .ref a8, .ref a9, .ref a10, .int v_isSet, .ref a11, .ref a12, .ref a13, .int v_arePages, .ref a14, .ref a15, .int v_place, .ref a16, .int v_readMany])), (a1, .inl (cI, 189, .inl v_now))] [(a0, .inr (8, [.ref a1, .ref a2, .int v_acts, .ref a3, .ref a4, .int v_keptActs, .ref a5, .int v_typed, .ref a6, .ref a7, .ref a8, .ref a9, .ref a10, .int v_isSet, .ref a11, .ref a12, .ref a13, .int v_arePages, .ref a14, .ref a15, .int v_place, .ref a16, .int v_readMany])), (a1, .inl (cI, 189, .inl v_now))] (some (.int rv)) := by
  intro sz
  unfold MPost
  refine Met.ofW (cc := cX8_at) (maxL := 3) (ret := (some .int)) (by decide) rfl ?_
  intro p e s m args below meth c s₁ B hml hv
  obtain ⟨rfl, hsz, hP, hK, hD0, hF⟩ := hv
  have hx := B.exec
  have hb := B.bytes
  have hr := B.returns
  have hT : ∀ w ∈ TBG, w.before _ s = true := fun w h => atoms_spec B.pre w (List.mem_cons_of_mem _ h)
  have hown : s.vm.findClass RX8 = some m.cls := findClass_of_methodNamed B.named
  have hlocks := B.notSynchronized
  subst hsz
  have hD := hD0.self (sz := s.heap.size)
  generalize hAe : va_A [(a0, .inr (8, [.ref a1, .ref a2, .int v_acts, .ref a3, .ref a4, .int v_keptActs, .ref a5, .int v_typed, .ref a6, .ref a7, .ref a8, .ref a9, .ref a10, .int v_isSet, .ref a11, .ref a12, .ref a13, .int v_arePages, .ref a14, .ref a15, .int v_place, .ref a16, .int v_readMany])), (a1, .inl (cI, 189, .inl v_now))] s.heap.size = A at hD hF ⊢
  have hA : ∀ q : Nat, s.heap.size ≤ q → A q := fun q h => by rw [← hAe]; exact Or.inr h
  have hS : va_S A s.heap s.heap [] := va_S.rf
  have hl := lv_entry ([.ref a0, .int x1, .int x2]) (n := 3) (Nat.le_of_ble_eq_true rfl)
  rw [lg_entry_eq]
  generalize (lg_sl ([.ref a0, .int x1, .int x2]) ++ List.replicate (3 - (lg_sl ([.ref a0, .int x1, .int x2])).length) Slot.unset).toArray = ls at hl ⊢
  have hl : lv_has ls 3 [(0, .ref a0), (1, .int x1), (2, .int x2)] := hl
  generalize ([.ref a0, .int x1, .int x2] : List Value).toArray = args at hT ⊢
  have key : ∀ (Q : State → Prop), (∀ (H : Heap) (locs : List Loc) (ls : Array Slot) (pc : Nat), decode cX8_at pc = .ok (.ireturn, 1) → va_P (dC, dI) vwCl [(a0, .inr (8, [.ref a1, .ref a2, .int v_acts, .ref a3, .ref a4, .int v_keptActs, .ref a5, .int v_typed, .ref a6, .ref a7, .ref a8, .ref a9, .ref a10, .int v_isSet, .ref a11, .ref a12, .ref a13, .int v_arePages, .ref a14, .ref a15, .int v_place, .ref a16, .int v_readMany])), (a1, .inl (cI, 189, .inl v_now))] H → va_D A [(a0, .inr (8, [.ref a1, .ref a2, .int v_acts, .ref a3, .ref a4, .int v_keptActs, .ref a5, .int v_typed, .ref a6, .ref a7, .ref a8, .ref a9, .ref a10, .int v_isSet, .ref a11, .ref a12, .ref a13, .int v_arePages, .ref a14, .ref a15, .int v_place, .ref a16, .int v_readMany])), (a1, .inl (cI, 189, .inl v_now))] → va_S A s.heap H locs → W p l e ({ frames := 0, cells := 0, slots := 0, locals := 0 } : Room) s m args below meth c H locs 0 0 Q (F0 m pc ls [.int rv])) → ∀ (H : Heap) (locs : List Loc) (ls : Array Slot), va_P (dC, dI) vwCl [(a0, .inr (8, [.ref a1, .ref a2, .int v_acts, .ref a3, .ref a4, .int v_keptActs, .ref a5, .int v_typed, .ref a6, .ref a7, .ref a8, .ref a9, .ref a10, .int v_isSet, .ref a11, .ref a12, .ref a13, .int v_arePages, .ref a14, .ref a15, .int v_place, .ref a16, .int v_readMany])), (a1, .inl (cI, 189, .inl v_now))] H → va_D A [(a0, .inr (8, [.ref a1, .ref a2, .int v_acts, .ref a3, .ref a4, .int v_keptActs, .ref a5, .int v_typed, .ref a6, .ref a7, .ref a8, .ref a9, .ref a10, .int v_isSet, .ref a11, .ref a12, .ref a13, .int v_arePages, .ref a14, .ref a15, .int v_place, .ref a16, .int v_readMany])), (a1, .inl (cI, 189, .inl v_now))] → va_S A s.heap H locs → lv_has ls 3 [(0, .ref a0), (1, .int x1), (2, .int x2)] → W p l e ({ frames := 0, cells := 0, slots := 0, locals := 0 } : Room) s m args below meth c H locs 0 0 Q (F0 m 0 ls []) := by
    intro Q hret H locs ls hP hD hS hl
    refine lv_aload_n hx hb dX8_at_0 rfl (lv_at hl 0 rfl) ?_
    refine va_get (D := (dC, dI)) (ci := 8) (v := .ref a1) (C := RX8) (T := TX8) (N := 23) hx hb hT in_X8 hown hK hP 0 rfl rfl 0 (by decide) (hT _ q_fl_X8_7) (fun _ h9 => h9) rfl dX8_at_1 ?_
    refine lv_bipush (v := 9) hx hb dX8_at_4 (by decide) ?_
    refine lv_bipush (v := 15) hx hb dX8_at_6 (by decide) ?_
    refine lv_iload_n hx hb dX8_at_8 rfl (lv_at hl 1 rfl) ?_
    refine lv_imul hx hb dX8_at_9 ?_
    refine lv_iadd hx hb dX8_at_10 ?_
    refine lv_iload_n hx hb dX8_at_11 rfl (lv_at hl 2 rfl) ?_
    refine lv_iadd hx hb dX8_at_12 ?_
    obtain ⟨h1, hf⟩ := gd_el hf
    refine ia_ld hx hb hK hP 1 0 rfl rfl (ib_in h1) (j := (tn (((9 : Int32) + ((15 : Int32) * x1)) + x2))) rfl dX8_at_13 ?_
    replace hf := Option.some.inj hf
    subst hf
    exact hret H locs ls _ dX8_at_14 hP hD hS
  refine key _ ?_ _ _ _ hP hD hS hl
  intro H locs ls pc d hP hD hS
  exact W.iret (v := rv) hx hb hr (fun t ht hW => ⟨⟨rfl, by rw [ht]; exact hP, hD⟩, hS.F ht⟩) hS.2.2 d
def p_X8_words (v_now : (Nat → Int32)) (x1 : Int32) : Option (Int32) :=
  (bd1 (p_X8_at v_now x1 (2 : Int32)) fun r_1 => (some r_1))
set_option maxHeartbeats 4000000 in
set_option maxRecDepth 100000 in
theorem c_X8_words (l : Launch) (dC : Nat → ClassId) (dI : Nat → Nat → Nat) (cI cJ cP cS : ClassId) (a0 : Nat) (a1 : Nat) (a2 : Nat) (a3 : Nat) (a4 : Nat) (a5 : Nat) (a6 : Nat) (a7 : Nat) (a8 : Nat) (a9 : Nat) (a10 : Nat) (a11 : Nat) (a12 : Nat) (a13 : Nat) (a14 : Nat) (a15 : Nat) (a16 : Nat) (v_acts : Int32) (v_keptActs : Int32) (v_typed : Int32) (v_isSet : Int32) (v_arePages : Int32) (v_place : Int32) (v_readMany : Int32) (v_now : (Nat → Int32))  (x1 : Int32) (rv : Int32)  (hf : p_X8_words v_now x1 = some rv) : MC l (dC, dI) (tyl cI cJ cP cS) yX8_words (Cond.code yX8_words cX8_words 2 (some .int) :: TBG) ({ frames := 1, cells := 0, slots := 0, locals := 22 } : Room) [.ref a0, .int x1] [(a0, .inr (8, [.ref a1, .ref a2, .int v_acts, .ref a3, .ref a4, .int v_keptActs, .ref a5, .int v_typed, .ref a6, .ref a7, .ref a8, .ref a9, .ref a10, .int v_isSet, .ref a11, .ref a12, .ref a13, .int v_arePages, .ref a14, .ref a15, .int v_place, .ref a16, .int v_readMany])), (a1, .inl (cI, 189, .inl v_now))] [(a0, .inr (8, [.ref a1, .ref a2, .int v_acts, .ref a3, .ref a4, .int v_keptActs, .ref a5, .int v_typed, .ref a6, .ref a7, .ref a8, .ref a9, .ref a10, .int v_isSet, .ref a11, .ref a12, .ref a13, .int v_arePages, .ref a14, .ref a15, .int v_place, .ref a16, .int v_readMany])), (a1, .inl (cI, 189, .inl v_now))] (some (.int rv)) := by
  intro sz
  unfold MPost
  refine Met.ofW (cc := cX8_words) (maxL := 2) (ret := (some .int)) (by decide) rfl ?_
  intro p e s m args below meth c s₁ B hml hv
  obtain ⟨rfl, hsz, hP, hK, hD0, hF⟩ := hv
  have hx := B.exec
  have hb := B.bytes
  have hr := B.returns
  have hT : ∀ w ∈ TBG, w.before _ s = true := fun w h => atoms_spec B.pre w (List.mem_cons_of_mem _ h)
  have hown : s.vm.findClass RX8 = some m.cls := findClass_of_methodNamed B.named
  have hlocks := B.notSynchronized
  subst hsz
  have hD := hD0.self (sz := s.heap.size)
  generalize hAe : va_A [(a0, .inr (8, [.ref a1, .ref a2, .int v_acts, .ref a3, .ref a4, .int v_keptActs, .ref a5, .int v_typed, .ref a6, .ref a7, .ref a8, .ref a9, .ref a10, .int v_isSet, .ref a11, .ref a12, .ref a13, .int v_arePages, .ref a14, .ref a15, .int v_place, .ref a16, .int v_readMany])), (a1, .inl (cI, 189, .inl v_now))] s.heap.size = A at hD hF ⊢
  have hA : ∀ q : Nat, s.heap.size ≤ q → A q := fun q h => by rw [← hAe]; exact Or.inr h
  have hS : va_S A s.heap s.heap [] := va_S.rf
  have hl := lv_entry ([.ref a0, .int x1]) (n := 2) (Nat.le_of_ble_eq_true rfl)
  rw [lg_entry_eq]
  generalize (lg_sl ([.ref a0, .int x1]) ++ List.replicate (2 - (lg_sl ([.ref a0, .int x1])).length) Slot.unset).toArray = ls at hl ⊢
  have hl : lv_has ls 2 [(0, .ref a0), (1, .int x1)] := hl
  generalize ([.ref a0, .int x1] : List Value).toArray = args at hT ⊢
  have key : ∀ (Q : State → Prop), (∀ (H : Heap) (locs : List Loc) (ls : Array Slot) (pc : Nat), decode cX8_words pc = .ok (.ireturn, 1) → va_P (dC, dI) vwCl [(a0, .inr (8, [.ref a1, .ref a2, .int v_acts, .ref a3, .ref a4, .int v_keptActs, .ref a5, .int v_typed, .ref a6, .ref a7, .ref a8, .ref a9, .ref a10, .int v_isSet, .ref a11, .ref a12, .ref a13, .int v_arePages, .ref a14, .ref a15, .int v_place, .ref a16, .int v_readMany])), (a1, .inl (cI, 189, .inl v_now))] H → va_D A [(a0, .inr (8, [.ref a1, .ref a2, .int v_acts, .ref a3, .ref a4, .int v_keptActs, .ref a5, .int v_typed, .ref a6, .ref a7, .ref a8, .ref a9, .ref a10, .int v_isSet, .ref a11, .ref a12, .ref a13, .int v_arePages, .ref a14, .ref a15, .int v_place, .ref a16, .int v_readMany])), (a1, .inl (cI, 189, .inl v_now))] → va_S A s.heap H locs → W p l e ({ frames := 1, cells := 0, slots := 0, locals := 22 } : Room) s m args below meth c H locs 0 0 Q (F0 m pc ls [.int rv])) → ∀ (H : Heap) (locs : List Loc) (ls : Array Slot), va_P (dC, dI) vwCl [(a0, .inr (8, [.ref a1, .ref a2, .int v_acts, .ref a3, .ref a4, .int v_keptActs, .ref a5, .int v_typed, .ref a6, .ref a7, .ref a8, .ref a9, .ref a10, .int v_isSet, .ref a11, .ref a12, .ref a13, .int v_arePages, .ref a14, .ref a15, .int v_place, .ref a16, .int v_readMany])), (a1, .inl (cI, 189, .inl v_now))] H → va_D A [(a0, .inr (8, [.ref a1, .ref a2, .int v_acts, .ref a3, .ref a4, .int v_keptActs, .ref a5, .int v_typed, .ref a6, .ref a7, .ref a8, .ref a9, .ref a10, .int v_isSet, .ref a11, .ref a12, .ref a13, .int v_arePages, .ref a14, .ref a15, .int v_place, .ref a16, .int v_readMany])), (a1, .inl (cI, 189, .inl v_now))] → va_S A s.heap H locs → lv_has ls 2 [(0, .ref a0), (1, .int x1)] → W p l e ({ frames := 1, cells := 0, slots := 0, locals := 22 } : Room) s m args below meth c H locs 0 0 Q (F0 m 0 ls []) := by
    intro Q hret H locs ls hP hD hS hl
    refine lv_aload_n hx hb dX8_words_0 rfl (lv_at hl 0 rfl) ?_
    refine lv_iload_n hx hb dX8_words_1 rfl (lv_at hl 1 rfl) ?_
    refine lv_iconst (v := 2) hx hb dX8_words_2 (by decide) ?_
    obtain ⟨r_1, hq2, hf⟩ := bd1_el hf
    refine mc_V (As := [.int x1, .int (2 : Int32)]) (rest := []) (wr := []) (wn := [(a0, .inr (8, [.ref a1, .ref a2, .int v_acts, .ref a3, .ref a4, .int v_keptActs, .ref a5, .int v_typed, .ref a6, .ref a7, .ref a8, .ref a9, .ref a10, .int v_isSet, .ref a11, .ref a12, .ref a13, .int v_arePages, .ref a14, .ref a15, .int v_place, .ref a16, .int v_readMany])), (a1, .inl (cI, 189, .inl v_now))]) ⟨hx, hb, hml, hown, hT⟩ (c_X8_at l dC dI cI cJ cP cS a0 a1 a2 a3 a4 a5 a6 a7 a8 a9 a10 a11 a12 a13 a14 a15 a16 v_acts v_keptActs v_typed v_isSet v_arePages v_place v_readMany v_now x1 (2 : Int32) r_1 hq2) (cwV 2 hT (gdV q_ml_X8_67 q_im_X8_at q_se_X8_at q_in_X8 q_co_X8_at) rfl rfl rfl hd_X8_at ⟨Nat.le_of_ble_eq_true rfl, Nat.le_of_ble_eq_true rfl⟩) hK hF hP hD hS hA 0 rfl rfl rfl [0, 1] [] [0, 1] rfl (by decide) rfl (by decide) (by decide) rfl (by decide) rfl hl.1 rfl (Nat.le_of_ble_eq_true rfl) dX8_words_3 ⟨Nat.zero_le _, Nat.zero_le _⟩ (fun H locs hP hD hS => ?_)
    refine W.eq (g2 := F0 m 6 ls [.int r_1]) rfl ?_
    replace hf := Option.some.inj hf
    subst hf
    exact hret H locs ls _ dX8_words_6 hP hD hS
  refine key _ ?_ _ _ _ hP hD hS hl
  intro H locs ls pc d hP hD hS
  exact W.iret (v := rv) hx hb hr (fun t ht hW => ⟨⟨rfl, by rw [ht]; exact hP, hD⟩, hS.F ht⟩) hS.2.2 d
def p_X8_begins (v_now : (Nat → Int32)) (x1 : Int32) : Option (Int32) :=
  (if x1 = (0 : Int32) then (some (1 : Int32)) else (bd1 (p_X8_at v_now x1 (1 : Int32)) fun r_2 => (if r_2 = (1 : Int32) then (some (1 : Int32)) else (some (0 : Int32)))))
set_option maxHeartbeats 4000000 in
set_option maxRecDepth 100000 in
theorem c_X8_begins (l : Launch) (dC : Nat → ClassId) (dI : Nat → Nat → Nat) (cI cJ cP cS : ClassId) (a0 : Nat) (a1 : Nat) (a2 : Nat) (a3 : Nat) (a4 : Nat) (a5 : Nat) (a6 : Nat) (a7 : Nat) (a8 : Nat) (a9 : Nat) (a10 : Nat) (a11 : Nat) (a12 : Nat) (a13 : Nat) (a14 : Nat) (a15 : Nat) (a16 : Nat) (v_acts : Int32) (v_keptActs : Int32) (v_typed : Int32) (v_isSet : Int32) (v_arePages : Int32) (v_place : Int32) (v_readMany : Int32) (v_now : (Nat → Int32))  (x1 : Int32) (rv : Int32)  (hf : p_X8_begins v_now x1 = some rv) : MC l (dC, dI) (tyl cI cJ cP cS) yX8_begins (Cond.code yX8_begins cX8_begins 2 (some .boolean) :: TBG) ({ frames := 1, cells := 0, slots := 0, locals := 22 } : Room) [.ref a0, .int x1] [(a0, .inr (8, [.ref a1, .ref a2, .int v_acts, .ref a3, .ref a4, .int v_keptActs, .ref a5, .int v_typed, .ref a6, .ref a7, .ref a8, .ref a9, .ref a10, .int v_isSet, .ref a11, .ref a12, .ref a13, .int v_arePages, .ref a14, .ref a15, .int v_place, .ref a16, .int v_readMany])), (a1, .inl (cI, 189, .inl v_now))] [(a0, .inr (8, [.ref a1, .ref a2, .int v_acts, .ref a3, .ref a4, .int v_keptActs, .ref a5, .int v_typed, .ref a6, .ref a7, .ref a8, .ref a9, .ref a10, .int v_isSet, .ref a11, .ref a12, .ref a13, .int v_arePages, .ref a14, .ref a15, .int v_place, .ref a16, .int v_readMany])), (a1, .inl (cI, 189, .inl v_now))] (some (.int rv)) := by
  intro sz
  unfold MPost
  refine Met.ofW (cc := cX8_begins) (maxL := 2) (ret := (some .boolean)) (by decide) rfl ?_
  intro p e s m args below meth c s₁ B hml hv
  obtain ⟨rfl, hsz, hP, hK, hD0, hF⟩ := hv
  have hx := B.exec
  have hb := B.bytes
  have hr := B.returns
  have hT : ∀ w ∈ TBG, w.before _ s = true := fun w h => atoms_spec B.pre w (List.mem_cons_of_mem _ h)
  have hown : s.vm.findClass RX8 = some m.cls := findClass_of_methodNamed B.named
  have hlocks := B.notSynchronized
  subst hsz
  have hD := hD0.self (sz := s.heap.size)
  generalize hAe : va_A [(a0, .inr (8, [.ref a1, .ref a2, .int v_acts, .ref a3, .ref a4, .int v_keptActs, .ref a5, .int v_typed, .ref a6, .ref a7, .ref a8, .ref a9, .ref a10, .int v_isSet, .ref a11, .ref a12, .ref a13, .int v_arePages, .ref a14, .ref a15, .int v_place, .ref a16, .int v_readMany])), (a1, .inl (cI, 189, .inl v_now))] s.heap.size = A at hD hF ⊢
  have hA : ∀ q : Nat, s.heap.size ≤ q → A q := fun q h => by rw [← hAe]; exact Or.inr h
  have hS : va_S A s.heap s.heap [] := va_S.rf
  have hl := lv_entry ([.ref a0, .int x1]) (n := 2) (Nat.le_of_ble_eq_true rfl)
  rw [lg_entry_eq]
  generalize (lg_sl ([.ref a0, .int x1]) ++ List.replicate (2 - (lg_sl ([.ref a0, .int x1])).length) Slot.unset).toArray = ls at hl ⊢
  have hl : lv_has ls 2 [(0, .ref a0), (1, .int x1)] := hl
  generalize ([.ref a0, .int x1] : List Value).toArray = args at hT ⊢
  have key : ∀ (Q : State → Prop), (∀ (H : Heap) (locs : List Loc) (ls : Array Slot) (pc : Nat), decode cX8_begins pc = .ok (.ireturn, 1) → narrow .boolean (.int rv) = .int rv → va_P (dC, dI) vwCl [(a0, .inr (8, [.ref a1, .ref a2, .int v_acts, .ref a3, .ref a4, .int v_keptActs, .ref a5, .int v_typed, .ref a6, .ref a7, .ref a8, .ref a9, .ref a10, .int v_isSet, .ref a11, .ref a12, .ref a13, .int v_arePages, .ref a14, .ref a15, .int v_place, .ref a16, .int v_readMany])), (a1, .inl (cI, 189, .inl v_now))] H → va_D A [(a0, .inr (8, [.ref a1, .ref a2, .int v_acts, .ref a3, .ref a4, .int v_keptActs, .ref a5, .int v_typed, .ref a6, .ref a7, .ref a8, .ref a9, .ref a10, .int v_isSet, .ref a11, .ref a12, .ref a13, .int v_arePages, .ref a14, .ref a15, .int v_place, .ref a16, .int v_readMany])), (a1, .inl (cI, 189, .inl v_now))] → va_S A s.heap H locs → W p l e ({ frames := 1, cells := 0, slots := 0, locals := 22 } : Room) s m args below meth c H locs 0 0 Q (F0 m pc ls [.int rv])) → ∀ (H : Heap) (locs : List Loc) (ls : Array Slot), va_P (dC, dI) vwCl [(a0, .inr (8, [.ref a1, .ref a2, .int v_acts, .ref a3, .ref a4, .int v_keptActs, .ref a5, .int v_typed, .ref a6, .ref a7, .ref a8, .ref a9, .ref a10, .int v_isSet, .ref a11, .ref a12, .ref a13, .int v_arePages, .ref a14, .ref a15, .int v_place, .ref a16, .int v_readMany])), (a1, .inl (cI, 189, .inl v_now))] H → va_D A [(a0, .inr (8, [.ref a1, .ref a2, .int v_acts, .ref a3, .ref a4, .int v_keptActs, .ref a5, .int v_typed, .ref a6, .ref a7, .ref a8, .ref a9, .ref a10, .int v_isSet, .ref a11, .ref a12, .ref a13, .int v_arePages, .ref a14, .ref a15, .int v_place, .ref a16, .int v_readMany])), (a1, .inl (cI, 189, .inl v_now))] → va_S A s.heap H locs → lv_has ls 2 [(0, .ref a0), (1, .int x1)] → W p l e ({ frames := 1, cells := 0, slots := 0, locals := 22 } : Room) s m args below meth c H locs 0 0 Q (F0 m 0 ls []) := by
    intro Q hret H locs ls hP hD hS hl
    refine lv_iload_n hx hb dX8_begins_0 rfl (lv_at hl 1 rfl) ?_
    refine lv_if_eq (tgt := 14) hx hb dX8_begins_1 (by decide) (fun c1 => ?_) (fun c1 => ?_)
    · replace hf := it_t c1 hf
      refine lv_iconst (v := 1) hx hb dX8_begins_14 (by decide) ?_
      refine lv_goto (tgt := 19) hx hb dX8_begins_15 (by decide) ?_
      replace hf := Option.some.inj hf
      subst hf
      exact hret H locs ls _ dX8_begins_19 rfl hP hD hS
    · replace hf := it_f c1 hf
      refine lv_aload_n hx hb dX8_begins_4 rfl (lv_at hl 0 rfl) ?_
      refine lv_iload_n hx hb dX8_begins_5 rfl (lv_at hl 1 rfl) ?_
      refine lv_iconst (v := 1) hx hb dX8_begins_6 (by decide) ?_
      obtain ⟨r_2, hq3, hf⟩ := bd1_el hf
      refine mc_V (As := [.int x1, .int (1 : Int32)]) (rest := []) (wr := []) (wn := [(a0, .inr (8, [.ref a1, .ref a2, .int v_acts, .ref a3, .ref a4, .int v_keptActs, .ref a5, .int v_typed, .ref a6, .ref a7, .ref a8, .ref a9, .ref a10, .int v_isSet, .ref a11, .ref a12, .ref a13, .int v_arePages, .ref a14, .ref a15, .int v_place, .ref a16, .int v_readMany])), (a1, .inl (cI, 189, .inl v_now))]) ⟨hx, hb, hml, hown, hT⟩ (c_X8_at l dC dI cI cJ cP cS a0 a1 a2 a3 a4 a5 a6 a7 a8 a9 a10 a11 a12 a13 a14 a15 a16 v_acts v_keptActs v_typed v_isSet v_arePages v_place v_readMany v_now x1 (1 : Int32) r_2 hq3) (cwV 2 hT (gdV q_ml_X8_67 q_im_X8_at q_se_X8_at q_in_X8 q_co_X8_at) rfl rfl rfl hd_X8_at ⟨Nat.le_of_ble_eq_true rfl, Nat.le_of_ble_eq_true rfl⟩) hK hF hP hD hS hA 0 rfl rfl rfl [0, 1] [] [0, 1] rfl (by decide) rfl (by decide) (by decide) rfl (by decide) rfl hl.1 rfl (Nat.le_of_ble_eq_true rfl) dX8_begins_7 ⟨Nat.zero_le _, Nat.zero_le _⟩ (fun H locs hP hD hS => ?_)
      refine W.eq (g2 := F0 m 10 ls [.int r_2]) rfl ?_
      refine lv_iconst (v := 1) hx hb dX8_begins_10 (by decide) ?_
      refine lv_icmp_ne (tgt := 18) hx hb dX8_begins_11 (by decide) (fun c4 => ?_) (fun c4 => ?_)
      · replace hf := it_f c4 hf
        refine lv_iconst (v := 0) hx hb dX8_begins_18 (by decide) ?_
        replace hf := Option.some.inj hf
        subst hf
        exact hret H locs ls _ dX8_begins_19 rfl hP hD hS
      · replace hf := it_t c4 hf
        refine lv_iconst (v := 1) hx hb dX8_begins_14 (by decide) ?_
        refine lv_goto (tgt := 19) hx hb dX8_begins_15 (by decide) ?_
        replace hf := Option.some.inj hf
        subst hf
        exact hret H locs ls _ dX8_begins_19 rfl hP hD hS
  refine key _ ?_ _ _ _ hP hD hS hl
  intro H locs ls pc d hz hP hD hS
  exact W.zret (v := rv) hx hb hr hz (fun t ht hW => ⟨⟨rfl, by rw [ht]; exact hP, hD⟩, hS.F ht⟩) hS.2.2 d
def p_X8_startOf_L2 (v_now : (Nat → Int32)) (i2_1 : Int32) : Option ((Int32) ⊕ (Int32)) :=
  (bd1 (p_X8_begins v_now i2_1) fun r_2 => (if r_2 = (0 : Int32) then (some (.inl (i2_1 + (-1 : Int32)))) else (some (.inr i2_1))))
def p_X8_startOf (v_now : (Nat → Int32)) (x1 : Int32) : Option (Int32) :=
  (bd1 (loopN (p_X8_startOf_L2 v_now) fuel x1) fun f2_6 => (some f2_6))
set_option maxHeartbeats 4000000 in
set_option maxRecDepth 100000 in
theorem c_X8_startOf (l : Launch) (dC : Nat → ClassId) (dI : Nat → Nat → Nat) (cI cJ cP cS : ClassId) (a0 : Nat) (a1 : Nat) (a2 : Nat) (a3 : Nat) (a4 : Nat) (a5 : Nat) (a6 : Nat) (a7 : Nat) (a8 : Nat) (a9 : Nat) (a10 : Nat) (a11 : Nat) (a12 : Nat) (a13 : Nat) (a14 : Nat) (a15 : Nat) (a16 : Nat) (v_acts : Int32) (v_keptActs : Int32) (v_typed : Int32) (v_isSet : Int32) (v_arePages : Int32) (v_place : Int32) (v_readMany : Int32) (v_now : (Nat → Int32))  (x1 : Int32) (rv : Int32)  (hf : p_X8_startOf v_now x1 = some rv) : MC l (dC, dI) (tyl cI cJ cP cS) yX8_startOf (Cond.code yX8_startOf cX8_startOf 3 (some .int) :: TBG) ({ frames := 2, cells := 0, slots := 0, locals := 43 } : Room) [.ref a0, .int x1] [(a0, .inr (8, [.ref a1, .ref a2, .int v_acts, .ref a3, .ref a4, .int v_keptActs, .ref a5, .int v_typed, .ref a6, .ref a7, .ref a8, .ref a9, .ref a10, .int v_isSet, .ref a11, .ref a12, .ref a13, .int v_arePages, .ref a14, .ref a15, .int v_place, .ref a16, .int v_readMany])), (a1, .inl (cI, 189, .inl v_now))] [(a0, .inr (8, [.ref a1, .ref a2, .int v_acts, .ref a3, .ref a4, .int v_keptActs, .ref a5, .int v_typed, .ref a6, .ref a7, .ref a8, .ref a9, .ref a10, .int v_isSet, .ref a11, .ref a12, .ref a13, .int v_arePages, .ref a14, .ref a15, .int v_place, .ref a16, .int v_readMany])), (a1, .inl (cI, 189, .inl v_now))] (some (.int rv)) := by
  intro sz
  unfold MPost
  refine Met.ofW (cc := cX8_startOf) (maxL := 3) (ret := (some .int)) (by decide) rfl ?_
  intro p e s m args below meth c s₁ B hml hv
  obtain ⟨rfl, hsz, hP, hK, hD0, hF⟩ := hv
  have hx := B.exec
  have hb := B.bytes
  have hr := B.returns
  have hT : ∀ w ∈ TBG, w.before _ s = true := fun w h => atoms_spec B.pre w (List.mem_cons_of_mem _ h)
  have hown : s.vm.findClass RX8 = some m.cls := findClass_of_methodNamed B.named
  have hlocks := B.notSynchronized
  subst hsz
  have hD := hD0.self (sz := s.heap.size)
  generalize hAe : va_A [(a0, .inr (8, [.ref a1, .ref a2, .int v_acts, .ref a3, .ref a4, .int v_keptActs, .ref a5, .int v_typed, .ref a6, .ref a7, .ref a8, .ref a9, .ref a10, .int v_isSet, .ref a11, .ref a12, .ref a13, .int v_arePages, .ref a14, .ref a15, .int v_place, .ref a16, .int v_readMany])), (a1, .inl (cI, 189, .inl v_now))] s.heap.size = A at hD hF ⊢
  have hA : ∀ q : Nat, s.heap.size ≤ q → A q := fun q h => by rw [← hAe]; exact Or.inr h
  have hS : va_S A s.heap s.heap [] := va_S.rf
  have hl := lv_entry ([.ref a0, .int x1]) (n := 3) (Nat.le_of_ble_eq_true rfl)
  rw [lg_entry_eq]
  generalize (lg_sl ([.ref a0, .int x1]) ++ List.replicate (3 - (lg_sl ([.ref a0, .int x1])).length) Slot.unset).toArray = ls at hl ⊢
  have hl : lv_has ls 3 [(0, .ref a0), (1, .int x1)] := hl
  generalize ([.ref a0, .int x1] : List Value).toArray = args at hT ⊢
  have key : ∀ (Q : State → Prop), (∀ (H : Heap) (locs : List Loc) (ls : Array Slot) (pc : Nat), decode cX8_startOf pc = .ok (.ireturn, 1) → va_P (dC, dI) vwCl [(a0, .inr (8, [.ref a1, .ref a2, .int v_acts, .ref a3, .ref a4, .int v_keptActs, .ref a5, .int v_typed, .ref a6, .ref a7, .ref a8, .ref a9, .ref a10, .int v_isSet, .ref a11, .ref a12, .ref a13, .int v_arePages, .ref a14, .ref a15, .int v_place, .ref a16, .int v_readMany])), (a1, .inl (cI, 189, .inl v_now))] H → va_D A [(a0, .inr (8, [.ref a1, .ref a2, .int v_acts, .ref a3, .ref a4, .int v_keptActs, .ref a5, .int v_typed, .ref a6, .ref a7, .ref a8, .ref a9, .ref a10, .int v_isSet, .ref a11, .ref a12, .ref a13, .int v_arePages, .ref a14, .ref a15, .int v_place, .ref a16, .int v_readMany])), (a1, .inl (cI, 189, .inl v_now))] → va_S A s.heap H locs → W p l e ({ frames := 2, cells := 0, slots := 0, locals := 43 } : Room) s m args below meth c H locs 0 0 Q (F0 m pc ls [.int rv])) → ∀ (H : Heap) (locs : List Loc) (ls : Array Slot), va_P (dC, dI) vwCl [(a0, .inr (8, [.ref a1, .ref a2, .int v_acts, .ref a3, .ref a4, .int v_keptActs, .ref a5, .int v_typed, .ref a6, .ref a7, .ref a8, .ref a9, .ref a10, .int v_isSet, .ref a11, .ref a12, .ref a13, .int v_arePages, .ref a14, .ref a15, .int v_place, .ref a16, .int v_readMany])), (a1, .inl (cI, 189, .inl v_now))] H → va_D A [(a0, .inr (8, [.ref a1, .ref a2, .int v_acts, .ref a3, .ref a4, .int v_keptActs, .ref a5, .int v_typed, .ref a6, .ref a7, .ref a8, .ref a9, .ref a10, .int v_isSet, .ref a11, .ref a12, .ref a13, .int v_arePages, .ref a14, .ref a15, .int v_place, .ref a16, .int v_readMany])), (a1, .inl (cI, 189, .inl v_now))] → va_S A s.heap H locs → lv_has ls 3 [(0, .ref a0), (1, .int x1)] → W p l e ({ frames := 2, cells := 0, slots := 0, locals := 43 } : Room) s m args below meth c H locs 0 0 Q (F0 m 0 ls []) := by
    intro Q hret H locs ls hP hD hS hl
    refine lv_iload_n hx hb dX8_startOf_0 rfl (lv_at hl 1 rfl) ?_
    refine lv_istore_n (lv' := [(2, .int x1), (0, .ref a0), (1, .int x1)]) hx hb dX8_startOf_1 rfl hl (by decide) rfl (fun ls hl => ?_)
    have hL2 : ∀ (rr : Int32), (∀ (z_5 : Int32), rr = z_5 → ∀ (H : Heap) (locs : List Loc) (ls : Array Slot), va_P (dC, dI) vwCl [(a0, .inr (8, [.ref a1, .ref a2, .int v_acts, .ref a3, .ref a4, .int v_keptActs, .ref a5, .int v_typed, .ref a6, .ref a7, .ref a8, .ref a9, .ref a10, .int v_isSet, .ref a11, .ref a12, .ref a13, .int v_arePages, .ref a14, .ref a15, .int v_place, .ref a16, .int v_readMany])), (a1, .inl (cI, 189, .inl v_now))] H → va_D A [(a0, .inr (8, [.ref a1, .ref a2, .int v_acts, .ref a3, .ref a4, .int v_keptActs, .ref a5, .int v_typed, .ref a6, .ref a7, .ref a8, .ref a9, .ref a10, .int v_isSet, .ref a11, .ref a12, .ref a13, .int v_arePages, .ref a14, .ref a15, .int v_place, .ref a16, .int v_readMany])), (a1, .inl (cI, 189, .inl v_now))] → va_S A s.heap H locs → lv_has ls 3 [(2, .int z_5)] → W p l e ({ frames := 2, cells := 0, slots := 0, locals := 43 } : Room) s m args below meth c H locs 0 0 Q (F0 m 16 ls [])) → ∀ (n : Nat) (i2_1 : Int32), loopN (p_X8_startOf_L2 v_now) n i2_1 = some rr → ∀ (H : Heap) (locs : List Loc) (ls : Array Slot), va_P (dC, dI) vwCl [(a0, .inr (8, [.ref a1, .ref a2, .int v_acts, .ref a3, .ref a4, .int v_keptActs, .ref a5, .int v_typed, .ref a6, .ref a7, .ref a8, .ref a9, .ref a10, .int v_isSet, .ref a11, .ref a12, .ref a13, .int v_arePages, .ref a14, .ref a15, .int v_place, .ref a16, .int v_readMany])), (a1, .inl (cI, 189, .inl v_now))] H → va_D A [(a0, .inr (8, [.ref a1, .ref a2, .int v_acts, .ref a3, .ref a4, .int v_keptActs, .ref a5, .int v_typed, .ref a6, .ref a7, .ref a8, .ref a9, .ref a10, .int v_isSet, .ref a11, .ref a12, .ref a13, .int v_arePages, .ref a14, .ref a15, .int v_place, .ref a16, .int v_readMany])), (a1, .inl (cI, 189, .inl v_now))] → va_S A s.heap H locs → lv_has ls 3 [(0, .ref a0), (2, .int i2_1)] → W p l e ({ frames := 2, cells := 0, slots := 0, locals := 43 } : Room) s m args below meth c H locs 0 0 Q (F0 m 2 ls []) := by
      intro rr hk2 n
      induction n with
      | zero => intro i2_1 hf; cases hf
      | succ n ih2 =>
        intro i2_1 hf H locs ls hP hD hS hl
        obtain ⟨o2, hf, hi, he⟩ := loopN_el hf
        refine lv_aload_n hx hb dX8_startOf_2 rfl (lv_at hl 0 rfl) ?_
        refine lv_iload_n hx hb dX8_startOf_3 rfl (lv_at hl 1 rfl) ?_
        obtain ⟨r_2, hq3, hf⟩ := bd1_el hf
        refine mc_V (As := [.int i2_1]) (rest := []) (wr := []) (wn := [(a0, .inr (8, [.ref a1, .ref a2, .int v_acts, .ref a3, .ref a4, .int v_keptActs, .ref a5, .int v_typed, .ref a6, .ref a7, .ref a8, .ref a9, .ref a10, .int v_isSet, .ref a11, .ref a12, .ref a13, .int v_arePages, .ref a14, .ref a15, .int v_place, .ref a16, .int v_readMany])), (a1, .inl (cI, 189, .inl v_now))]) ⟨hx, hb, hml, hown, hT⟩ (c_X8_begins l dC dI cI cJ cP cS a0 a1 a2 a3 a4 a5 a6 a7 a8 a9 a10 a11 a12 a13 a14 a15 a16 v_acts v_keptActs v_typed v_isSet v_arePages v_place v_readMany v_now i2_1 r_2 hq3) (cwV 1 hT (gdV q_ml_X8_71 q_im_X8_begins q_se_X8_begins q_in_X8 q_co_X8_begins) rfl rfl rfl hd_X8_begins ⟨Nat.le_of_ble_eq_true rfl, Nat.le_of_ble_eq_true rfl⟩) hK hF hP hD hS hA 0 rfl rfl rfl [0, 1] [] [0, 1] rfl (by decide) rfl (by decide) (by decide) rfl (by decide) rfl hl.1 rfl (Nat.le_of_ble_eq_true rfl) dX8_startOf_4 ⟨Nat.zero_le _, Nat.zero_le _⟩ (fun H locs hP hD hS => ?_)
        refine W.eq (g2 := F0 m 7 ls [.int r_2]) rfl ?_
        refine lv_if_ne (tgt := 16) hx hb dX8_startOf_7 (by decide) (fun c4 => ?_) (fun c4 => ?_)
        · replace hf := it_f c4 hf
          exact hk2 _ (he _ (Option.some.inj hf).symm).symm H locs ls hP hD hS (lv_sub hl [1] rfl)
        · replace hf := it_t c4 hf
          refine lv_iinc (v := (i2_1 + (-1 : Int32))) (lv' := [(2, .int (i2_1 + (-1 : Int32))), (0, .ref a0)]) hx hb dX8_startOf_10 hl (k := 1) rfl rfl (by decide) rfl (fun ls hl => ?_)
          refine lv_goto (tgt := 2) hx hb dX8_startOf_13 (by decide) ?_
          exact ih2 (i2_1 + (-1 : Int32)) (hi _ (Option.some.inj hf).symm) H locs ls hP hD hS (lv_sub hl [1, 0] rfl)
    obtain ⟨f2_6, hq, hf⟩ := bd1_el hf
    refine hL2 f2_6 (fun z_5 h9 H locs ls hP hD hS hl => ?_) fuel x1 hq H locs ls hP hD hS (lv_sub hl [1, 0] rfl)
    subst h9
    refine lv_iload_n hx hb dX8_startOf_16 rfl (lv_at hl 0 rfl) ?_
    replace hf := Option.some.inj hf
    subst hf
    exact hret H locs ls _ dX8_startOf_17 hP hD hS
  refine key _ ?_ _ _ _ hP hD hS hl
  intro H locs ls pc d hP hD hS
  exact W.iret (v := rv) hx hb hr (fun t ht hW => ⟨⟨rfl, by rw [ht]; exact hP, hD⟩, hS.F ht⟩) hS.2.2 d
def p_X8_endOf_L4 (v_now : (Nat → Int32)) (i2_2 : Int32) : Option ((Int32) ⊕ (Int32)) :=
  (if (v_now 0) ≤ i2_2 then (some (.inr i2_2)) else (bd1 (p_X8_begins v_now i2_2) fun r_4 => (if r_4 = (0 : Int32) then (some (.inl (i2_2 + (1 : Int32)))) else (some (.inr i2_2)))))
def p_X8_endOf (v_now : (Nat → Int32)) (x1 : Int32) : Option (Int32) :=
  (nm (x1 + (1 : Int32)) fun x2_1 => (bd1 (loopN (p_X8_endOf_L4 v_now) fuel x2_1) fun f2_8 => (some f2_8)))
set_option maxHeartbeats 4000000 in
set_option maxRecDepth 100000 in
theorem c_X8_endOf (l : Launch) (dC : Nat → ClassId) (dI : Nat → Nat → Nat) (cI cJ cP cS : ClassId) (a0 : Nat) (a1 : Nat) (a2 : Nat) (a3 : Nat) (a4 : Nat) (a5 : Nat) (a6 : Nat) (a7 : Nat) (a8 : Nat) (a9 : Nat) (a10 : Nat) (a11 : Nat) (a12 : Nat) (a13 : Nat) (a14 : Nat) (a15 : Nat) (a16 : Nat) (v_acts : Int32) (v_keptActs : Int32) (v_typed : Int32) (v_isSet : Int32) (v_arePages : Int32) (v_place : Int32) (v_readMany : Int32) (v_now : (Nat → Int32))  (x1 : Int32) (rv : Int32)  (hf : p_X8_endOf v_now x1 = some rv) : MC l (dC, dI) (tyl cI cJ cP cS) yX8_endOf (Cond.code yX8_endOf cX8_endOf 3 (some .int) :: TBG) ({ frames := 2, cells := 0, slots := 0, locals := 43 } : Room) [.ref a0, .int x1] [(a0, .inr (8, [.ref a1, .ref a2, .int v_acts, .ref a3, .ref a4, .int v_keptActs, .ref a5, .int v_typed, .ref a6, .ref a7, .ref a8, .ref a9, .ref a10, .int v_isSet, .ref a11, .ref a12, .ref a13, .int v_arePages, .ref a14, .ref a15, .int v_place, .ref a16, .int v_readMany])), (a1, .inl (cI, 189, .inl v_now))] [(a0, .inr (8, [.ref a1, .ref a2, .int v_acts, .ref a3, .ref a4, .int v_keptActs, .ref a5, .int v_typed, .ref a6, .ref a7, .ref a8, .ref a9, .ref a10, .int v_isSet, .ref a11, .ref a12, .ref a13, .int v_arePages, .ref a14, .ref a15, .int v_place, .ref a16, .int v_readMany])), (a1, .inl (cI, 189, .inl v_now))] (some (.int rv)) := by
  intro sz
  unfold MPost
  refine Met.ofW (cc := cX8_endOf) (maxL := 3) (ret := (some .int)) (by decide) rfl ?_
  intro p e s m args below meth c s₁ B hml hv
  obtain ⟨rfl, hsz, hP, hK, hD0, hF⟩ := hv
  have hx := B.exec
  have hb := B.bytes
  have hr := B.returns
  have hT : ∀ w ∈ TBG, w.before _ s = true := fun w h => atoms_spec B.pre w (List.mem_cons_of_mem _ h)
  have hown : s.vm.findClass RX8 = some m.cls := findClass_of_methodNamed B.named
  have hlocks := B.notSynchronized
  subst hsz
  have hD := hD0.self (sz := s.heap.size)
  generalize hAe : va_A [(a0, .inr (8, [.ref a1, .ref a2, .int v_acts, .ref a3, .ref a4, .int v_keptActs, .ref a5, .int v_typed, .ref a6, .ref a7, .ref a8, .ref a9, .ref a10, .int v_isSet, .ref a11, .ref a12, .ref a13, .int v_arePages, .ref a14, .ref a15, .int v_place, .ref a16, .int v_readMany])), (a1, .inl (cI, 189, .inl v_now))] s.heap.size = A at hD hF ⊢
  have hA : ∀ q : Nat, s.heap.size ≤ q → A q := fun q h => by rw [← hAe]; exact Or.inr h
  have hS : va_S A s.heap s.heap [] := va_S.rf
  have hl := lv_entry ([.ref a0, .int x1]) (n := 3) (Nat.le_of_ble_eq_true rfl)
  rw [lg_entry_eq]
  generalize (lg_sl ([.ref a0, .int x1]) ++ List.replicate (3 - (lg_sl ([.ref a0, .int x1])).length) Slot.unset).toArray = ls at hl ⊢
  have hl : lv_has ls 3 [(0, .ref a0), (1, .int x1)] := hl
  generalize ([.ref a0, .int x1] : List Value).toArray = args at hT ⊢
  have key : ∀ (Q : State → Prop), (∀ (H : Heap) (locs : List Loc) (ls : Array Slot) (pc : Nat), decode cX8_endOf pc = .ok (.ireturn, 1) → va_P (dC, dI) vwCl [(a0, .inr (8, [.ref a1, .ref a2, .int v_acts, .ref a3, .ref a4, .int v_keptActs, .ref a5, .int v_typed, .ref a6, .ref a7, .ref a8, .ref a9, .ref a10, .int v_isSet, .ref a11, .ref a12, .ref a13, .int v_arePages, .ref a14, .ref a15, .int v_place, .ref a16, .int v_readMany])), (a1, .inl (cI, 189, .inl v_now))] H → va_D A [(a0, .inr (8, [.ref a1, .ref a2, .int v_acts, .ref a3, .ref a4, .int v_keptActs, .ref a5, .int v_typed, .ref a6, .ref a7, .ref a8, .ref a9, .ref a10, .int v_isSet, .ref a11, .ref a12, .ref a13, .int v_arePages, .ref a14, .ref a15, .int v_place, .ref a16, .int v_readMany])), (a1, .inl (cI, 189, .inl v_now))] → va_S A s.heap H locs → W p l e ({ frames := 2, cells := 0, slots := 0, locals := 43 } : Room) s m args below meth c H locs 0 0 Q (F0 m pc ls [.int rv])) → ∀ (H : Heap) (locs : List Loc) (ls : Array Slot), va_P (dC, dI) vwCl [(a0, .inr (8, [.ref a1, .ref a2, .int v_acts, .ref a3, .ref a4, .int v_keptActs, .ref a5, .int v_typed, .ref a6, .ref a7, .ref a8, .ref a9, .ref a10, .int v_isSet, .ref a11, .ref a12, .ref a13, .int v_arePages, .ref a14, .ref a15, .int v_place, .ref a16, .int v_readMany])), (a1, .inl (cI, 189, .inl v_now))] H → va_D A [(a0, .inr (8, [.ref a1, .ref a2, .int v_acts, .ref a3, .ref a4, .int v_keptActs, .ref a5, .int v_typed, .ref a6, .ref a7, .ref a8, .ref a9, .ref a10, .int v_isSet, .ref a11, .ref a12, .ref a13, .int v_arePages, .ref a14, .ref a15, .int v_place, .ref a16, .int v_readMany])), (a1, .inl (cI, 189, .inl v_now))] → va_S A s.heap H locs → lv_has ls 3 [(0, .ref a0), (1, .int x1)] → W p l e ({ frames := 2, cells := 0, slots := 0, locals := 43 } : Room) s m args below meth c H locs 0 0 Q (F0 m 0 ls []) := by
    intro Q hret H locs ls hP hD hS hl
    refine lv_iload_n hx hb dX8_endOf_0 rfl (lv_at hl 1 rfl) ?_
    refine lv_iconst (v := 1) hx hb dX8_endOf_1 (by decide) ?_
    refine lv_iadd hx hb dX8_endOf_2 ?_
    obtain ⟨x2_1, ex2_1, hf⟩ := nm_el hf
    refine lv_as (congrArg Value.int ex2_1) ?_
    refine lv_istore_n (lv' := [(2, .int x2_1), (0, .ref a0), (1, .int x1)]) hx hb dX8_endOf_3 rfl hl (by decide) rfl (fun ls hl => ?_)
    have hL4 : ∀ (rr : Int32), (∀ (z_7 : Int32), rr = z_7 → ∀ (H : Heap) (locs : List Loc) (ls : Array Slot), va_P (dC, dI) vwCl [(a0, .inr (8, [.ref a1, .ref a2, .int v_acts, .ref a3, .ref a4, .int v_keptActs, .ref a5, .int v_typed, .ref a6, .ref a7, .ref a8, .ref a9, .ref a10, .int v_isSet, .ref a11, .ref a12, .ref a13, .int v_arePages, .ref a14, .ref a15, .int v_place, .ref a16, .int v_readMany])), (a1, .inl (cI, 189, .inl v_now))] H → va_D A [(a0, .inr (8, [.ref a1, .ref a2, .int v_acts, .ref a3, .ref a4, .int v_keptActs, .ref a5, .int v_typed, .ref a6, .ref a7, .ref a8, .ref a9, .ref a10, .int v_isSet, .ref a11, .ref a12, .ref a13, .int v_arePages, .ref a14, .ref a15, .int v_place, .ref a16, .int v_readMany])), (a1, .inl (cI, 189, .inl v_now))] → va_S A s.heap H locs → lv_has ls 3 [(2, .int z_7)] → W p l e ({ frames := 2, cells := 0, slots := 0, locals := 43 } : Room) s m args below meth c H locs 0 0 Q (F0 m 28 ls [])) → ∀ (n : Nat) (i2_2 : Int32), loopN (p_X8_endOf_L4 v_now) n i2_2 = some rr → ∀ (H : Heap) (locs : List Loc) (ls : Array Slot), va_P (dC, dI) vwCl [(a0, .inr (8, [.ref a1, .ref a2, .int v_acts, .ref a3, .ref a4, .int v_keptActs, .ref a5, .int v_typed, .ref a6, .ref a7, .ref a8, .ref a9, .ref a10, .int v_isSet, .ref a11, .ref a12, .ref a13, .int v_arePages, .ref a14, .ref a15, .int v_place, .ref a16, .int v_readMany])), (a1, .inl (cI, 189, .inl v_now))] H → va_D A [(a0, .inr (8, [.ref a1, .ref a2, .int v_acts, .ref a3, .ref a4, .int v_keptActs, .ref a5, .int v_typed, .ref a6, .ref a7, .ref a8, .ref a9, .ref a10, .int v_isSet, .ref a11, .ref a12, .ref a13, .int v_arePages, .ref a14, .ref a15, .int v_place, .ref a16, .int v_readMany])), (a1, .inl (cI, 189, .inl v_now))] → va_S A s.heap H locs → lv_has ls 3 [(0, .ref a0), (2, .int i2_2)] → W p l e ({ frames := 2, cells := 0, slots := 0, locals := 43 } : Room) s m args below meth c H locs 0 0 Q (F0 m 4 ls []) := by
      intro rr hk4 n
      induction n with
      | zero => intro i2_2 hf; cases hf
      | succ n ih4 =>
        intro i2_2 hf H locs ls hP hD hS hl
        obtain ⟨o4, hf, hi, he⟩ := loopN_el hf
        refine lv_iload_n hx hb dX8_endOf_4 rfl (lv_at hl 1 rfl) ?_
        refine lv_aload_n hx hb dX8_endOf_5 rfl (lv_at hl 0 rfl) ?_
        refine va_get (D := (dC, dI)) (ci := 8) (v := .ref a1) (C := RX8) (T := TX8) (N := 23) hx hb hT in_X8 hown hK hP 0 rfl rfl 0 (by decide) (hT _ q_fl_X8_7) (fun _ h9 => h9) rfl dX8_endOf_6 ?_
        refine lv_iconst (v := 0) hx hb dX8_endOf_9 (by decide) ?_
        refine ia_ld hx hb hK hP 1 0 rfl rfl (ib_in (by decide)) (j := 0) (by decide) dX8_endOf_10 ?_
        refine lv_icmp_ge (tgt := 28) hx hb dX8_endOf_11 (by decide) (fun c3 => ?_) (fun c3 => ?_)
        · replace hf := it_t c3 hf
          exact hk4 _ (he _ (Option.some.inj hf).symm).symm H locs ls hP hD hS (lv_sub hl [1] rfl)
        · replace hf := it_f c3 hf
          refine lv_aload_n hx hb dX8_endOf_14 rfl (lv_at hl 0 rfl) ?_
          refine lv_iload_n hx hb dX8_endOf_15 rfl (lv_at hl 1 rfl) ?_
          obtain ⟨r_4, hq5, hf⟩ := bd1_el hf
          refine mc_V (As := [.int i2_2]) (rest := []) (wr := []) (wn := [(a0, .inr (8, [.ref a1, .ref a2, .int v_acts, .ref a3, .ref a4, .int v_keptActs, .ref a5, .int v_typed, .ref a6, .ref a7, .ref a8, .ref a9, .ref a10, .int v_isSet, .ref a11, .ref a12, .ref a13, .int v_arePages, .ref a14, .ref a15, .int v_place, .ref a16, .int v_readMany])), (a1, .inl (cI, 189, .inl v_now))]) ⟨hx, hb, hml, hown, hT⟩ (c_X8_begins l dC dI cI cJ cP cS a0 a1 a2 a3 a4 a5 a6 a7 a8 a9 a10 a11 a12 a13 a14 a15 a16 v_acts v_keptActs v_typed v_isSet v_arePages v_place v_readMany v_now i2_2 r_4 hq5) (cwV 1 hT (gdV q_ml_X8_71 q_im_X8_begins q_se_X8_begins q_in_X8 q_co_X8_begins) rfl rfl rfl hd_X8_begins ⟨Nat.le_of_ble_eq_true rfl, Nat.le_of_ble_eq_true rfl⟩) hK hF hP hD hS hA 0 rfl rfl rfl [0, 1] [] [0, 1] rfl (by decide) rfl (by decide) (by decide) rfl (by decide) rfl hl.1 rfl (Nat.le_of_ble_eq_true rfl) dX8_endOf_16 ⟨Nat.zero_le _, Nat.zero_le _⟩ (fun H locs hP hD hS => ?_)
          refine W.eq (g2 := F0 m 19 ls [.int r_4]) rfl ?_
          refine lv_if_ne (tgt := 28) hx hb dX8_endOf_19 (by decide) (fun c6 => ?_) (fun c6 => ?_)
          · replace hf := it_f c6 hf
            exact hk4 _ (he _ (Option.some.inj hf).symm).symm H locs ls hP hD hS (lv_sub hl [1] rfl)
          · replace hf := it_t c6 hf
            refine lv_iinc (v := (i2_2 + (1 : Int32))) (lv' := [(2, .int (i2_2 + (1 : Int32))), (0, .ref a0)]) hx hb dX8_endOf_22 hl (k := 1) rfl rfl (by decide) rfl (fun ls hl => ?_)
            refine lv_goto (tgt := 4) hx hb dX8_endOf_25 (by decide) ?_
            exact ih4 (i2_2 + (1 : Int32)) (hi _ (Option.some.inj hf).symm) H locs ls hP hD hS (lv_sub hl [1, 0] rfl)
    obtain ⟨f2_8, hq, hf⟩ := bd1_el hf
    refine hL4 f2_8 (fun z_7 h9 H locs ls hP hD hS hl => ?_) fuel x2_1 hq H locs ls hP hD hS (lv_sub hl [1, 0] rfl)
    subst h9
    refine lv_iload_n hx hb dX8_endOf_28 rfl (lv_at hl 0 rfl) ?_
    replace hf := Option.some.inj hf
    subst hf
    exact hret H locs ls _ dX8_endOf_29 hP hD hS
  refine key _ ?_ _ _ _ hP hD hS hl
  intro H locs ls pc d hP hD hS
  exact W.iret (v := rv) hx hb hr (fun t ht hW => ⟨⟨rfl, by rw [ht]; exact hP, hD⟩, hS.F ht⟩) hS.2.2 d
def p_X8_stanzaOf_L4 (v_now : (Nat → Int32)) (x1 : Int32) (s : Int32 × Int32) : Option ((Int32 × Int32) ⊕ (Int32 × Int32)) := match s with
  | (i2_1, i3_2) => (if x1 < i3_2 then (some (.inr (i2_1, i3_2))) else (bd1 (p_X8_begins v_now i3_2) fun r_4 => (if r_4 = (0 : Int32) then (nm (i2_1 + (0 : Int32)) fun x2_7 => (some (.inl (x2_7, (i3_2 + (1 : Int32)))))) else (nm (i2_1 + (1 : Int32)) fun x2_8 => (some (.inl (x2_8, (i3_2 + (1 : Int32)))))))))
def p_X8_stanzaOf (v_now : (Nat → Int32)) (x1 : Int32) : Option (Int32) :=
  (bd2 (loopN (p_X8_stanzaOf_L4 v_now x1) fuel ((0 : Int32), (1 : Int32))) fun f2_11 f3_12 => (some f2_11))
set_option maxHeartbeats 4000000 in
set_option maxRecDepth 100000 in
theorem c_X8_stanzaOf (l : Launch) (dC : Nat → ClassId) (dI : Nat → Nat → Nat) (cI cJ cP cS : ClassId) (a0 : Nat) (a1 : Nat) (a2 : Nat) (a3 : Nat) (a4 : Nat) (a5 : Nat) (a6 : Nat) (a7 : Nat) (a8 : Nat) (a9 : Nat) (a10 : Nat) (a11 : Nat) (a12 : Nat) (a13 : Nat) (a14 : Nat) (a15 : Nat) (a16 : Nat) (v_acts : Int32) (v_keptActs : Int32) (v_typed : Int32) (v_isSet : Int32) (v_arePages : Int32) (v_place : Int32) (v_readMany : Int32) (v_now : (Nat → Int32))  (x1 : Int32) (rv : Int32)  (hf : p_X8_stanzaOf v_now x1 = some rv) : MC l (dC, dI) (tyl cI cJ cP cS) yX8_stanzaOf (Cond.code yX8_stanzaOf cX8_stanzaOf 4 (some .int) :: TBG) ({ frames := 2, cells := 0, slots := 0, locals := 43 } : Room) [.ref a0, .int x1] [(a0, .inr (8, [.ref a1, .ref a2, .int v_acts, .ref a3, .ref a4, .int v_keptActs, .ref a5, .int v_typed, .ref a6, .ref a7, .ref a8, .ref a9, .ref a10, .int v_isSet, .ref a11, .ref a12, .ref a13, .int v_arePages, .ref a14, .ref a15, .int v_place, .ref a16, .int v_readMany])), (a1, .inl (cI, 189, .inl v_now))] [(a0, .inr (8, [.ref a1, .ref a2, .int v_acts, .ref a3, .ref a4, .int v_keptActs, .ref a5, .int v_typed, .ref a6, .ref a7, .ref a8, .ref a9, .ref a10, .int v_isSet, .ref a11, .ref a12, .ref a13, .int v_arePages, .ref a14, .ref a15, .int v_place, .ref a16, .int v_readMany])), (a1, .inl (cI, 189, .inl v_now))] (some (.int rv)) := by
  intro sz
  unfold MPost
  refine Met.ofW (cc := cX8_stanzaOf) (maxL := 4) (ret := (some .int)) (by decide) rfl ?_
  intro p e s m args below meth c s₁ B hml hv
  obtain ⟨rfl, hsz, hP, hK, hD0, hF⟩ := hv
  have hx := B.exec
  have hb := B.bytes
  have hr := B.returns
  have hT : ∀ w ∈ TBG, w.before _ s = true := fun w h => atoms_spec B.pre w (List.mem_cons_of_mem _ h)
  have hown : s.vm.findClass RX8 = some m.cls := findClass_of_methodNamed B.named
  have hlocks := B.notSynchronized
  subst hsz
  have hD := hD0.self (sz := s.heap.size)
  generalize hAe : va_A [(a0, .inr (8, [.ref a1, .ref a2, .int v_acts, .ref a3, .ref a4, .int v_keptActs, .ref a5, .int v_typed, .ref a6, .ref a7, .ref a8, .ref a9, .ref a10, .int v_isSet, .ref a11, .ref a12, .ref a13, .int v_arePages, .ref a14, .ref a15, .int v_place, .ref a16, .int v_readMany])), (a1, .inl (cI, 189, .inl v_now))] s.heap.size = A at hD hF ⊢
  have hA : ∀ q : Nat, s.heap.size ≤ q → A q := fun q h => by rw [← hAe]; exact Or.inr h
  have hS : va_S A s.heap s.heap [] := va_S.rf
  have hl := lv_entry ([.ref a0, .int x1]) (n := 4) (Nat.le_of_ble_eq_true rfl)
  rw [lg_entry_eq]
  generalize (lg_sl ([.ref a0, .int x1]) ++ List.replicate (4 - (lg_sl ([.ref a0, .int x1])).length) Slot.unset).toArray = ls at hl ⊢
  have hl : lv_has ls 4 [(0, .ref a0), (1, .int x1)] := hl
  generalize ([.ref a0, .int x1] : List Value).toArray = args at hT ⊢
  have key : ∀ (Q : State → Prop), (∀ (H : Heap) (locs : List Loc) (ls : Array Slot) (pc : Nat), decode cX8_stanzaOf pc = .ok (.ireturn, 1) → va_P (dC, dI) vwCl [(a0, .inr (8, [.ref a1, .ref a2, .int v_acts, .ref a3, .ref a4, .int v_keptActs, .ref a5, .int v_typed, .ref a6, .ref a7, .ref a8, .ref a9, .ref a10, .int v_isSet, .ref a11, .ref a12, .ref a13, .int v_arePages, .ref a14, .ref a15, .int v_place, .ref a16, .int v_readMany])), (a1, .inl (cI, 189, .inl v_now))] H → va_D A [(a0, .inr (8, [.ref a1, .ref a2, .int v_acts, .ref a3, .ref a4, .int v_keptActs, .ref a5, .int v_typed, .ref a6, .ref a7, .ref a8, .ref a9, .ref a10, .int v_isSet, .ref a11, .ref a12, .ref a13, .int v_arePages, .ref a14, .ref a15, .int v_place, .ref a16, .int v_readMany])), (a1, .inl (cI, 189, .inl v_now))] → va_S A s.heap H locs → W p l e ({ frames := 2, cells := 0, slots := 0, locals := 43 } : Room) s m args below meth c H locs 0 0 Q (F0 m pc ls [.int rv])) → ∀ (H : Heap) (locs : List Loc) (ls : Array Slot), va_P (dC, dI) vwCl [(a0, .inr (8, [.ref a1, .ref a2, .int v_acts, .ref a3, .ref a4, .int v_keptActs, .ref a5, .int v_typed, .ref a6, .ref a7, .ref a8, .ref a9, .ref a10, .int v_isSet, .ref a11, .ref a12, .ref a13, .int v_arePages, .ref a14, .ref a15, .int v_place, .ref a16, .int v_readMany])), (a1, .inl (cI, 189, .inl v_now))] H → va_D A [(a0, .inr (8, [.ref a1, .ref a2, .int v_acts, .ref a3, .ref a4, .int v_keptActs, .ref a5, .int v_typed, .ref a6, .ref a7, .ref a8, .ref a9, .ref a10, .int v_isSet, .ref a11, .ref a12, .ref a13, .int v_arePages, .ref a14, .ref a15, .int v_place, .ref a16, .int v_readMany])), (a1, .inl (cI, 189, .inl v_now))] → va_S A s.heap H locs → lv_has ls 4 [(0, .ref a0), (1, .int x1)] → W p l e ({ frames := 2, cells := 0, slots := 0, locals := 43 } : Room) s m args below meth c H locs 0 0 Q (F0 m 0 ls []) := by
    intro Q hret H locs ls hP hD hS hl
    refine lv_iconst (v := 0) hx hb dX8_stanzaOf_0 (by decide) ?_
    refine lv_istore_n (lv' := [(2, .int (0 : Int32)), (0, .ref a0), (1, .int x1)]) hx hb dX8_stanzaOf_1 rfl hl (by decide) rfl (fun ls hl => ?_)
    refine lv_iconst (v := 1) hx hb dX8_stanzaOf_2 (by decide) ?_
    refine lv_istore_n (lv' := [(3, .int (1 : Int32)), (2, .int (0 : Int32)), (0, .ref a0), (1, .int x1)]) hx hb dX8_stanzaOf_3 rfl hl (by decide) rfl (fun ls hl => ?_)
    have hL4 : ∀ (rr : Int32 × Int32), (∀ (z_9 : Int32) (z_10 : Int32), rr = (z_9, z_10) → ∀ (H : Heap) (locs : List Loc) (ls : Array Slot), va_P (dC, dI) vwCl [(a0, .inr (8, [.ref a1, .ref a2, .int v_acts, .ref a3, .ref a4, .int v_keptActs, .ref a5, .int v_typed, .ref a6, .ref a7, .ref a8, .ref a9, .ref a10, .int v_isSet, .ref a11, .ref a12, .ref a13, .int v_arePages, .ref a14, .ref a15, .int v_place, .ref a16, .int v_readMany])), (a1, .inl (cI, 189, .inl v_now))] H → va_D A [(a0, .inr (8, [.ref a1, .ref a2, .int v_acts, .ref a3, .ref a4, .int v_keptActs, .ref a5, .int v_typed, .ref a6, .ref a7, .ref a8, .ref a9, .ref a10, .int v_isSet, .ref a11, .ref a12, .ref a13, .int v_arePages, .ref a14, .ref a15, .int v_place, .ref a16, .int v_readMany])), (a1, .inl (cI, 189, .inl v_now))] → va_S A s.heap H locs → lv_has ls 4 [(2, .int z_9)] → W p l e ({ frames := 2, cells := 0, slots := 0, locals := 43 } : Room) s m args below meth c H locs 0 0 Q (F0 m 31 ls [])) → ∀ (n : Nat) (i2_1 : Int32) (i3_2 : Int32), loopN (p_X8_stanzaOf_L4 v_now x1) n (i2_1, i3_2) = some rr → ∀ (H : Heap) (locs : List Loc) (ls : Array Slot), va_P (dC, dI) vwCl [(a0, .inr (8, [.ref a1, .ref a2, .int v_acts, .ref a3, .ref a4, .int v_keptActs, .ref a5, .int v_typed, .ref a6, .ref a7, .ref a8, .ref a9, .ref a10, .int v_isSet, .ref a11, .ref a12, .ref a13, .int v_arePages, .ref a14, .ref a15, .int v_place, .ref a16, .int v_readMany])), (a1, .inl (cI, 189, .inl v_now))] H → va_D A [(a0, .inr (8, [.ref a1, .ref a2, .int v_acts, .ref a3, .ref a4, .int v_keptActs, .ref a5, .int v_typed, .ref a6, .ref a7, .ref a8, .ref a9, .ref a10, .int v_isSet, .ref a11, .ref a12, .ref a13, .int v_arePages, .ref a14, .ref a15, .int v_place, .ref a16, .int v_readMany])), (a1, .inl (cI, 189, .inl v_now))] → va_S A s.heap H locs → lv_has ls 4 [(0, .ref a0), (1, .int x1), (2, .int i2_1), (3, .int i3_2)] → W p l e ({ frames := 2, cells := 0, slots := 0, locals := 43 } : Room) s m args below meth c H locs 0 0 Q (F0 m 4 ls []) := by
      intro rr hk4 n
      induction n with
      | zero => intro i2_1 i3_2 hf; cases hf
      | succ n ih4 =>
        intro i2_1 i3_2 hf H locs ls hP hD hS hl
        obtain ⟨o4, hf, hi, he⟩ := loopN_el hf
        refine lv_iload_n hx hb dX8_stanzaOf_4 rfl (lv_at hl 3 rfl) ?_
        refine lv_iload_n hx hb dX8_stanzaOf_5 rfl (lv_at hl 1 rfl) ?_
        refine lv_icmp_gt (tgt := 31) hx hb dX8_stanzaOf_6 (by decide) (fun c3 => ?_) (fun c3 => ?_)
        · replace hf := it_t c3 hf
          exact hk4 _ _ (he _ (Option.some.inj hf).symm).symm H locs ls hP hD hS (lv_sub hl [2] rfl)
        · replace hf := it_f c3 hf
          refine lv_iload_n hx hb dX8_stanzaOf_9 rfl (lv_at hl 2 rfl) ?_
          refine lv_aload_n hx hb dX8_stanzaOf_10 rfl (lv_at hl 0 rfl) ?_
          refine lv_iload_n hx hb dX8_stanzaOf_11 rfl (lv_at hl 3 rfl) ?_
          obtain ⟨r_4, hq5, hf⟩ := bd1_el hf
          refine mc_V (As := [.int i3_2]) (rest := [.int i2_1]) (wr := []) (wn := [(a0, .inr (8, [.ref a1, .ref a2, .int v_acts, .ref a3, .ref a4, .int v_keptActs, .ref a5, .int v_typed, .ref a6, .ref a7, .ref a8, .ref a9, .ref a10, .int v_isSet, .ref a11, .ref a12, .ref a13, .int v_arePages, .ref a14, .ref a15, .int v_place, .ref a16, .int v_readMany])), (a1, .inl (cI, 189, .inl v_now))]) ⟨hx, hb, hml, hown, hT⟩ (c_X8_begins l dC dI cI cJ cP cS a0 a1 a2 a3 a4 a5 a6 a7 a8 a9 a10 a11 a12 a13 a14 a15 a16 v_acts v_keptActs v_typed v_isSet v_arePages v_place v_readMany v_now i3_2 r_4 hq5) (cwV 1 hT (gdV q_ml_X8_71 q_im_X8_begins q_se_X8_begins q_in_X8 q_co_X8_begins) rfl rfl rfl hd_X8_begins ⟨Nat.le_of_ble_eq_true rfl, Nat.le_of_ble_eq_true rfl⟩) hK hF hP hD hS hA 0 rfl rfl rfl [0, 1] [] [0, 1] rfl (by decide) rfl (by decide) (by decide) rfl (by decide) rfl hl.1 rfl (Nat.le_of_ble_eq_true rfl) dX8_stanzaOf_12 ⟨Nat.zero_le _, Nat.zero_le _⟩ (fun H locs hP hD hS => ?_)
          refine W.eq (g2 := F0 m 15 ls [.int r_4, .int i2_1]) rfl ?_
          refine lv_if_eq (tgt := 22) hx hb dX8_stanzaOf_15 (by decide) (fun c6 => ?_) (fun c6 => ?_)
          · replace hf := it_t c6 hf
            refine lv_iconst (v := 0) hx hb dX8_stanzaOf_22 (by decide) ?_
            refine lv_iadd hx hb dX8_stanzaOf_23 ?_
            obtain ⟨x2_7, ex2_7, hf⟩ := nm_el hf
            refine lv_as (congrArg Value.int ex2_7) ?_
            refine lv_istore_n (lv' := [(2, .int x2_7), (0, .ref a0), (1, .int x1), (3, .int i3_2)]) hx hb dX8_stanzaOf_24 rfl hl (by decide) rfl (fun ls hl => ?_)
            refine lv_iinc (v := (i3_2 + (1 : Int32))) (lv' := [(3, .int (i3_2 + (1 : Int32))), (2, .int x2_7), (0, .ref a0), (1, .int x1)]) hx hb dX8_stanzaOf_25 hl (k := 3) rfl rfl (by decide) rfl (fun ls hl => ?_)
            refine lv_goto (tgt := 4) hx hb dX8_stanzaOf_28 (by decide) ?_
            exact ih4 x2_7 (i3_2 + (1 : Int32)) (hi _ (Option.some.inj hf).symm) H locs ls hP hD hS (lv_sub hl [2, 3, 1, 0] rfl)
          · replace hf := it_f c6 hf
            refine lv_iconst (v := 1) hx hb dX8_stanzaOf_18 (by decide) ?_
            refine lv_goto (tgt := 23) hx hb dX8_stanzaOf_19 (by decide) ?_
            refine lv_iadd hx hb dX8_stanzaOf_23 ?_
            obtain ⟨x2_8, ex2_8, hf⟩ := nm_el hf
            refine lv_as (congrArg Value.int ex2_8) ?_
            refine lv_istore_n (lv' := [(2, .int x2_8), (0, .ref a0), (1, .int x1), (3, .int i3_2)]) hx hb dX8_stanzaOf_24 rfl hl (by decide) rfl (fun ls hl => ?_)
            refine lv_iinc (v := (i3_2 + (1 : Int32))) (lv' := [(3, .int (i3_2 + (1 : Int32))), (2, .int x2_8), (0, .ref a0), (1, .int x1)]) hx hb dX8_stanzaOf_25 hl (k := 3) rfl rfl (by decide) rfl (fun ls hl => ?_)
            refine lv_goto (tgt := 4) hx hb dX8_stanzaOf_28 (by decide) ?_
            exact ih4 x2_8 (i3_2 + (1 : Int32)) (hi _ (Option.some.inj hf).symm) H locs ls hP hD hS (lv_sub hl [2, 3, 1, 0] rfl)
    obtain ⟨f2_11, f3_12, hq, hf⟩ := bd2_el hf
    refine hL4 (f2_11, f3_12) (fun z_9 z_10 h9 H locs ls hP hD hS hl => ?_) fuel (0 : Int32) (1 : Int32) hq H locs ls hP hD hS (lv_sub hl [2, 3, 1, 0] rfl)
    simp only [Prod.mk.injEq] at h9
    obtain ⟨h9_0, h9_1⟩ := h9
    subst h9_0; subst h9_1
    refine lv_iload_n hx hb dX8_stanzaOf_31 rfl (lv_at hl 0 rfl) ?_
    replace hf := Option.some.inj hf
    subst hf
    exact hret H locs ls _ dX8_stanzaOf_32 hP hD hS
  refine key _ ?_ _ _ _ hP hD hS hl
  intro H locs ls pc d hP hD hS
  exact W.iret (v := rv) hx hb hr (fun t ht hW => ⟨⟨rfl, by rw [ht]; exact hP, hD⟩, hS.F ht⟩) hS.2.2 d
def p_X8_stanzas (v_now : (Nat → Int32)) : Option (Int32) :=
  (if (v_now 0) = (0 : Int32) then (some (0 : Int32)) else (bd1 (p_X8_stanzaOf v_now ((v_now 0) - (1 : Int32))) fun r_2 => (some ((1 : Int32) + r_2))))
set_option maxHeartbeats 4000000 in
set_option maxRecDepth 100000 in
theorem c_X8_stanzas (l : Launch) (dC : Nat → ClassId) (dI : Nat → Nat → Nat) (cI cJ cP cS : ClassId) (a0 : Nat) (a1 : Nat) (a2 : Nat) (a3 : Nat) (a4 : Nat) (a5 : Nat) (a6 : Nat) (a7 : Nat) (a8 : Nat) (a9 : Nat) (a10 : Nat) (a11 : Nat) (a12 : Nat) (a13 : Nat) (a14 : Nat) (a15 : Nat) (a16 : Nat) (v_acts : Int32) (v_keptActs : Int32) (v_typed : Int32) (v_isSet : Int32) (v_arePages : Int32) (v_place : Int32) (v_readMany : Int32) (v_now : (Nat → Int32))   (rv : Int32)  (hf : p_X8_stanzas v_now = some rv) : MC l (dC, dI) (tyl cI cJ cP cS) yX8_stanzas (Cond.code yX8_stanzas cX8_stanzas 1 (some .int) :: TBG) ({ frames := 3, cells := 0, slots := 0, locals := 66 } : Room) [.ref a0] [(a0, .inr (8, [.ref a1, .ref a2, .int v_acts, .ref a3, .ref a4, .int v_keptActs, .ref a5, .int v_typed, .ref a6, .ref a7, .ref a8, .ref a9, .ref a10, .int v_isSet, .ref a11, .ref a12, .ref a13, .int v_arePages, .ref a14, .ref a15, .int v_place, .ref a16, .int v_readMany])), (a1, .inl (cI, 189, .inl v_now))] [(a0, .inr (8, [.ref a1, .ref a2, .int v_acts, .ref a3, .ref a4, .int v_keptActs, .ref a5, .int v_typed, .ref a6, .ref a7, .ref a8, .ref a9, .ref a10, .int v_isSet, .ref a11, .ref a12, .ref a13, .int v_arePages, .ref a14, .ref a15, .int v_place, .ref a16, .int v_readMany])), (a1, .inl (cI, 189, .inl v_now))] (some (.int rv)) := by
  intro sz
  unfold MPost
  refine Met.ofW (cc := cX8_stanzas) (maxL := 1) (ret := (some .int)) (by decide) rfl ?_
  intro p e s m args below meth c s₁ B hml hv
  obtain ⟨rfl, hsz, hP, hK, hD0, hF⟩ := hv
  have hx := B.exec
  have hb := B.bytes
  have hr := B.returns
  have hT : ∀ w ∈ TBG, w.before _ s = true := fun w h => atoms_spec B.pre w (List.mem_cons_of_mem _ h)
  have hown : s.vm.findClass RX8 = some m.cls := findClass_of_methodNamed B.named
  have hlocks := B.notSynchronized
  subst hsz
  have hD := hD0.self (sz := s.heap.size)
  generalize hAe : va_A [(a0, .inr (8, [.ref a1, .ref a2, .int v_acts, .ref a3, .ref a4, .int v_keptActs, .ref a5, .int v_typed, .ref a6, .ref a7, .ref a8, .ref a9, .ref a10, .int v_isSet, .ref a11, .ref a12, .ref a13, .int v_arePages, .ref a14, .ref a15, .int v_place, .ref a16, .int v_readMany])), (a1, .inl (cI, 189, .inl v_now))] s.heap.size = A at hD hF ⊢
  have hA : ∀ q : Nat, s.heap.size ≤ q → A q := fun q h => by rw [← hAe]; exact Or.inr h
  have hS : va_S A s.heap s.heap [] := va_S.rf
  have hl := lv_entry ([.ref a0]) (n := 1) (Nat.le_of_ble_eq_true rfl)
  rw [lg_entry_eq]
  generalize (lg_sl ([.ref a0]) ++ List.replicate (1 - (lg_sl ([.ref a0])).length) Slot.unset).toArray = ls at hl ⊢
  have hl : lv_has ls 1 [(0, .ref a0)] := hl
  generalize ([.ref a0] : List Value).toArray = args at hT ⊢
  have key : ∀ (Q : State → Prop), (∀ (H : Heap) (locs : List Loc) (ls : Array Slot) (pc : Nat), decode cX8_stanzas pc = .ok (.ireturn, 1) → va_P (dC, dI) vwCl [(a0, .inr (8, [.ref a1, .ref a2, .int v_acts, .ref a3, .ref a4, .int v_keptActs, .ref a5, .int v_typed, .ref a6, .ref a7, .ref a8, .ref a9, .ref a10, .int v_isSet, .ref a11, .ref a12, .ref a13, .int v_arePages, .ref a14, .ref a15, .int v_place, .ref a16, .int v_readMany])), (a1, .inl (cI, 189, .inl v_now))] H → va_D A [(a0, .inr (8, [.ref a1, .ref a2, .int v_acts, .ref a3, .ref a4, .int v_keptActs, .ref a5, .int v_typed, .ref a6, .ref a7, .ref a8, .ref a9, .ref a10, .int v_isSet, .ref a11, .ref a12, .ref a13, .int v_arePages, .ref a14, .ref a15, .int v_place, .ref a16, .int v_readMany])), (a1, .inl (cI, 189, .inl v_now))] → va_S A s.heap H locs → W p l e ({ frames := 3, cells := 0, slots := 0, locals := 66 } : Room) s m args below meth c H locs 0 0 Q (F0 m pc ls [.int rv])) → ∀ (H : Heap) (locs : List Loc) (ls : Array Slot), va_P (dC, dI) vwCl [(a0, .inr (8, [.ref a1, .ref a2, .int v_acts, .ref a3, .ref a4, .int v_keptActs, .ref a5, .int v_typed, .ref a6, .ref a7, .ref a8, .ref a9, .ref a10, .int v_isSet, .ref a11, .ref a12, .ref a13, .int v_arePages, .ref a14, .ref a15, .int v_place, .ref a16, .int v_readMany])), (a1, .inl (cI, 189, .inl v_now))] H → va_D A [(a0, .inr (8, [.ref a1, .ref a2, .int v_acts, .ref a3, .ref a4, .int v_keptActs, .ref a5, .int v_typed, .ref a6, .ref a7, .ref a8, .ref a9, .ref a10, .int v_isSet, .ref a11, .ref a12, .ref a13, .int v_arePages, .ref a14, .ref a15, .int v_place, .ref a16, .int v_readMany])), (a1, .inl (cI, 189, .inl v_now))] → va_S A s.heap H locs → lv_has ls 1 [(0, .ref a0)] → W p l e ({ frames := 3, cells := 0, slots := 0, locals := 66 } : Room) s m args below meth c H locs 0 0 Q (F0 m 0 ls []) := by
    intro Q hret H locs ls hP hD hS hl
    refine lv_aload_n hx hb dX8_stanzas_0 rfl (lv_at hl 0 rfl) ?_
    refine va_get (D := (dC, dI)) (ci := 8) (v := .ref a1) (C := RX8) (T := TX8) (N := 23) hx hb hT in_X8 hown hK hP 0 rfl rfl 0 (by decide) (hT _ q_fl_X8_7) (fun _ h9 => h9) rfl dX8_stanzas_1 ?_
    refine lv_iconst (v := 0) hx hb dX8_stanzas_4 (by decide) ?_
    refine ia_ld hx hb hK hP 1 0 rfl rfl (ib_in (by decide)) (j := 0) (by decide) dX8_stanzas_5 ?_
    refine lv_if_ne (tgt := 13) hx hb dX8_stanzas_6 (by decide) (fun c1 => ?_) (fun c1 => ?_)
    · replace hf := it_f c1 hf
      refine lv_iconst (v := 1) hx hb dX8_stanzas_13 (by decide) ?_
      refine lv_aload_n hx hb dX8_stanzas_14 rfl (lv_at hl 0 rfl) ?_
      refine lv_aload_n hx hb dX8_stanzas_15 rfl (lv_at hl 0 rfl) ?_
      refine va_get (D := (dC, dI)) (ci := 8) (v := .ref a1) (C := RX8) (T := TX8) (N := 23) hx hb hT in_X8 hown hK hP 0 rfl rfl 0 (by decide) (hT _ q_fl_X8_7) (fun _ h9 => h9) rfl dX8_stanzas_16 ?_
      refine lv_iconst (v := 0) hx hb dX8_stanzas_19 (by decide) ?_
      refine ia_ld hx hb hK hP 1 0 rfl rfl (ib_in (by decide)) (j := 0) (by decide) dX8_stanzas_20 ?_
      refine lv_iconst (v := 1) hx hb dX8_stanzas_21 (by decide) ?_
      refine lv_isub hx hb dX8_stanzas_22 ?_
      obtain ⟨r_2, hq3, hf⟩ := bd1_el hf
      refine mc_V (As := [.int ((v_now 0) - (1 : Int32))]) (rest := [.int (1 : Int32)]) (wr := []) (wn := [(a0, .inr (8, [.ref a1, .ref a2, .int v_acts, .ref a3, .ref a4, .int v_keptActs, .ref a5, .int v_typed, .ref a6, .ref a7, .ref a8, .ref a9, .ref a10, .int v_isSet, .ref a11, .ref a12, .ref a13, .int v_arePages, .ref a14, .ref a15, .int v_place, .ref a16, .int v_readMany])), (a1, .inl (cI, 189, .inl v_now))]) ⟨hx, hb, hml, hown, hT⟩ (c_X8_stanzaOf l dC dI cI cJ cP cS a0 a1 a2 a3 a4 a5 a6 a7 a8 a9 a10 a11 a12 a13 a14 a15 a16 v_acts v_keptActs v_typed v_isSet v_arePages v_place v_readMany v_now ((v_now 0) - (1 : Int32)) r_2 hq3) (cwV 1 hT (gdV q_ml_X8_75 q_im_X8_stanzaOf q_se_X8_stanzaOf q_in_X8 q_co_X8_stanzaOf) rfl rfl rfl hd_X8_stanzaOf ⟨Nat.le_of_ble_eq_true rfl, Nat.le_of_ble_eq_true rfl⟩) hK hF hP hD hS hA 0 rfl rfl rfl [0, 1] [] [0, 1] rfl (by decide) rfl (by decide) (by decide) rfl (by decide) rfl hl.1 rfl (Nat.le_of_ble_eq_true rfl) dX8_stanzas_23 ⟨Nat.zero_le _, Nat.zero_le _⟩ (fun H locs hP hD hS => ?_)
      refine W.eq (g2 := F0 m 26 ls [.int r_2, .int (1 : Int32)]) rfl ?_
      refine lv_iadd hx hb dX8_stanzas_26 ?_
      replace hf := Option.some.inj hf
      subst hf
      exact hret H locs ls _ dX8_stanzas_27 hP hD hS
    · replace hf := it_t c1 hf
      refine lv_iconst (v := 0) hx hb dX8_stanzas_9 (by decide) ?_
      refine lv_goto (tgt := 27) hx hb dX8_stanzas_10 (by decide) ?_
      replace hf := Option.some.inj hf
      subst hf
      exact hret H locs ls _ dX8_stanzas_27 hP hD hS
  refine key _ ?_ _ _ _ hP hD hS hl
  intro H locs ls pc d hP hD hS
  exact W.iret (v := rv) hx hb hr (fun t ht hW => ⟨⟨rfl, by rw [ht]; exact hP, hD⟩, hS.F ht⟩) hS.2.2 d
def p_X8_firstLine_L2 (v_now : (Nat → Int32)) (x1 : Int32) (i2_1 : Int32) : Option ((Int32) ⊕ (Int32)) :=
  (bd1 (p_X8_stanzaOf v_now i2_1) fun r_2 => (if x1 ≤ r_2 then (some (.inr i2_1)) else (some (.inl (i2_1 + (1 : Int32))))))
def p_X8_firstLine (v_now : (Nat → Int32)) (x1 : Int32) : Option (Int32) :=
  (bd1 (loopN (p_X8_firstLine_L2 v_now x1) fuel (0 : Int32)) fun f2_6 => (some f2_6))
set_option maxHeartbeats 4000000 in
set_option maxRecDepth 100000 in
theorem c_X8_firstLine (l : Launch) (dC : Nat → ClassId) (dI : Nat → Nat → Nat) (cI cJ cP cS : ClassId) (a0 : Nat) (a1 : Nat) (a2 : Nat) (a3 : Nat) (a4 : Nat) (a5 : Nat) (a6 : Nat) (a7 : Nat) (a8 : Nat) (a9 : Nat) (a10 : Nat) (a11 : Nat) (a12 : Nat) (a13 : Nat) (a14 : Nat) (a15 : Nat) (a16 : Nat) (v_acts : Int32) (v_keptActs : Int32) (v_typed : Int32) (v_isSet : Int32) (v_arePages : Int32) (v_place : Int32) (v_readMany : Int32) (v_now : (Nat → Int32))  (x1 : Int32) (rv : Int32)  (hf : p_X8_firstLine v_now x1 = some rv) : MC l (dC, dI) (tyl cI cJ cP cS) yX8_firstLine (Cond.code yX8_firstLine cX8_firstLine 3 (some .int) :: TBG) ({ frames := 3, cells := 0, slots := 0, locals := 66 } : Room) [.ref a0, .int x1] [(a0, .inr (8, [.ref a1, .ref a2, .int v_acts, .ref a3, .ref a4, .int v_keptActs, .ref a5, .int v_typed, .ref a6, .ref a7, .ref a8, .ref a9, .ref a10, .int v_isSet, .ref a11, .ref a12, .ref a13, .int v_arePages, .ref a14, .ref a15, .int v_place, .ref a16, .int v_readMany])), (a1, .inl (cI, 189, .inl v_now))] [(a0, .inr (8, [.ref a1, .ref a2, .int v_acts, .ref a3, .ref a4, .int v_keptActs, .ref a5, .int v_typed, .ref a6, .ref a7, .ref a8, .ref a9, .ref a10, .int v_isSet, .ref a11, .ref a12, .ref a13, .int v_arePages, .ref a14, .ref a15, .int v_place, .ref a16, .int v_readMany])), (a1, .inl (cI, 189, .inl v_now))] (some (.int rv)) := by
  intro sz
  unfold MPost
  refine Met.ofW (cc := cX8_firstLine) (maxL := 3) (ret := (some .int)) (by decide) rfl ?_
  intro p e s m args below meth c s₁ B hml hv
  obtain ⟨rfl, hsz, hP, hK, hD0, hF⟩ := hv
  have hx := B.exec
  have hb := B.bytes
  have hr := B.returns
  have hT : ∀ w ∈ TBG, w.before _ s = true := fun w h => atoms_spec B.pre w (List.mem_cons_of_mem _ h)
  have hown : s.vm.findClass RX8 = some m.cls := findClass_of_methodNamed B.named
  have hlocks := B.notSynchronized
  subst hsz
  have hD := hD0.self (sz := s.heap.size)
  generalize hAe : va_A [(a0, .inr (8, [.ref a1, .ref a2, .int v_acts, .ref a3, .ref a4, .int v_keptActs, .ref a5, .int v_typed, .ref a6, .ref a7, .ref a8, .ref a9, .ref a10, .int v_isSet, .ref a11, .ref a12, .ref a13, .int v_arePages, .ref a14, .ref a15, .int v_place, .ref a16, .int v_readMany])), (a1, .inl (cI, 189, .inl v_now))] s.heap.size = A at hD hF ⊢
  have hA : ∀ q : Nat, s.heap.size ≤ q → A q := fun q h => by rw [← hAe]; exact Or.inr h
  have hS : va_S A s.heap s.heap [] := va_S.rf
  have hl := lv_entry ([.ref a0, .int x1]) (n := 3) (Nat.le_of_ble_eq_true rfl)
  rw [lg_entry_eq]
  generalize (lg_sl ([.ref a0, .int x1]) ++ List.replicate (3 - (lg_sl ([.ref a0, .int x1])).length) Slot.unset).toArray = ls at hl ⊢
  have hl : lv_has ls 3 [(0, .ref a0), (1, .int x1)] := hl
  generalize ([.ref a0, .int x1] : List Value).toArray = args at hT ⊢
  have key : ∀ (Q : State → Prop), (∀ (H : Heap) (locs : List Loc) (ls : Array Slot) (pc : Nat), decode cX8_firstLine pc = .ok (.ireturn, 1) → va_P (dC, dI) vwCl [(a0, .inr (8, [.ref a1, .ref a2, .int v_acts, .ref a3, .ref a4, .int v_keptActs, .ref a5, .int v_typed, .ref a6, .ref a7, .ref a8, .ref a9, .ref a10, .int v_isSet, .ref a11, .ref a12, .ref a13, .int v_arePages, .ref a14, .ref a15, .int v_place, .ref a16, .int v_readMany])), (a1, .inl (cI, 189, .inl v_now))] H → va_D A [(a0, .inr (8, [.ref a1, .ref a2, .int v_acts, .ref a3, .ref a4, .int v_keptActs, .ref a5, .int v_typed, .ref a6, .ref a7, .ref a8, .ref a9, .ref a10, .int v_isSet, .ref a11, .ref a12, .ref a13, .int v_arePages, .ref a14, .ref a15, .int v_place, .ref a16, .int v_readMany])), (a1, .inl (cI, 189, .inl v_now))] → va_S A s.heap H locs → W p l e ({ frames := 3, cells := 0, slots := 0, locals := 66 } : Room) s m args below meth c H locs 0 0 Q (F0 m pc ls [.int rv])) → ∀ (H : Heap) (locs : List Loc) (ls : Array Slot), va_P (dC, dI) vwCl [(a0, .inr (8, [.ref a1, .ref a2, .int v_acts, .ref a3, .ref a4, .int v_keptActs, .ref a5, .int v_typed, .ref a6, .ref a7, .ref a8, .ref a9, .ref a10, .int v_isSet, .ref a11, .ref a12, .ref a13, .int v_arePages, .ref a14, .ref a15, .int v_place, .ref a16, .int v_readMany])), (a1, .inl (cI, 189, .inl v_now))] H → va_D A [(a0, .inr (8, [.ref a1, .ref a2, .int v_acts, .ref a3, .ref a4, .int v_keptActs, .ref a5, .int v_typed, .ref a6, .ref a7, .ref a8, .ref a9, .ref a10, .int v_isSet, .ref a11, .ref a12, .ref a13, .int v_arePages, .ref a14, .ref a15, .int v_place, .ref a16, .int v_readMany])), (a1, .inl (cI, 189, .inl v_now))] → va_S A s.heap H locs → lv_has ls 3 [(0, .ref a0), (1, .int x1)] → W p l e ({ frames := 3, cells := 0, slots := 0, locals := 66 } : Room) s m args below meth c H locs 0 0 Q (F0 m 0 ls []) := by
    intro Q hret H locs ls hP hD hS hl
    refine lv_iconst (v := 0) hx hb dX8_firstLine_0 (by decide) ?_
    refine lv_istore_n (lv' := [(2, .int (0 : Int32)), (0, .ref a0), (1, .int x1)]) hx hb dX8_firstLine_1 rfl hl (by decide) rfl (fun ls hl => ?_)
    have hL2 : ∀ (rr : Int32), (∀ (z_5 : Int32), rr = z_5 → ∀ (H : Heap) (locs : List Loc) (ls : Array Slot), va_P (dC, dI) vwCl [(a0, .inr (8, [.ref a1, .ref a2, .int v_acts, .ref a3, .ref a4, .int v_keptActs, .ref a5, .int v_typed, .ref a6, .ref a7, .ref a8, .ref a9, .ref a10, .int v_isSet, .ref a11, .ref a12, .ref a13, .int v_arePages, .ref a14, .ref a15, .int v_place, .ref a16, .int v_readMany])), (a1, .inl (cI, 189, .inl v_now))] H → va_D A [(a0, .inr (8, [.ref a1, .ref a2, .int v_acts, .ref a3, .ref a4, .int v_keptActs, .ref a5, .int v_typed, .ref a6, .ref a7, .ref a8, .ref a9, .ref a10, .int v_isSet, .ref a11, .ref a12, .ref a13, .int v_arePages, .ref a14, .ref a15, .int v_place, .ref a16, .int v_readMany])), (a1, .inl (cI, 189, .inl v_now))] → va_S A s.heap H locs → lv_has ls 3 [(2, .int z_5)] → W p l e ({ frames := 3, cells := 0, slots := 0, locals := 66 } : Room) s m args below meth c H locs 0 0 Q (F0 m 17 ls [])) → ∀ (n : Nat) (i2_1 : Int32), loopN (p_X8_firstLine_L2 v_now x1) n i2_1 = some rr → ∀ (H : Heap) (locs : List Loc) (ls : Array Slot), va_P (dC, dI) vwCl [(a0, .inr (8, [.ref a1, .ref a2, .int v_acts, .ref a3, .ref a4, .int v_keptActs, .ref a5, .int v_typed, .ref a6, .ref a7, .ref a8, .ref a9, .ref a10, .int v_isSet, .ref a11, .ref a12, .ref a13, .int v_arePages, .ref a14, .ref a15, .int v_place, .ref a16, .int v_readMany])), (a1, .inl (cI, 189, .inl v_now))] H → va_D A [(a0, .inr (8, [.ref a1, .ref a2, .int v_acts, .ref a3, .ref a4, .int v_keptActs, .ref a5, .int v_typed, .ref a6, .ref a7, .ref a8, .ref a9, .ref a10, .int v_isSet, .ref a11, .ref a12, .ref a13, .int v_arePages, .ref a14, .ref a15, .int v_place, .ref a16, .int v_readMany])), (a1, .inl (cI, 189, .inl v_now))] → va_S A s.heap H locs → lv_has ls 3 [(0, .ref a0), (1, .int x1), (2, .int i2_1)] → W p l e ({ frames := 3, cells := 0, slots := 0, locals := 66 } : Room) s m args below meth c H locs 0 0 Q (F0 m 2 ls []) := by
      intro rr hk2 n
      induction n with
      | zero => intro i2_1 hf; cases hf
      | succ n ih2 =>
        intro i2_1 hf H locs ls hP hD hS hl
        obtain ⟨o2, hf, hi, he⟩ := loopN_el hf
        refine lv_aload_n hx hb dX8_firstLine_2 rfl (lv_at hl 0 rfl) ?_
        refine lv_iload_n hx hb dX8_firstLine_3 rfl (lv_at hl 2 rfl) ?_
        obtain ⟨r_2, hq3, hf⟩ := bd1_el hf
        refine mc_V (As := [.int i2_1]) (rest := []) (wr := []) (wn := [(a0, .inr (8, [.ref a1, .ref a2, .int v_acts, .ref a3, .ref a4, .int v_keptActs, .ref a5, .int v_typed, .ref a6, .ref a7, .ref a8, .ref a9, .ref a10, .int v_isSet, .ref a11, .ref a12, .ref a13, .int v_arePages, .ref a14, .ref a15, .int v_place, .ref a16, .int v_readMany])), (a1, .inl (cI, 189, .inl v_now))]) ⟨hx, hb, hml, hown, hT⟩ (c_X8_stanzaOf l dC dI cI cJ cP cS a0 a1 a2 a3 a4 a5 a6 a7 a8 a9 a10 a11 a12 a13 a14 a15 a16 v_acts v_keptActs v_typed v_isSet v_arePages v_place v_readMany v_now i2_1 r_2 hq3) (cwV 1 hT (gdV q_ml_X8_75 q_im_X8_stanzaOf q_se_X8_stanzaOf q_in_X8 q_co_X8_stanzaOf) rfl rfl rfl hd_X8_stanzaOf ⟨Nat.le_of_ble_eq_true rfl, Nat.le_of_ble_eq_true rfl⟩) hK hF hP hD hS hA 0 rfl rfl rfl [0, 1] [] [0, 1] rfl (by decide) rfl (by decide) (by decide) rfl (by decide) rfl hl.1 rfl (Nat.le_of_ble_eq_true rfl) dX8_firstLine_4 ⟨Nat.zero_le _, Nat.zero_le _⟩ (fun H locs hP hD hS => ?_)
        refine W.eq (g2 := F0 m 7 ls [.int r_2]) rfl ?_
        refine lv_iload_n hx hb dX8_firstLine_7 rfl (lv_at hl 1 rfl) ?_
        refine lv_icmp_ge (tgt := 17) hx hb dX8_firstLine_8 (by decide) (fun c4 => ?_) (fun c4 => ?_)
        · replace hf := it_t c4 hf
          exact hk2 _ (he _ (Option.some.inj hf).symm).symm H locs ls hP hD hS (lv_sub hl [2] rfl)
        · replace hf := it_f c4 hf
          refine lv_iinc (v := (i2_1 + (1 : Int32))) (lv' := [(2, .int (i2_1 + (1 : Int32))), (0, .ref a0), (1, .int x1)]) hx hb dX8_firstLine_11 hl (k := 2) rfl rfl (by decide) rfl (fun ls hl => ?_)
          refine lv_goto (tgt := 2) hx hb dX8_firstLine_14 (by decide) ?_
          exact ih2 (i2_1 + (1 : Int32)) (hi _ (Option.some.inj hf).symm) H locs ls hP hD hS (lv_sub hl [1, 2, 0] rfl)
    obtain ⟨f2_6, hq, hf⟩ := bd1_el hf
    refine hL2 f2_6 (fun z_5 h9 H locs ls hP hD hS hl => ?_) fuel (0 : Int32) hq H locs ls hP hD hS (lv_sub hl [1, 2, 0] rfl)
    subst h9
    refine lv_iload_n hx hb dX8_firstLine_17 rfl (lv_at hl 0 rfl) ?_
    replace hf := Option.some.inj hf
    subst hf
    exact hret H locs ls _ dX8_firstLine_18 hP hD hS
  refine key _ ?_ _ _ _ hP hD hS hl
  intro H locs ls pc d hP hD hS
  exact W.iret (v := rv) hx hb hr (fun t ht hW => ⟨⟨rfl, by rw [ht]; exact hP, hD⟩, hS.F ht⟩) hS.2.2 d
def p_X8_rank_B47_13 (v_now : (Nat → Int32)) (i2_3 : Int32) (i3_4 : Int32) (i4_5 : Int32) (w1_13 : Int32) : Option ((Int32 × Int32 × Int32) ⊕ (Int32 × Int32 × Int32)) :=
  (nm (i3_4 + w1_13) fun x3_14 => (bd1 (p_X8_at v_now i4_5 (0 : Int32)) fun r_15 => (nm (i2_3 ||| ((1 : Int32) <<< (r_15 &&& 31))) fun x2_17 => (some (.inl (x2_17, x3_14, (i4_5 + (1 : Int32))))))))
def p_X8_rank_L11 (v_now : (Nat → Int32)) (x1 : Int32) (s : Int32 × Int32 × Int32) : Option ((Int32 × Int32 × Int32) ⊕ (Int32 × Int32 × Int32)) := match s with
  | (i2_3, i3_4, i4_5) => (bd1 (p_X8_at v_now i4_5 (0 : Int32)) fun r_6 => (bd1 (p_X8_at v_now x1 (0 : Int32)) fun r_8 => (if r_6 = r_8 then (some (.inr (i2_3, i3_4, i4_5))) else (bd1 (p_X8_at v_now i4_5 (0 : Int32)) fun r_11 => (if ((i2_3 >>> (r_11 &&& 31)) &&& (1 : Int32)) = (0 : Int32) then (p_X8_rank_B47_13 v_now i2_3 i3_4 i4_5 (1 : Int32)) else (p_X8_rank_B47_13 v_now i2_3 i3_4 i4_5 (0 : Int32)))))))
def p_X8_rank (v_now : (Nat → Int32)) (x1 : Int32) : Option (Int32) :=
  (bd1 (p_X8_startOf v_now x1) fun r_1 => (bd3 (loopN (p_X8_rank_L11 v_now x1) fuel ((0 : Int32), (0 : Int32), r_1)) fun f2_22 f3_23 f4_24 => (some f3_23)))
set_option maxHeartbeats 4000000 in
set_option maxRecDepth 100000 in
theorem c_X8_rank (l : Launch) (dC : Nat → ClassId) (dI : Nat → Nat → Nat) (cI cJ cP cS : ClassId) (a0 : Nat) (a1 : Nat) (a2 : Nat) (a3 : Nat) (a4 : Nat) (a5 : Nat) (a6 : Nat) (a7 : Nat) (a8 : Nat) (a9 : Nat) (a10 : Nat) (a11 : Nat) (a12 : Nat) (a13 : Nat) (a14 : Nat) (a15 : Nat) (a16 : Nat) (v_acts : Int32) (v_keptActs : Int32) (v_typed : Int32) (v_isSet : Int32) (v_arePages : Int32) (v_place : Int32) (v_readMany : Int32) (v_now : (Nat → Int32))  (x1 : Int32) (rv : Int32)  (hf : p_X8_rank v_now x1 = some rv) : MC l (dC, dI) (tyl cI cJ cP cS) yX8_rank (Cond.code yX8_rank cX8_rank 5 (some .int) :: TBG) ({ frames := 3, cells := 0, slots := 0, locals := 65 } : Room) [.ref a0, .int x1] [(a0, .inr (8, [.ref a1, .ref a2, .int v_acts, .ref a3, .ref a4, .int v_keptActs, .ref a5, .int v_typed, .ref a6, .ref a7, .ref a8, .ref a9, .ref a10, .int v_isSet, .ref a11, .ref a12, .ref a13, .int v_arePages, .ref a14, .ref a15, .int v_place, .ref a16, .int v_readMany])), (a1, .inl (cI, 189, .inl v_now))] [(a0, .inr (8, [.ref a1, .ref a2, .int v_acts, .ref a3, .ref a4, .int v_keptActs, .ref a5, .int v_typed, .ref a6, .ref a7, .ref a8, .ref a9, .ref a10, .int v_isSet, .ref a11, .ref a12, .ref a13, .int v_arePages, .ref a14, .ref a15, .int v_place, .ref a16, .int v_readMany])), (a1, .inl (cI, 189, .inl v_now))] (some (.int rv)) := by
  intro sz
  unfold MPost
  refine Met.ofW (cc := cX8_rank) (maxL := 5) (ret := (some .int)) (by decide) rfl ?_
  intro p e s m args below meth c s₁ B hml hv
  obtain ⟨rfl, hsz, hP, hK, hD0, hF⟩ := hv
  have hx := B.exec
  have hb := B.bytes
  have hr := B.returns
  have hT : ∀ w ∈ TBG, w.before _ s = true := fun w h => atoms_spec B.pre w (List.mem_cons_of_mem _ h)
  have hown : s.vm.findClass RX8 = some m.cls := findClass_of_methodNamed B.named
  have hlocks := B.notSynchronized
  subst hsz
  have hD := hD0.self (sz := s.heap.size)
  generalize hAe : va_A [(a0, .inr (8, [.ref a1, .ref a2, .int v_acts, .ref a3, .ref a4, .int v_keptActs, .ref a5, .int v_typed, .ref a6, .ref a7, .ref a8, .ref a9, .ref a10, .int v_isSet, .ref a11, .ref a12, .ref a13, .int v_arePages, .ref a14, .ref a15, .int v_place, .ref a16, .int v_readMany])), (a1, .inl (cI, 189, .inl v_now))] s.heap.size = A at hD hF ⊢
  have hA : ∀ q : Nat, s.heap.size ≤ q → A q := fun q h => by rw [← hAe]; exact Or.inr h
  have hS : va_S A s.heap s.heap [] := va_S.rf
  have hl := lv_entry ([.ref a0, .int x1]) (n := 5) (Nat.le_of_ble_eq_true rfl)
  rw [lg_entry_eq]
  generalize (lg_sl ([.ref a0, .int x1]) ++ List.replicate (5 - (lg_sl ([.ref a0, .int x1])).length) Slot.unset).toArray = ls at hl ⊢
  have hl : lv_has ls 5 [(0, .ref a0), (1, .int x1)] := hl
  generalize ([.ref a0, .int x1] : List Value).toArray = args at hT ⊢
  have key : ∀ (Q : State → Prop), (∀ (H : Heap) (locs : List Loc) (ls : Array Slot) (pc : Nat), decode cX8_rank pc = .ok (.ireturn, 1) → va_P (dC, dI) vwCl [(a0, .inr (8, [.ref a1, .ref a2, .int v_acts, .ref a3, .ref a4, .int v_keptActs, .ref a5, .int v_typed, .ref a6, .ref a7, .ref a8, .ref a9, .ref a10, .int v_isSet, .ref a11, .ref a12, .ref a13, .int v_arePages, .ref a14, .ref a15, .int v_place, .ref a16, .int v_readMany])), (a1, .inl (cI, 189, .inl v_now))] H → va_D A [(a0, .inr (8, [.ref a1, .ref a2, .int v_acts, .ref a3, .ref a4, .int v_keptActs, .ref a5, .int v_typed, .ref a6, .ref a7, .ref a8, .ref a9, .ref a10, .int v_isSet, .ref a11, .ref a12, .ref a13, .int v_arePages, .ref a14, .ref a15, .int v_place, .ref a16, .int v_readMany])), (a1, .inl (cI, 189, .inl v_now))] → va_S A s.heap H locs → W p l e ({ frames := 3, cells := 0, slots := 0, locals := 65 } : Room) s m args below meth c H locs 0 0 Q (F0 m pc ls [.int rv])) → ∀ (H : Heap) (locs : List Loc) (ls : Array Slot), va_P (dC, dI) vwCl [(a0, .inr (8, [.ref a1, .ref a2, .int v_acts, .ref a3, .ref a4, .int v_keptActs, .ref a5, .int v_typed, .ref a6, .ref a7, .ref a8, .ref a9, .ref a10, .int v_isSet, .ref a11, .ref a12, .ref a13, .int v_arePages, .ref a14, .ref a15, .int v_place, .ref a16, .int v_readMany])), (a1, .inl (cI, 189, .inl v_now))] H → va_D A [(a0, .inr (8, [.ref a1, .ref a2, .int v_acts, .ref a3, .ref a4, .int v_keptActs, .ref a5, .int v_typed, .ref a6, .ref a7, .ref a8, .ref a9, .ref a10, .int v_isSet, .ref a11, .ref a12, .ref a13, .int v_arePages, .ref a14, .ref a15, .int v_place, .ref a16, .int v_readMany])), (a1, .inl (cI, 189, .inl v_now))] → va_S A s.heap H locs → lv_has ls 5 [(0, .ref a0), (1, .int x1)] → W p l e ({ frames := 3, cells := 0, slots := 0, locals := 65 } : Room) s m args below meth c H locs 0 0 Q (F0 m 0 ls []) := by
    intro Q hret H locs ls hP hD hS hl
    refine lv_iconst (v := 0) hx hb dX8_rank_0 (by decide) ?_
    refine lv_istore_n (lv' := [(2, .int (0 : Int32)), (0, .ref a0), (1, .int x1)]) hx hb dX8_rank_1 rfl hl (by decide) rfl (fun ls hl => ?_)
    refine lv_iconst (v := 0) hx hb dX8_rank_2 (by decide) ?_
    refine lv_istore_n (lv' := [(3, .int (0 : Int32)), (2, .int (0 : Int32)), (0, .ref a0), (1, .int x1)]) hx hb dX8_rank_3 rfl hl (by decide) rfl (fun ls hl => ?_)
    refine lv_aload_n hx hb dX8_rank_4 rfl (lv_at hl 2 rfl) ?_
    refine lv_iload_n hx hb dX8_rank_5 rfl (lv_at hl 3 rfl) ?_
    obtain ⟨r_1, hq2, hf⟩ := bd1_el hf
    refine mc_V (As := [.int x1]) (rest := []) (wr := []) (wn := [(a0, .inr (8, [.ref a1, .ref a2, .int v_acts, .ref a3, .ref a4, .int v_keptActs, .ref a5, .int v_typed, .ref a6, .ref a7, .ref a8, .ref a9, .ref a10, .int v_isSet, .ref a11, .ref a12, .ref a13, .int v_arePages, .ref a14, .ref a15, .int v_place, .ref a16, .int v_readMany])), (a1, .inl (cI, 189, .inl v_now))]) ⟨hx, hb, hml, hown, hT⟩ (c_X8_startOf l dC dI cI cJ cP cS a0 a1 a2 a3 a4 a5 a6 a7 a8 a9 a10 a11 a12 a13 a14 a15 a16 v_acts v_keptActs v_typed v_isSet v_arePages v_place v_readMany v_now x1 r_1 hq2) (cwV 1 hT (gdV q_ml_X8_79 q_im_X8_startOf q_se_X8_startOf q_in_X8 q_co_X8_startOf) rfl rfl rfl hd_X8_startOf ⟨Nat.le_of_ble_eq_true rfl, Nat.le_of_ble_eq_true rfl⟩) hK hF hP hD hS hA 0 rfl rfl rfl [0, 1] [] [0, 1] rfl (by decide) rfl (by decide) (by decide) rfl (by decide) rfl hl.1 rfl (Nat.le_of_ble_eq_true rfl) dX8_rank_6 ⟨Nat.zero_le _, Nat.zero_le _⟩ (fun H locs hP hD hS => ?_)
    refine W.eq (g2 := F0 m 9 ls [.int r_1]) rfl ?_
    refine lv_istore (lv' := [(4, .int r_1), (3, .int (0 : Int32)), (2, .int (0 : Int32)), (0, .ref a0), (1, .int x1)]) hx hb dX8_rank_9 hl (by decide) rfl (fun ls hl => ?_)
    have hL11 : ∀ (rr : Int32 × Int32 × Int32), (∀ (z_19 : Int32) (z_20 : Int32) (z_21 : Int32), rr = (z_19, z_20, z_21) → ∀ (H : Heap) (locs : List Loc) (ls : Array Slot), va_P (dC, dI) vwCl [(a0, .inr (8, [.ref a1, .ref a2, .int v_acts, .ref a3, .ref a4, .int v_keptActs, .ref a5, .int v_typed, .ref a6, .ref a7, .ref a8, .ref a9, .ref a10, .int v_isSet, .ref a11, .ref a12, .ref a13, .int v_arePages, .ref a14, .ref a15, .int v_place, .ref a16, .int v_readMany])), (a1, .inl (cI, 189, .inl v_now))] H → va_D A [(a0, .inr (8, [.ref a1, .ref a2, .int v_acts, .ref a3, .ref a4, .int v_keptActs, .ref a5, .int v_typed, .ref a6, .ref a7, .ref a8, .ref a9, .ref a10, .int v_isSet, .ref a11, .ref a12, .ref a13, .int v_arePages, .ref a14, .ref a15, .int v_place, .ref a16, .int v_readMany])), (a1, .inl (cI, 189, .inl v_now))] → va_S A s.heap H locs → lv_has ls 5 [(3, .int z_20)] → W p l e ({ frames := 3, cells := 0, slots := 0, locals := 65 } : Room) s m args below meth c H locs 0 0 Q (F0 m 67 ls [])) → ∀ (n : Nat) (i2_3 : Int32) (i3_4 : Int32) (i4_5 : Int32), loopN (p_X8_rank_L11 v_now x1) n (i2_3, i3_4, i4_5) = some rr → ∀ (H : Heap) (locs : List Loc) (ls : Array Slot), va_P (dC, dI) vwCl [(a0, .inr (8, [.ref a1, .ref a2, .int v_acts, .ref a3, .ref a4, .int v_keptActs, .ref a5, .int v_typed, .ref a6, .ref a7, .ref a8, .ref a9, .ref a10, .int v_isSet, .ref a11, .ref a12, .ref a13, .int v_arePages, .ref a14, .ref a15, .int v_place, .ref a16, .int v_readMany])), (a1, .inl (cI, 189, .inl v_now))] H → va_D A [(a0, .inr (8, [.ref a1, .ref a2, .int v_acts, .ref a3, .ref a4, .int v_keptActs, .ref a5, .int v_typed, .ref a6, .ref a7, .ref a8, .ref a9, .ref a10, .int v_isSet, .ref a11, .ref a12, .ref a13, .int v_arePages, .ref a14, .ref a15, .int v_place, .ref a16, .int v_readMany])), (a1, .inl (cI, 189, .inl v_now))] → va_S A s.heap H locs → lv_has ls 5 [(0, .ref a0), (1, .int x1), (2, .int i2_3), (3, .int i3_4), (4, .int i4_5)] → W p l e ({ frames := 3, cells := 0, slots := 0, locals := 65 } : Room) s m args below meth c H locs 0 0 Q (F0 m 11 ls []) := by
      intro rr hk11 n
      induction n with
      | zero => intro i2_3 i3_4 i4_5 hf; cases hf
      | succ n ih11 =>
        intro i2_3 i3_4 i4_5 hf H locs ls hP hD hS hl
        obtain ⟨o11, hf, hi, he⟩ := loopN_el hf
        rw [p_X8_rank_L11] at hf
        refine lv_aload_n hx hb dX8_rank_11 rfl (lv_at hl 0 rfl) ?_
        refine lv_iload hx hb dX8_rank_12 (lv_at hl 4 rfl) ?_
        refine lv_iconst (v := 0) hx hb dX8_rank_14 (by decide) ?_
        obtain ⟨r_6, hq7, hf⟩ := bd1_el hf
        refine mc_V (As := [.int i4_5, .int (0 : Int32)]) (rest := []) (wr := []) (wn := [(a0, .inr (8, [.ref a1, .ref a2, .int v_acts, .ref a3, .ref a4, .int v_keptActs, .ref a5, .int v_typed, .ref a6, .ref a7, .ref a8, .ref a9, .ref a10, .int v_isSet, .ref a11, .ref a12, .ref a13, .int v_arePages, .ref a14, .ref a15, .int v_place, .ref a16, .int v_readMany])), (a1, .inl (cI, 189, .inl v_now))]) ⟨hx, hb, hml, hown, hT⟩ (c_X8_at l dC dI cI cJ cP cS a0 a1 a2 a3 a4 a5 a6 a7 a8 a9 a10 a11 a12 a13 a14 a15 a16 v_acts v_keptActs v_typed v_isSet v_arePages v_place v_readMany v_now i4_5 (0 : Int32) r_6 hq7) (cwV 2 hT (gdV q_ml_X8_67 q_im_X8_at q_se_X8_at q_in_X8 q_co_X8_at) rfl rfl rfl hd_X8_at ⟨Nat.le_of_ble_eq_true rfl, Nat.le_of_ble_eq_true rfl⟩) hK hF hP hD hS hA 0 rfl rfl rfl [0, 1] [] [0, 1] rfl (by decide) rfl (by decide) (by decide) rfl (by decide) rfl hl.1 rfl (Nat.le_of_ble_eq_true rfl) dX8_rank_15 ⟨Nat.zero_le _, Nat.zero_le _⟩ (fun H locs hP hD hS => ?_)
        refine W.eq (g2 := F0 m 18 ls [.int r_6]) rfl ?_
        refine lv_aload_n hx hb dX8_rank_18 rfl (lv_at hl 0 rfl) ?_
        refine lv_iload_n hx hb dX8_rank_19 rfl (lv_at hl 1 rfl) ?_
        refine lv_iconst (v := 0) hx hb dX8_rank_20 (by decide) ?_
        obtain ⟨r_8, hq9, hf⟩ := bd1_el hf
        refine mc_V (As := [.int x1, .int (0 : Int32)]) (rest := [.int r_6]) (wr := []) (wn := [(a0, .inr (8, [.ref a1, .ref a2, .int v_acts, .ref a3, .ref a4, .int v_keptActs, .ref a5, .int v_typed, .ref a6, .ref a7, .ref a8, .ref a9, .ref a10, .int v_isSet, .ref a11, .ref a12, .ref a13, .int v_arePages, .ref a14, .ref a15, .int v_place, .ref a16, .int v_readMany])), (a1, .inl (cI, 189, .inl v_now))]) ⟨hx, hb, hml, hown, hT⟩ (c_X8_at l dC dI cI cJ cP cS a0 a1 a2 a3 a4 a5 a6 a7 a8 a9 a10 a11 a12 a13 a14 a15 a16 v_acts v_keptActs v_typed v_isSet v_arePages v_place v_readMany v_now x1 (0 : Int32) r_8 hq9) (cwV 2 hT (gdV q_ml_X8_67 q_im_X8_at q_se_X8_at q_in_X8 q_co_X8_at) rfl rfl rfl hd_X8_at ⟨Nat.le_of_ble_eq_true rfl, Nat.le_of_ble_eq_true rfl⟩) hK hF hP hD hS hA 0 rfl rfl rfl [0, 1] [] [0, 1] rfl (by decide) rfl (by decide) (by decide) rfl (by decide) rfl hl.1 rfl (Nat.le_of_ble_eq_true rfl) dX8_rank_21 ⟨Nat.zero_le _, Nat.zero_le _⟩ (fun H locs hP hD hS => ?_)
        refine W.eq (g2 := F0 m 24 ls [.int r_8, .int r_6]) rfl ?_
        refine lv_icmp_eq (tgt := 67) hx hb dX8_rank_24 (by decide) (fun c10 => ?_) (fun c10 => ?_)
        · replace hf := it_t c10 hf
          exact hk11 _ _ _ (he _ (Option.some.inj hf).symm).symm H locs ls hP hD hS (lv_sub hl [3] rfl)
        · replace hf := it_f c10 hf
          refine lv_iload_n hx hb dX8_rank_27 rfl (lv_at hl 3 rfl) ?_
          refine lv_iload_n hx hb dX8_rank_28 rfl (lv_at hl 2 rfl) ?_
          refine lv_aload_n hx hb dX8_rank_29 rfl (lv_at hl 0 rfl) ?_
          refine lv_iload hx hb dX8_rank_30 (lv_at hl 4 rfl) ?_
          refine lv_iconst (v := 0) hx hb dX8_rank_32 (by decide) ?_
          obtain ⟨r_11, hq12, hf⟩ := bd1_el hf
          refine mc_V (As := [.int i4_5, .int (0 : Int32)]) (rest := [.int i2_3, .int i3_4]) (wr := []) (wn := [(a0, .inr (8, [.ref a1, .ref a2, .int v_acts, .ref a3, .ref a4, .int v_keptActs, .ref a5, .int v_typed, .ref a6, .ref a7, .ref a8, .ref a9, .ref a10, .int v_isSet, .ref a11, .ref a12, .ref a13, .int v_arePages, .ref a14, .ref a15, .int v_place, .ref a16, .int v_readMany])), (a1, .inl (cI, 189, .inl v_now))]) ⟨hx, hb, hml, hown, hT⟩ (c_X8_at l dC dI cI cJ cP cS a0 a1 a2 a3 a4 a5 a6 a7 a8 a9 a10 a11 a12 a13 a14 a15 a16 v_acts v_keptActs v_typed v_isSet v_arePages v_place v_readMany v_now i4_5 (0 : Int32) r_11 hq12) (cwV 2 hT (gdV q_ml_X8_67 q_im_X8_at q_se_X8_at q_in_X8 q_co_X8_at) rfl rfl rfl hd_X8_at ⟨Nat.le_of_ble_eq_true rfl, Nat.le_of_ble_eq_true rfl⟩) hK hF hP hD hS hA 0 rfl rfl rfl [0, 1] [] [0, 1] rfl (by decide) rfl (by decide) (by decide) rfl (by decide) rfl hl.1 rfl (Nat.le_of_ble_eq_true rfl) dX8_rank_33 ⟨Nat.zero_le _, Nat.zero_le _⟩ (fun H locs hP hD hS => ?_)
          refine W.eq (g2 := F0 m 36 ls [.int r_11, .int i2_3, .int i3_4]) rfl ?_
          refine lv_ishr hx hb dX8_rank_36 ?_
          refine lv_iconst (v := 1) hx hb dX8_rank_37 (by decide) ?_
          refine lv_iand hx hb dX8_rank_38 ?_
          have hB47_13 : ∀ (w1_13 : Int32), p_X8_rank_B47_13 v_now i2_3 i3_4 i4_5 w1_13 = some o11 → ∀ (H : Heap) (locs : List Loc) (ls : Array Slot), va_P (dC, dI) vwCl [(a0, .inr (8, [.ref a1, .ref a2, .int v_acts, .ref a3, .ref a4, .int v_keptActs, .ref a5, .int v_typed, .ref a6, .ref a7, .ref a8, .ref a9, .ref a10, .int v_isSet, .ref a11, .ref a12, .ref a13, .int v_arePages, .ref a14, .ref a15, .int v_place, .ref a16, .int v_readMany])), (a1, .inl (cI, 189, .inl v_now))] H → va_D A [(a0, .inr (8, [.ref a1, .ref a2, .int v_acts, .ref a3, .ref a4, .int v_keptActs, .ref a5, .int v_typed, .ref a6, .ref a7, .ref a8, .ref a9, .ref a10, .int v_isSet, .ref a11, .ref a12, .ref a13, .int v_arePages, .ref a14, .ref a15, .int v_place, .ref a16, .int v_readMany])), (a1, .inl (cI, 189, .inl v_now))] → va_S A s.heap H locs → lv_has ls 5 [(0, .ref a0), (1, .int x1), (2, .int i2_3), (4, .int i4_5)] → W p l e ({ frames := 3, cells := 0, slots := 0, locals := 65 } : Room) s m args below meth c H locs 0 0 Q (F0 m 47 ls [.int w1_13, .int i3_4]) := by
            intro w1_13 hf H locs ls hP hD hS hl
            refine lv_iadd hx hb dX8_rank_47 ?_
            obtain ⟨x3_14, ex3_14, hf⟩ := nm_el hf
            refine lv_as (congrArg Value.int ex3_14) ?_
            refine lv_istore_n (lv' := [(3, .int x3_14), (0, .ref a0), (1, .int x1), (2, .int i2_3), (4, .int i4_5)]) hx hb dX8_rank_48 rfl hl (by decide) rfl (fun ls hl => ?_)
            refine lv_iload_n hx hb dX8_rank_49 rfl (lv_at hl 3 rfl) ?_
            refine lv_iconst (v := 1) hx hb dX8_rank_50 (by decide) ?_
            refine lv_aload_n hx hb dX8_rank_51 rfl (lv_at hl 1 rfl) ?_
            refine lv_iload hx hb dX8_rank_52 (lv_at hl 4 rfl) ?_
            refine lv_iconst (v := 0) hx hb dX8_rank_54 (by decide) ?_
            obtain ⟨r_15, hq16, hf⟩ := bd1_el hf
            refine mc_V (As := [.int i4_5, .int (0 : Int32)]) (rest := [.int (1 : Int32), .int i2_3]) (wr := []) (wn := [(a0, .inr (8, [.ref a1, .ref a2, .int v_acts, .ref a3, .ref a4, .int v_keptActs, .ref a5, .int v_typed, .ref a6, .ref a7, .ref a8, .ref a9, .ref a10, .int v_isSet, .ref a11, .ref a12, .ref a13, .int v_arePages, .ref a14, .ref a15, .int v_place, .ref a16, .int v_readMany])), (a1, .inl (cI, 189, .inl v_now))]) ⟨hx, hb, hml, hown, hT⟩ (c_X8_at l dC dI cI cJ cP cS a0 a1 a2 a3 a4 a5 a6 a7 a8 a9 a10 a11 a12 a13 a14 a15 a16 v_acts v_keptActs v_typed v_isSet v_arePages v_place v_readMany v_now i4_5 (0 : Int32) r_15 hq16) (cwV 2 hT (gdV q_ml_X8_67 q_im_X8_at q_se_X8_at q_in_X8 q_co_X8_at) rfl rfl rfl hd_X8_at ⟨Nat.le_of_ble_eq_true rfl, Nat.le_of_ble_eq_true rfl⟩) hK hF hP hD hS hA 0 rfl rfl rfl [0, 1] [] [0, 1] rfl (by decide) rfl (by decide) (by decide) rfl (by decide) rfl hl.1 rfl (Nat.le_of_ble_eq_true rfl) dX8_rank_55 ⟨Nat.zero_le _, Nat.zero_le _⟩ (fun H locs hP hD hS => ?_)
            refine W.eq (g2 := F0 m 58 ls [.int r_15, .int (1 : Int32), .int i2_3]) rfl ?_
            refine lv_ishl hx hb dX8_rank_58 ?_
            refine lv_ior hx hb dX8_rank_59 ?_
            obtain ⟨x2_17, ex2_17, hf⟩ := nm_el hf
            refine lv_as (congrArg Value.int ex2_17) ?_
            refine lv_istore_n (lv' := [(2, .int x2_17), (3, .int x3_14), (0, .ref a0), (1, .int x1), (4, .int i4_5)]) hx hb dX8_rank_60 rfl hl (by decide) rfl (fun ls hl => ?_)
            refine lv_iinc (v := (i4_5 + (1 : Int32))) (lv' := [(4, .int (i4_5 + (1 : Int32))), (2, .int x2_17), (3, .int x3_14), (0, .ref a0), (1, .int x1)]) hx hb dX8_rank_61 hl (k := 4) rfl rfl (by decide) rfl (fun ls hl => ?_)
            refine lv_goto (tgt := 11) hx hb dX8_rank_64 (by decide) ?_
            exact ih11 x2_17 x3_14 (i4_5 + (1 : Int32)) (hi _ (Option.some.inj hf).symm) H locs ls hP hD hS (lv_sub hl [3, 4, 1, 2, 0] rfl)
          refine lv_if_ne (tgt := 46) hx hb dX8_rank_39 (by decide) (fun c18 => ?_) (fun c18 => ?_)
          · replace hf := it_f c18 hf
            refine lv_iconst (v := 0) hx hb dX8_rank_46 (by decide) ?_
            exact hB47_13 (0 : Int32) hf H locs ls hP hD hS (lv_sub hl [0, 1, 2, 4] rfl)
          · replace hf := it_t c18 hf
            refine lv_iconst (v := 1) hx hb dX8_rank_42 (by decide) ?_
            refine lv_goto (tgt := 47) hx hb dX8_rank_43 (by decide) ?_
            exact hB47_13 (1 : Int32) hf H locs ls hP hD hS (lv_sub hl [0, 1, 2, 4] rfl)
    obtain ⟨f2_22, f3_23, f4_24, hq, hf⟩ := bd3_el hf
    refine hL11 (f2_22, f3_23, f4_24) (fun z_19 z_20 z_21 h9 H locs ls hP hD hS hl => ?_) fuel (0 : Int32) (0 : Int32) r_1 hq H locs ls hP hD hS (lv_sub hl [3, 4, 2, 1, 0] rfl)
    simp only [Prod.mk.injEq] at h9
    obtain ⟨h9_0, h9_1, h9_2⟩ := h9
    subst h9_0; subst h9_1; subst h9_2
    refine lv_iload_n hx hb dX8_rank_67 rfl (lv_at hl 0 rfl) ?_
    replace hf := Option.some.inj hf
    subst hf
    exact hret H locs ls _ dX8_rank_68 hP hD hS
  refine key _ ?_ _ _ _ hP hD hS hl
  intro H locs ls pc d hP hD hS
  exact W.iret (v := rv) hx hb hr (fun t ht hW => ⟨⟨rfl, by rw [ht]; exact hP, hD⟩, hS.F ht⟩) hS.2.2 d
def p_X8_indent (v_now : (Nat → Int32)) (x1 : Int32) : Option (Int32) :=
  (if (v_now 8) = (0 : Int32) then (some (0 : Int32)) else (if (v_now 8) = (1 : Int32) then (bd1 (p_X8_rank v_now x1) fun r_5 => (some ((v_now 3) * r_5))) else (bd1 (p_X8_startOf v_now x1) fun r_3 => (some ((v_now 3) * (irem (x1 - r_3) (2 : Int32)))))))
set_option maxHeartbeats 4000000 in
set_option maxRecDepth 100000 in
theorem c_X8_indent (l : Launch) (dC : Nat → ClassId) (dI : Nat → Nat → Nat) (cI cJ cP cS : ClassId) (a0 : Nat) (a1 : Nat) (a2 : Nat) (a3 : Nat) (a4 : Nat) (a5 : Nat) (a6 : Nat) (a7 : Nat) (a8 : Nat) (a9 : Nat) (a10 : Nat) (a11 : Nat) (a12 : Nat) (a13 : Nat) (a14 : Nat) (a15 : Nat) (a16 : Nat) (v_acts : Int32) (v_keptActs : Int32) (v_typed : Int32) (v_isSet : Int32) (v_arePages : Int32) (v_place : Int32) (v_readMany : Int32) (v_now : (Nat → Int32))  (x1 : Int32) (rv : Int32)  (hf : p_X8_indent v_now x1 = some rv) : MC l (dC, dI) (tyl cI cJ cP cS) yX8_indent (Cond.code yX8_indent cX8_indent 2 (some .int) :: TBG) ({ frames := 4, cells := 0, slots := 0, locals := 89 } : Room) [.ref a0, .int x1] [(a0, .inr (8, [.ref a1, .ref a2, .int v_acts, .ref a3, .ref a4, .int v_keptActs, .ref a5, .int v_typed, .ref a6, .ref a7, .ref a8, .ref a9, .ref a10, .int v_isSet, .ref a11, .ref a12, .ref a13, .int v_arePages, .ref a14, .ref a15, .int v_place, .ref a16, .int v_readMany])), (a1, .inl (cI, 189, .inl v_now))] [(a0, .inr (8, [.ref a1, .ref a2, .int v_acts, .ref a3, .ref a4, .int v_keptActs, .ref a5, .int v_typed, .ref a6, .ref a7, .ref a8, .ref a9, .ref a10, .int v_isSet, .ref a11, .ref a12, .ref a13, .int v_arePages, .ref a14, .ref a15, .int v_place, .ref a16, .int v_readMany])), (a1, .inl (cI, 189, .inl v_now))] (some (.int rv)) := by
  intro sz
  unfold MPost
  refine Met.ofW (cc := cX8_indent) (maxL := 2) (ret := (some .int)) (by decide) rfl ?_
  intro p e s m args below meth c s₁ B hml hv
  obtain ⟨rfl, hsz, hP, hK, hD0, hF⟩ := hv
  have hx := B.exec
  have hb := B.bytes
  have hr := B.returns
  have hT : ∀ w ∈ TBG, w.before _ s = true := fun w h => atoms_spec B.pre w (List.mem_cons_of_mem _ h)
  have hown : s.vm.findClass RX8 = some m.cls := findClass_of_methodNamed B.named
  have hlocks := B.notSynchronized
  subst hsz
  have hD := hD0.self (sz := s.heap.size)
  generalize hAe : va_A [(a0, .inr (8, [.ref a1, .ref a2, .int v_acts, .ref a3, .ref a4, .int v_keptActs, .ref a5, .int v_typed, .ref a6, .ref a7, .ref a8, .ref a9, .ref a10, .int v_isSet, .ref a11, .ref a12, .ref a13, .int v_arePages, .ref a14, .ref a15, .int v_place, .ref a16, .int v_readMany])), (a1, .inl (cI, 189, .inl v_now))] s.heap.size = A at hD hF ⊢
  have hA : ∀ q : Nat, s.heap.size ≤ q → A q := fun q h => by rw [← hAe]; exact Or.inr h
  have hS : va_S A s.heap s.heap [] := va_S.rf
  have hl := lv_entry ([.ref a0, .int x1]) (n := 2) (Nat.le_of_ble_eq_true rfl)
  rw [lg_entry_eq]
  generalize (lg_sl ([.ref a0, .int x1]) ++ List.replicate (2 - (lg_sl ([.ref a0, .int x1])).length) Slot.unset).toArray = ls at hl ⊢
  have hl : lv_has ls 2 [(0, .ref a0), (1, .int x1)] := hl
  generalize ([.ref a0, .int x1] : List Value).toArray = args at hT ⊢
  have key : ∀ (Q : State → Prop), (∀ (H : Heap) (locs : List Loc) (ls : Array Slot) (pc : Nat), decode cX8_indent pc = .ok (.ireturn, 1) → va_P (dC, dI) vwCl [(a0, .inr (8, [.ref a1, .ref a2, .int v_acts, .ref a3, .ref a4, .int v_keptActs, .ref a5, .int v_typed, .ref a6, .ref a7, .ref a8, .ref a9, .ref a10, .int v_isSet, .ref a11, .ref a12, .ref a13, .int v_arePages, .ref a14, .ref a15, .int v_place, .ref a16, .int v_readMany])), (a1, .inl (cI, 189, .inl v_now))] H → va_D A [(a0, .inr (8, [.ref a1, .ref a2, .int v_acts, .ref a3, .ref a4, .int v_keptActs, .ref a5, .int v_typed, .ref a6, .ref a7, .ref a8, .ref a9, .ref a10, .int v_isSet, .ref a11, .ref a12, .ref a13, .int v_arePages, .ref a14, .ref a15, .int v_place, .ref a16, .int v_readMany])), (a1, .inl (cI, 189, .inl v_now))] → va_S A s.heap H locs → W p l e ({ frames := 4, cells := 0, slots := 0, locals := 89 } : Room) s m args below meth c H locs 0 0 Q (F0 m pc ls [.int rv])) → ∀ (H : Heap) (locs : List Loc) (ls : Array Slot), va_P (dC, dI) vwCl [(a0, .inr (8, [.ref a1, .ref a2, .int v_acts, .ref a3, .ref a4, .int v_keptActs, .ref a5, .int v_typed, .ref a6, .ref a7, .ref a8, .ref a9, .ref a10, .int v_isSet, .ref a11, .ref a12, .ref a13, .int v_arePages, .ref a14, .ref a15, .int v_place, .ref a16, .int v_readMany])), (a1, .inl (cI, 189, .inl v_now))] H → va_D A [(a0, .inr (8, [.ref a1, .ref a2, .int v_acts, .ref a3, .ref a4, .int v_keptActs, .ref a5, .int v_typed, .ref a6, .ref a7, .ref a8, .ref a9, .ref a10, .int v_isSet, .ref a11, .ref a12, .ref a13, .int v_arePages, .ref a14, .ref a15, .int v_place, .ref a16, .int v_readMany])), (a1, .inl (cI, 189, .inl v_now))] → va_S A s.heap H locs → lv_has ls 2 [(0, .ref a0), (1, .int x1)] → W p l e ({ frames := 4, cells := 0, slots := 0, locals := 89 } : Room) s m args below meth c H locs 0 0 Q (F0 m 0 ls []) := by
    intro Q hret H locs ls hP hD hS hl
    refine lv_aload_n hx hb dX8_indent_0 rfl (lv_at hl 0 rfl) ?_
    refine va_get (D := (dC, dI)) (ci := 8) (v := .ref a1) (C := RX8) (T := TX8) (N := 23) hx hb hT in_X8 hown hK hP 0 rfl rfl 0 (by decide) (hT _ q_fl_X8_7) (fun _ h9 => h9) rfl dX8_indent_1 ?_
    refine lv_bipush (v := 8) hx hb dX8_indent_4 (by decide) ?_
    refine ia_ld hx hb hK hP 1 0 rfl rfl (ib_in (by decide)) (j := 8) (by decide) dX8_indent_6 ?_
    refine lv_if_ne (tgt := 12) hx hb dX8_indent_7 (by decide) (fun c1 => ?_) (fun c1 => ?_)
    · replace hf := it_f c1 hf
      refine lv_aload_n hx hb dX8_indent_12 rfl (lv_at hl 0 rfl) ?_
      refine va_get (D := (dC, dI)) (ci := 8) (v := .ref a1) (C := RX8) (T := TX8) (N := 23) hx hb hT in_X8 hown hK hP 0 rfl rfl 0 (by decide) (hT _ q_fl_X8_7) (fun _ h9 => h9) rfl dX8_indent_13 ?_
      refine lv_iconst (v := 3) hx hb dX8_indent_16 (by decide) ?_
      refine ia_ld hx hb hK hP 1 0 rfl rfl (ib_in (by decide)) (j := 3) (by decide) dX8_indent_17 ?_
      refine lv_aload_n hx hb dX8_indent_18 rfl (lv_at hl 0 rfl) ?_
      refine va_get (D := (dC, dI)) (ci := 8) (v := .ref a1) (C := RX8) (T := TX8) (N := 23) hx hb hT in_X8 hown hK hP 0 rfl rfl 0 (by decide) (hT _ q_fl_X8_7) (fun _ h9 => h9) rfl dX8_indent_19 ?_
      refine lv_bipush (v := 8) hx hb dX8_indent_22 (by decide) ?_
      refine ia_ld hx hb hK hP 1 0 rfl rfl (ib_in (by decide)) (j := 8) (by decide) dX8_indent_24 ?_
      refine lv_iconst (v := 1) hx hb dX8_indent_25 (by decide) ?_
      refine lv_icmp_ne (tgt := 37) hx hb dX8_indent_26 (by decide) (fun c2 => ?_) (fun c2 => ?_)
      · replace hf := it_f c2 hf
        refine lv_iload_n hx hb dX8_indent_37 rfl (lv_at hl 1 rfl) ?_
        refine lv_aload_n hx hb dX8_indent_38 rfl (lv_at hl 0 rfl) ?_
        refine lv_iload_n hx hb dX8_indent_39 rfl (lv_at hl 1 rfl) ?_
        obtain ⟨r_3, hq4, hf⟩ := bd1_el hf
        refine mc_V (As := [.int x1]) (rest := [.int x1, .int (v_now 3)]) (wr := []) (wn := [(a0, .inr (8, [.ref a1, .ref a2, .int v_acts, .ref a3, .ref a4, .int v_keptActs, .ref a5, .int v_typed, .ref a6, .ref a7, .ref a8, .ref a9, .ref a10, .int v_isSet, .ref a11, .ref a12, .ref a13, .int v_arePages, .ref a14, .ref a15, .int v_place, .ref a16, .int v_readMany])), (a1, .inl (cI, 189, .inl v_now))]) ⟨hx, hb, hml, hown, hT⟩ (c_X8_startOf l dC dI cI cJ cP cS a0 a1 a2 a3 a4 a5 a6 a7 a8 a9 a10 a11 a12 a13 a14 a15 a16 v_acts v_keptActs v_typed v_isSet v_arePages v_place v_readMany v_now x1 r_3 hq4) (cwV 1 hT (gdV q_ml_X8_79 q_im_X8_startOf q_se_X8_startOf q_in_X8 q_co_X8_startOf) rfl rfl rfl hd_X8_startOf ⟨Nat.le_of_ble_eq_true rfl, Nat.le_of_ble_eq_true rfl⟩) hK hF hP hD hS hA 0 rfl rfl rfl [0, 1] [] [0, 1] rfl (by decide) rfl (by decide) (by decide) rfl (by decide) rfl hl.1 rfl (Nat.le_of_ble_eq_true rfl) dX8_indent_40 ⟨Nat.zero_le _, Nat.zero_le _⟩ (fun H locs hP hD hS => ?_)
        refine W.eq (g2 := F0 m 43 ls [.int r_3, .int x1, .int (v_now 3)]) rfl ?_
        refine lv_isub hx hb dX8_indent_43 ?_
        refine lv_iconst (v := 2) hx hb dX8_indent_44 (by decide) ?_
        refine lv_irem hx hb dX8_indent_45 (by decide) ?_
        refine lv_imul hx hb dX8_indent_46 ?_
        replace hf := Option.some.inj hf
        subst hf
        exact hret H locs ls _ dX8_indent_47 hP hD hS
      · replace hf := it_t c2 hf
        refine lv_aload_n hx hb dX8_indent_29 rfl (lv_at hl 0 rfl) ?_
        refine lv_iload_n hx hb dX8_indent_30 rfl (lv_at hl 1 rfl) ?_
        obtain ⟨r_5, hq6, hf⟩ := bd1_el hf
        refine mc_V (As := [.int x1]) (rest := [.int (v_now 3)]) (wr := []) (wn := [(a0, .inr (8, [.ref a1, .ref a2, .int v_acts, .ref a3, .ref a4, .int v_keptActs, .ref a5, .int v_typed, .ref a6, .ref a7, .ref a8, .ref a9, .ref a10, .int v_isSet, .ref a11, .ref a12, .ref a13, .int v_arePages, .ref a14, .ref a15, .int v_place, .ref a16, .int v_readMany])), (a1, .inl (cI, 189, .inl v_now))]) ⟨hx, hb, hml, hown, hT⟩ (c_X8_rank l dC dI cI cJ cP cS a0 a1 a2 a3 a4 a5 a6 a7 a8 a9 a10 a11 a12 a13 a14 a15 a16 v_acts v_keptActs v_typed v_isSet v_arePages v_place v_readMany v_now x1 r_5 hq6) (cwV 1 hT (gdV q_ml_X8_82 q_im_X8_rank q_se_X8_rank q_in_X8 q_co_X8_rank) rfl rfl rfl hd_X8_rank ⟨Nat.le_of_ble_eq_true rfl, Nat.le_of_ble_eq_true rfl⟩) hK hF hP hD hS hA 0 rfl rfl rfl [0, 1] [] [0, 1] rfl (by decide) rfl (by decide) (by decide) rfl (by decide) rfl hl.1 rfl (Nat.le_of_ble_eq_true rfl) dX8_indent_31 ⟨Nat.zero_le _, Nat.zero_le _⟩ (fun H locs hP hD hS => ?_)
        refine W.eq (g2 := F0 m 34 ls [.int r_5, .int (v_now 3)]) rfl ?_
        refine lv_goto (tgt := 46) hx hb dX8_indent_34 (by decide) ?_
        refine lv_imul hx hb dX8_indent_46 ?_
        replace hf := Option.some.inj hf
        subst hf
        exact hret H locs ls _ dX8_indent_47 hP hD hS
    · replace hf := it_t c1 hf
      refine lv_iconst (v := 0) hx hb dX8_indent_10 (by decide) ?_
      replace hf := Option.some.inj hf
      subst hf
      exact hret H locs ls _ dX8_indent_11 hP hD hS
  refine key _ ?_ _ _ _ hP hD hS hl
  intro H locs ls pc d hP hD hS
  exact W.iret (v := rv) hx hb hr (fun t ht hW => ⟨⟨rfl, by rw [ht]; exact hP, hD⟩, hS.F ht⟩) hS.2.2 d
def p_X8_breaks (v_now : (Nat → Int32)) (x1 : Int32) (x2 : Int32) (x3 : Int32) : Option (Int32) :=
  (bd1 (p_X8_words v_now x1) fun r_1 => (if (r_1 - (1 : Int32)) ≤ x3 then (some (0 : Int32)) else (bd1 (p_X8_words v_now x1) fun r_4 => (if ((x2 >>> (((r_4 - (2 : Int32)) - x3) &&& 31)) &&& (1 : Int32)) = (1 : Int32) then (some (1 : Int32)) else (some (0 : Int32))))))
set_option maxHeartbeats 4000000 in
set_option maxRecDepth 100000 in
theorem c_X8_breaks (l : Launch) (dC : Nat → ClassId) (dI : Nat → Nat → Nat) (cI cJ cP cS : ClassId) (a0 : Nat) (a1 : Nat) (a2 : Nat) (a3 : Nat) (a4 : Nat) (a5 : Nat) (a6 : Nat) (a7 : Nat) (a8 : Nat) (a9 : Nat) (a10 : Nat) (a11 : Nat) (a12 : Nat) (a13 : Nat) (a14 : Nat) (a15 : Nat) (a16 : Nat) (v_acts : Int32) (v_keptActs : Int32) (v_typed : Int32) (v_isSet : Int32) (v_arePages : Int32) (v_place : Int32) (v_readMany : Int32) (v_now : (Nat → Int32))  (x1 : Int32) (x2 : Int32) (x3 : Int32) (rv : Int32)  (hf : p_X8_breaks v_now x1 x2 x3 = some rv) : MC l (dC, dI) (tyl cI cJ cP cS) yX8_breaks (Cond.code yX8_breaks cX8_breaks 4 (some .boolean) :: TBG) ({ frames := 2, cells := 0, slots := 0, locals := 43 } : Room) [.ref a0, .int x1, .int x2, .int x3] [(a0, .inr (8, [.ref a1, .ref a2, .int v_acts, .ref a3, .ref a4, .int v_keptActs, .ref a5, .int v_typed, .ref a6, .ref a7, .ref a8, .ref a9, .ref a10, .int v_isSet, .ref a11, .ref a12, .ref a13, .int v_arePages, .ref a14, .ref a15, .int v_place, .ref a16, .int v_readMany])), (a1, .inl (cI, 189, .inl v_now))] [(a0, .inr (8, [.ref a1, .ref a2, .int v_acts, .ref a3, .ref a4, .int v_keptActs, .ref a5, .int v_typed, .ref a6, .ref a7, .ref a8, .ref a9, .ref a10, .int v_isSet, .ref a11, .ref a12, .ref a13, .int v_arePages, .ref a14, .ref a15, .int v_place, .ref a16, .int v_readMany])), (a1, .inl (cI, 189, .inl v_now))] (some (.int rv)) := by
  intro sz
  unfold MPost
  refine Met.ofW (cc := cX8_breaks) (maxL := 4) (ret := (some .boolean)) (by decide) rfl ?_
  intro p e s m args below meth c s₁ B hml hv
  obtain ⟨rfl, hsz, hP, hK, hD0, hF⟩ := hv
  have hx := B.exec
  have hb := B.bytes
  have hr := B.returns
  have hT : ∀ w ∈ TBG, w.before _ s = true := fun w h => atoms_spec B.pre w (List.mem_cons_of_mem _ h)
  have hown : s.vm.findClass RX8 = some m.cls := findClass_of_methodNamed B.named
  have hlocks := B.notSynchronized
  subst hsz
  have hD := hD0.self (sz := s.heap.size)
  generalize hAe : va_A [(a0, .inr (8, [.ref a1, .ref a2, .int v_acts, .ref a3, .ref a4, .int v_keptActs, .ref a5, .int v_typed, .ref a6, .ref a7, .ref a8, .ref a9, .ref a10, .int v_isSet, .ref a11, .ref a12, .ref a13, .int v_arePages, .ref a14, .ref a15, .int v_place, .ref a16, .int v_readMany])), (a1, .inl (cI, 189, .inl v_now))] s.heap.size = A at hD hF ⊢
  have hA : ∀ q : Nat, s.heap.size ≤ q → A q := fun q h => by rw [← hAe]; exact Or.inr h
  have hS : va_S A s.heap s.heap [] := va_S.rf
  have hl := lv_entry ([.ref a0, .int x1, .int x2, .int x3]) (n := 4) (Nat.le_of_ble_eq_true rfl)
  rw [lg_entry_eq]
  generalize (lg_sl ([.ref a0, .int x1, .int x2, .int x3]) ++ List.replicate (4 - (lg_sl ([.ref a0, .int x1, .int x2, .int x3])).length) Slot.unset).toArray = ls at hl ⊢
  have hl : lv_has ls 4 [(0, .ref a0), (1, .int x1), (2, .int x2), (3, .int x3)] := hl
  generalize ([.ref a0, .int x1, .int x2, .int x3] : List Value).toArray = args at hT ⊢
  have key : ∀ (Q : State → Prop), (∀ (H : Heap) (locs : List Loc) (ls : Array Slot) (pc : Nat), decode cX8_breaks pc = .ok (.ireturn, 1) → narrow .boolean (.int rv) = .int rv → va_P (dC, dI) vwCl [(a0, .inr (8, [.ref a1, .ref a2, .int v_acts, .ref a3, .ref a4, .int v_keptActs, .ref a5, .int v_typed, .ref a6, .ref a7, .ref a8, .ref a9, .ref a10, .int v_isSet, .ref a11, .ref a12, .ref a13, .int v_arePages, .ref a14, .ref a15, .int v_place, .ref a16, .int v_readMany])), (a1, .inl (cI, 189, .inl v_now))] H → va_D A [(a0, .inr (8, [.ref a1, .ref a2, .int v_acts, .ref a3, .ref a4, .int v_keptActs, .ref a5, .int v_typed, .ref a6, .ref a7, .ref a8, .ref a9, .ref a10, .int v_isSet, .ref a11, .ref a12, .ref a13, .int v_arePages, .ref a14, .ref a15, .int v_place, .ref a16, .int v_readMany])), (a1, .inl (cI, 189, .inl v_now))] → va_S A s.heap H locs → W p l e ({ frames := 2, cells := 0, slots := 0, locals := 43 } : Room) s m args below meth c H locs 0 0 Q (F0 m pc ls [.int rv])) → ∀ (H : Heap) (locs : List Loc) (ls : Array Slot), va_P (dC, dI) vwCl [(a0, .inr (8, [.ref a1, .ref a2, .int v_acts, .ref a3, .ref a4, .int v_keptActs, .ref a5, .int v_typed, .ref a6, .ref a7, .ref a8, .ref a9, .ref a10, .int v_isSet, .ref a11, .ref a12, .ref a13, .int v_arePages, .ref a14, .ref a15, .int v_place, .ref a16, .int v_readMany])), (a1, .inl (cI, 189, .inl v_now))] H → va_D A [(a0, .inr (8, [.ref a1, .ref a2, .int v_acts, .ref a3, .ref a4, .int v_keptActs, .ref a5, .int v_typed, .ref a6, .ref a7, .ref a8, .ref a9, .ref a10, .int v_isSet, .ref a11, .ref a12, .ref a13, .int v_arePages, .ref a14, .ref a15, .int v_place, .ref a16, .int v_readMany])), (a1, .inl (cI, 189, .inl v_now))] → va_S A s.heap H locs → lv_has ls 4 [(0, .ref a0), (1, .int x1), (2, .int x2), (3, .int x3)] → W p l e ({ frames := 2, cells := 0, slots := 0, locals := 43 } : Room) s m args below meth c H locs 0 0 Q (F0 m 0 ls []) := by
    intro Q hret H locs ls hP hD hS hl
    refine lv_iload_n hx hb dX8_breaks_0 rfl (lv_at hl 3 rfl) ?_
    refine lv_aload_n hx hb dX8_breaks_1 rfl (lv_at hl 0 rfl) ?_
    refine lv_iload_n hx hb dX8_breaks_2 rfl (lv_at hl 1 rfl) ?_
    obtain ⟨r_1, hq2, hf⟩ := bd1_el hf
    refine mc_V (As := [.int x1]) (rest := [.int x3]) (wr := []) (wn := [(a0, .inr (8, [.ref a1, .ref a2, .int v_acts, .ref a3, .ref a4, .int v_keptActs, .ref a5, .int v_typed, .ref a6, .ref a7, .ref a8, .ref a9, .ref a10, .int v_isSet, .ref a11, .ref a12, .ref a13, .int v_arePages, .ref a14, .ref a15, .int v_place, .ref a16, .int v_readMany])), (a1, .inl (cI, 189, .inl v_now))]) ⟨hx, hb, hml, hown, hT⟩ (c_X8_words l dC dI cI cJ cP cS a0 a1 a2 a3 a4 a5 a6 a7 a8 a9 a10 a11 a12 a13 a14 a15 a16 v_acts v_keptActs v_typed v_isSet v_arePages v_place v_readMany v_now x1 r_1 hq2) (cwV 1 hT (gdV q_ml_X8_85 q_im_X8_words q_se_X8_words q_in_X8 q_co_X8_words) rfl rfl rfl hd_X8_words ⟨Nat.le_of_ble_eq_true rfl, Nat.le_of_ble_eq_true rfl⟩) hK hF hP hD hS hA 0 rfl rfl rfl [0, 1] [] [0, 1] rfl (by decide) rfl (by decide) (by decide) rfl (by decide) rfl hl.1 rfl (Nat.le_of_ble_eq_true rfl) dX8_breaks_3 ⟨Nat.zero_le _, Nat.zero_le _⟩ (fun H locs hP hD hS => ?_)
    refine W.eq (g2 := F0 m 6 ls [.int r_1, .int x3]) rfl ?_
    refine lv_iconst (v := 1) hx hb dX8_breaks_6 (by decide) ?_
    refine lv_isub hx hb dX8_breaks_7 ?_
    refine lv_icmp_ge (tgt := 32) hx hb dX8_breaks_8 (by decide) (fun c3 => ?_) (fun c3 => ?_)
    · replace hf := it_t c3 hf
      refine lv_iconst (v := 0) hx hb dX8_breaks_32 (by decide) ?_
      replace hf := Option.some.inj hf
      subst hf
      exact hret H locs ls _ dX8_breaks_33 rfl hP hD hS
    · replace hf := it_f c3 hf
      refine lv_iload_n hx hb dX8_breaks_11 rfl (lv_at hl 2 rfl) ?_
      refine lv_aload_n hx hb dX8_breaks_12 rfl (lv_at hl 0 rfl) ?_
      refine lv_iload_n hx hb dX8_breaks_13 rfl (lv_at hl 1 rfl) ?_
      obtain ⟨r_4, hq5, hf⟩ := bd1_el hf
      refine mc_V (As := [.int x1]) (rest := [.int x2]) (wr := []) (wn := [(a0, .inr (8, [.ref a1, .ref a2, .int v_acts, .ref a3, .ref a4, .int v_keptActs, .ref a5, .int v_typed, .ref a6, .ref a7, .ref a8, .ref a9, .ref a10, .int v_isSet, .ref a11, .ref a12, .ref a13, .int v_arePages, .ref a14, .ref a15, .int v_place, .ref a16, .int v_readMany])), (a1, .inl (cI, 189, .inl v_now))]) ⟨hx, hb, hml, hown, hT⟩ (c_X8_words l dC dI cI cJ cP cS a0 a1 a2 a3 a4 a5 a6 a7 a8 a9 a10 a11 a12 a13 a14 a15 a16 v_acts v_keptActs v_typed v_isSet v_arePages v_place v_readMany v_now x1 r_4 hq5) (cwV 1 hT (gdV q_ml_X8_85 q_im_X8_words q_se_X8_words q_in_X8 q_co_X8_words) rfl rfl rfl hd_X8_words ⟨Nat.le_of_ble_eq_true rfl, Nat.le_of_ble_eq_true rfl⟩) hK hF hP hD hS hA 0 rfl rfl rfl [0, 1] [] [0, 1] rfl (by decide) rfl (by decide) (by decide) rfl (by decide) rfl hl.1 rfl (Nat.le_of_ble_eq_true rfl) dX8_breaks_14 ⟨Nat.zero_le _, Nat.zero_le _⟩ (fun H locs hP hD hS => ?_)
      refine W.eq (g2 := F0 m 17 ls [.int r_4, .int x2]) rfl ?_
      refine lv_iconst (v := 2) hx hb dX8_breaks_17 (by decide) ?_
      refine lv_isub hx hb dX8_breaks_18 ?_
      refine lv_iload_n hx hb dX8_breaks_19 rfl (lv_at hl 3 rfl) ?_
      refine lv_isub hx hb dX8_breaks_20 ?_
      refine lv_ishr hx hb dX8_breaks_21 ?_
      refine lv_iconst (v := 1) hx hb dX8_breaks_22 (by decide) ?_
      refine lv_iand hx hb dX8_breaks_23 ?_
      refine lv_iconst (v := 1) hx hb dX8_breaks_24 (by decide) ?_
      refine lv_icmp_ne (tgt := 32) hx hb dX8_breaks_25 (by decide) (fun c6 => ?_) (fun c6 => ?_)
      · replace hf := it_f c6 hf
        refine lv_iconst (v := 0) hx hb dX8_breaks_32 (by decide) ?_
        replace hf := Option.some.inj hf
        subst hf
        exact hret H locs ls _ dX8_breaks_33 rfl hP hD hS
      · replace hf := it_t c6 hf
        refine lv_iconst (v := 1) hx hb dX8_breaks_28 (by decide) ?_
        refine lv_goto (tgt := 33) hx hb dX8_breaks_29 (by decide) ?_
        replace hf := Option.some.inj hf
        subst hf
        exact hret H locs ls _ dX8_breaks_33 rfl hP hD hS
  refine key _ ?_ _ _ _ hP hD hS hl
  intro H locs ls pc d hz hP hD hS
  exact W.zret (v := rv) hx hb hr hz (fun t ht hW => ⟨⟨rfl, by rw [ht]; exact hP, hD⟩, hS.F ht⟩) hS.2.2 d
def p_X8_costOfRow (v_now : (Nat → Int32)) (x1 : Int32) (x2 : Int32) : Option (Int32) :=
  (nm ((10 : Int32) + (((3 : Int32) - x2) * ((3 : Int32) - x2))) fun x3_1 => (if (v_now 7) = (0 : Int32) then (some (1 : Int32)) else (if (v_now 7) = (1 : Int32) then (some x3_1) else (some (x1 * x1)))))
set_option maxHeartbeats 4000000 in
set_option maxRecDepth 100000 in
theorem c_X8_costOfRow (l : Launch) (dC : Nat → ClassId) (dI : Nat → Nat → Nat) (cI cJ cP cS : ClassId) (a0 : Nat) (a1 : Nat) (a2 : Nat) (a3 : Nat) (a4 : Nat) (a5 : Nat) (a6 : Nat) (a7 : Nat) (a8 : Nat) (a9 : Nat) (a10 : Nat) (a11 : Nat) (a12 : Nat) (a13 : Nat) (a14 : Nat) (a15 : Nat) (a16 : Nat) (v_acts : Int32) (v_keptActs : Int32) (v_typed : Int32) (v_isSet : Int32) (v_arePages : Int32) (v_place : Int32) (v_readMany : Int32) (v_now : (Nat → Int32))  (x1 : Int32) (x2 : Int32) (rv : Int32)  (hf : p_X8_costOfRow v_now x1 x2 = some rv) : MC l (dC, dI) (tyl cI cJ cP cS) yX8_costOfRow (Cond.code yX8_costOfRow cX8_costOfRow 4 (some .int) :: TBG) ({ frames := 0, cells := 0, slots := 0, locals := 0 } : Room) [.ref a0, .int x1, .int x2] [(a0, .inr (8, [.ref a1, .ref a2, .int v_acts, .ref a3, .ref a4, .int v_keptActs, .ref a5, .int v_typed, .ref a6, .ref a7, .ref a8, .ref a9, .ref a10, .int v_isSet, .ref a11, .ref a12, .ref a13, .int v_arePages, .ref a14, .ref a15, .int v_place, .ref a16, .int v_readMany])), (a1, .inl (cI, 189, .inl v_now))] [(a0, .inr (8, [.ref a1, .ref a2, .int v_acts, .ref a3, .ref a4, .int v_keptActs, .ref a5, .int v_typed, .ref a6, .ref a7, .ref a8, .ref a9, .ref a10, .int v_isSet, .ref a11, .ref a12, .ref a13, .int v_arePages, .ref a14, .ref a15, .int v_place, .ref a16, .int v_readMany])), (a1, .inl (cI, 189, .inl v_now))] (some (.int rv)) := by
  intro sz
  unfold MPost
  refine Met.ofW (cc := cX8_costOfRow) (maxL := 4) (ret := (some .int)) (by decide) rfl ?_
  intro p e s m args below meth c s₁ B hml hv
  obtain ⟨rfl, hsz, hP, hK, hD0, hF⟩ := hv
  have hx := B.exec
  have hb := B.bytes
  have hr := B.returns
  have hT : ∀ w ∈ TBG, w.before _ s = true := fun w h => atoms_spec B.pre w (List.mem_cons_of_mem _ h)
  have hown : s.vm.findClass RX8 = some m.cls := findClass_of_methodNamed B.named
  have hlocks := B.notSynchronized
  subst hsz
  have hD := hD0.self (sz := s.heap.size)
  generalize hAe : va_A [(a0, .inr (8, [.ref a1, .ref a2, .int v_acts, .ref a3, .ref a4, .int v_keptActs, .ref a5, .int v_typed, .ref a6, .ref a7, .ref a8, .ref a9, .ref a10, .int v_isSet, .ref a11, .ref a12, .ref a13, .int v_arePages, .ref a14, .ref a15, .int v_place, .ref a16, .int v_readMany])), (a1, .inl (cI, 189, .inl v_now))] s.heap.size = A at hD hF ⊢
  have hA : ∀ q : Nat, s.heap.size ≤ q → A q := fun q h => by rw [← hAe]; exact Or.inr h
  have hS : va_S A s.heap s.heap [] := va_S.rf
  have hl := lv_entry ([.ref a0, .int x1, .int x2]) (n := 4) (Nat.le_of_ble_eq_true rfl)
  rw [lg_entry_eq]
  generalize (lg_sl ([.ref a0, .int x1, .int x2]) ++ List.replicate (4 - (lg_sl ([.ref a0, .int x1, .int x2])).length) Slot.unset).toArray = ls at hl ⊢
  have hl : lv_has ls 4 [(0, .ref a0), (1, .int x1), (2, .int x2)] := hl
  generalize ([.ref a0, .int x1, .int x2] : List Value).toArray = args at hT ⊢
  have key : ∀ (Q : State → Prop), (∀ (H : Heap) (locs : List Loc) (ls : Array Slot) (pc : Nat), decode cX8_costOfRow pc = .ok (.ireturn, 1) → va_P (dC, dI) vwCl [(a0, .inr (8, [.ref a1, .ref a2, .int v_acts, .ref a3, .ref a4, .int v_keptActs, .ref a5, .int v_typed, .ref a6, .ref a7, .ref a8, .ref a9, .ref a10, .int v_isSet, .ref a11, .ref a12, .ref a13, .int v_arePages, .ref a14, .ref a15, .int v_place, .ref a16, .int v_readMany])), (a1, .inl (cI, 189, .inl v_now))] H → va_D A [(a0, .inr (8, [.ref a1, .ref a2, .int v_acts, .ref a3, .ref a4, .int v_keptActs, .ref a5, .int v_typed, .ref a6, .ref a7, .ref a8, .ref a9, .ref a10, .int v_isSet, .ref a11, .ref a12, .ref a13, .int v_arePages, .ref a14, .ref a15, .int v_place, .ref a16, .int v_readMany])), (a1, .inl (cI, 189, .inl v_now))] → va_S A s.heap H locs → W p l e ({ frames := 0, cells := 0, slots := 0, locals := 0 } : Room) s m args below meth c H locs 0 0 Q (F0 m pc ls [.int rv])) → ∀ (H : Heap) (locs : List Loc) (ls : Array Slot), va_P (dC, dI) vwCl [(a0, .inr (8, [.ref a1, .ref a2, .int v_acts, .ref a3, .ref a4, .int v_keptActs, .ref a5, .int v_typed, .ref a6, .ref a7, .ref a8, .ref a9, .ref a10, .int v_isSet, .ref a11, .ref a12, .ref a13, .int v_arePages, .ref a14, .ref a15, .int v_place, .ref a16, .int v_readMany])), (a1, .inl (cI, 189, .inl v_now))] H → va_D A [(a0, .inr (8, [.ref a1, .ref a2, .int v_acts, .ref a3, .ref a4, .int v_keptActs, .ref a5, .int v_typed, .ref a6, .ref a7, .ref a8, .ref a9, .ref a10, .int v_isSet, .ref a11, .ref a12, .ref a13, .int v_arePages, .ref a14, .ref a15, .int v_place, .ref a16, .int v_readMany])), (a1, .inl (cI, 189, .inl v_now))] → va_S A s.heap H locs → lv_has ls 4 [(0, .ref a0), (1, .int x1), (2, .int x2)] → W p l e ({ frames := 0, cells := 0, slots := 0, locals := 0 } : Room) s m args below meth c H locs 0 0 Q (F0 m 0 ls []) := by
    intro Q hret H locs ls hP hD hS hl
    refine lv_bipush (v := 10) hx hb dX8_costOfRow_0 (by decide) ?_
    refine lv_iconst (v := 3) hx hb dX8_costOfRow_2 (by decide) ?_
    refine lv_iload_n hx hb dX8_costOfRow_3 rfl (lv_at hl 2 rfl) ?_
    refine lv_isub hx hb dX8_costOfRow_4 ?_
    refine lv_iconst (v := 3) hx hb dX8_costOfRow_5 (by decide) ?_
    refine lv_iload_n hx hb dX8_costOfRow_6 rfl (lv_at hl 2 rfl) ?_
    refine lv_isub hx hb dX8_costOfRow_7 ?_
    refine lv_imul hx hb dX8_costOfRow_8 ?_
    refine lv_iadd hx hb dX8_costOfRow_9 ?_
    obtain ⟨x3_1, ex3_1, hf⟩ := nm_el hf
    refine lv_as (congrArg Value.int ex3_1) ?_
    refine lv_istore_n (lv' := [(3, .int x3_1), (0, .ref a0), (1, .int x1), (2, .int x2)]) hx hb dX8_costOfRow_10 rfl hl (by decide) rfl (fun ls hl => ?_)
    refine lv_aload_n hx hb dX8_costOfRow_11 rfl (lv_at hl 1 rfl) ?_
    refine va_get (D := (dC, dI)) (ci := 8) (v := .ref a1) (C := RX8) (T := TX8) (N := 23) hx hb hT in_X8 hown hK hP 0 rfl rfl 0 (by decide) (hT _ q_fl_X8_7) (fun _ h9 => h9) rfl dX8_costOfRow_12 ?_
    refine lv_bipush (v := 7) hx hb dX8_costOfRow_15 (by decide) ?_
    refine ia_ld hx hb hK hP 1 0 rfl rfl (ib_in (by decide)) (j := 7) (by decide) dX8_costOfRow_17 ?_
    refine lv_if_ne (tgt := 25) hx hb dX8_costOfRow_18 (by decide) (fun c2 => ?_) (fun c2 => ?_)
    · replace hf := it_f c2 hf
      refine lv_aload_n hx hb dX8_costOfRow_25 rfl (lv_at hl 1 rfl) ?_
      refine va_get (D := (dC, dI)) (ci := 8) (v := .ref a1) (C := RX8) (T := TX8) (N := 23) hx hb hT in_X8 hown hK hP 0 rfl rfl 0 (by decide) (hT _ q_fl_X8_7) (fun _ h9 => h9) rfl dX8_costOfRow_26 ?_
      refine lv_bipush (v := 7) hx hb dX8_costOfRow_29 (by decide) ?_
      refine ia_ld hx hb hK hP 1 0 rfl rfl (ib_in (by decide)) (j := 7) (by decide) dX8_costOfRow_31 ?_
      refine lv_iconst (v := 1) hx hb dX8_costOfRow_32 (by decide) ?_
      refine lv_icmp_ne (tgt := 40) hx hb dX8_costOfRow_33 (by decide) (fun c3 => ?_) (fun c3 => ?_)
      · replace hf := it_f c3 hf
        refine lv_iload_n hx hb dX8_costOfRow_40 rfl (lv_at hl 2 rfl) ?_
        refine lv_iload_n hx hb dX8_costOfRow_41 rfl (lv_at hl 2 rfl) ?_
        refine lv_imul hx hb dX8_costOfRow_42 ?_
        replace hf := Option.some.inj hf
        subst hf
        exact hret H locs ls _ dX8_costOfRow_43 hP hD hS
      · replace hf := it_t c3 hf
        refine lv_iload_n hx hb dX8_costOfRow_36 rfl (lv_at hl 0 rfl) ?_
        refine lv_goto (tgt := 43) hx hb dX8_costOfRow_37 (by decide) ?_
        replace hf := Option.some.inj hf
        subst hf
        exact hret H locs ls _ dX8_costOfRow_43 hP hD hS
    · replace hf := it_t c2 hf
      refine lv_iconst (v := 1) hx hb dX8_costOfRow_21 (by decide) ?_
      refine lv_goto (tgt := 43) hx hb dX8_costOfRow_22 (by decide) ?_
      replace hf := Option.some.inj hf
      subst hf
      exact hret H locs ls _ dX8_costOfRow_43 hP hD hS
  refine key _ ?_ _ _ _ hP hD hS hl
  intro H locs ls pc d hP hD hS
  exact W.iret (v := rv) hx hb hr (fun t ht hW => ⟨⟨rfl, by rw [ht]; exact hP, hD⟩, hS.F ht⟩) hS.2.2 d
def p_X8_costBy_B46_12 (v_now : (Nat → Int32)) (x1 : Int32) (x2 : Int32) (i3_3 : Int32) (i4_4 : Int32) (i5_5 : Int32) (i6_6 : Int32) (r_10 : Int32) (w2_12 : Int32) : Option ((Int32 × Int32 × Int32 × Int32) ⊕ ((Int32 × Int32 × Int32 × Int32) ⊕ (Int32))) :=
  (nm (i4_4 + (r_10 + w2_12)) fun x4_13 => (nm (((v_now 2) - i3_3) - x4_13) fun x7_14 => (if (0 : Int32) ≤ x7_14 then (bd1 (p_X8_breaks v_now x1 x2 i6_6) fun r_16 => (if r_16 = (0 : Int32) then (some (.inl (i3_3, x4_13, i5_5, (i6_6 + (1 : Int32))))) else (bd1 (p_X8_at v_now x1 ((9 : Int32) + i6_6)) fun r_19 => (bd1 (p_X8_costOfRow v_now x7_14 r_19) fun r_21 => (nm (i5_5 + r_21) fun x5_23 => (bd1 (p_X8_indent v_now x1) fun r_24 => (nm (r_24 + (v_now 4)) fun x3_26 => (some (.inl (x3_26, (0 : Int32), x5_23, (i6_6 + (1 : Int32)))))))))))) else (some (.inr (.inr (-4 : Int32)))))))
def p_X8_costBy_L15 (v_now : (Nat → Int32)) (x1 : Int32) (x2 : Int32) (s : Int32 × Int32 × Int32 × Int32) : Option ((Int32 × Int32 × Int32 × Int32) ⊕ ((Int32 × Int32 × Int32 × Int32) ⊕ (Int32))) := match s with
  | (i3_3, i4_4, i5_5, i6_6) => (bd1 (p_X8_words v_now x1) fun r_7 => (if r_7 ≤ i6_6 then (some (.inr (.inl (i3_3, i4_4, i5_5, i6_6)))) else (bd1 (p_X8_at v_now x1 ((3 : Int32) + i6_6)) fun r_10 => (if i4_4 ≤ (0 : Int32) then (p_X8_costBy_B46_12 v_now x1 x2 i3_3 i4_4 i5_5 i6_6 r_10 (0 : Int32)) else (p_X8_costBy_B46_12 v_now x1 x2 i3_3 i4_4 i5_5 i6_6 r_10 (1 : Int32))))))
def p_X8_costBy (v_now : (Nat → Int32)) (x1 : Int32) (x2 : Int32) : Option (Int32) :=
  (bd1 (p_X8_indent v_now x1) fun r_1 => (bdS (loopN (p_X8_costBy_L15 v_now x1 x2) fuel (r_1, (0 : Int32), (0 : Int32), (0 : Int32))) (fun q => bd4 (some q) fun f3_33 f4_34 f5_35 f6_36 => (some f5_35)) (fun q => some q)))
set_option maxHeartbeats 4000000 in
set_option maxRecDepth 100000 in
theorem c_X8_costBy (l : Launch) (dC : Nat → ClassId) (dI : Nat → Nat → Nat) (cI cJ cP cS : ClassId) (a0 : Nat) (a1 : Nat) (a2 : Nat) (a3 : Nat) (a4 : Nat) (a5 : Nat) (a6 : Nat) (a7 : Nat) (a8 : Nat) (a9 : Nat) (a10 : Nat) (a11 : Nat) (a12 : Nat) (a13 : Nat) (a14 : Nat) (a15 : Nat) (a16 : Nat) (v_acts : Int32) (v_keptActs : Int32) (v_typed : Int32) (v_isSet : Int32) (v_arePages : Int32) (v_place : Int32) (v_readMany : Int32) (v_now : (Nat → Int32))  (x1 : Int32) (x2 : Int32) (rv : Int32)  (hf : p_X8_costBy v_now x1 x2 = some rv) : MC l (dC, dI) (tyl cI cJ cP cS) yX8_costBy (Cond.code yX8_costBy cX8_costBy 8 (some .int) :: TBG) ({ frames := 5, cells := 0, slots := 0, locals := 110 } : Room) [.ref a0, .int x1, .int x2] [(a0, .inr (8, [.ref a1, .ref a2, .int v_acts, .ref a3, .ref a4, .int v_keptActs, .ref a5, .int v_typed, .ref a6, .ref a7, .ref a8, .ref a9, .ref a10, .int v_isSet, .ref a11, .ref a12, .ref a13, .int v_arePages, .ref a14, .ref a15, .int v_place, .ref a16, .int v_readMany])), (a1, .inl (cI, 189, .inl v_now))] [(a0, .inr (8, [.ref a1, .ref a2, .int v_acts, .ref a3, .ref a4, .int v_keptActs, .ref a5, .int v_typed, .ref a6, .ref a7, .ref a8, .ref a9, .ref a10, .int v_isSet, .ref a11, .ref a12, .ref a13, .int v_arePages, .ref a14, .ref a15, .int v_place, .ref a16, .int v_readMany])), (a1, .inl (cI, 189, .inl v_now))] (some (.int rv)) := by
  intro sz
  unfold MPost
  refine Met.ofW (cc := cX8_costBy) (maxL := 8) (ret := (some .int)) (by decide) rfl ?_
  intro p e s m args below meth c s₁ B hml hv
  obtain ⟨rfl, hsz, hP, hK, hD0, hF⟩ := hv
  have hx := B.exec
  have hb := B.bytes
  have hr := B.returns
  have hT : ∀ w ∈ TBG, w.before _ s = true := fun w h => atoms_spec B.pre w (List.mem_cons_of_mem _ h)
  have hown : s.vm.findClass RX8 = some m.cls := findClass_of_methodNamed B.named
  have hlocks := B.notSynchronized
  subst hsz
  have hD := hD0.self (sz := s.heap.size)
  generalize hAe : va_A [(a0, .inr (8, [.ref a1, .ref a2, .int v_acts, .ref a3, .ref a4, .int v_keptActs, .ref a5, .int v_typed, .ref a6, .ref a7, .ref a8, .ref a9, .ref a10, .int v_isSet, .ref a11, .ref a12, .ref a13, .int v_arePages, .ref a14, .ref a15, .int v_place, .ref a16, .int v_readMany])), (a1, .inl (cI, 189, .inl v_now))] s.heap.size = A at hD hF ⊢
  have hA : ∀ q : Nat, s.heap.size ≤ q → A q := fun q h => by rw [← hAe]; exact Or.inr h
  have hS : va_S A s.heap s.heap [] := va_S.rf
  have hl := lv_entry ([.ref a0, .int x1, .int x2]) (n := 8) (Nat.le_of_ble_eq_true rfl)
  rw [lg_entry_eq]
  generalize (lg_sl ([.ref a0, .int x1, .int x2]) ++ List.replicate (8 - (lg_sl ([.ref a0, .int x1, .int x2])).length) Slot.unset).toArray = ls at hl ⊢
  have hl : lv_has ls 8 [(0, .ref a0), (1, .int x1), (2, .int x2)] := hl
  generalize ([.ref a0, .int x1, .int x2] : List Value).toArray = args at hT ⊢
  have key : ∀ (Q : State → Prop), (∀ (H : Heap) (locs : List Loc) (ls : Array Slot) (pc : Nat), decode cX8_costBy pc = .ok (.ireturn, 1) → va_P (dC, dI) vwCl [(a0, .inr (8, [.ref a1, .ref a2, .int v_acts, .ref a3, .ref a4, .int v_keptActs, .ref a5, .int v_typed, .ref a6, .ref a7, .ref a8, .ref a9, .ref a10, .int v_isSet, .ref a11, .ref a12, .ref a13, .int v_arePages, .ref a14, .ref a15, .int v_place, .ref a16, .int v_readMany])), (a1, .inl (cI, 189, .inl v_now))] H → va_D A [(a0, .inr (8, [.ref a1, .ref a2, .int v_acts, .ref a3, .ref a4, .int v_keptActs, .ref a5, .int v_typed, .ref a6, .ref a7, .ref a8, .ref a9, .ref a10, .int v_isSet, .ref a11, .ref a12, .ref a13, .int v_arePages, .ref a14, .ref a15, .int v_place, .ref a16, .int v_readMany])), (a1, .inl (cI, 189, .inl v_now))] → va_S A s.heap H locs → W p l e ({ frames := 5, cells := 0, slots := 0, locals := 110 } : Room) s m args below meth c H locs 0 0 Q (F0 m pc ls [.int rv])) → ∀ (H : Heap) (locs : List Loc) (ls : Array Slot), va_P (dC, dI) vwCl [(a0, .inr (8, [.ref a1, .ref a2, .int v_acts, .ref a3, .ref a4, .int v_keptActs, .ref a5, .int v_typed, .ref a6, .ref a7, .ref a8, .ref a9, .ref a10, .int v_isSet, .ref a11, .ref a12, .ref a13, .int v_arePages, .ref a14, .ref a15, .int v_place, .ref a16, .int v_readMany])), (a1, .inl (cI, 189, .inl v_now))] H → va_D A [(a0, .inr (8, [.ref a1, .ref a2, .int v_acts, .ref a3, .ref a4, .int v_keptActs, .ref a5, .int v_typed, .ref a6, .ref a7, .ref a8, .ref a9, .ref a10, .int v_isSet, .ref a11, .ref a12, .ref a13, .int v_arePages, .ref a14, .ref a15, .int v_place, .ref a16, .int v_readMany])), (a1, .inl (cI, 189, .inl v_now))] → va_S A s.heap H locs → lv_has ls 8 [(0, .ref a0), (1, .int x1), (2, .int x2)] → W p l e ({ frames := 5, cells := 0, slots := 0, locals := 110 } : Room) s m args below meth c H locs 0 0 Q (F0 m 0 ls []) := by
    intro Q hret H locs ls hP hD hS hl
    refine lv_aload_n hx hb dX8_costBy_0 rfl (lv_at hl 0 rfl) ?_
    refine lv_iload_n hx hb dX8_costBy_1 rfl (lv_at hl 1 rfl) ?_
    obtain ⟨r_1, hq2, hf⟩ := bd1_el hf
    refine mc_V (As := [.int x1]) (rest := []) (wr := []) (wn := [(a0, .inr (8, [.ref a1, .ref a2, .int v_acts, .ref a3, .ref a4, .int v_keptActs, .ref a5, .int v_typed, .ref a6, .ref a7, .ref a8, .ref a9, .ref a10, .int v_isSet, .ref a11, .ref a12, .ref a13, .int v_arePages, .ref a14, .ref a15, .int v_place, .ref a16, .int v_readMany])), (a1, .inl (cI, 189, .inl v_now))]) ⟨hx, hb, hml, hown, hT⟩ (c_X8_indent l dC dI cI cJ cP cS a0 a1 a2 a3 a4 a5 a6 a7 a8 a9 a10 a11 a12 a13 a14 a15 a16 v_acts v_keptActs v_typed v_isSet v_arePages v_place v_readMany v_now x1 r_1 hq2) (cwV 1 hT (gdV q_ml_X8_88 q_im_X8_indent q_se_X8_indent q_in_X8 q_co_X8_indent) rfl rfl rfl hd_X8_indent ⟨Nat.le_of_ble_eq_true rfl, Nat.le_of_ble_eq_true rfl⟩) hK hF hP hD hS hA 0 rfl rfl rfl [0, 1] [] [0, 1] rfl (by decide) rfl (by decide) (by decide) rfl (by decide) rfl hl.1 rfl (Nat.le_of_ble_eq_true rfl) dX8_costBy_2 ⟨Nat.zero_le _, Nat.zero_le _⟩ (fun H locs hP hD hS => ?_)
    refine W.eq (g2 := F0 m 5 ls [.int r_1]) rfl ?_
    refine lv_istore_n (lv' := [(3, .int r_1), (0, .ref a0), (1, .int x1), (2, .int x2)]) hx hb dX8_costBy_5 rfl hl (by decide) rfl (fun ls hl => ?_)
    refine lv_iconst (v := 0) hx hb dX8_costBy_6 (by decide) ?_
    refine lv_istore (lv' := [(4, .int (0 : Int32)), (3, .int r_1), (0, .ref a0), (1, .int x1), (2, .int x2)]) hx hb dX8_costBy_7 hl (by decide) rfl (fun ls hl => ?_)
    refine lv_iconst (v := 0) hx hb dX8_costBy_9 (by decide) ?_
    refine lv_istore (lv' := [(5, .int (0 : Int32)), (4, .int (0 : Int32)), (3, .int r_1), (0, .ref a0), (1, .int x1), (2, .int x2)]) hx hb dX8_costBy_10 hl (by decide) rfl (fun ls hl => ?_)
    refine lv_iconst (v := 0) hx hb dX8_costBy_12 (by decide) ?_
    refine lv_istore (lv' := [(6, .int (0 : Int32)), (5, .int (0 : Int32)), (4, .int (0 : Int32)), (3, .int r_1), (0, .ref a0), (1, .int x1), (2, .int x2)]) hx hb dX8_costBy_13 hl (by decide) rfl (fun ls hl => ?_)
    have hL15 : ∀ (rr : (Int32 × Int32 × Int32 × Int32) ⊕ (Int32)), (∀ (z_28 : Int32) (z_29 : Int32) (z_30 : Int32) (z_31 : Int32), rr = .inl (z_28, z_29, z_30, z_31) → ∀ (H : Heap) (locs : List Loc) (ls : Array Slot), va_P (dC, dI) vwCl [(a0, .inr (8, [.ref a1, .ref a2, .int v_acts, .ref a3, .ref a4, .int v_keptActs, .ref a5, .int v_typed, .ref a6, .ref a7, .ref a8, .ref a9, .ref a10, .int v_isSet, .ref a11, .ref a12, .ref a13, .int v_arePages, .ref a14, .ref a15, .int v_place, .ref a16, .int v_readMany])), (a1, .inl (cI, 189, .inl v_now))] H → va_D A [(a0, .inr (8, [.ref a1, .ref a2, .int v_acts, .ref a3, .ref a4, .int v_keptActs, .ref a5, .int v_typed, .ref a6, .ref a7, .ref a8, .ref a9, .ref a10, .int v_isSet, .ref a11, .ref a12, .ref a13, .int v_arePages, .ref a14, .ref a15, .int v_place, .ref a16, .int v_readMany])), (a1, .inl (cI, 189, .inl v_now))] → va_S A s.heap H locs → lv_has ls 8 [(5, .int z_30)] → W p l e ({ frames := 5, cells := 0, slots := 0, locals := 110 } : Room) s m args below meth c H locs 0 0 Q (F0 m 125 ls [])) → (∀ (u_32 : Int32), rr = .inr u_32 → ∀ (H : Heap) (locs : List Loc) (ls : Array Slot) (pc : Nat), decode cX8_costBy pc = .ok (.ireturn, 1) → va_P (dC, dI) vwCl [(a0, .inr (8, [.ref a1, .ref a2, .int v_acts, .ref a3, .ref a4, .int v_keptActs, .ref a5, .int v_typed, .ref a6, .ref a7, .ref a8, .ref a9, .ref a10, .int v_isSet, .ref a11, .ref a12, .ref a13, .int v_arePages, .ref a14, .ref a15, .int v_place, .ref a16, .int v_readMany])), (a1, .inl (cI, 189, .inl v_now))] H → va_D A [(a0, .inr (8, [.ref a1, .ref a2, .int v_acts, .ref a3, .ref a4, .int v_keptActs, .ref a5, .int v_typed, .ref a6, .ref a7, .ref a8, .ref a9, .ref a10, .int v_isSet, .ref a11, .ref a12, .ref a13, .int v_arePages, .ref a14, .ref a15, .int v_place, .ref a16, .int v_readMany])), (a1, .inl (cI, 189, .inl v_now))] → va_S A s.heap H locs → W p l e ({ frames := 5, cells := 0, slots := 0, locals := 110 } : Room) s m args below meth c H locs 0 0 Q (F0 m pc ls [.int u_32])) → ∀ (n : Nat) (i3_3 : Int32) (i4_4 : Int32) (i5_5 : Int32) (i6_6 : Int32), loopN (p_X8_costBy_L15 v_now x1 x2) n (i3_3, i4_4, i5_5, i6_6) = some rr → ∀ (H : Heap) (locs : List Loc) (ls : Array Slot), va_P (dC, dI) vwCl [(a0, .inr (8, [.ref a1, .ref a2, .int v_acts, .ref a3, .ref a4, .int v_keptActs, .ref a5, .int v_typed, .ref a6, .ref a7, .ref a8, .ref a9, .ref a10, .int v_isSet, .ref a11, .ref a12, .ref a13, .int v_arePages, .ref a14, .ref a15, .int v_place, .ref a16, .int v_readMany])), (a1, .inl (cI, 189, .inl v_now))] H → va_D A [(a0, .inr (8, [.ref a1, .ref a2, .int v_acts, .ref a3, .ref a4, .int v_keptActs, .ref a5, .int v_typed, .ref a6, .ref a7, .ref a8, .ref a9, .ref a10, .int v_isSet, .ref a11, .ref a12, .ref a13, .int v_arePages, .ref a14, .ref a15, .int v_place, .ref a16, .int v_readMany])), (a1, .inl (cI, 189, .inl v_now))] → va_S A s.heap H locs → lv_has ls 8 [(0, .ref a0), (1, .int x1), (2, .int x2), (3, .int i3_3), (4, .int i4_4), (5, .int i5_5), (6, .int i6_6)] → W p l e ({ frames := 5, cells := 0, slots := 0, locals := 110 } : Room) s m args below meth c H locs 0 0 Q (F0 m 15 ls []) := by
      intro rr hk15 hkr15 n
      induction n with
      | zero => intro i3_3 i4_4 i5_5 i6_6 hf; cases hf
      | succ n ih15 =>
        intro i3_3 i4_4 i5_5 i6_6 hf H locs ls hP hD hS hl
        obtain ⟨o15, hf, hi, he⟩ := loopN_el hf
        rw [p_X8_costBy_L15] at hf
        refine lv_iload hx hb dX8_costBy_15 (lv_at hl 6 rfl) ?_
        refine lv_aload_n hx hb dX8_costBy_17 rfl (lv_at hl 0 rfl) ?_
        refine lv_iload_n hx hb dX8_costBy_18 rfl (lv_at hl 1 rfl) ?_
        obtain ⟨r_7, hq8, hf⟩ := bd1_el hf
        refine mc_V (As := [.int x1]) (rest := [.int i6_6]) (wr := []) (wn := [(a0, .inr (8, [.ref a1, .ref a2, .int v_acts, .ref a3, .ref a4, .int v_keptActs, .ref a5, .int v_typed, .ref a6, .ref a7, .ref a8, .ref a9, .ref a10, .int v_isSet, .ref a11, .ref a12, .ref a13, .int v_arePages, .ref a14, .ref a15, .int v_place, .ref a16, .int v_readMany])), (a1, .inl (cI, 189, .inl v_now))]) ⟨hx, hb, hml, hown, hT⟩ (c_X8_words l dC dI cI cJ cP cS a0 a1 a2 a3 a4 a5 a6 a7 a8 a9 a10 a11 a12 a13 a14 a15 a16 v_acts v_keptActs v_typed v_isSet v_arePages v_place v_readMany v_now x1 r_7 hq8) (cwV 1 hT (gdV q_ml_X8_85 q_im_X8_words q_se_X8_words q_in_X8 q_co_X8_words) rfl rfl rfl hd_X8_words ⟨Nat.le_of_ble_eq_true rfl, Nat.le_of_ble_eq_true rfl⟩) hK hF hP hD hS hA 0 rfl rfl rfl [0, 1] [] [0, 1] rfl (by decide) rfl (by decide) (by decide) rfl (by decide) rfl hl.1 rfl (Nat.le_of_ble_eq_true rfl) dX8_costBy_19 ⟨Nat.zero_le _, Nat.zero_le _⟩ (fun H locs hP hD hS => ?_)
        refine W.eq (g2 := F0 m 22 ls [.int r_7, .int i6_6]) rfl ?_
        refine lv_icmp_ge (tgt := 125) hx hb dX8_costBy_22 (by decide) (fun c9 => ?_) (fun c9 => ?_)
        · replace hf := it_t c9 hf
          exact hk15 _ _ _ _ (he _ (Option.some.inj hf).symm).symm H locs ls hP hD hS (lv_sub hl [5] rfl)
        · replace hf := it_f c9 hf
          refine lv_iload hx hb dX8_costBy_25 (lv_at hl 4 rfl) ?_
          refine lv_aload_n hx hb dX8_costBy_27 rfl (lv_at hl 0 rfl) ?_
          refine lv_iload_n hx hb dX8_costBy_28 rfl (lv_at hl 1 rfl) ?_
          refine lv_iconst (v := 3) hx hb dX8_costBy_29 (by decide) ?_
          refine lv_iload hx hb dX8_costBy_30 (lv_at hl 6 rfl) ?_
          refine lv_iadd hx hb dX8_costBy_32 ?_
          obtain ⟨r_10, hq11, hf⟩ := bd1_el hf
          refine mc_V (As := [.int x1, .int ((3 : Int32) + i6_6)]) (rest := [.int i4_4]) (wr := []) (wn := [(a0, .inr (8, [.ref a1, .ref a2, .int v_acts, .ref a3, .ref a4, .int v_keptActs, .ref a5, .int v_typed, .ref a6, .ref a7, .ref a8, .ref a9, .ref a10, .int v_isSet, .ref a11, .ref a12, .ref a13, .int v_arePages, .ref a14, .ref a15, .int v_place, .ref a16, .int v_readMany])), (a1, .inl (cI, 189, .inl v_now))]) ⟨hx, hb, hml, hown, hT⟩ (c_X8_at l dC dI cI cJ cP cS a0 a1 a2 a3 a4 a5 a6 a7 a8 a9 a10 a11 a12 a13 a14 a15 a16 v_acts v_keptActs v_typed v_isSet v_arePages v_place v_readMany v_now x1 ((3 : Int32) + i6_6) r_10 hq11) (cwV 2 hT (gdV q_ml_X8_67 q_im_X8_at q_se_X8_at q_in_X8 q_co_X8_at) rfl rfl rfl hd_X8_at ⟨Nat.le_of_ble_eq_true rfl, Nat.le_of_ble_eq_true rfl⟩) hK hF hP hD hS hA 0 rfl rfl rfl [0, 1] [] [0, 1] rfl (by decide) rfl (by decide) (by decide) rfl (by decide) rfl hl.1 rfl (Nat.le_of_ble_eq_true rfl) dX8_costBy_33 ⟨Nat.zero_le _, Nat.zero_le _⟩ (fun H locs hP hD hS => ?_)
          refine W.eq (g2 := F0 m 36 ls [.int r_10, .int i4_4]) rfl ?_
          refine lv_iload hx hb dX8_costBy_36 (lv_at hl 4 rfl) ?_
          have hB46_12 : ∀ (w2_12 : Int32), p_X8_costBy_B46_12 v_now x1 x2 i3_3 i4_4 i5_5 i6_6 r_10 w2_12 = some o15 → ∀ (H : Heap) (locs : List Loc) (ls : Array Slot), va_P (dC, dI) vwCl [(a0, .inr (8, [.ref a1, .ref a2, .int v_acts, .ref a3, .ref a4, .int v_keptActs, .ref a5, .int v_typed, .ref a6, .ref a7, .ref a8, .ref a9, .ref a10, .int v_isSet, .ref a11, .ref a12, .ref a13, .int v_arePages, .ref a14, .ref a15, .int v_place, .ref a16, .int v_readMany])), (a1, .inl (cI, 189, .inl v_now))] H → va_D A [(a0, .inr (8, [.ref a1, .ref a2, .int v_acts, .ref a3, .ref a4, .int v_keptActs, .ref a5, .int v_typed, .ref a6, .ref a7, .ref a8, .ref a9, .ref a10, .int v_isSet, .ref a11, .ref a12, .ref a13, .int v_arePages, .ref a14, .ref a15, .int v_place, .ref a16, .int v_readMany])), (a1, .inl (cI, 189, .inl v_now))] → va_S A s.heap H locs → lv_has ls 8 [(0, .ref a0), (1, .int x1), (2, .int x2), (3, .int i3_3), (5, .int i5_5), (6, .int i6_6)] → W p l e ({ frames := 5, cells := 0, slots := 0, locals := 110 } : Room) s m args below meth c H locs 0 0 Q (F0 m 46 ls [.int w2_12, .int r_10, .int i4_4]) := by
            intro w2_12 hf H locs ls hP hD hS hl
            refine lv_iadd hx hb dX8_costBy_46 ?_
            refine lv_iadd hx hb dX8_costBy_47 ?_
            obtain ⟨x4_13, ex4_13, hf⟩ := nm_el hf
            refine lv_as (congrArg Value.int ex4_13) ?_
            refine lv_istore (lv' := [(4, .int x4_13), (0, .ref a0), (1, .int x1), (2, .int x2), (3, .int i3_3), (5, .int i5_5), (6, .int i6_6)]) hx hb dX8_costBy_48 hl (by decide) rfl (fun ls hl => ?_)
            refine lv_aload_n hx hb dX8_costBy_50 rfl (lv_at hl 1 rfl) ?_
            refine va_get (D := (dC, dI)) (ci := 8) (v := .ref a1) (C := RX8) (T := TX8) (N := 23) hx hb hT in_X8 hown hK hP 0 rfl rfl 0 (by decide) (hT _ q_fl_X8_7) (fun _ h9 => h9) rfl dX8_costBy_51 ?_
            refine lv_iconst (v := 2) hx hb dX8_costBy_54 (by decide) ?_
            refine ia_ld hx hb hK hP 1 0 rfl rfl (ib_in (by decide)) (j := 2) (by decide) dX8_costBy_55 ?_
            refine lv_iload_n hx hb dX8_costBy_56 rfl (lv_at hl 4 rfl) ?_
            refine lv_isub hx hb dX8_costBy_57 ?_
            refine lv_iload hx hb dX8_costBy_58 (lv_at hl 0 rfl) ?_
            refine lv_isub hx hb dX8_costBy_60 ?_
            obtain ⟨x7_14, ex7_14, hf⟩ := nm_el hf
            refine lv_as (congrArg Value.int ex7_14) ?_
            refine lv_istore (lv' := [(7, .int x7_14), (4, .int x4_13), (0, .ref a0), (1, .int x1), (2, .int x2), (3, .int i3_3), (5, .int i5_5), (6, .int i6_6)]) hx hb dX8_costBy_61 hl (by decide) rfl (fun ls hl => ?_)
            refine lv_iload hx hb dX8_costBy_63 (lv_at hl 0 rfl) ?_
            refine lv_if_ge (tgt := 71) hx hb dX8_costBy_65 (by decide) (fun c15 => ?_) (fun c15 => ?_)
            · replace hf := it_t c15 hf
              refine lv_aload_n hx hb dX8_costBy_71 rfl (lv_at hl 2 rfl) ?_
              refine lv_iload_n hx hb dX8_costBy_72 rfl (lv_at hl 3 rfl) ?_
              refine lv_iload_n hx hb dX8_costBy_73 rfl (lv_at hl 4 rfl) ?_
              refine lv_iload hx hb dX8_costBy_74 (lv_at hl 7 rfl) ?_
              obtain ⟨r_16, hq17, hf⟩ := bd1_el hf
              refine mc_V (As := [.int x1, .int x2, .int i6_6]) (rest := []) (wr := []) (wn := [(a0, .inr (8, [.ref a1, .ref a2, .int v_acts, .ref a3, .ref a4, .int v_keptActs, .ref a5, .int v_typed, .ref a6, .ref a7, .ref a8, .ref a9, .ref a10, .int v_isSet, .ref a11, .ref a12, .ref a13, .int v_arePages, .ref a14, .ref a15, .int v_place, .ref a16, .int v_readMany])), (a1, .inl (cI, 189, .inl v_now))]) ⟨hx, hb, hml, hown, hT⟩ (c_X8_breaks l dC dI cI cJ cP cS a0 a1 a2 a3 a4 a5 a6 a7 a8 a9 a10 a11 a12 a13 a14 a15 a16 v_acts v_keptActs v_typed v_isSet v_arePages v_place v_readMany v_now x1 x2 i6_6 r_16 hq17) (cwV 3 hT (gdV q_ml_X8_91 q_im_X8_breaks q_se_X8_breaks q_in_X8 q_co_X8_breaks) rfl rfl rfl hd_X8_breaks ⟨Nat.le_of_ble_eq_true rfl, Nat.le_of_ble_eq_true rfl⟩) hK hF hP hD hS hA 0 rfl rfl rfl [0, 1] [] [0, 1] rfl (by decide) rfl (by decide) (by decide) rfl (by decide) rfl hl.1 rfl (Nat.le_of_ble_eq_true rfl) dX8_costBy_76 ⟨Nat.zero_le _, Nat.zero_le _⟩ (fun H locs hP hD hS => ?_)
              refine W.eq (g2 := F0 m 79 ls [.int r_16]) rfl ?_
              refine lv_if_eq (tgt := 119) hx hb dX8_costBy_79 (by decide) (fun c18 => ?_) (fun c18 => ?_)
              · replace hf := it_t c18 hf
                refine lv_iinc (v := (i6_6 + (1 : Int32))) (lv' := [(6, .int (i6_6 + (1 : Int32))), (7, .int x7_14), (4, .int x4_13), (0, .ref a0), (1, .int x1), (2, .int x2), (3, .int i3_3), (5, .int i5_5)]) hx hb dX8_costBy_119 hl (k := 7) rfl rfl (by decide) rfl (fun ls hl => ?_)
                refine lv_goto (tgt := 15) hx hb dX8_costBy_122 (by decide) ?_
                exact ih15 i3_3 x4_13 i5_5 (i6_6 + (1 : Int32)) (hi _ (Option.some.inj hf).symm) H locs ls hP hD hS (lv_sub hl [3, 4, 5, 6, 2, 7, 0] rfl)
              · replace hf := it_f c18 hf
                refine lv_iload hx hb dX8_costBy_82 (lv_at hl 6 rfl) ?_
                refine lv_aload_n hx hb dX8_costBy_84 rfl (lv_at hl 2 rfl) ?_
                refine lv_iload hx hb dX8_costBy_85 (lv_at hl 0 rfl) ?_
                refine lv_aload_n hx hb dX8_costBy_87 rfl (lv_at hl 2 rfl) ?_
                refine lv_iload_n hx hb dX8_costBy_88 rfl (lv_at hl 3 rfl) ?_
                refine lv_bipush (v := 9) hx hb dX8_costBy_89 (by decide) ?_
                refine lv_iload hx hb dX8_costBy_91 (lv_at hl 7 rfl) ?_
                refine lv_iadd hx hb dX8_costBy_93 ?_
                obtain ⟨r_19, hq20, hf⟩ := bd1_el hf
                refine mc_V (As := [.int x1, .int ((9 : Int32) + i6_6)]) (rest := [.int x7_14, .ref a0, .int i5_5]) (wr := []) (wn := [(a0, .inr (8, [.ref a1, .ref a2, .int v_acts, .ref a3, .ref a4, .int v_keptActs, .ref a5, .int v_typed, .ref a6, .ref a7, .ref a8, .ref a9, .ref a10, .int v_isSet, .ref a11, .ref a12, .ref a13, .int v_arePages, .ref a14, .ref a15, .int v_place, .ref a16, .int v_readMany])), (a1, .inl (cI, 189, .inl v_now))]) ⟨hx, hb, hml, hown, hT⟩ (c_X8_at l dC dI cI cJ cP cS a0 a1 a2 a3 a4 a5 a6 a7 a8 a9 a10 a11 a12 a13 a14 a15 a16 v_acts v_keptActs v_typed v_isSet v_arePages v_place v_readMany v_now x1 ((9 : Int32) + i6_6) r_19 hq20) (cwV 2 hT (gdV q_ml_X8_67 q_im_X8_at q_se_X8_at q_in_X8 q_co_X8_at) rfl rfl rfl hd_X8_at ⟨Nat.le_of_ble_eq_true rfl, Nat.le_of_ble_eq_true rfl⟩) hK hF hP hD hS hA 0 rfl rfl rfl [0, 1] [] [0, 1] rfl (by decide) rfl (by decide) (by decide) rfl (by decide) rfl hl.1 rfl (Nat.le_of_ble_eq_true rfl) dX8_costBy_94 ⟨Nat.zero_le _, Nat.zero_le _⟩ (fun H locs hP hD hS => ?_)
                refine W.eq (g2 := F0 m 97 ls [.int r_19, .int x7_14, .ref a0, .int i5_5]) rfl ?_
                obtain ⟨r_21, hq22, hf⟩ := bd1_el hf
                refine mc_V (As := [.int x7_14, .int r_19]) (rest := [.int i5_5]) (wr := []) (wn := [(a0, .inr (8, [.ref a1, .ref a2, .int v_acts, .ref a3, .ref a4, .int v_keptActs, .ref a5, .int v_typed, .ref a6, .ref a7, .ref a8, .ref a9, .ref a10, .int v_isSet, .ref a11, .ref a12, .ref a13, .int v_arePages, .ref a14, .ref a15, .int v_place, .ref a16, .int v_readMany])), (a1, .inl (cI, 189, .inl v_now))]) ⟨hx, hb, hml, hown, hT⟩ (c_X8_costOfRow l dC dI cI cJ cP cS a0 a1 a2 a3 a4 a5 a6 a7 a8 a9 a10 a11 a12 a13 a14 a15 a16 v_acts v_keptActs v_typed v_isSet v_arePages v_place v_readMany v_now x7_14 r_19 r_21 hq22) (cwV 2 hT (gdV q_ml_X8_95 q_im_X8_costOfRow q_se_X8_costOfRow q_in_X8 q_co_X8_costOfRow) rfl rfl rfl hd_X8_costOfRow ⟨Nat.le_of_ble_eq_true rfl, Nat.le_of_ble_eq_true rfl⟩) hK hF hP hD hS hA 0 rfl rfl rfl [0, 1] [] [0, 1] rfl (by decide) rfl (by decide) (by decide) rfl (by decide) rfl hl.1 rfl (Nat.le_of_ble_eq_true rfl) dX8_costBy_97 ⟨Nat.zero_le _, Nat.zero_le _⟩ (fun H locs hP hD hS => ?_)
                refine W.eq (g2 := F0 m 100 ls [.int r_21, .int i5_5]) rfl ?_
                refine lv_iadd hx hb dX8_costBy_100 ?_
                obtain ⟨x5_23, ex5_23, hf⟩ := nm_el hf
                refine lv_as (congrArg Value.int ex5_23) ?_
                refine lv_istore (lv' := [(5, .int x5_23), (7, .int x7_14), (4, .int x4_13), (0, .ref a0), (1, .int x1), (2, .int x2), (3, .int i3_3), (6, .int i6_6)]) hx hb dX8_costBy_101 hl (by decide) rfl (fun ls hl => ?_)
                refine lv_aload_n hx hb dX8_costBy_103 rfl (lv_at hl 3 rfl) ?_
                refine lv_iload_n hx hb dX8_costBy_104 rfl (lv_at hl 4 rfl) ?_
                obtain ⟨r_24, hq25, hf⟩ := bd1_el hf
                refine mc_V (As := [.int x1]) (rest := []) (wr := []) (wn := [(a0, .inr (8, [.ref a1, .ref a2, .int v_acts, .ref a3, .ref a4, .int v_keptActs, .ref a5, .int v_typed, .ref a6, .ref a7, .ref a8, .ref a9, .ref a10, .int v_isSet, .ref a11, .ref a12, .ref a13, .int v_arePages, .ref a14, .ref a15, .int v_place, .ref a16, .int v_readMany])), (a1, .inl (cI, 189, .inl v_now))]) ⟨hx, hb, hml, hown, hT⟩ (c_X8_indent l dC dI cI cJ cP cS a0 a1 a2 a3 a4 a5 a6 a7 a8 a9 a10 a11 a12 a13 a14 a15 a16 v_acts v_keptActs v_typed v_isSet v_arePages v_place v_readMany v_now x1 r_24 hq25) (cwV 1 hT (gdV q_ml_X8_88 q_im_X8_indent q_se_X8_indent q_in_X8 q_co_X8_indent) rfl rfl rfl hd_X8_indent ⟨Nat.le_of_ble_eq_true rfl, Nat.le_of_ble_eq_true rfl⟩) hK hF hP hD hS hA 0 rfl rfl rfl [0, 1] [] [0, 1] rfl (by decide) rfl (by decide) (by decide) rfl (by decide) rfl hl.1 rfl (Nat.le_of_ble_eq_true rfl) dX8_costBy_105 ⟨Nat.zero_le _, Nat.zero_le _⟩ (fun H locs hP hD hS => ?_)
                refine W.eq (g2 := F0 m 108 ls [.int r_24]) rfl ?_
                refine lv_aload_n hx hb dX8_costBy_108 rfl (lv_at hl 3 rfl) ?_
                refine va_get (D := (dC, dI)) (ci := 8) (v := .ref a1) (C := RX8) (T := TX8) (N := 23) hx hb hT in_X8 hown hK hP 0 rfl rfl 0 (by decide) (hT _ q_fl_X8_7) (fun _ h9 => h9) rfl dX8_costBy_109 ?_
                refine lv_iconst (v := 4) hx hb dX8_costBy_112 (by decide) ?_
                refine ia_ld hx hb hK hP 1 0 rfl rfl (ib_in (by decide)) (j := 4) (by decide) dX8_costBy_113 ?_
                refine lv_iadd hx hb dX8_costBy_114 ?_
                obtain ⟨x3_26, ex3_26, hf⟩ := nm_el hf
                refine lv_as (congrArg Value.int ex3_26) ?_
                refine lv_istore_n (lv' := [(3, .int x3_26), (5, .int x5_23), (7, .int x7_14), (4, .int x4_13), (0, .ref a0), (1, .int x1), (2, .int x2), (6, .int i6_6)]) hx hb dX8_costBy_115 rfl hl (by decide) rfl (fun ls hl => ?_)
                refine lv_iconst (v := 0) hx hb dX8_costBy_116 (by decide) ?_
                refine lv_istore (lv' := [(4, .int (0 : Int32)), (3, .int x3_26), (5, .int x5_23), (7, .int x7_14), (0, .ref a0), (1, .int x1), (2, .int x2), (6, .int i6_6)]) hx hb dX8_costBy_117 hl (by decide) rfl (fun ls hl => ?_)
                refine lv_iinc (v := (i6_6 + (1 : Int32))) (lv' := [(6, .int (i6_6 + (1 : Int32))), (4, .int (0 : Int32)), (3, .int x3_26), (5, .int x5_23), (7, .int x7_14), (0, .ref a0), (1, .int x1), (2, .int x2)]) hx hb dX8_costBy_119 hl (k := 7) rfl rfl (by decide) rfl (fun ls hl => ?_)
                refine lv_goto (tgt := 15) hx hb dX8_costBy_122 (by decide) ?_
                exact ih15 x3_26 (0 : Int32) x5_23 (i6_6 + (1 : Int32)) (hi _ (Option.some.inj hf).symm) H locs ls hP hD hS (lv_sub hl [5, 6, 7, 2, 1, 3, 0] rfl)
            · replace hf := it_f c15 hf
              refine lv_bipush (v := (-4)) hx hb dX8_costBy_68 (by decide) ?_
              exact hkr15 _ (he _ (Option.some.inj hf).symm).symm H locs ls _ dX8_costBy_70 hP hD hS
          refine lv_if_le (tgt := 45) hx hb dX8_costBy_38 (by decide) (fun c27 => ?_) (fun c27 => ?_)
          · replace hf := it_t c27 hf
            refine lv_iconst (v := 0) hx hb dX8_costBy_45 (by decide) ?_
            exact hB46_12 (0 : Int32) hf H locs ls hP hD hS (lv_sub hl [0, 1, 2, 3, 5, 6] rfl)
          · replace hf := it_f c27 hf
            refine lv_iconst (v := 1) hx hb dX8_costBy_41 (by decide) ?_
            refine lv_goto (tgt := 46) hx hb dX8_costBy_42 (by decide) ?_
            exact hB46_12 (1 : Int32) hf H locs ls hP hD hS (lv_sub hl [0, 1, 2, 3, 5, 6] rfl)
    rcases bdS_el hf with ⟨q, hq, hf⟩ | ⟨q, hq, hf⟩
    · obtain ⟨f3_33, f4_34, f5_35, f6_36, eq9, hf⟩ := bd4_el hf
      cases eq9
      refine hL15 (.inl (f3_33, f4_34, f5_35, f6_36)) (fun z_28 z_29 z_30 z_31 h9 H locs ls hP hD hS hl => ?_) (fun _ h9 => by cases h9) fuel r_1 (0 : Int32) (0 : Int32) (0 : Int32) hq H locs ls hP hD hS (lv_sub hl [4, 5, 6, 3, 2, 1, 0] rfl)
      replace h9 := Sum.inl.inj h9
      simp only [Prod.mk.injEq] at h9
      obtain ⟨h9_0, h9_1, h9_2, h9_3⟩ := h9
      subst h9_0; subst h9_1; subst h9_2; subst h9_3
      refine lv_iload hx hb dX8_costBy_125 (lv_at hl 0 rfl) ?_
      replace hf := Option.some.inj hf
      subst hf
      exact hret H locs ls _ dX8_costBy_127 hP hD hS
    · refine hL15 (.inr q) (fun _ _ _ _ h9 => by cases h9) ?_ fuel r_1 (0 : Int32) (0 : Int32) (0 : Int32) hq H locs ls hP hD hS (lv_sub hl [4, 5, 6, 3, 2, 1, 0] rfl)
      intro z0 h9
      replace h9 := Sum.inr.inj h9
      subst h9
      cases hf
      exact hret
  refine key _ ?_ _ _ _ hP hD hS hl
  intro H locs ls pc d hP hD hS
  exact W.iret (v := rv) hx hb hr (fun t ht hW => ⟨⟨rfl, by rw [ht]; exact hP, hD⟩, hS.F ht⟩) hS.2.2 d
def p_X8_codes (v_now : (Nat → Int32)) (x1 : Int32) : Option (Int32) :=
  (bd1 (p_X8_words v_now x1) fun r_1 => (if (2 : Int32) ≤ r_1 then (bd1 (p_X8_words v_now x1) fun r_4 => (some ((1 : Int32) <<< ((r_4 - (1 : Int32)) &&& 31)))) else (some (1 : Int32))))
set_option maxHeartbeats 4000000 in
set_option maxRecDepth 100000 in
theorem c_X8_codes (l : Launch) (dC : Nat → ClassId) (dI : Nat → Nat → Nat) (cI cJ cP cS : ClassId) (a0 : Nat) (a1 : Nat) (a2 : Nat) (a3 : Nat) (a4 : Nat) (a5 : Nat) (a6 : Nat) (a7 : Nat) (a8 : Nat) (a9 : Nat) (a10 : Nat) (a11 : Nat) (a12 : Nat) (a13 : Nat) (a14 : Nat) (a15 : Nat) (a16 : Nat) (v_acts : Int32) (v_keptActs : Int32) (v_typed : Int32) (v_isSet : Int32) (v_arePages : Int32) (v_place : Int32) (v_readMany : Int32) (v_now : (Nat → Int32))  (x1 : Int32) (rv : Int32)  (hf : p_X8_codes v_now x1 = some rv) : MC l (dC, dI) (tyl cI cJ cP cS) yX8_codes (Cond.code yX8_codes cX8_codes 2 (some .int) :: TBG) ({ frames := 2, cells := 0, slots := 0, locals := 43 } : Room) [.ref a0, .int x1] [(a0, .inr (8, [.ref a1, .ref a2, .int v_acts, .ref a3, .ref a4, .int v_keptActs, .ref a5, .int v_typed, .ref a6, .ref a7, .ref a8, .ref a9, .ref a10, .int v_isSet, .ref a11, .ref a12, .ref a13, .int v_arePages, .ref a14, .ref a15, .int v_place, .ref a16, .int v_readMany])), (a1, .inl (cI, 189, .inl v_now))] [(a0, .inr (8, [.ref a1, .ref a2, .int v_acts, .ref a3, .ref a4, .int v_keptActs, .ref a5, .int v_typed, .ref a6, .ref a7, .ref a8, .ref a9, .ref a10, .int v_isSet, .ref a11, .ref a12, .ref a13, .int v_arePages, .ref a14, .ref a15, .int v_place, .ref a16, .int v_readMany])), (a1, .inl (cI, 189, .inl v_now))] (some (.int rv)) := by
  intro sz
  unfold MPost
  refine Met.ofW (cc := cX8_codes) (maxL := 2) (ret := (some .int)) (by decide) rfl ?_
  intro p e s m args below meth c s₁ B hml hv
  obtain ⟨rfl, hsz, hP, hK, hD0, hF⟩ := hv
  have hx := B.exec
  have hb := B.bytes
  have hr := B.returns
  have hT : ∀ w ∈ TBG, w.before _ s = true := fun w h => atoms_spec B.pre w (List.mem_cons_of_mem _ h)
  have hown : s.vm.findClass RX8 = some m.cls := findClass_of_methodNamed B.named
  have hlocks := B.notSynchronized
  subst hsz
  have hD := hD0.self (sz := s.heap.size)
  generalize hAe : va_A [(a0, .inr (8, [.ref a1, .ref a2, .int v_acts, .ref a3, .ref a4, .int v_keptActs, .ref a5, .int v_typed, .ref a6, .ref a7, .ref a8, .ref a9, .ref a10, .int v_isSet, .ref a11, .ref a12, .ref a13, .int v_arePages, .ref a14, .ref a15, .int v_place, .ref a16, .int v_readMany])), (a1, .inl (cI, 189, .inl v_now))] s.heap.size = A at hD hF ⊢
  have hA : ∀ q : Nat, s.heap.size ≤ q → A q := fun q h => by rw [← hAe]; exact Or.inr h
  have hS : va_S A s.heap s.heap [] := va_S.rf
  have hl := lv_entry ([.ref a0, .int x1]) (n := 2) (Nat.le_of_ble_eq_true rfl)
  rw [lg_entry_eq]
  generalize (lg_sl ([.ref a0, .int x1]) ++ List.replicate (2 - (lg_sl ([.ref a0, .int x1])).length) Slot.unset).toArray = ls at hl ⊢
  have hl : lv_has ls 2 [(0, .ref a0), (1, .int x1)] := hl
  generalize ([.ref a0, .int x1] : List Value).toArray = args at hT ⊢
  have key : ∀ (Q : State → Prop), (∀ (H : Heap) (locs : List Loc) (ls : Array Slot) (pc : Nat), decode cX8_codes pc = .ok (.ireturn, 1) → va_P (dC, dI) vwCl [(a0, .inr (8, [.ref a1, .ref a2, .int v_acts, .ref a3, .ref a4, .int v_keptActs, .ref a5, .int v_typed, .ref a6, .ref a7, .ref a8, .ref a9, .ref a10, .int v_isSet, .ref a11, .ref a12, .ref a13, .int v_arePages, .ref a14, .ref a15, .int v_place, .ref a16, .int v_readMany])), (a1, .inl (cI, 189, .inl v_now))] H → va_D A [(a0, .inr (8, [.ref a1, .ref a2, .int v_acts, .ref a3, .ref a4, .int v_keptActs, .ref a5, .int v_typed, .ref a6, .ref a7, .ref a8, .ref a9, .ref a10, .int v_isSet, .ref a11, .ref a12, .ref a13, .int v_arePages, .ref a14, .ref a15, .int v_place, .ref a16, .int v_readMany])), (a1, .inl (cI, 189, .inl v_now))] → va_S A s.heap H locs → W p l e ({ frames := 2, cells := 0, slots := 0, locals := 43 } : Room) s m args below meth c H locs 0 0 Q (F0 m pc ls [.int rv])) → ∀ (H : Heap) (locs : List Loc) (ls : Array Slot), va_P (dC, dI) vwCl [(a0, .inr (8, [.ref a1, .ref a2, .int v_acts, .ref a3, .ref a4, .int v_keptActs, .ref a5, .int v_typed, .ref a6, .ref a7, .ref a8, .ref a9, .ref a10, .int v_isSet, .ref a11, .ref a12, .ref a13, .int v_arePages, .ref a14, .ref a15, .int v_place, .ref a16, .int v_readMany])), (a1, .inl (cI, 189, .inl v_now))] H → va_D A [(a0, .inr (8, [.ref a1, .ref a2, .int v_acts, .ref a3, .ref a4, .int v_keptActs, .ref a5, .int v_typed, .ref a6, .ref a7, .ref a8, .ref a9, .ref a10, .int v_isSet, .ref a11, .ref a12, .ref a13, .int v_arePages, .ref a14, .ref a15, .int v_place, .ref a16, .int v_readMany])), (a1, .inl (cI, 189, .inl v_now))] → va_S A s.heap H locs → lv_has ls 2 [(0, .ref a0), (1, .int x1)] → W p l e ({ frames := 2, cells := 0, slots := 0, locals := 43 } : Room) s m args below meth c H locs 0 0 Q (F0 m 0 ls []) := by
    intro Q hret H locs ls hP hD hS hl
    refine lv_aload_n hx hb dX8_codes_0 rfl (lv_at hl 0 rfl) ?_
    refine lv_iload_n hx hb dX8_codes_1 rfl (lv_at hl 1 rfl) ?_
    obtain ⟨r_1, hq2, hf⟩ := bd1_el hf
    refine mc_V (As := [.int x1]) (rest := []) (wr := []) (wn := [(a0, .inr (8, [.ref a1, .ref a2, .int v_acts, .ref a3, .ref a4, .int v_keptActs, .ref a5, .int v_typed, .ref a6, .ref a7, .ref a8, .ref a9, .ref a10, .int v_isSet, .ref a11, .ref a12, .ref a13, .int v_arePages, .ref a14, .ref a15, .int v_place, .ref a16, .int v_readMany])), (a1, .inl (cI, 189, .inl v_now))]) ⟨hx, hb, hml, hown, hT⟩ (c_X8_words l dC dI cI cJ cP cS a0 a1 a2 a3 a4 a5 a6 a7 a8 a9 a10 a11 a12 a13 a14 a15 a16 v_acts v_keptActs v_typed v_isSet v_arePages v_place v_readMany v_now x1 r_1 hq2) (cwV 1 hT (gdV q_ml_X8_85 q_im_X8_words q_se_X8_words q_in_X8 q_co_X8_words) rfl rfl rfl hd_X8_words ⟨Nat.le_of_ble_eq_true rfl, Nat.le_of_ble_eq_true rfl⟩) hK hF hP hD hS hA 0 rfl rfl rfl [0, 1] [] [0, 1] rfl (by decide) rfl (by decide) (by decide) rfl (by decide) rfl hl.1 rfl (Nat.le_of_ble_eq_true rfl) dX8_codes_2 ⟨Nat.zero_le _, Nat.zero_le _⟩ (fun H locs hP hD hS => ?_)
    refine W.eq (g2 := F0 m 5 ls [.int r_1]) rfl ?_
    refine lv_iconst (v := 2) hx hb dX8_codes_5 (by decide) ?_
    refine lv_icmp_ge (tgt := 13) hx hb dX8_codes_6 (by decide) (fun c3 => ?_) (fun c3 => ?_)
    · replace hf := it_t c3 hf
      refine lv_iconst (v := 1) hx hb dX8_codes_13 (by decide) ?_
      refine lv_aload_n hx hb dX8_codes_14 rfl (lv_at hl 0 rfl) ?_
      refine lv_iload_n hx hb dX8_codes_15 rfl (lv_at hl 1 rfl) ?_
      obtain ⟨r_4, hq5, hf⟩ := bd1_el hf
      refine mc_V (As := [.int x1]) (rest := [.int (1 : Int32)]) (wr := []) (wn := [(a0, .inr (8, [.ref a1, .ref a2, .int v_acts, .ref a3, .ref a4, .int v_keptActs, .ref a5, .int v_typed, .ref a6, .ref a7, .ref a8, .ref a9, .ref a10, .int v_isSet, .ref a11, .ref a12, .ref a13, .int v_arePages, .ref a14, .ref a15, .int v_place, .ref a16, .int v_readMany])), (a1, .inl (cI, 189, .inl v_now))]) ⟨hx, hb, hml, hown, hT⟩ (c_X8_words l dC dI cI cJ cP cS a0 a1 a2 a3 a4 a5 a6 a7 a8 a9 a10 a11 a12 a13 a14 a15 a16 v_acts v_keptActs v_typed v_isSet v_arePages v_place v_readMany v_now x1 r_4 hq5) (cwV 1 hT (gdV q_ml_X8_85 q_im_X8_words q_se_X8_words q_in_X8 q_co_X8_words) rfl rfl rfl hd_X8_words ⟨Nat.le_of_ble_eq_true rfl, Nat.le_of_ble_eq_true rfl⟩) hK hF hP hD hS hA 0 rfl rfl rfl [0, 1] [] [0, 1] rfl (by decide) rfl (by decide) (by decide) rfl (by decide) rfl hl.1 rfl (Nat.le_of_ble_eq_true rfl) dX8_codes_16 ⟨Nat.zero_le _, Nat.zero_le _⟩ (fun H locs hP hD hS => ?_)
      refine W.eq (g2 := F0 m 19 ls [.int r_4, .int (1 : Int32)]) rfl ?_
      refine lv_iconst (v := 1) hx hb dX8_codes_19 (by decide) ?_
      refine lv_isub hx hb dX8_codes_20 ?_
      refine lv_ishl hx hb dX8_codes_21 ?_
      replace hf := Option.some.inj hf
      subst hf
      exact hret H locs ls _ dX8_codes_22 hP hD hS
    · replace hf := it_f c3 hf
      refine lv_iconst (v := 1) hx hb dX8_codes_9 (by decide) ?_
      refine lv_goto (tgt := 22) hx hb dX8_codes_10 (by decide) ?_
      replace hf := Option.some.inj hf
      subst hf
      exact hret H locs ls _ dX8_codes_22 hP hD hS
  refine key _ ?_ _ _ _ hP hD hS hl
  intro H locs ls pc d hP hD hS
  exact W.iret (v := rv) hx hb hr (fun t ht hW => ⟨⟨rfl, by rw [ht]; exact hP, hD⟩, hS.F ht⟩) hS.2.2 d
def p_X8_many_L4 (v_now : (Nat → Int32)) (x1 : Int32) (s : Int32 × Int32) : Option ((Int32 × Int32) ⊕ (Int32 × Int32)) := match s with
  | (i2_1, i3_2) => (bd1 (p_X8_codes v_now x1) fun r_3 => (if r_3 ≤ i3_2 then (some (.inr (i2_1, i3_2))) else (bd1 (p_X8_costBy v_now x1 i3_2) fun r_6 => (if r_6 < (0 : Int32) then (nm (i2_1 + (0 : Int32)) fun x2_9 => (some (.inl (x2_9, (i3_2 + (1 : Int32)))))) else (nm (i2_1 + (1 : Int32)) fun x2_10 => (some (.inl (x2_10, (i3_2 + (1 : Int32))))))))))
def p_X8_many (v_now : (Nat → Int32)) (x1 : Int32) : Option (Int32) :=
  (bd2 (loopN (p_X8_many_L4 v_now x1) fuel ((0 : Int32), (0 : Int32))) fun f2_13 f3_14 => (some f2_13))
set_option maxHeartbeats 4000000 in
set_option maxRecDepth 100000 in
theorem c_X8_many (l : Launch) (dC : Nat → ClassId) (dI : Nat → Nat → Nat) (cI cJ cP cS : ClassId) (a0 : Nat) (a1 : Nat) (a2 : Nat) (a3 : Nat) (a4 : Nat) (a5 : Nat) (a6 : Nat) (a7 : Nat) (a8 : Nat) (a9 : Nat) (a10 : Nat) (a11 : Nat) (a12 : Nat) (a13 : Nat) (a14 : Nat) (a15 : Nat) (a16 : Nat) (v_acts : Int32) (v_keptActs : Int32) (v_typed : Int32) (v_isSet : Int32) (v_arePages : Int32) (v_place : Int32) (v_readMany : Int32) (v_now : (Nat → Int32))  (x1 : Int32) (rv : Int32)  (hf : p_X8_many v_now x1 = some rv) : MC l (dC, dI) (tyl cI cJ cP cS) yX8_many (Cond.code yX8_many cX8_many 4 (some .int) :: TBG) ({ frames := 6, cells := 0, slots := 0, locals := 137 } : Room) [.ref a0, .int x1] [(a0, .inr (8, [.ref a1, .ref a2, .int v_acts, .ref a3, .ref a4, .int v_keptActs, .ref a5, .int v_typed, .ref a6, .ref a7, .ref a8, .ref a9, .ref a10, .int v_isSet, .ref a11, .ref a12, .ref a13, .int v_arePages, .ref a14, .ref a15, .int v_place, .ref a16, .int v_readMany])), (a1, .inl (cI, 189, .inl v_now))] [(a0, .inr (8, [.ref a1, .ref a2, .int v_acts, .ref a3, .ref a4, .int v_keptActs, .ref a5, .int v_typed, .ref a6, .ref a7, .ref a8, .ref a9, .ref a10, .int v_isSet, .ref a11, .ref a12, .ref a13, .int v_arePages, .ref a14, .ref a15, .int v_place, .ref a16, .int v_readMany])), (a1, .inl (cI, 189, .inl v_now))] (some (.int rv)) := by
  intro sz
  unfold MPost
  refine Met.ofW (cc := cX8_many) (maxL := 4) (ret := (some .int)) (by decide) rfl ?_
  intro p e s m args below meth c s₁ B hml hv
  obtain ⟨rfl, hsz, hP, hK, hD0, hF⟩ := hv
  have hx := B.exec
  have hb := B.bytes
  have hr := B.returns
  have hT : ∀ w ∈ TBG, w.before _ s = true := fun w h => atoms_spec B.pre w (List.mem_cons_of_mem _ h)
  have hown : s.vm.findClass RX8 = some m.cls := findClass_of_methodNamed B.named
  have hlocks := B.notSynchronized
  subst hsz
  have hD := hD0.self (sz := s.heap.size)
  generalize hAe : va_A [(a0, .inr (8, [.ref a1, .ref a2, .int v_acts, .ref a3, .ref a4, .int v_keptActs, .ref a5, .int v_typed, .ref a6, .ref a7, .ref a8, .ref a9, .ref a10, .int v_isSet, .ref a11, .ref a12, .ref a13, .int v_arePages, .ref a14, .ref a15, .int v_place, .ref a16, .int v_readMany])), (a1, .inl (cI, 189, .inl v_now))] s.heap.size = A at hD hF ⊢
  have hA : ∀ q : Nat, s.heap.size ≤ q → A q := fun q h => by rw [← hAe]; exact Or.inr h
  have hS : va_S A s.heap s.heap [] := va_S.rf
  have hl := lv_entry ([.ref a0, .int x1]) (n := 4) (Nat.le_of_ble_eq_true rfl)
  rw [lg_entry_eq]
  generalize (lg_sl ([.ref a0, .int x1]) ++ List.replicate (4 - (lg_sl ([.ref a0, .int x1])).length) Slot.unset).toArray = ls at hl ⊢
  have hl : lv_has ls 4 [(0, .ref a0), (1, .int x1)] := hl
  generalize ([.ref a0, .int x1] : List Value).toArray = args at hT ⊢
  have key : ∀ (Q : State → Prop), (∀ (H : Heap) (locs : List Loc) (ls : Array Slot) (pc : Nat), decode cX8_many pc = .ok (.ireturn, 1) → va_P (dC, dI) vwCl [(a0, .inr (8, [.ref a1, .ref a2, .int v_acts, .ref a3, .ref a4, .int v_keptActs, .ref a5, .int v_typed, .ref a6, .ref a7, .ref a8, .ref a9, .ref a10, .int v_isSet, .ref a11, .ref a12, .ref a13, .int v_arePages, .ref a14, .ref a15, .int v_place, .ref a16, .int v_readMany])), (a1, .inl (cI, 189, .inl v_now))] H → va_D A [(a0, .inr (8, [.ref a1, .ref a2, .int v_acts, .ref a3, .ref a4, .int v_keptActs, .ref a5, .int v_typed, .ref a6, .ref a7, .ref a8, .ref a9, .ref a10, .int v_isSet, .ref a11, .ref a12, .ref a13, .int v_arePages, .ref a14, .ref a15, .int v_place, .ref a16, .int v_readMany])), (a1, .inl (cI, 189, .inl v_now))] → va_S A s.heap H locs → W p l e ({ frames := 6, cells := 0, slots := 0, locals := 137 } : Room) s m args below meth c H locs 0 0 Q (F0 m pc ls [.int rv])) → ∀ (H : Heap) (locs : List Loc) (ls : Array Slot), va_P (dC, dI) vwCl [(a0, .inr (8, [.ref a1, .ref a2, .int v_acts, .ref a3, .ref a4, .int v_keptActs, .ref a5, .int v_typed, .ref a6, .ref a7, .ref a8, .ref a9, .ref a10, .int v_isSet, .ref a11, .ref a12, .ref a13, .int v_arePages, .ref a14, .ref a15, .int v_place, .ref a16, .int v_readMany])), (a1, .inl (cI, 189, .inl v_now))] H → va_D A [(a0, .inr (8, [.ref a1, .ref a2, .int v_acts, .ref a3, .ref a4, .int v_keptActs, .ref a5, .int v_typed, .ref a6, .ref a7, .ref a8, .ref a9, .ref a10, .int v_isSet, .ref a11, .ref a12, .ref a13, .int v_arePages, .ref a14, .ref a15, .int v_place, .ref a16, .int v_readMany])), (a1, .inl (cI, 189, .inl v_now))] → va_S A s.heap H locs → lv_has ls 4 [(0, .ref a0), (1, .int x1)] → W p l e ({ frames := 6, cells := 0, slots := 0, locals := 137 } : Room) s m args below meth c H locs 0 0 Q (F0 m 0 ls []) := by
    intro Q hret H locs ls hP hD hS hl
    refine lv_iconst (v := 0) hx hb dX8_many_0 (by decide) ?_
    refine lv_istore_n (lv' := [(2, .int (0 : Int32)), (0, .ref a0), (1, .int x1)]) hx hb dX8_many_1 rfl hl (by decide) rfl (fun ls hl => ?_)
    refine lv_iconst (v := 0) hx hb dX8_many_2 (by decide) ?_
    refine lv_istore_n (lv' := [(3, .int (0 : Int32)), (2, .int (0 : Int32)), (0, .ref a0), (1, .int x1)]) hx hb dX8_many_3 rfl hl (by decide) rfl (fun ls hl => ?_)
    have hL4 : ∀ (rr : Int32 × Int32), (∀ (z_11 : Int32) (z_12 : Int32), rr = (z_11, z_12) → ∀ (H : Heap) (locs : List Loc) (ls : Array Slot), va_P (dC, dI) vwCl [(a0, .inr (8, [.ref a1, .ref a2, .int v_acts, .ref a3, .ref a4, .int v_keptActs, .ref a5, .int v_typed, .ref a6, .ref a7, .ref a8, .ref a9, .ref a10, .int v_isSet, .ref a11, .ref a12, .ref a13, .int v_arePages, .ref a14, .ref a15, .int v_place, .ref a16, .int v_readMany])), (a1, .inl (cI, 189, .inl v_now))] H → va_D A [(a0, .inr (8, [.ref a1, .ref a2, .int v_acts, .ref a3, .ref a4, .int v_keptActs, .ref a5, .int v_typed, .ref a6, .ref a7, .ref a8, .ref a9, .ref a10, .int v_isSet, .ref a11, .ref a12, .ref a13, .int v_arePages, .ref a14, .ref a15, .int v_place, .ref a16, .int v_readMany])), (a1, .inl (cI, 189, .inl v_now))] → va_S A s.heap H locs → lv_has ls 4 [(2, .int z_11)] → W p l e ({ frames := 6, cells := 0, slots := 0, locals := 137 } : Room) s m args below meth c H locs 0 0 Q (F0 m 36 ls [])) → ∀ (n : Nat) (i2_1 : Int32) (i3_2 : Int32), loopN (p_X8_many_L4 v_now x1) n (i2_1, i3_2) = some rr → ∀ (H : Heap) (locs : List Loc) (ls : Array Slot), va_P (dC, dI) vwCl [(a0, .inr (8, [.ref a1, .ref a2, .int v_acts, .ref a3, .ref a4, .int v_keptActs, .ref a5, .int v_typed, .ref a6, .ref a7, .ref a8, .ref a9, .ref a10, .int v_isSet, .ref a11, .ref a12, .ref a13, .int v_arePages, .ref a14, .ref a15, .int v_place, .ref a16, .int v_readMany])), (a1, .inl (cI, 189, .inl v_now))] H → va_D A [(a0, .inr (8, [.ref a1, .ref a2, .int v_acts, .ref a3, .ref a4, .int v_keptActs, .ref a5, .int v_typed, .ref a6, .ref a7, .ref a8, .ref a9, .ref a10, .int v_isSet, .ref a11, .ref a12, .ref a13, .int v_arePages, .ref a14, .ref a15, .int v_place, .ref a16, .int v_readMany])), (a1, .inl (cI, 189, .inl v_now))] → va_S A s.heap H locs → lv_has ls 4 [(0, .ref a0), (1, .int x1), (2, .int i2_1), (3, .int i3_2)] → W p l e ({ frames := 6, cells := 0, slots := 0, locals := 137 } : Room) s m args below meth c H locs 0 0 Q (F0 m 4 ls []) := by
      intro rr hk4 n
      induction n with
      | zero => intro i2_1 i3_2 hf; cases hf
      | succ n ih4 =>
        intro i2_1 i3_2 hf H locs ls hP hD hS hl
        obtain ⟨o4, hf, hi, he⟩ := loopN_el hf
        rw [p_X8_many_L4] at hf
        refine lv_iload_n hx hb dX8_many_4 rfl (lv_at hl 3 rfl) ?_
        refine lv_aload_n hx hb dX8_many_5 rfl (lv_at hl 0 rfl) ?_
        refine lv_iload_n hx hb dX8_many_6 rfl (lv_at hl 1 rfl) ?_
        obtain ⟨r_3, hq4, hf⟩ := bd1_el hf
        refine mc_V (As := [.int x1]) (rest := [.int i3_2]) (wr := []) (wn := [(a0, .inr (8, [.ref a1, .ref a2, .int v_acts, .ref a3, .ref a4, .int v_keptActs, .ref a5, .int v_typed, .ref a6, .ref a7, .ref a8, .ref a9, .ref a10, .int v_isSet, .ref a11, .ref a12, .ref a13, .int v_arePages, .ref a14, .ref a15, .int v_place, .ref a16, .int v_readMany])), (a1, .inl (cI, 189, .inl v_now))]) ⟨hx, hb, hml, hown, hT⟩ (c_X8_codes l dC dI cI cJ cP cS a0 a1 a2 a3 a4 a5 a6 a7 a8 a9 a10 a11 a12 a13 a14 a15 a16 v_acts v_keptActs v_typed v_isSet v_arePages v_place v_readMany v_now x1 r_3 hq4) (cwV 1 hT (gdV q_ml_X8_98 q_im_X8_codes q_se_X8_codes q_in_X8 q_co_X8_codes) rfl rfl rfl hd_X8_codes ⟨Nat.le_of_ble_eq_true rfl, Nat.le_of_ble_eq_true rfl⟩) hK hF hP hD hS hA 0 rfl rfl rfl [0, 1] [] [0, 1] rfl (by decide) rfl (by decide) (by decide) rfl (by decide) rfl hl.1 rfl (Nat.le_of_ble_eq_true rfl) dX8_many_7 ⟨Nat.zero_le _, Nat.zero_le _⟩ (fun H locs hP hD hS => ?_)
        refine W.eq (g2 := F0 m 10 ls [.int r_3, .int i3_2]) rfl ?_
        refine lv_icmp_ge (tgt := 36) hx hb dX8_many_10 (by decide) (fun c5 => ?_) (fun c5 => ?_)
        · replace hf := it_t c5 hf
          exact hk4 _ _ (he _ (Option.some.inj hf).symm).symm H locs ls hP hD hS (lv_sub hl [2] rfl)
        · replace hf := it_f c5 hf
          refine lv_iload_n hx hb dX8_many_13 rfl (lv_at hl 2 rfl) ?_
          refine lv_aload_n hx hb dX8_many_14 rfl (lv_at hl 0 rfl) ?_
          refine lv_iload_n hx hb dX8_many_15 rfl (lv_at hl 1 rfl) ?_
          refine lv_iload_n hx hb dX8_many_16 rfl (lv_at hl 3 rfl) ?_
          obtain ⟨r_6, hq7, hf⟩ := bd1_el hf
          refine mc_V (As := [.int x1, .int i3_2]) (rest := [.int i2_1]) (wr := []) (wn := [(a0, .inr (8, [.ref a1, .ref a2, .int v_acts, .ref a3, .ref a4, .int v_keptActs, .ref a5, .int v_typed, .ref a6, .ref a7, .ref a8, .ref a9, .ref a10, .int v_isSet, .ref a11, .ref a12, .ref a13, .int v_arePages, .ref a14, .ref a15, .int v_place, .ref a16, .int v_readMany])), (a1, .inl (cI, 189, .inl v_now))]) ⟨hx, hb, hml, hown, hT⟩ (c_X8_costBy l dC dI cI cJ cP cS a0 a1 a2 a3 a4 a5 a6 a7 a8 a9 a10 a11 a12 a13 a14 a15 a16 v_acts v_keptActs v_typed v_isSet v_arePages v_place v_readMany v_now x1 i3_2 r_6 hq7) (cwV 2 hT (gdV q_ml_X8_101 q_im_X8_costBy q_se_X8_costBy q_in_X8 q_co_X8_costBy) rfl rfl rfl hd_X8_costBy ⟨Nat.le_of_ble_eq_true rfl, Nat.le_of_ble_eq_true rfl⟩) hK hF hP hD hS hA 0 rfl rfl rfl [0, 1] [] [0, 1] rfl (by decide) rfl (by decide) (by decide) rfl (by decide) rfl hl.1 rfl (Nat.le_of_ble_eq_true rfl) dX8_many_17 ⟨Nat.zero_le _, Nat.zero_le _⟩ (fun H locs hP hD hS => ?_)
          refine W.eq (g2 := F0 m 20 ls [.int r_6, .int i2_1]) rfl ?_
          refine lv_if_lt (tgt := 27) hx hb dX8_many_20 (by decide) (fun c8 => ?_) (fun c8 => ?_)
          · replace hf := it_t c8 hf
            refine lv_iconst (v := 0) hx hb dX8_many_27 (by decide) ?_
            refine lv_iadd hx hb dX8_many_28 ?_
            obtain ⟨x2_9, ex2_9, hf⟩ := nm_el hf
            refine lv_as (congrArg Value.int ex2_9) ?_
            refine lv_istore_n (lv' := [(2, .int x2_9), (0, .ref a0), (1, .int x1), (3, .int i3_2)]) hx hb dX8_many_29 rfl hl (by decide) rfl (fun ls hl => ?_)
            refine lv_iinc (v := (i3_2 + (1 : Int32))) (lv' := [(3, .int (i3_2 + (1 : Int32))), (2, .int x2_9), (0, .ref a0), (1, .int x1)]) hx hb dX8_many_30 hl (k := 3) rfl rfl (by decide) rfl (fun ls hl => ?_)
            refine lv_goto (tgt := 4) hx hb dX8_many_33 (by decide) ?_
            exact ih4 x2_9 (i3_2 + (1 : Int32)) (hi _ (Option.some.inj hf).symm) H locs ls hP hD hS (lv_sub hl [2, 3, 1, 0] rfl)
          · replace hf := it_f c8 hf
            refine lv_iconst (v := 1) hx hb dX8_many_23 (by decide) ?_
            refine lv_goto (tgt := 28) hx hb dX8_many_24 (by decide) ?_
            refine lv_iadd hx hb dX8_many_28 ?_
            obtain ⟨x2_10, ex2_10, hf⟩ := nm_el hf
            refine lv_as (congrArg Value.int ex2_10) ?_
            refine lv_istore_n (lv' := [(2, .int x2_10), (0, .ref a0), (1, .int x1), (3, .int i3_2)]) hx hb dX8_many_29 rfl hl (by decide) rfl (fun ls hl => ?_)
            refine lv_iinc (v := (i3_2 + (1 : Int32))) (lv' := [(3, .int (i3_2 + (1 : Int32))), (2, .int x2_10), (0, .ref a0), (1, .int x1)]) hx hb dX8_many_30 hl (k := 3) rfl rfl (by decide) rfl (fun ls hl => ?_)
            refine lv_goto (tgt := 4) hx hb dX8_many_33 (by decide) ?_
            exact ih4 x2_10 (i3_2 + (1 : Int32)) (hi _ (Option.some.inj hf).symm) H locs ls hP hD hS (lv_sub hl [2, 3, 1, 0] rfl)
    obtain ⟨f2_13, f3_14, hq, hf⟩ := bd2_el hf
    refine hL4 (f2_13, f3_14) (fun z_11 z_12 h9 H locs ls hP hD hS hl => ?_) fuel (0 : Int32) (0 : Int32) hq H locs ls hP hD hS (lv_sub hl [2, 3, 1, 0] rfl)
    simp only [Prod.mk.injEq] at h9
    obtain ⟨h9_0, h9_1⟩ := h9
    subst h9_0; subst h9_1
    refine lv_iload_n hx hb dX8_many_36 rfl (lv_at hl 0 rfl) ?_
    replace hf := Option.some.inj hf
    subst hf
    exact hret H locs ls _ dX8_many_37 hP hD hS
  refine key _ ?_ _ _ _ hP hD hS hl
  intro H locs ls pc d hP hD hS
  exact W.iret (v := rv) hx hb hr (fun t ht hW => ⟨⟨rfl, by rw [ht]; exact hP, hD⟩, hS.F ht⟩) hS.2.2 d
def p_X8_best_L9 (v_now : (Nat → Int32)) (x1 : Int32) (s : Int32 × Int32 × Int32) : Option ((Int32 × Int32 × Int32) ⊕ (Int32 × Int32 × Int32)) := match s with
  | (i2_1, i3_2, i4_3) => (bd1 (p_X8_codes v_now x1) fun r_4 => (if r_4 ≤ i4_3 then (some (.inr (i2_1, i3_2, i4_3))) else (bd1 (p_X8_costBy v_now x1 i4_3) fun r_7 => (if r_7 < (0 : Int32) then (some (.inl (i2_1, i3_2, (i4_3 + (1 : Int32))))) else (if i3_2 ≤ r_7 then (some (.inl (i2_1, i3_2, (i4_3 + (1 : Int32))))) else (some (.inl (i4_3, r_7, (i4_3 + (1 : Int32))))))))))
def p_X8_best (v_now : (Nat → Int32)) (x1 : Int32) : Option (Int32) :=
  (bd3 (loopN (p_X8_best_L9 v_now x1) fuel ((-4 : Int32), (1000000 : Int32), (0 : Int32))) fun f2_14 f3_15 f4_16 => (some f2_14))
set_option maxHeartbeats 4000000 in
set_option maxRecDepth 100000 in
theorem c_X8_best (l : Launch) (dC : Nat → ClassId) (dI : Nat → Nat → Nat) (cI cJ cP cS : ClassId) (a0 : Nat) (a1 : Nat) (a2 : Nat) (a3 : Nat) (a4 : Nat) (a5 : Nat) (a6 : Nat) (a7 : Nat) (a8 : Nat) (a9 : Nat) (a10 : Nat) (a11 : Nat) (a12 : Nat) (a13 : Nat) (a14 : Nat) (a15 : Nat) (a16 : Nat) (v_acts : Int32) (v_keptActs : Int32) (v_typed : Int32) (v_isSet : Int32) (v_arePages : Int32) (v_place : Int32) (v_readMany : Int32) (v_now : (Nat → Int32))  (x1 : Int32) (rv : Int32)  (hf : p_X8_best v_now x1 = some rv) : MC l (dC, dI) (tyl cI cJ cP cS) yX8_best (Cond.code yX8_best cX8_best 6 (some .int) :: TBG) ({ frames := 6, cells := 0, slots := 0, locals := 137 } : Room) [.ref a0, .int x1] [(a0, .inr (8, [.ref a1, .ref a2, .int v_acts, .ref a3, .ref a4, .int v_keptActs, .ref a5, .int v_typed, .ref a6, .ref a7, .ref a8, .ref a9, .ref a10, .int v_isSet, .ref a11, .ref a12, .ref a13, .int v_arePages, .ref a14, .ref a15, .int v_place, .ref a16, .int v_readMany])), (a1, .inl (cI, 189, .inl v_now))] [(a0, .inr (8, [.ref a1, .ref a2, .int v_acts, .ref a3, .ref a4, .int v_keptActs, .ref a5, .int v_typed, .ref a6, .ref a7, .ref a8, .ref a9, .ref a10, .int v_isSet, .ref a11, .ref a12, .ref a13, .int v_arePages, .ref a14, .ref a15, .int v_place, .ref a16, .int v_readMany])), (a1, .inl (cI, 189, .inl v_now))] (some (.int rv)) := by
  intro sz
  unfold MPost
  refine Met.ofW (cc := cX8_best) (maxL := 6) (ret := (some .int)) (by decide) rfl ?_
  intro p e s m args below meth c s₁ B hml hv
  obtain ⟨rfl, hsz, hP, hK, hD0, hF⟩ := hv
  have hx := B.exec
  have hb := B.bytes
  have hr := B.returns
  have hT : ∀ w ∈ TBG, w.before _ s = true := fun w h => atoms_spec B.pre w (List.mem_cons_of_mem _ h)
  have hown : s.vm.findClass RX8 = some m.cls := findClass_of_methodNamed B.named
  have hlocks := B.notSynchronized
  subst hsz
  have hD := hD0.self (sz := s.heap.size)
  generalize hAe : va_A [(a0, .inr (8, [.ref a1, .ref a2, .int v_acts, .ref a3, .ref a4, .int v_keptActs, .ref a5, .int v_typed, .ref a6, .ref a7, .ref a8, .ref a9, .ref a10, .int v_isSet, .ref a11, .ref a12, .ref a13, .int v_arePages, .ref a14, .ref a15, .int v_place, .ref a16, .int v_readMany])), (a1, .inl (cI, 189, .inl v_now))] s.heap.size = A at hD hF ⊢
  have hA : ∀ q : Nat, s.heap.size ≤ q → A q := fun q h => by rw [← hAe]; exact Or.inr h
  have hS : va_S A s.heap s.heap [] := va_S.rf
  have hl := lv_entry ([.ref a0, .int x1]) (n := 6) (Nat.le_of_ble_eq_true rfl)
  rw [lg_entry_eq]
  generalize (lg_sl ([.ref a0, .int x1]) ++ List.replicate (6 - (lg_sl ([.ref a0, .int x1])).length) Slot.unset).toArray = ls at hl ⊢
  have hl : lv_has ls 6 [(0, .ref a0), (1, .int x1)] := hl
  generalize ([.ref a0, .int x1] : List Value).toArray = args at hT ⊢
  have key : ∀ (Q : State → Prop), (∀ (H : Heap) (locs : List Loc) (ls : Array Slot) (pc : Nat), decode cX8_best pc = .ok (.ireturn, 1) → va_P (dC, dI) vwCl [(a0, .inr (8, [.ref a1, .ref a2, .int v_acts, .ref a3, .ref a4, .int v_keptActs, .ref a5, .int v_typed, .ref a6, .ref a7, .ref a8, .ref a9, .ref a10, .int v_isSet, .ref a11, .ref a12, .ref a13, .int v_arePages, .ref a14, .ref a15, .int v_place, .ref a16, .int v_readMany])), (a1, .inl (cI, 189, .inl v_now))] H → va_D A [(a0, .inr (8, [.ref a1, .ref a2, .int v_acts, .ref a3, .ref a4, .int v_keptActs, .ref a5, .int v_typed, .ref a6, .ref a7, .ref a8, .ref a9, .ref a10, .int v_isSet, .ref a11, .ref a12, .ref a13, .int v_arePages, .ref a14, .ref a15, .int v_place, .ref a16, .int v_readMany])), (a1, .inl (cI, 189, .inl v_now))] → va_S A s.heap H locs → W p l e ({ frames := 6, cells := 0, slots := 0, locals := 137 } : Room) s m args below meth c H locs 0 0 Q (F0 m pc ls [.int rv])) → ∀ (H : Heap) (locs : List Loc) (ls : Array Slot), va_P (dC, dI) vwCl [(a0, .inr (8, [.ref a1, .ref a2, .int v_acts, .ref a3, .ref a4, .int v_keptActs, .ref a5, .int v_typed, .ref a6, .ref a7, .ref a8, .ref a9, .ref a10, .int v_isSet, .ref a11, .ref a12, .ref a13, .int v_arePages, .ref a14, .ref a15, .int v_place, .ref a16, .int v_readMany])), (a1, .inl (cI, 189, .inl v_now))] H → va_D A [(a0, .inr (8, [.ref a1, .ref a2, .int v_acts, .ref a3, .ref a4, .int v_keptActs, .ref a5, .int v_typed, .ref a6, .ref a7, .ref a8, .ref a9, .ref a10, .int v_isSet, .ref a11, .ref a12, .ref a13, .int v_arePages, .ref a14, .ref a15, .int v_place, .ref a16, .int v_readMany])), (a1, .inl (cI, 189, .inl v_now))] → va_S A s.heap H locs → lv_has ls 6 [(0, .ref a0), (1, .int x1)] → W p l e ({ frames := 6, cells := 0, slots := 0, locals := 137 } : Room) s m args below meth c H locs 0 0 Q (F0 m 0 ls []) := by
    intro Q hret H locs ls hP hD hS hl
    refine lv_bipush (v := (-4)) hx hb dX8_best_0 (by decide) ?_
    refine lv_istore_n (lv' := [(2, .int (-4 : Int32)), (0, .ref a0), (1, .int x1)]) hx hb dX8_best_2 rfl hl (by decide) rfl (fun ls hl => ?_)
    refine lv_ldc hx hb hown (hT _ q_k_X8_104) dX8_best_3 ?_
    refine lv_istore_n (lv' := [(3, .int (1000000 : Int32)), (2, .int (-4 : Int32)), (0, .ref a0), (1, .int x1)]) hx hb dX8_best_5 rfl hl (by decide) rfl (fun ls hl => ?_)
    refine lv_iconst (v := 0) hx hb dX8_best_6 (by decide) ?_
    refine lv_istore (lv' := [(4, .int (0 : Int32)), (3, .int (1000000 : Int32)), (2, .int (-4 : Int32)), (0, .ref a0), (1, .int x1)]) hx hb dX8_best_7 hl (by decide) rfl (fun ls hl => ?_)
    have hL9 : ∀ (rr : Int32 × Int32 × Int32), (∀ (z_11 : Int32) (z_12 : Int32) (z_13 : Int32), rr = (z_11, z_12, z_13) → ∀ (H : Heap) (locs : List Loc) (ls : Array Slot), va_P (dC, dI) vwCl [(a0, .inr (8, [.ref a1, .ref a2, .int v_acts, .ref a3, .ref a4, .int v_keptActs, .ref a5, .int v_typed, .ref a6, .ref a7, .ref a8, .ref a9, .ref a10, .int v_isSet, .ref a11, .ref a12, .ref a13, .int v_arePages, .ref a14, .ref a15, .int v_place, .ref a16, .int v_readMany])), (a1, .inl (cI, 189, .inl v_now))] H → va_D A [(a0, .inr (8, [.ref a1, .ref a2, .int v_acts, .ref a3, .ref a4, .int v_keptActs, .ref a5, .int v_typed, .ref a6, .ref a7, .ref a8, .ref a9, .ref a10, .int v_isSet, .ref a11, .ref a12, .ref a13, .int v_arePages, .ref a14, .ref a15, .int v_place, .ref a16, .int v_readMany])), (a1, .inl (cI, 189, .inl v_now))] → va_S A s.heap H locs → lv_has ls 6 [(2, .int z_11)] → W p l e ({ frames := 6, cells := 0, slots := 0, locals := 137 } : Room) s m args below meth c H locs 0 0 Q (F0 m 51 ls [])) → ∀ (n : Nat) (i2_1 : Int32) (i3_2 : Int32) (i4_3 : Int32), loopN (p_X8_best_L9 v_now x1) n (i2_1, i3_2, i4_3) = some rr → ∀ (H : Heap) (locs : List Loc) (ls : Array Slot), va_P (dC, dI) vwCl [(a0, .inr (8, [.ref a1, .ref a2, .int v_acts, .ref a3, .ref a4, .int v_keptActs, .ref a5, .int v_typed, .ref a6, .ref a7, .ref a8, .ref a9, .ref a10, .int v_isSet, .ref a11, .ref a12, .ref a13, .int v_arePages, .ref a14, .ref a15, .int v_place, .ref a16, .int v_readMany])), (a1, .inl (cI, 189, .inl v_now))] H → va_D A [(a0, .inr (8, [.ref a1, .ref a2, .int v_acts, .ref a3, .ref a4, .int v_keptActs, .ref a5, .int v_typed, .ref a6, .ref a7, .ref a8, .ref a9, .ref a10, .int v_isSet, .ref a11, .ref a12, .ref a13, .int v_arePages, .ref a14, .ref a15, .int v_place, .ref a16, .int v_readMany])), (a1, .inl (cI, 189, .inl v_now))] → va_S A s.heap H locs → lv_has ls 6 [(0, .ref a0), (1, .int x1), (2, .int i2_1), (3, .int i3_2), (4, .int i4_3)] → W p l e ({ frames := 6, cells := 0, slots := 0, locals := 137 } : Room) s m args below meth c H locs 0 0 Q (F0 m 9 ls []) := by
      intro rr hk9 n
      induction n with
      | zero => intro i2_1 i3_2 i4_3 hf; cases hf
      | succ n ih9 =>
        intro i2_1 i3_2 i4_3 hf H locs ls hP hD hS hl
        obtain ⟨o9, hf, hi, he⟩ := loopN_el hf
        rw [p_X8_best_L9] at hf
        refine lv_iload hx hb dX8_best_9 (lv_at hl 4 rfl) ?_
        refine lv_aload_n hx hb dX8_best_11 rfl (lv_at hl 0 rfl) ?_
        refine lv_iload_n hx hb dX8_best_12 rfl (lv_at hl 1 rfl) ?_
        obtain ⟨r_4, hq5, hf⟩ := bd1_el hf
        refine mc_V (As := [.int x1]) (rest := [.int i4_3]) (wr := []) (wn := [(a0, .inr (8, [.ref a1, .ref a2, .int v_acts, .ref a3, .ref a4, .int v_keptActs, .ref a5, .int v_typed, .ref a6, .ref a7, .ref a8, .ref a9, .ref a10, .int v_isSet, .ref a11, .ref a12, .ref a13, .int v_arePages, .ref a14, .ref a15, .int v_place, .ref a16, .int v_readMany])), (a1, .inl (cI, 189, .inl v_now))]) ⟨hx, hb, hml, hown, hT⟩ (c_X8_codes l dC dI cI cJ cP cS a0 a1 a2 a3 a4 a5 a6 a7 a8 a9 a10 a11 a12 a13 a14 a15 a16 v_acts v_keptActs v_typed v_isSet v_arePages v_place v_readMany v_now x1 r_4 hq5) (cwV 1 hT (gdV q_ml_X8_98 q_im_X8_codes q_se_X8_codes q_in_X8 q_co_X8_codes) rfl rfl rfl hd_X8_codes ⟨Nat.le_of_ble_eq_true rfl, Nat.le_of_ble_eq_true rfl⟩) hK hF hP hD hS hA 0 rfl rfl rfl [0, 1] [] [0, 1] rfl (by decide) rfl (by decide) (by decide) rfl (by decide) rfl hl.1 rfl (Nat.le_of_ble_eq_true rfl) dX8_best_13 ⟨Nat.zero_le _, Nat.zero_le _⟩ (fun H locs hP hD hS => ?_)
        refine W.eq (g2 := F0 m 16 ls [.int r_4, .int i4_3]) rfl ?_
        refine lv_icmp_ge (tgt := 51) hx hb dX8_best_16 (by decide) (fun c6 => ?_) (fun c6 => ?_)
        · replace hf := it_t c6 hf
          exact hk9 _ _ _ (he _ (Option.some.inj hf).symm).symm H locs ls hP hD hS (lv_sub hl [2] rfl)
        · replace hf := it_f c6 hf
          refine lv_aload_n hx hb dX8_best_19 rfl (lv_at hl 0 rfl) ?_
          refine lv_iload_n hx hb dX8_best_20 rfl (lv_at hl 1 rfl) ?_
          refine lv_iload hx hb dX8_best_21 (lv_at hl 4 rfl) ?_
          obtain ⟨r_7, hq8, hf⟩ := bd1_el hf
          refine mc_V (As := [.int x1, .int i4_3]) (rest := []) (wr := []) (wn := [(a0, .inr (8, [.ref a1, .ref a2, .int v_acts, .ref a3, .ref a4, .int v_keptActs, .ref a5, .int v_typed, .ref a6, .ref a7, .ref a8, .ref a9, .ref a10, .int v_isSet, .ref a11, .ref a12, .ref a13, .int v_arePages, .ref a14, .ref a15, .int v_place, .ref a16, .int v_readMany])), (a1, .inl (cI, 189, .inl v_now))]) ⟨hx, hb, hml, hown, hT⟩ (c_X8_costBy l dC dI cI cJ cP cS a0 a1 a2 a3 a4 a5 a6 a7 a8 a9 a10 a11 a12 a13 a14 a15 a16 v_acts v_keptActs v_typed v_isSet v_arePages v_place v_readMany v_now x1 i4_3 r_7 hq8) (cwV 2 hT (gdV q_ml_X8_101 q_im_X8_costBy q_se_X8_costBy q_in_X8 q_co_X8_costBy) rfl rfl rfl hd_X8_costBy ⟨Nat.le_of_ble_eq_true rfl, Nat.le_of_ble_eq_true rfl⟩) hK hF hP hD hS hA 0 rfl rfl rfl [0, 1] [] [0, 1] rfl (by decide) rfl (by decide) (by decide) rfl (by decide) rfl hl.1 rfl (Nat.le_of_ble_eq_true rfl) dX8_best_23 ⟨Nat.zero_le _, Nat.zero_le _⟩ (fun H locs hP hD hS => ?_)
          refine W.eq (g2 := F0 m 26 ls [.int r_7]) rfl ?_
          refine lv_istore (lv' := [(5, .int r_7), (0, .ref a0), (1, .int x1), (2, .int i2_1), (3, .int i3_2), (4, .int i4_3)]) hx hb dX8_best_26 hl (by decide) rfl (fun ls hl => ?_)
          refine lv_iload hx hb dX8_best_28 (lv_at hl 0 rfl) ?_
          refine lv_if_lt (tgt := 45) hx hb dX8_best_30 (by decide) (fun c9 => ?_) (fun c9 => ?_)
          · replace hf := it_t c9 hf
            refine lv_iinc (v := (i4_3 + (1 : Int32))) (lv' := [(4, .int (i4_3 + (1 : Int32))), (5, .int r_7), (0, .ref a0), (1, .int x1), (2, .int i2_1), (3, .int i3_2)]) hx hb dX8_best_45 hl (k := 5) rfl rfl (by decide) rfl (fun ls hl => ?_)
            refine lv_goto (tgt := 9) hx hb dX8_best_48 (by decide) ?_
            exact ih9 i2_1 i3_2 (i4_3 + (1 : Int32)) (hi _ (Option.some.inj hf).symm) H locs ls hP hD hS (lv_sub hl [2, 3, 4, 5, 0] rfl)
          · replace hf := it_f c9 hf
            refine lv_iload hx hb dX8_best_33 (lv_at hl 0 rfl) ?_
            refine lv_iload_n hx hb dX8_best_35 rfl (lv_at hl 4 rfl) ?_
            refine lv_icmp_ge (tgt := 45) hx hb dX8_best_36 (by decide) (fun c10 => ?_) (fun c10 => ?_)
            · replace hf := it_t c10 hf
              refine lv_iinc (v := (i4_3 + (1 : Int32))) (lv' := [(4, .int (i4_3 + (1 : Int32))), (5, .int r_7), (0, .ref a0), (1, .int x1), (2, .int i2_1), (3, .int i3_2)]) hx hb dX8_best_45 hl (k := 5) rfl rfl (by decide) rfl (fun ls hl => ?_)
              refine lv_goto (tgt := 9) hx hb dX8_best_48 (by decide) ?_
              exact ih9 i2_1 i3_2 (i4_3 + (1 : Int32)) (hi _ (Option.some.inj hf).symm) H locs ls hP hD hS (lv_sub hl [2, 3, 4, 5, 0] rfl)
            · replace hf := it_f c10 hf
              refine lv_iload hx hb dX8_best_39 (lv_at hl 5 rfl) ?_
              refine lv_istore_n (lv' := [(2, .int i4_3), (5, .int r_7), (0, .ref a0), (1, .int x1), (3, .int i3_2), (4, .int i4_3)]) hx hb dX8_best_41 rfl hl (by decide) rfl (fun ls hl => ?_)
              refine lv_iload hx hb dX8_best_42 (lv_at hl 1 rfl) ?_
              refine lv_istore_n (lv' := [(3, .int r_7), (2, .int i4_3), (5, .int r_7), (0, .ref a0), (1, .int x1), (4, .int i4_3)]) hx hb dX8_best_44 rfl hl (by decide) rfl (fun ls hl => ?_)
              refine lv_iinc (v := (i4_3 + (1 : Int32))) (lv' := [(4, .int (i4_3 + (1 : Int32))), (3, .int r_7), (2, .int i4_3), (5, .int r_7), (0, .ref a0), (1, .int x1)]) hx hb dX8_best_45 hl (k := 5) rfl rfl (by decide) rfl (fun ls hl => ?_)
              refine lv_goto (tgt := 9) hx hb dX8_best_48 (by decide) ?_
              exact ih9 i4_3 r_7 (i4_3 + (1 : Int32)) (hi _ (Option.some.inj hf).symm) H locs ls hP hD hS (lv_sub hl [4, 5, 2, 1, 0] rfl)
    obtain ⟨f2_14, f3_15, f4_16, hq, hf⟩ := bd3_el hf
    refine hL9 (f2_14, f3_15, f4_16) (fun z_11 z_12 z_13 h9 H locs ls hP hD hS hl => ?_) fuel (-4 : Int32) (1000000 : Int32) (0 : Int32) hq H locs ls hP hD hS (lv_sub hl [3, 4, 2, 1, 0] rfl)
    simp only [Prod.mk.injEq] at h9
    obtain ⟨h9_0, h9_1, h9_2⟩ := h9
    subst h9_0; subst h9_1; subst h9_2
    refine lv_iload_n hx hb dX8_best_51 rfl (lv_at hl 0 rfl) ?_
    replace hf := Option.some.inj hf
    subst hf
    exact hret H locs ls _ dX8_best_52 hP hD hS
  refine key _ ?_ _ _ _ hP hD hS hl
  intro H locs ls pc d hP hD hS
  exact W.iret (v := rv) hx hb hr (fun t ht hW => ⟨⟨rfl, by rw [ht]; exact hP, hD⟩, hS.F ht⟩) hS.2.2 d
def p_X8_ones_L4  (s : Int32 × Int32) : Option ((Int32 × Int32) ⊕ (Int32 × Int32)) := match s with
  | (i1_1, i2_2) => (if i2_2 = (0 : Int32) then (some (.inr (i1_1, i2_2))) else (nm (i2_2 &&& (i2_2 - (1 : Int32))) fun x2_4 => (some (.inl ((i1_1 + (1 : Int32)), x2_4)))))
def p_X8_ones (x0 : Int32) : Option (Int32) :=
  (bd2 (loopN (p_X8_ones_L4) fuel ((0 : Int32), x0)) fun f1_7 f2_8 => (some f1_7))
set_option maxHeartbeats 4000000 in
set_option maxRecDepth 100000 in
theorem c_X8_ones (l : Launch) (dC : Nat → ClassId) (dI : Nat → Nat → Nat) (cI cJ cP cS : ClassId)    (x0 : Int32) (rv : Int32)  (hf : p_X8_ones x0 = some rv) : MC l (dC, dI) (tyl cI cJ cP cS) yX8_ones (Cond.code yX8_ones cX8_ones 3 (some .int) :: TBG) ({ frames := 0, cells := 0, slots := 0, locals := 0 } : Room) [.int x0] [] [] (some (.int rv)) := by
  intro sz
  unfold MPost
  refine Met.ofW (cc := cX8_ones) (maxL := 3) (ret := (some .int)) (by decide) rfl ?_
  intro p e s m args below meth c s₁ B hml hv
  obtain ⟨rfl, hsz, hP, hK, hD0, hF⟩ := hv
  have hx := B.exec
  have hb := B.bytes
  have hr := B.returns
  have hT : ∀ w ∈ TBG, w.before _ s = true := fun w h => atoms_spec B.pre w (List.mem_cons_of_mem _ h)
  have hown : s.vm.findClass RX8 = some m.cls := findClass_of_methodNamed B.named
  have hlocks := B.notSynchronized
  subst hsz
  have hD := hD0.self (sz := s.heap.size)
  generalize hAe : va_A [] s.heap.size = A at hD hF ⊢
  have hA : ∀ q : Nat, s.heap.size ≤ q → A q := fun q h => by rw [← hAe]; exact Or.inr h
  have hS : va_S A s.heap s.heap [] := va_S.rf
  have hl := lv_entry ([.int x0]) (n := 3) (Nat.le_of_ble_eq_true rfl)
  rw [lg_entry_eq]
  generalize (lg_sl ([.int x0]) ++ List.replicate (3 - (lg_sl ([.int x0])).length) Slot.unset).toArray = ls at hl ⊢
  have hl : lv_has ls 3 [(0, .int x0)] := hl
  generalize ([.int x0] : List Value).toArray = args at hT ⊢
  have key : ∀ (Q : State → Prop), (∀ (H : Heap) (locs : List Loc) (ls : Array Slot) (pc : Nat), decode cX8_ones pc = .ok (.ireturn, 1) → va_P (dC, dI) vwCl [] H → va_D A [] → va_S A s.heap H locs → W p l e ({ frames := 0, cells := 0, slots := 0, locals := 0 } : Room) s m args below meth c H locs 0 0 Q (F0 m pc ls [.int rv])) → ∀ (H : Heap) (locs : List Loc) (ls : Array Slot), va_P (dC, dI) vwCl [] H → va_D A [] → va_S A s.heap H locs → lv_has ls 3 [(0, .int x0)] → W p l e ({ frames := 0, cells := 0, slots := 0, locals := 0 } : Room) s m args below meth c H locs 0 0 Q (F0 m 0 ls []) := by
    intro Q hret H locs ls hP hD hS hl
    refine lv_iconst (v := 0) hx hb dX8_ones_0 (by decide) ?_
    refine lv_istore_n (lv' := [(1, .int (0 : Int32)), (0, .int x0)]) hx hb dX8_ones_1 rfl hl (by decide) rfl (fun ls hl => ?_)
    refine lv_iload_n hx hb dX8_ones_2 rfl (lv_at hl 1 rfl) ?_
    refine lv_istore_n (lv' := [(2, .int x0), (1, .int (0 : Int32)), (0, .int x0)]) hx hb dX8_ones_3 rfl hl (by decide) rfl (fun ls hl => ?_)
    have hL4 : ∀ (rr : Int32 × Int32), (∀ (z_5 : Int32) (z_6 : Int32), rr = (z_5, z_6) → ∀ (H : Heap) (locs : List Loc) (ls : Array Slot), va_P (dC, dI) vwCl [] H → va_D A [] → va_S A s.heap H locs → lv_has ls 3 [(1, .int z_5)] → W p l e ({ frames := 0, cells := 0, slots := 0, locals := 0 } : Room) s m args below meth c H locs 0 0 Q (F0 m 20 ls [])) → ∀ (n : Nat) (i1_1 : Int32) (i2_2 : Int32), loopN (p_X8_ones_L4) n (i1_1, i2_2) = some rr → ∀ (H : Heap) (locs : List Loc) (ls : Array Slot), va_P (dC, dI) vwCl [] H → va_D A [] → va_S A s.heap H locs → lv_has ls 3 [(1, .int i1_1), (2, .int i2_2)] → W p l e ({ frames := 0, cells := 0, slots := 0, locals := 0 } : Room) s m args below meth c H locs 0 0 Q (F0 m 4 ls []) := by
      intro rr hk4 n
      induction n with
      | zero => intro i1_1 i2_2 hf; cases hf
      | succ n ih4 =>
        intro i1_1 i2_2 hf H locs ls hP hD hS hl
        obtain ⟨o4, hf, hi, he⟩ := loopN_el hf
        refine lv_iload_n hx hb dX8_ones_4 rfl (lv_at hl 1 rfl) ?_
        refine lv_if_eq (tgt := 20) hx hb dX8_ones_5 (by decide) (fun c3 => ?_) (fun c3 => ?_)
        · replace hf := it_t c3 hf
          exact hk4 _ _ (he _ (Option.some.inj hf).symm).symm H locs ls hP hD hS (lv_sub hl [0] rfl)
        · replace hf := it_f c3 hf
          refine lv_iinc (v := (i1_1 + (1 : Int32))) (lv' := [(1, .int (i1_1 + (1 : Int32))), (2, .int i2_2)]) hx hb dX8_ones_8 hl (k := 0) rfl rfl (by decide) rfl (fun ls hl => ?_)
          refine lv_iload_n hx hb dX8_ones_11 rfl (lv_at hl 1 rfl) ?_
          refine lv_iload_n hx hb dX8_ones_12 rfl (lv_at hl 1 rfl) ?_
          refine lv_iconst (v := 1) hx hb dX8_ones_13 (by decide) ?_
          refine lv_isub hx hb dX8_ones_14 ?_
          refine lv_iand hx hb dX8_ones_15 ?_
          obtain ⟨x2_4, ex2_4, hf⟩ := nm_el hf
          refine lv_as (congrArg Value.int ex2_4) ?_
          refine lv_istore_n (lv' := [(2, .int x2_4), (1, .int (i1_1 + (1 : Int32)))]) hx hb dX8_ones_16 rfl hl (by decide) rfl (fun ls hl => ?_)
          refine lv_goto (tgt := 4) hx hb dX8_ones_17 (by decide) ?_
          exact ih4 (i1_1 + (1 : Int32)) x2_4 (hi _ (Option.some.inj hf).symm) H locs ls hP hD hS (lv_sub hl [1, 0] rfl)
    obtain ⟨f1_7, f2_8, hq, hf⟩ := bd2_el hf
    refine hL4 (f1_7, f2_8) (fun z_5 z_6 h9 H locs ls hP hD hS hl => ?_) fuel (0 : Int32) x0 hq H locs ls hP hD hS (lv_sub hl [1, 0] rfl)
    simp only [Prod.mk.injEq] at h9
    obtain ⟨h9_0, h9_1⟩ := h9
    subst h9_0; subst h9_1
    refine lv_iload_n hx hb dX8_ones_20 rfl (lv_at hl 0 rfl) ?_
    replace hf := Option.some.inj hf
    subst hf
    exact hret H locs ls _ dX8_ones_21 hP hD hS
  refine key _ ?_ _ _ _ hP hD hS hl
  intro H locs ls pc d hP hD hS
  exact W.iret (v := rv) hx hb hr (fun t ht hW => ⟨⟨rfl, by rw [ht]; exact hP, hD⟩, hS.F ht⟩) hS.2.2 d
def p_X8_rowsOf (v_now : (Nat → Int32)) (x1 : Int32) : Option (Int32) :=
  (bd1 (p_X8_best v_now x1) fun r_1 => (if (0 : Int32) ≤ r_1 then (bd1 (p_X8_best v_now x1) fun r_4 => (bd1 (p_X8_ones r_4) fun r_6 => (some ((1 : Int32) + r_6)))) else (some (-4 : Int32))))
set_option maxHeartbeats 4000000 in
set_option maxRecDepth 100000 in
theorem c_X8_rowsOf (l : Launch) (dC : Nat → ClassId) (dI : Nat → Nat → Nat) (cI cJ cP cS : ClassId) (a0 : Nat) (a1 : Nat) (a2 : Nat) (a3 : Nat) (a4 : Nat) (a5 : Nat) (a6 : Nat) (a7 : Nat) (a8 : Nat) (a9 : Nat) (a10 : Nat) (a11 : Nat) (a12 : Nat) (a13 : Nat) (a14 : Nat) (a15 : Nat) (a16 : Nat) (v_acts : Int32) (v_keptActs : Int32) (v_typed : Int32) (v_isSet : Int32) (v_arePages : Int32) (v_place : Int32) (v_readMany : Int32) (v_now : (Nat → Int32))  (x1 : Int32) (rv : Int32)  (hf : p_X8_rowsOf v_now x1 = some rv) : MC l (dC, dI) (tyl cI cJ cP cS) yX8_rowsOf (Cond.code yX8_rowsOf cX8_rowsOf 2 (some .int) :: TBG) ({ frames := 7, cells := 0, slots := 0, locals := 162 } : Room) [.ref a0, .int x1] [(a0, .inr (8, [.ref a1, .ref a2, .int v_acts, .ref a3, .ref a4, .int v_keptActs, .ref a5, .int v_typed, .ref a6, .ref a7, .ref a8, .ref a9, .ref a10, .int v_isSet, .ref a11, .ref a12, .ref a13, .int v_arePages, .ref a14, .ref a15, .int v_place, .ref a16, .int v_readMany])), (a1, .inl (cI, 189, .inl v_now))] [(a0, .inr (8, [.ref a1, .ref a2, .int v_acts, .ref a3, .ref a4, .int v_keptActs, .ref a5, .int v_typed, .ref a6, .ref a7, .ref a8, .ref a9, .ref a10, .int v_isSet, .ref a11, .ref a12, .ref a13, .int v_arePages, .ref a14, .ref a15, .int v_place, .ref a16, .int v_readMany])), (a1, .inl (cI, 189, .inl v_now))] (some (.int rv)) := by
  intro sz
  unfold MPost
  refine Met.ofW (cc := cX8_rowsOf) (maxL := 2) (ret := (some .int)) (by decide) rfl ?_
  intro p e s m args below meth c s₁ B hml hv
  obtain ⟨rfl, hsz, hP, hK, hD0, hF⟩ := hv
  have hx := B.exec
  have hb := B.bytes
  have hr := B.returns
  have hT : ∀ w ∈ TBG, w.before _ s = true := fun w h => atoms_spec B.pre w (List.mem_cons_of_mem _ h)
  have hown : s.vm.findClass RX8 = some m.cls := findClass_of_methodNamed B.named
  have hlocks := B.notSynchronized
  subst hsz
  have hD := hD0.self (sz := s.heap.size)
  generalize hAe : va_A [(a0, .inr (8, [.ref a1, .ref a2, .int v_acts, .ref a3, .ref a4, .int v_keptActs, .ref a5, .int v_typed, .ref a6, .ref a7, .ref a8, .ref a9, .ref a10, .int v_isSet, .ref a11, .ref a12, .ref a13, .int v_arePages, .ref a14, .ref a15, .int v_place, .ref a16, .int v_readMany])), (a1, .inl (cI, 189, .inl v_now))] s.heap.size = A at hD hF ⊢
  have hA : ∀ q : Nat, s.heap.size ≤ q → A q := fun q h => by rw [← hAe]; exact Or.inr h
  have hS : va_S A s.heap s.heap [] := va_S.rf
  have hl := lv_entry ([.ref a0, .int x1]) (n := 2) (Nat.le_of_ble_eq_true rfl)
  rw [lg_entry_eq]
  generalize (lg_sl ([.ref a0, .int x1]) ++ List.replicate (2 - (lg_sl ([.ref a0, .int x1])).length) Slot.unset).toArray = ls at hl ⊢
  have hl : lv_has ls 2 [(0, .ref a0), (1, .int x1)] := hl
  generalize ([.ref a0, .int x1] : List Value).toArray = args at hT ⊢
  have key : ∀ (Q : State → Prop), (∀ (H : Heap) (locs : List Loc) (ls : Array Slot) (pc : Nat), decode cX8_rowsOf pc = .ok (.ireturn, 1) → va_P (dC, dI) vwCl [(a0, .inr (8, [.ref a1, .ref a2, .int v_acts, .ref a3, .ref a4, .int v_keptActs, .ref a5, .int v_typed, .ref a6, .ref a7, .ref a8, .ref a9, .ref a10, .int v_isSet, .ref a11, .ref a12, .ref a13, .int v_arePages, .ref a14, .ref a15, .int v_place, .ref a16, .int v_readMany])), (a1, .inl (cI, 189, .inl v_now))] H → va_D A [(a0, .inr (8, [.ref a1, .ref a2, .int v_acts, .ref a3, .ref a4, .int v_keptActs, .ref a5, .int v_typed, .ref a6, .ref a7, .ref a8, .ref a9, .ref a10, .int v_isSet, .ref a11, .ref a12, .ref a13, .int v_arePages, .ref a14, .ref a15, .int v_place, .ref a16, .int v_readMany])), (a1, .inl (cI, 189, .inl v_now))] → va_S A s.heap H locs → W p l e ({ frames := 7, cells := 0, slots := 0, locals := 162 } : Room) s m args below meth c H locs 0 0 Q (F0 m pc ls [.int rv])) → ∀ (H : Heap) (locs : List Loc) (ls : Array Slot), va_P (dC, dI) vwCl [(a0, .inr (8, [.ref a1, .ref a2, .int v_acts, .ref a3, .ref a4, .int v_keptActs, .ref a5, .int v_typed, .ref a6, .ref a7, .ref a8, .ref a9, .ref a10, .int v_isSet, .ref a11, .ref a12, .ref a13, .int v_arePages, .ref a14, .ref a15, .int v_place, .ref a16, .int v_readMany])), (a1, .inl (cI, 189, .inl v_now))] H → va_D A [(a0, .inr (8, [.ref a1, .ref a2, .int v_acts, .ref a3, .ref a4, .int v_keptActs, .ref a5, .int v_typed, .ref a6, .ref a7, .ref a8, .ref a9, .ref a10, .int v_isSet, .ref a11, .ref a12, .ref a13, .int v_arePages, .ref a14, .ref a15, .int v_place, .ref a16, .int v_readMany])), (a1, .inl (cI, 189, .inl v_now))] → va_S A s.heap H locs → lv_has ls 2 [(0, .ref a0), (1, .int x1)] → W p l e ({ frames := 7, cells := 0, slots := 0, locals := 162 } : Room) s m args below meth c H locs 0 0 Q (F0 m 0 ls []) := by
    intro Q hret H locs ls hP hD hS hl
    refine lv_aload_n hx hb dX8_rowsOf_0 rfl (lv_at hl 0 rfl) ?_
    refine lv_iload_n hx hb dX8_rowsOf_1 rfl (lv_at hl 1 rfl) ?_
    obtain ⟨r_1, hq2, hf⟩ := bd1_el hf
    refine mc_V (As := [.int x1]) (rest := []) (wr := []) (wn := [(a0, .inr (8, [.ref a1, .ref a2, .int v_acts, .ref a3, .ref a4, .int v_keptActs, .ref a5, .int v_typed, .ref a6, .ref a7, .ref a8, .ref a9, .ref a10, .int v_isSet, .ref a11, .ref a12, .ref a13, .int v_arePages, .ref a14, .ref a15, .int v_place, .ref a16, .int v_readMany])), (a1, .inl (cI, 189, .inl v_now))]) ⟨hx, hb, hml, hown, hT⟩ (c_X8_best l dC dI cI cJ cP cS a0 a1 a2 a3 a4 a5 a6 a7 a8 a9 a10 a11 a12 a13 a14 a15 a16 v_acts v_keptActs v_typed v_isSet v_arePages v_place v_readMany v_now x1 r_1 hq2) (cwV 1 hT (gdV q_ml_X8_105 q_im_X8_best q_se_X8_best q_in_X8 q_co_X8_best) rfl rfl rfl hd_X8_best ⟨Nat.le_of_ble_eq_true rfl, Nat.le_of_ble_eq_true rfl⟩) hK hF hP hD hS hA 0 rfl rfl rfl [0, 1] [] [0, 1] rfl (by decide) rfl (by decide) (by decide) rfl (by decide) rfl hl.1 rfl (Nat.le_of_ble_eq_true rfl) dX8_rowsOf_2 ⟨Nat.zero_le _, Nat.zero_le _⟩ (fun H locs hP hD hS => ?_)
    refine W.eq (g2 := F0 m 5 ls [.int r_1]) rfl ?_
    refine lv_if_ge (tgt := 13) hx hb dX8_rowsOf_5 (by decide) (fun c3 => ?_) (fun c3 => ?_)
    · replace hf := it_t c3 hf
      refine lv_iconst (v := 1) hx hb dX8_rowsOf_13 (by decide) ?_
      refine lv_aload_n hx hb dX8_rowsOf_14 rfl (lv_at hl 0 rfl) ?_
      refine lv_iload_n hx hb dX8_rowsOf_15 rfl (lv_at hl 1 rfl) ?_
      obtain ⟨r_4, hq5, hf⟩ := bd1_el hf
      refine mc_V (As := [.int x1]) (rest := [.int (1 : Int32)]) (wr := []) (wn := [(a0, .inr (8, [.ref a1, .ref a2, .int v_acts, .ref a3, .ref a4, .int v_keptActs, .ref a5, .int v_typed, .ref a6, .ref a7, .ref a8, .ref a9, .ref a10, .int v_isSet, .ref a11, .ref a12, .ref a13, .int v_arePages, .ref a14, .ref a15, .int v_place, .ref a16, .int v_readMany])), (a1, .inl (cI, 189, .inl v_now))]) ⟨hx, hb, hml, hown, hT⟩ (c_X8_best l dC dI cI cJ cP cS a0 a1 a2 a3 a4 a5 a6 a7 a8 a9 a10 a11 a12 a13 a14 a15 a16 v_acts v_keptActs v_typed v_isSet v_arePages v_place v_readMany v_now x1 r_4 hq5) (cwV 1 hT (gdV q_ml_X8_105 q_im_X8_best q_se_X8_best q_in_X8 q_co_X8_best) rfl rfl rfl hd_X8_best ⟨Nat.le_of_ble_eq_true rfl, Nat.le_of_ble_eq_true rfl⟩) hK hF hP hD hS hA 0 rfl rfl rfl [0, 1] [] [0, 1] rfl (by decide) rfl (by decide) (by decide) rfl (by decide) rfl hl.1 rfl (Nat.le_of_ble_eq_true rfl) dX8_rowsOf_16 ⟨Nat.zero_le _, Nat.zero_le _⟩ (fun H locs hP hD hS => ?_)
      refine W.eq (g2 := F0 m 19 ls [.int r_4, .int (1 : Int32)]) rfl ?_
      obtain ⟨r_6, hq7, hf⟩ := bd1_el hf
      refine mc_S (As := [.int r_4]) (rest := [.int (1 : Int32)]) (wr := [(a0, .inr (8, [.ref a1, .ref a2, .int v_acts, .ref a3, .ref a4, .int v_keptActs, .ref a5, .int v_typed, .ref a6, .ref a7, .ref a8, .ref a9, .ref a10, .int v_isSet, .ref a11, .ref a12, .ref a13, .int v_arePages, .ref a14, .ref a15, .int v_place, .ref a16, .int v_readMany])), (a1, .inl (cI, 189, .inl v_now))]) (wn := [(a0, .inr (8, [.ref a1, .ref a2, .int v_acts, .ref a3, .ref a4, .int v_keptActs, .ref a5, .int v_typed, .ref a6, .ref a7, .ref a8, .ref a9, .ref a10, .int v_isSet, .ref a11, .ref a12, .ref a13, .int v_arePages, .ref a14, .ref a15, .int v_place, .ref a16, .int v_readMany])), (a1, .inl (cI, 189, .inl v_now))]) ⟨hx, hb, hml, hown, hT⟩ (c_X8_ones l dC dI cI cJ cP cS r_4 r_6 hq7) (va_cwS 1 hT (gdS q_ml_X8_108 q_st_X8_ones q_in_X8 q_co_X8_ones) rfl rfl rfl hd_X8_ones ⟨Nat.le_of_ble_eq_true rfl, Nat.le_of_ble_eq_true rfl⟩) hK hF hP hD hS hA [] [0, 1] [0, 1] rfl (by decide) rfl (by decide) (by decide) rfl (by decide) rfl hl.1 rfl (Nat.le_of_ble_eq_true rfl) dX8_rowsOf_19 ⟨Nat.zero_le _, Nat.zero_le _⟩ (fun H locs hP hD hS => ?_)
      refine W.eq (g2 := F0 m 22 ls [.int r_6, .int (1 : Int32)]) rfl ?_
      refine lv_iadd hx hb dX8_rowsOf_22 ?_
      replace hf := Option.some.inj hf
      subst hf
      exact hret H locs ls _ dX8_rowsOf_23 hP hD hS
    · replace hf := it_f c3 hf
      refine lv_bipush (v := (-4)) hx hb dX8_rowsOf_8 (by decide) ?_
      refine lv_goto (tgt := 23) hx hb dX8_rowsOf_10 (by decide) ?_
      replace hf := Option.some.inj hf
      subst hf
      exact hret H locs ls _ dX8_rowsOf_23 hP hD hS
  refine key _ ?_ _ _ _ hP hD hS hl
  intro H locs ls pc d hP hD hS
  exact W.iret (v := rv) hx hb hr (fun t ht hW => ⟨⟨rfl, by rw [ht]; exact hP, hD⟩, hS.F ht⟩) hS.2.2 d
def p_X8_costOf (v_now : (Nat → Int32)) (x1 : Int32) : Option (Int32) :=
  (bd1 (p_X8_best v_now x1) fun r_1 => (if (0 : Int32) ≤ r_1 then (bd1 (p_X8_best v_now x1) fun r_4 => (bd1 (p_X8_costBy v_now x1 r_4) fun r_6 => (some r_6))) else (some (-4 : Int32))))
set_option maxHeartbeats 4000000 in
set_option maxRecDepth 100000 in
theorem c_X8_costOf (l : Launch) (dC : Nat → ClassId) (dI : Nat → Nat → Nat) (cI cJ cP cS : ClassId) (a0 : Nat) (a1 : Nat) (a2 : Nat) (a3 : Nat) (a4 : Nat) (a5 : Nat) (a6 : Nat) (a7 : Nat) (a8 : Nat) (a9 : Nat) (a10 : Nat) (a11 : Nat) (a12 : Nat) (a13 : Nat) (a14 : Nat) (a15 : Nat) (a16 : Nat) (v_acts : Int32) (v_keptActs : Int32) (v_typed : Int32) (v_isSet : Int32) (v_arePages : Int32) (v_place : Int32) (v_readMany : Int32) (v_now : (Nat → Int32))  (x1 : Int32) (rv : Int32)  (hf : p_X8_costOf v_now x1 = some rv) : MC l (dC, dI) (tyl cI cJ cP cS) yX8_costOf (Cond.code yX8_costOf cX8_costOf 2 (some .int) :: TBG) ({ frames := 7, cells := 0, slots := 0, locals := 162 } : Room) [.ref a0, .int x1] [(a0, .inr (8, [.ref a1, .ref a2, .int v_acts, .ref a3, .ref a4, .int v_keptActs, .ref a5, .int v_typed, .ref a6, .ref a7, .ref a8, .ref a9, .ref a10, .int v_isSet, .ref a11, .ref a12, .ref a13, .int v_arePages, .ref a14, .ref a15, .int v_place, .ref a16, .int v_readMany])), (a1, .inl (cI, 189, .inl v_now))] [(a0, .inr (8, [.ref a1, .ref a2, .int v_acts, .ref a3, .ref a4, .int v_keptActs, .ref a5, .int v_typed, .ref a6, .ref a7, .ref a8, .ref a9, .ref a10, .int v_isSet, .ref a11, .ref a12, .ref a13, .int v_arePages, .ref a14, .ref a15, .int v_place, .ref a16, .int v_readMany])), (a1, .inl (cI, 189, .inl v_now))] (some (.int rv)) := by
  intro sz
  unfold MPost
  refine Met.ofW (cc := cX8_costOf) (maxL := 2) (ret := (some .int)) (by decide) rfl ?_
  intro p e s m args below meth c s₁ B hml hv
  obtain ⟨rfl, hsz, hP, hK, hD0, hF⟩ := hv
  have hx := B.exec
  have hb := B.bytes
  have hr := B.returns
  have hT : ∀ w ∈ TBG, w.before _ s = true := fun w h => atoms_spec B.pre w (List.mem_cons_of_mem _ h)
  have hown : s.vm.findClass RX8 = some m.cls := findClass_of_methodNamed B.named
  have hlocks := B.notSynchronized
  subst hsz
  have hD := hD0.self (sz := s.heap.size)
  generalize hAe : va_A [(a0, .inr (8, [.ref a1, .ref a2, .int v_acts, .ref a3, .ref a4, .int v_keptActs, .ref a5, .int v_typed, .ref a6, .ref a7, .ref a8, .ref a9, .ref a10, .int v_isSet, .ref a11, .ref a12, .ref a13, .int v_arePages, .ref a14, .ref a15, .int v_place, .ref a16, .int v_readMany])), (a1, .inl (cI, 189, .inl v_now))] s.heap.size = A at hD hF ⊢
  have hA : ∀ q : Nat, s.heap.size ≤ q → A q := fun q h => by rw [← hAe]; exact Or.inr h
  have hS : va_S A s.heap s.heap [] := va_S.rf
  have hl := lv_entry ([.ref a0, .int x1]) (n := 2) (Nat.le_of_ble_eq_true rfl)
  rw [lg_entry_eq]
  generalize (lg_sl ([.ref a0, .int x1]) ++ List.replicate (2 - (lg_sl ([.ref a0, .int x1])).length) Slot.unset).toArray = ls at hl ⊢
  have hl : lv_has ls 2 [(0, .ref a0), (1, .int x1)] := hl
  generalize ([.ref a0, .int x1] : List Value).toArray = args at hT ⊢
  have key : ∀ (Q : State → Prop), (∀ (H : Heap) (locs : List Loc) (ls : Array Slot) (pc : Nat), decode cX8_costOf pc = .ok (.ireturn, 1) → va_P (dC, dI) vwCl [(a0, .inr (8, [.ref a1, .ref a2, .int v_acts, .ref a3, .ref a4, .int v_keptActs, .ref a5, .int v_typed, .ref a6, .ref a7, .ref a8, .ref a9, .ref a10, .int v_isSet, .ref a11, .ref a12, .ref a13, .int v_arePages, .ref a14, .ref a15, .int v_place, .ref a16, .int v_readMany])), (a1, .inl (cI, 189, .inl v_now))] H → va_D A [(a0, .inr (8, [.ref a1, .ref a2, .int v_acts, .ref a3, .ref a4, .int v_keptActs, .ref a5, .int v_typed, .ref a6, .ref a7, .ref a8, .ref a9, .ref a10, .int v_isSet, .ref a11, .ref a12, .ref a13, .int v_arePages, .ref a14, .ref a15, .int v_place, .ref a16, .int v_readMany])), (a1, .inl (cI, 189, .inl v_now))] → va_S A s.heap H locs → W p l e ({ frames := 7, cells := 0, slots := 0, locals := 162 } : Room) s m args below meth c H locs 0 0 Q (F0 m pc ls [.int rv])) → ∀ (H : Heap) (locs : List Loc) (ls : Array Slot), va_P (dC, dI) vwCl [(a0, .inr (8, [.ref a1, .ref a2, .int v_acts, .ref a3, .ref a4, .int v_keptActs, .ref a5, .int v_typed, .ref a6, .ref a7, .ref a8, .ref a9, .ref a10, .int v_isSet, .ref a11, .ref a12, .ref a13, .int v_arePages, .ref a14, .ref a15, .int v_place, .ref a16, .int v_readMany])), (a1, .inl (cI, 189, .inl v_now))] H → va_D A [(a0, .inr (8, [.ref a1, .ref a2, .int v_acts, .ref a3, .ref a4, .int v_keptActs, .ref a5, .int v_typed, .ref a6, .ref a7, .ref a8, .ref a9, .ref a10, .int v_isSet, .ref a11, .ref a12, .ref a13, .int v_arePages, .ref a14, .ref a15, .int v_place, .ref a16, .int v_readMany])), (a1, .inl (cI, 189, .inl v_now))] → va_S A s.heap H locs → lv_has ls 2 [(0, .ref a0), (1, .int x1)] → W p l e ({ frames := 7, cells := 0, slots := 0, locals := 162 } : Room) s m args below meth c H locs 0 0 Q (F0 m 0 ls []) := by
    intro Q hret H locs ls hP hD hS hl
    refine lv_aload_n hx hb dX8_costOf_0 rfl (lv_at hl 0 rfl) ?_
    refine lv_iload_n hx hb dX8_costOf_1 rfl (lv_at hl 1 rfl) ?_
    obtain ⟨r_1, hq2, hf⟩ := bd1_el hf
    refine mc_V (As := [.int x1]) (rest := []) (wr := []) (wn := [(a0, .inr (8, [.ref a1, .ref a2, .int v_acts, .ref a3, .ref a4, .int v_keptActs, .ref a5, .int v_typed, .ref a6, .ref a7, .ref a8, .ref a9, .ref a10, .int v_isSet, .ref a11, .ref a12, .ref a13, .int v_arePages, .ref a14, .ref a15, .int v_place, .ref a16, .int v_readMany])), (a1, .inl (cI, 189, .inl v_now))]) ⟨hx, hb, hml, hown, hT⟩ (c_X8_best l dC dI cI cJ cP cS a0 a1 a2 a3 a4 a5 a6 a7 a8 a9 a10 a11 a12 a13 a14 a15 a16 v_acts v_keptActs v_typed v_isSet v_arePages v_place v_readMany v_now x1 r_1 hq2) (cwV 1 hT (gdV q_ml_X8_105 q_im_X8_best q_se_X8_best q_in_X8 q_co_X8_best) rfl rfl rfl hd_X8_best ⟨Nat.le_of_ble_eq_true rfl, Nat.le_of_ble_eq_true rfl⟩) hK hF hP hD hS hA 0 rfl rfl rfl [0, 1] [] [0, 1] rfl (by decide) rfl (by decide) (by decide) rfl (by decide) rfl hl.1 rfl (Nat.le_of_ble_eq_true rfl) dX8_costOf_2 ⟨Nat.zero_le _, Nat.zero_le _⟩ (fun H locs hP hD hS => ?_)
    refine W.eq (g2 := F0 m 5 ls [.int r_1]) rfl ?_
    refine lv_if_ge (tgt := 13) hx hb dX8_costOf_5 (by decide) (fun c3 => ?_) (fun c3 => ?_)
    · replace hf := it_t c3 hf
      refine lv_aload_n hx hb dX8_costOf_13 rfl (lv_at hl 0 rfl) ?_
      refine lv_iload_n hx hb dX8_costOf_14 rfl (lv_at hl 1 rfl) ?_
      refine lv_aload_n hx hb dX8_costOf_15 rfl (lv_at hl 0 rfl) ?_
      refine lv_iload_n hx hb dX8_costOf_16 rfl (lv_at hl 1 rfl) ?_
      obtain ⟨r_4, hq5, hf⟩ := bd1_el hf
      refine mc_V (As := [.int x1]) (rest := [.int x1, .ref a0]) (wr := []) (wn := [(a0, .inr (8, [.ref a1, .ref a2, .int v_acts, .ref a3, .ref a4, .int v_keptActs, .ref a5, .int v_typed, .ref a6, .ref a7, .ref a8, .ref a9, .ref a10, .int v_isSet, .ref a11, .ref a12, .ref a13, .int v_arePages, .ref a14, .ref a15, .int v_place, .ref a16, .int v_readMany])), (a1, .inl (cI, 189, .inl v_now))]) ⟨hx, hb, hml, hown, hT⟩ (c_X8_best l dC dI cI cJ cP cS a0 a1 a2 a3 a4 a5 a6 a7 a8 a9 a10 a11 a12 a13 a14 a15 a16 v_acts v_keptActs v_typed v_isSet v_arePages v_place v_readMany v_now x1 r_4 hq5) (cwV 1 hT (gdV q_ml_X8_105 q_im_X8_best q_se_X8_best q_in_X8 q_co_X8_best) rfl rfl rfl hd_X8_best ⟨Nat.le_of_ble_eq_true rfl, Nat.le_of_ble_eq_true rfl⟩) hK hF hP hD hS hA 0 rfl rfl rfl [0, 1] [] [0, 1] rfl (by decide) rfl (by decide) (by decide) rfl (by decide) rfl hl.1 rfl (Nat.le_of_ble_eq_true rfl) dX8_costOf_17 ⟨Nat.zero_le _, Nat.zero_le _⟩ (fun H locs hP hD hS => ?_)
      refine W.eq (g2 := F0 m 20 ls [.int r_4, .int x1, .ref a0]) rfl ?_
      obtain ⟨r_6, hq7, hf⟩ := bd1_el hf
      refine mc_V (As := [.int x1, .int r_4]) (rest := []) (wr := []) (wn := [(a0, .inr (8, [.ref a1, .ref a2, .int v_acts, .ref a3, .ref a4, .int v_keptActs, .ref a5, .int v_typed, .ref a6, .ref a7, .ref a8, .ref a9, .ref a10, .int v_isSet, .ref a11, .ref a12, .ref a13, .int v_arePages, .ref a14, .ref a15, .int v_place, .ref a16, .int v_readMany])), (a1, .inl (cI, 189, .inl v_now))]) ⟨hx, hb, hml, hown, hT⟩ (c_X8_costBy l dC dI cI cJ cP cS a0 a1 a2 a3 a4 a5 a6 a7 a8 a9 a10 a11 a12 a13 a14 a15 a16 v_acts v_keptActs v_typed v_isSet v_arePages v_place v_readMany v_now x1 r_4 r_6 hq7) (cwV 2 hT (gdV q_ml_X8_101 q_im_X8_costBy q_se_X8_costBy q_in_X8 q_co_X8_costBy) rfl rfl rfl hd_X8_costBy ⟨Nat.le_of_ble_eq_true rfl, Nat.le_of_ble_eq_true rfl⟩) hK hF hP hD hS hA 0 rfl rfl rfl [0, 1] [] [0, 1] rfl (by decide) rfl (by decide) (by decide) rfl (by decide) rfl hl.1 rfl (Nat.le_of_ble_eq_true rfl) dX8_costOf_20 ⟨Nat.zero_le _, Nat.zero_le _⟩ (fun H locs hP hD hS => ?_)
      refine W.eq (g2 := F0 m 23 ls [.int r_6]) rfl ?_
      replace hf := Option.some.inj hf
      subst hf
      exact hret H locs ls _ dX8_costOf_23 hP hD hS
    · replace hf := it_f c3 hf
      refine lv_bipush (v := (-4)) hx hb dX8_costOf_8 (by decide) ?_
      refine lv_goto (tgt := 23) hx hb dX8_costOf_10 (by decide) ?_
      replace hf := Option.some.inj hf
      subst hf
      exact hret H locs ls _ dX8_costOf_23 hP hD hS
  refine key _ ?_ _ _ _ hP hD hS hl
  intro H locs ls pc d hP hD hS
  exact W.iret (v := rv) hx hb hr (fun t ht hW => ⟨⟨rfl, by rw [ht]; exact hP, hD⟩, hS.F ht⟩) hS.2.2 d
def p_X8_sets_L7 (v_now : (Nat → Int32)) (s : Int32 × Int32 × (Nat → Int32)) : Option ((Int32 × Int32 × (Nat → Int32)) ⊕ (Int32 × Int32 × (Nat → Int32))) := match s with
  | (i1_1, v_isSet_2, v_rows_3) => (if (v_now 0) ≤ i1_1 then (some (.inr (i1_1, v_isSet_2, v_rows_3))) else (bd1 (p_X8_rowsOf v_now i1_1) fun r_5 => (gd (ib i1_1 12) (if v_isSet_2 = (0 : Int32) then (some (.inl ((i1_1 + (1 : Int32)), (0 : Int32), (upd v_rows_3 (tn i1_1) r_5)))) else (gd (ib i1_1 12) (if ((upd v_rows_3 (tn i1_1) r_5) (tn i1_1)) ≤ (0 : Int32) then (some (.inl ((i1_1 + (1 : Int32)), (0 : Int32), (upd v_rows_3 (tn i1_1) r_5)))) else (some (.inl ((i1_1 + (1 : Int32)), (1 : Int32), (upd v_rows_3 (tn i1_1) r_5))))))))))
def p_X8_sets (v_isSet : Int32) (v_now : (Nat → Int32)) (v_rows : (Nat → Int32)) : Option (Int32 × (Nat → Int32)) :=
  (bd3 (loopN (p_X8_sets_L7 v_now) fuel ((0 : Int32), (1 : Int32), v_rows)) fun f1_14 v_isSet_15 v_rows_16 => (some (v_isSet_15, v_rows_16)))
set_option maxHeartbeats 4000000 in
set_option maxRecDepth 100000 in
theorem c_X8_sets (l : Launch) (dC : Nat → ClassId) (dI : Nat → Nat → Nat) (cI cJ cP cS : ClassId) (a0 : Nat) (a1 : Nat) (a2 : Nat) (a3 : Nat) (a4 : Nat) (a5 : Nat) (a6 : Nat) (a7 : Nat) (a8 : Nat) (a9 : Nat) (a10 : Nat) (a11 : Nat) (a12 : Nat) (a13 : Nat) (a14 : Nat) (a15 : Nat) (a16 : Nat) (v_acts : Int32) (v_keptActs : Int32) (v_typed : Int32) (v_isSet : Int32) (v_arePages : Int32) (v_place : Int32) (v_readMany : Int32) (v_now : (Nat → Int32)) (v_rows : (Nat → Int32))    (v_isSet_o : Int32) (v_rows_o : (Nat → Int32)) (hf : p_X8_sets v_isSet v_now v_rows = some (v_isSet_o, v_rows_o)) : MC l (dC, dI) (tyl cI cJ cP cS) yX8_sets (Cond.code yX8_sets cX8_sets 2 none :: TBG) ({ frames := 8, cells := 0, slots := 0, locals := 183 } : Room) [.ref a0] [(a0, .inr (8, [.ref a1, .ref a2, .int v_acts, .ref a3, .ref a4, .int v_keptActs, .ref a5, .int v_typed, .ref a6, .ref a7, .ref a8, .ref a9, .ref a10, .int v_isSet, .ref a11, .ref a12, .ref a13, .int v_arePages, .ref a14, .ref a15, .int v_place, .ref a16, .int v_readMany])), (a1, .inl (cI, 189, .inl v_now)), (a10, .inl (cI, 12, .inl v_rows))] [(a0, .inr (8, [.ref a1, .ref a2, .int v_acts, .ref a3, .ref a4, .int v_keptActs, .ref a5, .int v_typed, .ref a6, .ref a7, .ref a8, .ref a9, .ref a10, .int v_isSet_o, .ref a11, .ref a12, .ref a13, .int v_arePages, .ref a14, .ref a15, .int v_place, .ref a16, .int v_readMany])), (a1, .inl (cI, 189, .inl v_now)), (a10, .inl (cI, 12, .inl v_rows_o))] none := by
  intro sz
  unfold MPost
  refine Met.ofW (cc := cX8_sets) (maxL := 2) (ret := none) (by decide) rfl ?_
  intro p e s m args below meth c s₁ B hml hv
  obtain ⟨rfl, hsz, hP, hK, hD0, hF⟩ := hv
  have hx := B.exec
  have hb := B.bytes
  have hr := B.returns
  have hT : ∀ w ∈ TBG, w.before _ s = true := fun w h => atoms_spec B.pre w (List.mem_cons_of_mem _ h)
  have hown : s.vm.findClass RX8 = some m.cls := findClass_of_methodNamed B.named
  have hlocks := B.notSynchronized
  subst hsz
  have hD := hD0.self (sz := s.heap.size)
  generalize hAe : va_A [(a0, .inr (8, [.ref a1, .ref a2, .int v_acts, .ref a3, .ref a4, .int v_keptActs, .ref a5, .int v_typed, .ref a6, .ref a7, .ref a8, .ref a9, .ref a10, .int v_isSet, .ref a11, .ref a12, .ref a13, .int v_arePages, .ref a14, .ref a15, .int v_place, .ref a16, .int v_readMany])), (a1, .inl (cI, 189, .inl v_now)), (a10, .inl (cI, 12, .inl v_rows))] s.heap.size = A at hD hF ⊢
  have hA : ∀ q : Nat, s.heap.size ≤ q → A q := fun q h => by rw [← hAe]; exact Or.inr h
  have hS : va_S A s.heap s.heap [] := va_S.rf
  have hl := lv_entry ([.ref a0]) (n := 2) (Nat.le_of_ble_eq_true rfl)
  rw [lg_entry_eq]
  generalize (lg_sl ([.ref a0]) ++ List.replicate (2 - (lg_sl ([.ref a0])).length) Slot.unset).toArray = ls at hl ⊢
  have hl : lv_has ls 2 [(0, .ref a0)] := hl
  generalize ([.ref a0] : List Value).toArray = args at hT ⊢
  have key : ∀ (Q : State → Prop), (∀ (H : Heap) (locs : List Loc) (ls : Array Slot) (pc : Nat), decode cX8_sets pc = .ok (.return_, 1) → va_P (dC, dI) vwCl [(a0, .inr (8, [.ref a1, .ref a2, .int v_acts, .ref a3, .ref a4, .int v_keptActs, .ref a5, .int v_typed, .ref a6, .ref a7, .ref a8, .ref a9, .ref a10, .int v_isSet_o, .ref a11, .ref a12, .ref a13, .int v_arePages, .ref a14, .ref a15, .int v_place, .ref a16, .int v_readMany])), (a1, .inl (cI, 189, .inl v_now)), (a10, .inl (cI, 12, .inl v_rows_o))] H → va_D A [(a0, .inr (8, [.ref a1, .ref a2, .int v_acts, .ref a3, .ref a4, .int v_keptActs, .ref a5, .int v_typed, .ref a6, .ref a7, .ref a8, .ref a9, .ref a10, .int v_isSet_o, .ref a11, .ref a12, .ref a13, .int v_arePages, .ref a14, .ref a15, .int v_place, .ref a16, .int v_readMany])), (a1, .inl (cI, 189, .inl v_now)), (a10, .inl (cI, 12, .inl v_rows_o))] → va_S A s.heap H locs → W p l e ({ frames := 8, cells := 0, slots := 0, locals := 183 } : Room) s m args below meth c H locs 0 0 Q (F0 m pc ls [])) → ∀ (H : Heap) (locs : List Loc) (ls : Array Slot), va_P (dC, dI) vwCl [(a0, .inr (8, [.ref a1, .ref a2, .int v_acts, .ref a3, .ref a4, .int v_keptActs, .ref a5, .int v_typed, .ref a6, .ref a7, .ref a8, .ref a9, .ref a10, .int v_isSet, .ref a11, .ref a12, .ref a13, .int v_arePages, .ref a14, .ref a15, .int v_place, .ref a16, .int v_readMany])), (a1, .inl (cI, 189, .inl v_now)), (a10, .inl (cI, 12, .inl v_rows))] H → va_D A [(a0, .inr (8, [.ref a1, .ref a2, .int v_acts, .ref a3, .ref a4, .int v_keptActs, .ref a5, .int v_typed, .ref a6, .ref a7, .ref a8, .ref a9, .ref a10, .int v_isSet, .ref a11, .ref a12, .ref a13, .int v_arePages, .ref a14, .ref a15, .int v_place, .ref a16, .int v_readMany])), (a1, .inl (cI, 189, .inl v_now)), (a10, .inl (cI, 12, .inl v_rows))] → va_S A s.heap H locs → lv_has ls 2 [(0, .ref a0)] → W p l e ({ frames := 8, cells := 0, slots := 0, locals := 183 } : Room) s m args below meth c H locs 0 0 Q (F0 m 0 ls []) := by
    intro Q hret H locs ls hP hD hS hl
    refine lv_aload_n hx hb dX8_sets_0 rfl (lv_at hl 0 rfl) ?_
    refine lv_iconst (v := 1) hx hb dX8_sets_1 (by decide) ?_
    refine va_put (D := (dC, dI)) (ci := 8) (v := .int (1 : Int32)) (ty := .boolean) (C := RX8) (T := TX8) (N := 23) hx hb hT in_X8 tyX8 tyX8_ok nmX8 hown hK hP hD hS 0 rfl rfl 13 (by decide) (hT _ q_fl_X8_111) (fun _ h9 => h9) rfl (tyX8_ok 13 (by decide)) rfl rfl (Nat.le_of_ble_eq_true rfl) dX8_sets_2 (fun H locs hP hD hS => ?_)
    have hP : va_P (dC, dI) vwCl [(a0, .inr (8, [.ref a1, .ref a2, .int v_acts, .ref a3, .ref a4, .int v_keptActs, .ref a5, .int v_typed, .ref a6, .ref a7, .ref a8, .ref a9, .ref a10, .int (1 : Int32), .ref a11, .ref a12, .ref a13, .int v_arePages, .ref a14, .ref a15, .int v_place, .ref a16, .int v_readMany])), (a1, .inl (cI, 189, .inl v_now)), (a10, .inl (cI, 12, .inl v_rows))] H := hP
    have hD : va_D A [(a0, .inr (8, [.ref a1, .ref a2, .int v_acts, .ref a3, .ref a4, .int v_keptActs, .ref a5, .int v_typed, .ref a6, .ref a7, .ref a8, .ref a9, .ref a10, .int (1 : Int32), .ref a11, .ref a12, .ref a13, .int v_arePages, .ref a14, .ref a15, .int v_place, .ref a16, .int v_readMany])), (a1, .inl (cI, 189, .inl v_now)), (a10, .inl (cI, 12, .inl v_rows))] := hD
    refine lv_iconst (v := 0) hx hb dX8_sets_5 (by decide) ?_
    refine lv_istore_n (lv' := [(1, .int (0 : Int32)), (0, .ref a0)]) hx hb dX8_sets_6 rfl hl (by decide) rfl (fun ls hl => ?_)
    have hL7 : ∀ (rr : Int32 × Int32 × (Nat → Int32)), (∀ (z_11 : Int32) (z_12 : Int32) (z_13 : (Nat → Int32)), rr = (z_11, z_12, z_13) → ∀ (H : Heap) (locs : List Loc) (ls : Array Slot), va_P (dC, dI) vwCl [(a0, .inr (8, [.ref a1, .ref a2, .int v_acts, .ref a3, .ref a4, .int v_keptActs, .ref a5, .int v_typed, .ref a6, .ref a7, .ref a8, .ref a9, .ref a10, .int z_12, .ref a11, .ref a12, .ref a13, .int v_arePages, .ref a14, .ref a15, .int v_place, .ref a16, .int v_readMany])), (a1, .inl (cI, 189, .inl v_now)), (a10, .inl (cI, 12, .inl z_13))] H → va_D A [(a0, .inr (8, [.ref a1, .ref a2, .int v_acts, .ref a3, .ref a4, .int v_keptActs, .ref a5, .int v_typed, .ref a6, .ref a7, .ref a8, .ref a9, .ref a10, .int z_12, .ref a11, .ref a12, .ref a13, .int v_arePages, .ref a14, .ref a15, .int v_place, .ref a16, .int v_readMany])), (a1, .inl (cI, 189, .inl v_now)), (a10, .inl (cI, 12, .inl z_13))] → va_S A s.heap H locs → lv_has ls 2 [] → W p l e ({ frames := 8, cells := 0, slots := 0, locals := 183 } : Room) s m args below meth c H locs 0 0 Q (F0 m 59 ls [])) → ∀ (n : Nat) (i1_1 : Int32) (v_isSet_2 : Int32) (v_rows_3 : (Nat → Int32)), loopN (p_X8_sets_L7 v_now) n (i1_1, v_isSet_2, v_rows_3) = some rr → ∀ (H : Heap) (locs : List Loc) (ls : Array Slot), va_P (dC, dI) vwCl [(a0, .inr (8, [.ref a1, .ref a2, .int v_acts, .ref a3, .ref a4, .int v_keptActs, .ref a5, .int v_typed, .ref a6, .ref a7, .ref a8, .ref a9, .ref a10, .int v_isSet_2, .ref a11, .ref a12, .ref a13, .int v_arePages, .ref a14, .ref a15, .int v_place, .ref a16, .int v_readMany])), (a1, .inl (cI, 189, .inl v_now)), (a10, .inl (cI, 12, .inl v_rows_3))] H → va_D A [(a0, .inr (8, [.ref a1, .ref a2, .int v_acts, .ref a3, .ref a4, .int v_keptActs, .ref a5, .int v_typed, .ref a6, .ref a7, .ref a8, .ref a9, .ref a10, .int v_isSet_2, .ref a11, .ref a12, .ref a13, .int v_arePages, .ref a14, .ref a15, .int v_place, .ref a16, .int v_readMany])), (a1, .inl (cI, 189, .inl v_now)), (a10, .inl (cI, 12, .inl v_rows_3))] → va_S A s.heap H locs → lv_has ls 2 [(0, .ref a0), (1, .int i1_1)] → W p l e ({ frames := 8, cells := 0, slots := 0, locals := 183 } : Room) s m args below meth c H locs 0 0 Q (F0 m 7 ls []) := by
      intro rr hk7 n
      induction n with
      | zero => intro i1_1 v_isSet_2 v_rows_3 hf; cases hf
      | succ n ih7 =>
        intro i1_1 v_isSet_2 v_rows_3 hf H locs ls hP hD hS hl
        obtain ⟨o7, hf, hi, he⟩ := loopN_el hf
        refine lv_iload_n hx hb dX8_sets_7 rfl (lv_at hl 1 rfl) ?_
        refine lv_aload_n hx hb dX8_sets_8 rfl (lv_at hl 0 rfl) ?_
        refine va_get (D := (dC, dI)) (ci := 8) (v := .ref a1) (C := RX8) (T := TX8) (N := 23) hx hb hT in_X8 hown hK hP 0 rfl rfl 0 (by decide) (hT _ q_fl_X8_7) (fun _ h9 => h9) rfl dX8_sets_9 ?_
        refine lv_iconst (v := 0) hx hb dX8_sets_12 (by decide) ?_
        refine ia_ld hx hb hK hP 1 0 rfl rfl (ib_in (by decide)) (j := 0) (by decide) dX8_sets_13 ?_
        refine lv_icmp_ge (tgt := 59) hx hb dX8_sets_14 (by decide) (fun c4 => ?_) (fun c4 => ?_)
        · replace hf := it_t c4 hf
          exact hk7 _ _ _ (he _ (Option.some.inj hf).symm).symm H locs ls hP hD hS (lv_sub hl [] rfl)
        · replace hf := it_f c4 hf
          refine lv_aload_n hx hb dX8_sets_17 rfl (lv_at hl 0 rfl) ?_
          refine va_get (D := (dC, dI)) (ci := 8) (v := .ref a10) (C := RX8) (T := TX8) (N := 23) hx hb hT in_X8 hown hK hP 0 rfl rfl 12 (by decide) (hT _ q_fl_X8_42) (fun _ h9 => h9) rfl dX8_sets_18 ?_
          refine lv_iload_n hx hb dX8_sets_21 rfl (lv_at hl 1 rfl) ?_
          refine lv_aload_n hx hb dX8_sets_22 rfl (lv_at hl 0 rfl) ?_
          refine lv_iload_n hx hb dX8_sets_23 rfl (lv_at hl 1 rfl) ?_
          obtain ⟨r_5, hq6, hf⟩ := bd1_el hf
          refine mc_V (As := [.int i1_1]) (rest := [.int i1_1, .ref a10]) (wr := [(a10, .inl (cI, 12, .inl v_rows_3))]) (wn := [(a0, .inr (8, [.ref a1, .ref a2, .int v_acts, .ref a3, .ref a4, .int v_keptActs, .ref a5, .int v_typed, .ref a6, .ref a7, .ref a8, .ref a9, .ref a10, .int v_isSet_2, .ref a11, .ref a12, .ref a13, .int v_arePages, .ref a14, .ref a15, .int v_place, .ref a16, .int v_readMany])), (a1, .inl (cI, 189, .inl v_now)), (a10, .inl (cI, 12, .inl v_rows_3))]) ⟨hx, hb, hml, hown, hT⟩ (c_X8_rowsOf l dC dI cI cJ cP cS a0 a1 a2 a3 a4 a5 a6 a7 a8 a9 a10 a11 a12 a13 a14 a15 a16 v_acts v_keptActs v_typed v_isSet_2 v_arePages v_place v_readMany v_now i1_1 r_5 hq6) (cwV 1 hT (gdV q_ml_X8_115 q_im_X8_rowsOf q_se_X8_rowsOf q_in_X8 q_co_X8_rowsOf) rfl rfl rfl hd_X8_rowsOf ⟨Nat.le_of_ble_eq_true rfl, Nat.le_of_ble_eq_true rfl⟩) hK hF hP hD hS hA 0 rfl rfl rfl [0, 1] [2] [1, 2, 0] rfl (by decide) rfl (by decide) (by decide) rfl (by decide) rfl hl.1 rfl (Nat.le_of_ble_eq_true rfl) dX8_sets_24 ⟨Nat.zero_le _, Nat.zero_le _⟩ (fun H locs hP hD hS => ?_)
          refine W.eq (g2 := F0 m 27 ls [.int r_5, .int i1_1, .ref a10]) rfl ?_
          obtain ⟨h7, hf⟩ := gd_el hf
          refine ia_st hx hb hK hP hD hS 2 0 rfl rfl (ib_in h7) (j := (tn i1_1)) rfl dX8_sets_27 (fun H locs hP hD hS => ?_)
          have hP : va_P (dC, dI) vwCl [(a0, .inr (8, [.ref a1, .ref a2, .int v_acts, .ref a3, .ref a4, .int v_keptActs, .ref a5, .int v_typed, .ref a6, .ref a7, .ref a8, .ref a9, .ref a10, .int v_isSet_2, .ref a11, .ref a12, .ref a13, .int v_arePages, .ref a14, .ref a15, .int v_place, .ref a16, .int v_readMany])), (a1, .inl (cI, 189, .inl v_now)), (a10, .inl (cI, 12, .inl (upd v_rows_3 (tn i1_1) r_5)))] H := hP
          have hD : va_D A [(a0, .inr (8, [.ref a1, .ref a2, .int v_acts, .ref a3, .ref a4, .int v_keptActs, .ref a5, .int v_typed, .ref a6, .ref a7, .ref a8, .ref a9, .ref a10, .int v_isSet_2, .ref a11, .ref a12, .ref a13, .int v_arePages, .ref a14, .ref a15, .int v_place, .ref a16, .int v_readMany])), (a1, .inl (cI, 189, .inl v_now)), (a10, .inl (cI, 12, .inl (upd v_rows_3 (tn i1_1) r_5)))] := hD
          refine lv_aload_n hx hb dX8_sets_28 rfl (lv_at hl 0 rfl) ?_
          refine lv_aload_n hx hb dX8_sets_29 rfl (lv_at hl 0 rfl) ?_
          refine va_get (D := (dC, dI)) (ci := 8) (v := .int v_isSet_2) (C := RX8) (T := TX8) (N := 23) hx hb hT in_X8 hown hK hP 0 rfl rfl 13 (by decide) (hT _ q_fl_X8_111) (fun _ h9 => h9) rfl dX8_sets_30 ?_
          refine lv_if_eq (tgt := 49) hx hb dX8_sets_33 (by decide) (fun c8 => ?_) (fun c8 => ?_)
          · replace hf := it_t c8 hf
            refine lv_iconst (v := 0) hx hb dX8_sets_49 (by decide) ?_
            refine va_put (D := (dC, dI)) (ci := 8) (v := .int (0 : Int32)) (ty := .boolean) (C := RX8) (T := TX8) (N := 23) hx hb hT in_X8 tyX8 tyX8_ok nmX8 hown hK hP hD hS 0 rfl rfl 13 (by decide) (hT _ q_fl_X8_111) (fun _ h9 => h9) rfl (tyX8_ok 13 (by decide)) rfl rfl (Nat.le_of_ble_eq_true rfl) dX8_sets_50 (fun H locs hP hD hS => ?_)
            have hP : va_P (dC, dI) vwCl [(a0, .inr (8, [.ref a1, .ref a2, .int v_acts, .ref a3, .ref a4, .int v_keptActs, .ref a5, .int v_typed, .ref a6, .ref a7, .ref a8, .ref a9, .ref a10, .int (0 : Int32), .ref a11, .ref a12, .ref a13, .int v_arePages, .ref a14, .ref a15, .int v_place, .ref a16, .int v_readMany])), (a1, .inl (cI, 189, .inl v_now)), (a10, .inl (cI, 12, .inl (upd v_rows_3 (tn i1_1) r_5)))] H := hP
            have hD : va_D A [(a0, .inr (8, [.ref a1, .ref a2, .int v_acts, .ref a3, .ref a4, .int v_keptActs, .ref a5, .int v_typed, .ref a6, .ref a7, .ref a8, .ref a9, .ref a10, .int (0 : Int32), .ref a11, .ref a12, .ref a13, .int v_arePages, .ref a14, .ref a15, .int v_place, .ref a16, .int v_readMany])), (a1, .inl (cI, 189, .inl v_now)), (a10, .inl (cI, 12, .inl (upd v_rows_3 (tn i1_1) r_5)))] := hD
            refine lv_iinc (v := (i1_1 + (1 : Int32))) (lv' := [(1, .int (i1_1 + (1 : Int32))), (0, .ref a0)]) hx hb dX8_sets_53 hl (k := 1) rfl rfl (by decide) rfl (fun ls hl => ?_)
            refine lv_goto (tgt := 7) hx hb dX8_sets_56 (by decide) ?_
            exact ih7 (i1_1 + (1 : Int32)) (0 : Int32) (upd v_rows_3 (tn i1_1) r_5) (hi _ (Option.some.inj hf).symm) H locs ls hP hD hS (lv_sub hl [1, 0] rfl)
          · replace hf := it_f c8 hf
            refine lv_aload_n hx hb dX8_sets_36 rfl (lv_at hl 0 rfl) ?_
            refine va_get (D := (dC, dI)) (ci := 8) (v := .ref a10) (C := RX8) (T := TX8) (N := 23) hx hb hT in_X8 hown hK hP 0 rfl rfl 12 (by decide) (hT _ q_fl_X8_42) (fun _ h9 => h9) rfl dX8_sets_37 ?_
            refine lv_iload_n hx hb dX8_sets_40 rfl (lv_at hl 1 rfl) ?_
            obtain ⟨h9, hf⟩ := gd_el hf
            refine ia_ld hx hb hK hP 2 0 rfl rfl (ib_in h9) (j := (tn i1_1)) rfl dX8_sets_41 ?_
            refine lv_if_le (tgt := 49) hx hb dX8_sets_42 (by decide) (fun c10 => ?_) (fun c10 => ?_)
            · replace hf := it_t c10 hf
              refine lv_iconst (v := 0) hx hb dX8_sets_49 (by decide) ?_
              refine va_put (D := (dC, dI)) (ci := 8) (v := .int (0 : Int32)) (ty := .boolean) (C := RX8) (T := TX8) (N := 23) hx hb hT in_X8 tyX8 tyX8_ok nmX8 hown hK hP hD hS 0 rfl rfl 13 (by decide) (hT _ q_fl_X8_111) (fun _ h9 => h9) rfl (tyX8_ok 13 (by decide)) rfl rfl (Nat.le_of_ble_eq_true rfl) dX8_sets_50 (fun H locs hP hD hS => ?_)
              have hP : va_P (dC, dI) vwCl [(a0, .inr (8, [.ref a1, .ref a2, .int v_acts, .ref a3, .ref a4, .int v_keptActs, .ref a5, .int v_typed, .ref a6, .ref a7, .ref a8, .ref a9, .ref a10, .int (0 : Int32), .ref a11, .ref a12, .ref a13, .int v_arePages, .ref a14, .ref a15, .int v_place, .ref a16, .int v_readMany])), (a1, .inl (cI, 189, .inl v_now)), (a10, .inl (cI, 12, .inl (upd v_rows_3 (tn i1_1) r_5)))] H := hP
              have hD : va_D A [(a0, .inr (8, [.ref a1, .ref a2, .int v_acts, .ref a3, .ref a4, .int v_keptActs, .ref a5, .int v_typed, .ref a6, .ref a7, .ref a8, .ref a9, .ref a10, .int (0 : Int32), .ref a11, .ref a12, .ref a13, .int v_arePages, .ref a14, .ref a15, .int v_place, .ref a16, .int v_readMany])), (a1, .inl (cI, 189, .inl v_now)), (a10, .inl (cI, 12, .inl (upd v_rows_3 (tn i1_1) r_5)))] := hD
              refine lv_iinc (v := (i1_1 + (1 : Int32))) (lv' := [(1, .int (i1_1 + (1 : Int32))), (0, .ref a0)]) hx hb dX8_sets_53 hl (k := 1) rfl rfl (by decide) rfl (fun ls hl => ?_)
              refine lv_goto (tgt := 7) hx hb dX8_sets_56 (by decide) ?_
              exact ih7 (i1_1 + (1 : Int32)) (0 : Int32) (upd v_rows_3 (tn i1_1) r_5) (hi _ (Option.some.inj hf).symm) H locs ls hP hD hS (lv_sub hl [1, 0] rfl)
            · replace hf := it_f c10 hf
              refine lv_iconst (v := 1) hx hb dX8_sets_45 (by decide) ?_
              refine lv_goto (tgt := 50) hx hb dX8_sets_46 (by decide) ?_
              refine va_put (D := (dC, dI)) (ci := 8) (v := .int (1 : Int32)) (ty := .boolean) (C := RX8) (T := TX8) (N := 23) hx hb hT in_X8 tyX8 tyX8_ok nmX8 hown hK hP hD hS 0 rfl rfl 13 (by decide) (hT _ q_fl_X8_111) (fun _ h9 => h9) rfl (tyX8_ok 13 (by decide)) rfl rfl (Nat.le_of_ble_eq_true rfl) dX8_sets_50 (fun H locs hP hD hS => ?_)
              have hP : va_P (dC, dI) vwCl [(a0, .inr (8, [.ref a1, .ref a2, .int v_acts, .ref a3, .ref a4, .int v_keptActs, .ref a5, .int v_typed, .ref a6, .ref a7, .ref a8, .ref a9, .ref a10, .int (1 : Int32), .ref a11, .ref a12, .ref a13, .int v_arePages, .ref a14, .ref a15, .int v_place, .ref a16, .int v_readMany])), (a1, .inl (cI, 189, .inl v_now)), (a10, .inl (cI, 12, .inl (upd v_rows_3 (tn i1_1) r_5)))] H := hP
              have hD : va_D A [(a0, .inr (8, [.ref a1, .ref a2, .int v_acts, .ref a3, .ref a4, .int v_keptActs, .ref a5, .int v_typed, .ref a6, .ref a7, .ref a8, .ref a9, .ref a10, .int (1 : Int32), .ref a11, .ref a12, .ref a13, .int v_arePages, .ref a14, .ref a15, .int v_place, .ref a16, .int v_readMany])), (a1, .inl (cI, 189, .inl v_now)), (a10, .inl (cI, 12, .inl (upd v_rows_3 (tn i1_1) r_5)))] := hD
              refine lv_iinc (v := (i1_1 + (1 : Int32))) (lv' := [(1, .int (i1_1 + (1 : Int32))), (0, .ref a0)]) hx hb dX8_sets_53 hl (k := 1) rfl rfl (by decide) rfl (fun ls hl => ?_)
              refine lv_goto (tgt := 7) hx hb dX8_sets_56 (by decide) ?_
              exact ih7 (i1_1 + (1 : Int32)) (1 : Int32) (upd v_rows_3 (tn i1_1) r_5) (hi _ (Option.some.inj hf).symm) H locs ls hP hD hS (lv_sub hl [1, 0] rfl)
    obtain ⟨f1_14, v_isSet_15, v_rows_16, hq, hf⟩ := bd3_el hf
    refine hL7 (f1_14, v_isSet_15, v_rows_16) (fun z_11 z_12 z_13 h9 H locs ls hP hD hS hl => ?_) fuel (0 : Int32) (1 : Int32) v_rows hq H locs ls hP hD hS (lv_sub hl [1, 0] rfl)
    simp only [Prod.mk.injEq] at h9
    obtain ⟨h9_0, h9_1, h9_2⟩ := h9
    subst h9_0; subst h9_1; subst h9_2
    replace hf := Option.some.inj hf
    simp only [Prod.mk.injEq] at hf
    obtain ⟨hf0, hf1⟩ := hf
    subst hf0; subst hf1
    exact hret H locs ls _ dX8_sets_59 hP hD hS
  refine key _ ?_ _ _ _ hP hD hS hl
  intro H locs ls pc d hP hD hS
  exact W.vret hx hb hr (fun t ht hW => ⟨⟨rfl, by rw [ht]; exact hP, hD⟩, hS.F ht⟩) hS.2.2 d
def p_X8_allCosts_L4 (v_now : (Nat → Int32)) (s : Int32 × Int32) : Option ((Int32 × Int32) ⊕ ((Int32 × Int32) ⊕ (Int32))) := match s with
  | (i1_1, i2_2) => (if (v_now 0) ≤ i2_2 then (some (.inr (.inl (i1_1, i2_2)))) else (bd1 (p_X8_costOf v_now i2_2) fun r_4 => (if (0 : Int32) ≤ r_4 then (nm (i1_1 + r_4) fun x1_7 => (some (.inl (x1_7, (i2_2 + (1 : Int32)))))) else (some (.inr (.inr (-4 : Int32)))))))
def p_X8_allCosts (v_now : (Nat → Int32)) : Option (Int32) :=
  (bdS (loopN (p_X8_allCosts_L4 v_now) fuel ((0 : Int32), (0 : Int32))) (fun q => bd2 (some q) fun f1_11 f2_12 => (some f1_11)) (fun q => some q))
set_option maxHeartbeats 4000000 in
set_option maxRecDepth 100000 in
theorem c_X8_allCosts (l : Launch) (dC : Nat → ClassId) (dI : Nat → Nat → Nat) (cI cJ cP cS : ClassId) (a0 : Nat) (a1 : Nat) (a2 : Nat) (a3 : Nat) (a4 : Nat) (a5 : Nat) (a6 : Nat) (a7 : Nat) (a8 : Nat) (a9 : Nat) (a10 : Nat) (a11 : Nat) (a12 : Nat) (a13 : Nat) (a14 : Nat) (a15 : Nat) (a16 : Nat) (v_acts : Int32) (v_keptActs : Int32) (v_typed : Int32) (v_isSet : Int32) (v_arePages : Int32) (v_place : Int32) (v_readMany : Int32) (v_now : (Nat → Int32))   (rv : Int32)  (hf : p_X8_allCosts v_now = some rv) : MC l (dC, dI) (tyl cI cJ cP cS) yX8_allCosts (Cond.code yX8_allCosts cX8_allCosts 4 (some .int) :: TBG) ({ frames := 8, cells := 0, slots := 0, locals := 183 } : Room) [.ref a0] [(a0, .inr (8, [.ref a1, .ref a2, .int v_acts, .ref a3, .ref a4, .int v_keptActs, .ref a5, .int v_typed, .ref a6, .ref a7, .ref a8, .ref a9, .ref a10, .int v_isSet, .ref a11, .ref a12, .ref a13, .int v_arePages, .ref a14, .ref a15, .int v_place, .ref a16, .int v_readMany])), (a1, .inl (cI, 189, .inl v_now))] [(a0, .inr (8, [.ref a1, .ref a2, .int v_acts, .ref a3, .ref a4, .int v_keptActs, .ref a5, .int v_typed, .ref a6, .ref a7, .ref a8, .ref a9, .ref a10, .int v_isSet, .ref a11, .ref a12, .ref a13, .int v_arePages, .ref a14, .ref a15, .int v_place, .ref a16, .int v_readMany])), (a1, .inl (cI, 189, .inl v_now))] (some (.int rv)) := by
  intro sz
  unfold MPost
  refine Met.ofW (cc := cX8_allCosts) (maxL := 4) (ret := (some .int)) (by decide) rfl ?_
  intro p e s m args below meth c s₁ B hml hv
  obtain ⟨rfl, hsz, hP, hK, hD0, hF⟩ := hv
  have hx := B.exec
  have hb := B.bytes
  have hr := B.returns
  have hT : ∀ w ∈ TBG, w.before _ s = true := fun w h => atoms_spec B.pre w (List.mem_cons_of_mem _ h)
  have hown : s.vm.findClass RX8 = some m.cls := findClass_of_methodNamed B.named
  have hlocks := B.notSynchronized
  subst hsz
  have hD := hD0.self (sz := s.heap.size)
  generalize hAe : va_A [(a0, .inr (8, [.ref a1, .ref a2, .int v_acts, .ref a3, .ref a4, .int v_keptActs, .ref a5, .int v_typed, .ref a6, .ref a7, .ref a8, .ref a9, .ref a10, .int v_isSet, .ref a11, .ref a12, .ref a13, .int v_arePages, .ref a14, .ref a15, .int v_place, .ref a16, .int v_readMany])), (a1, .inl (cI, 189, .inl v_now))] s.heap.size = A at hD hF ⊢
  have hA : ∀ q : Nat, s.heap.size ≤ q → A q := fun q h => by rw [← hAe]; exact Or.inr h
  have hS : va_S A s.heap s.heap [] := va_S.rf
  have hl := lv_entry ([.ref a0]) (n := 4) (Nat.le_of_ble_eq_true rfl)
  rw [lg_entry_eq]
  generalize (lg_sl ([.ref a0]) ++ List.replicate (4 - (lg_sl ([.ref a0])).length) Slot.unset).toArray = ls at hl ⊢
  have hl : lv_has ls 4 [(0, .ref a0)] := hl
  generalize ([.ref a0] : List Value).toArray = args at hT ⊢
  have key : ∀ (Q : State → Prop), (∀ (H : Heap) (locs : List Loc) (ls : Array Slot) (pc : Nat), decode cX8_allCosts pc = .ok (.ireturn, 1) → va_P (dC, dI) vwCl [(a0, .inr (8, [.ref a1, .ref a2, .int v_acts, .ref a3, .ref a4, .int v_keptActs, .ref a5, .int v_typed, .ref a6, .ref a7, .ref a8, .ref a9, .ref a10, .int v_isSet, .ref a11, .ref a12, .ref a13, .int v_arePages, .ref a14, .ref a15, .int v_place, .ref a16, .int v_readMany])), (a1, .inl (cI, 189, .inl v_now))] H → va_D A [(a0, .inr (8, [.ref a1, .ref a2, .int v_acts, .ref a3, .ref a4, .int v_keptActs, .ref a5, .int v_typed, .ref a6, .ref a7, .ref a8, .ref a9, .ref a10, .int v_isSet, .ref a11, .ref a12, .ref a13, .int v_arePages, .ref a14, .ref a15, .int v_place, .ref a16, .int v_readMany])), (a1, .inl (cI, 189, .inl v_now))] → va_S A s.heap H locs → W p l e ({ frames := 8, cells := 0, slots := 0, locals := 183 } : Room) s m args below meth c H locs 0 0 Q (F0 m pc ls [.int rv])) → ∀ (H : Heap) (locs : List Loc) (ls : Array Slot), va_P (dC, dI) vwCl [(a0, .inr (8, [.ref a1, .ref a2, .int v_acts, .ref a3, .ref a4, .int v_keptActs, .ref a5, .int v_typed, .ref a6, .ref a7, .ref a8, .ref a9, .ref a10, .int v_isSet, .ref a11, .ref a12, .ref a13, .int v_arePages, .ref a14, .ref a15, .int v_place, .ref a16, .int v_readMany])), (a1, .inl (cI, 189, .inl v_now))] H → va_D A [(a0, .inr (8, [.ref a1, .ref a2, .int v_acts, .ref a3, .ref a4, .int v_keptActs, .ref a5, .int v_typed, .ref a6, .ref a7, .ref a8, .ref a9, .ref a10, .int v_isSet, .ref a11, .ref a12, .ref a13, .int v_arePages, .ref a14, .ref a15, .int v_place, .ref a16, .int v_readMany])), (a1, .inl (cI, 189, .inl v_now))] → va_S A s.heap H locs → lv_has ls 4 [(0, .ref a0)] → W p l e ({ frames := 8, cells := 0, slots := 0, locals := 183 } : Room) s m args below meth c H locs 0 0 Q (F0 m 0 ls []) := by
    intro Q hret H locs ls hP hD hS hl
    refine lv_iconst (v := 0) hx hb dX8_allCosts_0 (by decide) ?_
    refine lv_istore_n (lv' := [(1, .int (0 : Int32)), (0, .ref a0)]) hx hb dX8_allCosts_1 rfl hl (by decide) rfl (fun ls hl => ?_)
    refine lv_iconst (v := 0) hx hb dX8_allCosts_2 (by decide) ?_
    refine lv_istore_n (lv' := [(2, .int (0 : Int32)), (1, .int (0 : Int32)), (0, .ref a0)]) hx hb dX8_allCosts_3 rfl hl (by decide) rfl (fun ls hl => ?_)
    have hL4 : ∀ (rr : (Int32 × Int32) ⊕ (Int32)), (∀ (z_8 : Int32) (z_9 : Int32), rr = .inl (z_8, z_9) → ∀ (H : Heap) (locs : List Loc) (ls : Array Slot), va_P (dC, dI) vwCl [(a0, .inr (8, [.ref a1, .ref a2, .int v_acts, .ref a3, .ref a4, .int v_keptActs, .ref a5, .int v_typed, .ref a6, .ref a7, .ref a8, .ref a9, .ref a10, .int v_isSet, .ref a11, .ref a12, .ref a13, .int v_arePages, .ref a14, .ref a15, .int v_place, .ref a16, .int v_readMany])), (a1, .inl (cI, 189, .inl v_now))] H → va_D A [(a0, .inr (8, [.ref a1, .ref a2, .int v_acts, .ref a3, .ref a4, .int v_keptActs, .ref a5, .int v_typed, .ref a6, .ref a7, .ref a8, .ref a9, .ref a10, .int v_isSet, .ref a11, .ref a12, .ref a13, .int v_arePages, .ref a14, .ref a15, .int v_place, .ref a16, .int v_readMany])), (a1, .inl (cI, 189, .inl v_now))] → va_S A s.heap H locs → lv_has ls 4 [(1, .int z_8)] → W p l e ({ frames := 8, cells := 0, slots := 0, locals := 183 } : Room) s m args below meth c H locs 0 0 Q (F0 m 37 ls [])) → (∀ (u_10 : Int32), rr = .inr u_10 → ∀ (H : Heap) (locs : List Loc) (ls : Array Slot) (pc : Nat), decode cX8_allCosts pc = .ok (.ireturn, 1) → va_P (dC, dI) vwCl [(a0, .inr (8, [.ref a1, .ref a2, .int v_acts, .ref a3, .ref a4, .int v_keptActs, .ref a5, .int v_typed, .ref a6, .ref a7, .ref a8, .ref a9, .ref a10, .int v_isSet, .ref a11, .ref a12, .ref a13, .int v_arePages, .ref a14, .ref a15, .int v_place, .ref a16, .int v_readMany])), (a1, .inl (cI, 189, .inl v_now))] H → va_D A [(a0, .inr (8, [.ref a1, .ref a2, .int v_acts, .ref a3, .ref a4, .int v_keptActs, .ref a5, .int v_typed, .ref a6, .ref a7, .ref a8, .ref a9, .ref a10, .int v_isSet, .ref a11, .ref a12, .ref a13, .int v_arePages, .ref a14, .ref a15, .int v_place, .ref a16, .int v_readMany])), (a1, .inl (cI, 189, .inl v_now))] → va_S A s.heap H locs → W p l e ({ frames := 8, cells := 0, slots := 0, locals := 183 } : Room) s m args below meth c H locs 0 0 Q (F0 m pc ls [.int u_10])) → ∀ (n : Nat) (i1_1 : Int32) (i2_2 : Int32), loopN (p_X8_allCosts_L4 v_now) n (i1_1, i2_2) = some rr → ∀ (H : Heap) (locs : List Loc) (ls : Array Slot), va_P (dC, dI) vwCl [(a0, .inr (8, [.ref a1, .ref a2, .int v_acts, .ref a3, .ref a4, .int v_keptActs, .ref a5, .int v_typed, .ref a6, .ref a7, .ref a8, .ref a9, .ref a10, .int v_isSet, .ref a11, .ref a12, .ref a13, .int v_arePages, .ref a14, .ref a15, .int v_place, .ref a16, .int v_readMany])), (a1, .inl (cI, 189, .inl v_now))] H → va_D A [(a0, .inr (8, [.ref a1, .ref a2, .int v_acts, .ref a3, .ref a4, .int v_keptActs, .ref a5, .int v_typed, .ref a6, .ref a7, .ref a8, .ref a9, .ref a10, .int v_isSet, .ref a11, .ref a12, .ref a13, .int v_arePages, .ref a14, .ref a15, .int v_place, .ref a16, .int v_readMany])), (a1, .inl (cI, 189, .inl v_now))] → va_S A s.heap H locs → lv_has ls 4 [(0, .ref a0), (1, .int i1_1), (2, .int i2_2)] → W p l e ({ frames := 8, cells := 0, slots := 0, locals := 183 } : Room) s m args below meth c H locs 0 0 Q (F0 m 4 ls []) := by
      intro rr hk4 hkr4 n
      induction n with
      | zero => intro i1_1 i2_2 hf; cases hf
      | succ n ih4 =>
        intro i1_1 i2_2 hf H locs ls hP hD hS hl
        obtain ⟨o4, hf, hi, he⟩ := loopN_el hf
        refine lv_iload_n hx hb dX8_allCosts_4 rfl (lv_at hl 2 rfl) ?_
        refine lv_aload_n hx hb dX8_allCosts_5 rfl (lv_at hl 0 rfl) ?_
        refine va_get (D := (dC, dI)) (ci := 8) (v := .ref a1) (C := RX8) (T := TX8) (N := 23) hx hb hT in_X8 hown hK hP 0 rfl rfl 0 (by decide) (hT _ q_fl_X8_7) (fun _ h9 => h9) rfl dX8_allCosts_6 ?_
        refine lv_iconst (v := 0) hx hb dX8_allCosts_9 (by decide) ?_
        refine ia_ld hx hb hK hP 1 0 rfl rfl (ib_in (by decide)) (j := 0) (by decide) dX8_allCosts_10 ?_
        refine lv_icmp_ge (tgt := 37) hx hb dX8_allCosts_11 (by decide) (fun c3 => ?_) (fun c3 => ?_)
        · replace hf := it_t c3 hf
          exact hk4 _ _ (he _ (Option.some.inj hf).symm).symm H locs ls hP hD hS (lv_sub hl [1] rfl)
        · replace hf := it_f c3 hf
          refine lv_aload_n hx hb dX8_allCosts_14 rfl (lv_at hl 0 rfl) ?_
          refine lv_iload_n hx hb dX8_allCosts_15 rfl (lv_at hl 2 rfl) ?_
          obtain ⟨r_4, hq5, hf⟩ := bd1_el hf
          refine mc_V (As := [.int i2_2]) (rest := []) (wr := []) (wn := [(a0, .inr (8, [.ref a1, .ref a2, .int v_acts, .ref a3, .ref a4, .int v_keptActs, .ref a5, .int v_typed, .ref a6, .ref a7, .ref a8, .ref a9, .ref a10, .int v_isSet, .ref a11, .ref a12, .ref a13, .int v_arePages, .ref a14, .ref a15, .int v_place, .ref a16, .int v_readMany])), (a1, .inl (cI, 189, .inl v_now))]) ⟨hx, hb, hml, hown, hT⟩ (c_X8_costOf l dC dI cI cJ cP cS a0 a1 a2 a3 a4 a5 a6 a7 a8 a9 a10 a11 a12 a13 a14 a15 a16 v_acts v_keptActs v_typed v_isSet v_arePages v_place v_readMany v_now i2_2 r_4 hq5) (cwV 1 hT (gdV q_ml_X8_118 q_im_X8_costOf q_se_X8_costOf q_in_X8 q_co_X8_costOf) rfl rfl rfl hd_X8_costOf ⟨Nat.le_of_ble_eq_true rfl, Nat.le_of_ble_eq_true rfl⟩) hK hF hP hD hS hA 0 rfl rfl rfl [0, 1] [] [0, 1] rfl (by decide) rfl (by decide) (by decide) rfl (by decide) rfl hl.1 rfl (Nat.le_of_ble_eq_true rfl) dX8_allCosts_16 ⟨Nat.zero_le _, Nat.zero_le _⟩ (fun H locs hP hD hS => ?_)
          refine W.eq (g2 := F0 m 19 ls [.int r_4]) rfl ?_
          refine lv_istore_n (lv' := [(3, .int r_4), (0, .ref a0), (1, .int i1_1), (2, .int i2_2)]) hx hb dX8_allCosts_19 rfl hl (by decide) rfl (fun ls hl => ?_)
          refine lv_iload_n hx hb dX8_allCosts_20 rfl (lv_at hl 0 rfl) ?_
          refine lv_if_ge (tgt := 27) hx hb dX8_allCosts_21 (by decide) (fun c6 => ?_) (fun c6 => ?_)
          · replace hf := it_t c6 hf
            refine lv_iload_n hx hb dX8_allCosts_27 rfl (lv_at hl 2 rfl) ?_
            refine lv_iload_n hx hb dX8_allCosts_28 rfl (lv_at hl 0 rfl) ?_
            refine lv_iadd hx hb dX8_allCosts_29 ?_
            obtain ⟨x1_7, ex1_7, hf⟩ := nm_el hf
            refine lv_as (congrArg Value.int ex1_7) ?_
            refine lv_istore_n (lv' := [(1, .int x1_7), (3, .int r_4), (0, .ref a0), (2, .int i2_2)]) hx hb dX8_allCosts_30 rfl hl (by decide) rfl (fun ls hl => ?_)
            refine lv_iinc (v := (i2_2 + (1 : Int32))) (lv' := [(2, .int (i2_2 + (1 : Int32))), (1, .int x1_7), (3, .int r_4), (0, .ref a0)]) hx hb dX8_allCosts_31 hl (k := 3) rfl rfl (by decide) rfl (fun ls hl => ?_)
            refine lv_goto (tgt := 4) hx hb dX8_allCosts_34 (by decide) ?_
            exact ih4 x1_7 (i2_2 + (1 : Int32)) (hi _ (Option.some.inj hf).symm) H locs ls hP hD hS (lv_sub hl [3, 1, 0] rfl)
          · replace hf := it_f c6 hf
            refine lv_bipush (v := (-4)) hx hb dX8_allCosts_24 (by decide) ?_
            exact hkr4 _ (he _ (Option.some.inj hf).symm).symm H locs ls _ dX8_allCosts_26 hP hD hS
    rcases bdS_el hf with ⟨q, hq, hf⟩ | ⟨q, hq, hf⟩
    · obtain ⟨f1_11, f2_12, eq9, hf⟩ := bd2_el hf
      cases eq9
      refine hL4 (.inl (f1_11, f2_12)) (fun z_8 z_9 h9 H locs ls hP hD hS hl => ?_) (fun _ h9 => by cases h9) fuel (0 : Int32) (0 : Int32) hq H locs ls hP hD hS (lv_sub hl [2, 1, 0] rfl)
      replace h9 := Sum.inl.inj h9
      simp only [Prod.mk.injEq] at h9
      obtain ⟨h9_0, h9_1⟩ := h9
      subst h9_0; subst h9_1
      refine lv_iload_n hx hb dX8_allCosts_37 rfl (lv_at hl 0 rfl) ?_
      replace hf := Option.some.inj hf
      subst hf
      exact hret H locs ls _ dX8_allCosts_38 hP hD hS
    · refine hL4 (.inr q) (fun _ _ h9 => by cases h9) ?_ fuel (0 : Int32) (0 : Int32) hq H locs ls hP hD hS (lv_sub hl [2, 1, 0] rfl)
      intro z0 h9
      replace h9 := Sum.inr.inj h9
      subst h9
      cases hf
      exact hret
  refine key _ ?_ _ _ _ hP hD hS hl
  intro H locs ls pc d hP hD hS
  exact W.iret (v := rv) hx hb hr (fun t ht hW => ⟨⟨rfl, by rw [ht]; exact hP, hD⟩, hS.F ht⟩) hS.2.2 d
def p_X8_rowsFrom_L5 (v_now : (Nat → Int32)) (v_rows : (Nat → Int32)) (x1 : Int32) (x2 : Int32) (s : Int32 × Int32) : Option ((Int32 × Int32) ⊕ (Int32 × Int32)) := match s with
  | (i3_1, i4_2) => (if x2 ≤ i4_2 then (some (.inr (i3_1, i4_2))) else (gd (ib i4_2 12) (if i4_2 ≤ x1 then (nm (i3_1 + ((v_rows (tn i4_2)) + (0 : Int32))) fun x3_6 => (some (.inl (x3_6, (i4_2 + (1 : Int32)))))) else (bd1 (p_X8_begins v_now i4_2) fun r_7 => (if r_7 = (0 : Int32) then (nm (i3_1 + ((v_rows (tn i4_2)) + (0 : Int32))) fun x3_10 => (some (.inl (x3_10, (i4_2 + (1 : Int32)))))) else (nm (i3_1 + ((v_rows (tn i4_2)) + (1 : Int32))) fun x3_11 => (some (.inl (x3_11, (i4_2 + (1 : Int32)))))))))))
def p_X8_rowsFrom (v_now : (Nat → Int32)) (v_rows : (Nat → Int32)) (x1 : Int32) (x2 : Int32) : Option (Int32) :=
  (bd2 (loopN (p_X8_rowsFrom_L5 v_now v_rows x1 x2) fuel ((0 : Int32), x1)) fun f3_14 f4_15 => (some f3_14))
set_option maxHeartbeats 4000000 in
set_option maxRecDepth 100000 in
theorem c_X8_rowsFrom (l : Launch) (dC : Nat → ClassId) (dI : Nat → Nat → Nat) (cI cJ cP cS : ClassId) (a0 : Nat) (a1 : Nat) (a2 : Nat) (a3 : Nat) (a4 : Nat) (a5 : Nat) (a6 : Nat) (a7 : Nat) (a8 : Nat) (a9 : Nat) (a10 : Nat) (a11 : Nat) (a12 : Nat) (a13 : Nat) (a14 : Nat) (a15 : Nat) (a16 : Nat) (v_acts : Int32) (v_keptActs : Int32) (v_typed : Int32) (v_isSet : Int32) (v_arePages : Int32) (v_place : Int32) (v_readMany : Int32) (v_now : (Nat → Int32)) (v_rows : (Nat → Int32))  (x1 : Int32) (x2 : Int32) (rv : Int32)  (hf : p_X8_rowsFrom v_now v_rows x1 x2 = some rv) : MC l (dC, dI) (tyl cI cJ cP cS) yX8_rowsFrom (Cond.code yX8_rowsFrom cX8_rowsFrom 5 (some .int) :: TBG) ({ frames := 2, cells := 0, slots := 0, locals := 43 } : Room) [.ref a0, .int x1, .int x2] [(a0, .inr (8, [.ref a1, .ref a2, .int v_acts, .ref a3, .ref a4, .int v_keptActs, .ref a5, .int v_typed, .ref a6, .ref a7, .ref a8, .ref a9, .ref a10, .int v_isSet, .ref a11, .ref a12, .ref a13, .int v_arePages, .ref a14, .ref a15, .int v_place, .ref a16, .int v_readMany])), (a1, .inl (cI, 189, .inl v_now)), (a10, .inl (cI, 12, .inl v_rows))] [(a0, .inr (8, [.ref a1, .ref a2, .int v_acts, .ref a3, .ref a4, .int v_keptActs, .ref a5, .int v_typed, .ref a6, .ref a7, .ref a8, .ref a9, .ref a10, .int v_isSet, .ref a11, .ref a12, .ref a13, .int v_arePages, .ref a14, .ref a15, .int v_place, .ref a16, .int v_readMany])), (a1, .inl (cI, 189, .inl v_now)), (a10, .inl (cI, 12, .inl v_rows))] (some (.int rv)) := by
  intro sz
  unfold MPost
  refine Met.ofW (cc := cX8_rowsFrom) (maxL := 5) (ret := (some .int)) (by decide) rfl ?_
  intro p e s m args below meth c s₁ B hml hv
  obtain ⟨rfl, hsz, hP, hK, hD0, hF⟩ := hv
  have hx := B.exec
  have hb := B.bytes
  have hr := B.returns
  have hT : ∀ w ∈ TBG, w.before _ s = true := fun w h => atoms_spec B.pre w (List.mem_cons_of_mem _ h)
  have hown : s.vm.findClass RX8 = some m.cls := findClass_of_methodNamed B.named
  have hlocks := B.notSynchronized
  subst hsz
  have hD := hD0.self (sz := s.heap.size)
  generalize hAe : va_A [(a0, .inr (8, [.ref a1, .ref a2, .int v_acts, .ref a3, .ref a4, .int v_keptActs, .ref a5, .int v_typed, .ref a6, .ref a7, .ref a8, .ref a9, .ref a10, .int v_isSet, .ref a11, .ref a12, .ref a13, .int v_arePages, .ref a14, .ref a15, .int v_place, .ref a16, .int v_readMany])), (a1, .inl (cI, 189, .inl v_now)), (a10, .inl (cI, 12, .inl v_rows))] s.heap.size = A at hD hF ⊢
  have hA : ∀ q : Nat, s.heap.size ≤ q → A q := fun q h => by rw [← hAe]; exact Or.inr h
  have hS : va_S A s.heap s.heap [] := va_S.rf
  have hl := lv_entry ([.ref a0, .int x1, .int x2]) (n := 5) (Nat.le_of_ble_eq_true rfl)
  rw [lg_entry_eq]
  generalize (lg_sl ([.ref a0, .int x1, .int x2]) ++ List.replicate (5 - (lg_sl ([.ref a0, .int x1, .int x2])).length) Slot.unset).toArray = ls at hl ⊢
  have hl : lv_has ls 5 [(0, .ref a0), (1, .int x1), (2, .int x2)] := hl
  generalize ([.ref a0, .int x1, .int x2] : List Value).toArray = args at hT ⊢
  have key : ∀ (Q : State → Prop), (∀ (H : Heap) (locs : List Loc) (ls : Array Slot) (pc : Nat), decode cX8_rowsFrom pc = .ok (.ireturn, 1) → va_P (dC, dI) vwCl [(a0, .inr (8, [.ref a1, .ref a2, .int v_acts, .ref a3, .ref a4, .int v_keptActs, .ref a5, .int v_typed, .ref a6, .ref a7, .ref a8, .ref a9, .ref a10, .int v_isSet, .ref a11, .ref a12, .ref a13, .int v_arePages, .ref a14, .ref a15, .int v_place, .ref a16, .int v_readMany])), (a1, .inl (cI, 189, .inl v_now)), (a10, .inl (cI, 12, .inl v_rows))] H → va_D A [(a0, .inr (8, [.ref a1, .ref a2, .int v_acts, .ref a3, .ref a4, .int v_keptActs, .ref a5, .int v_typed, .ref a6, .ref a7, .ref a8, .ref a9, .ref a10, .int v_isSet, .ref a11, .ref a12, .ref a13, .int v_arePages, .ref a14, .ref a15, .int v_place, .ref a16, .int v_readMany])), (a1, .inl (cI, 189, .inl v_now)), (a10, .inl (cI, 12, .inl v_rows))] → va_S A s.heap H locs → W p l e ({ frames := 2, cells := 0, slots := 0, locals := 43 } : Room) s m args below meth c H locs 0 0 Q (F0 m pc ls [.int rv])) → ∀ (H : Heap) (locs : List Loc) (ls : Array Slot), va_P (dC, dI) vwCl [(a0, .inr (8, [.ref a1, .ref a2, .int v_acts, .ref a3, .ref a4, .int v_keptActs, .ref a5, .int v_typed, .ref a6, .ref a7, .ref a8, .ref a9, .ref a10, .int v_isSet, .ref a11, .ref a12, .ref a13, .int v_arePages, .ref a14, .ref a15, .int v_place, .ref a16, .int v_readMany])), (a1, .inl (cI, 189, .inl v_now)), (a10, .inl (cI, 12, .inl v_rows))] H → va_D A [(a0, .inr (8, [.ref a1, .ref a2, .int v_acts, .ref a3, .ref a4, .int v_keptActs, .ref a5, .int v_typed, .ref a6, .ref a7, .ref a8, .ref a9, .ref a10, .int v_isSet, .ref a11, .ref a12, .ref a13, .int v_arePages, .ref a14, .ref a15, .int v_place, .ref a16, .int v_readMany])), (a1, .inl (cI, 189, .inl v_now)), (a10, .inl (cI, 12, .inl v_rows))] → va_S A s.heap H locs → lv_has ls 5 [(0, .ref a0), (1, .int x1), (2, .int x2)] → W p l e ({ frames := 2, cells := 0, slots := 0, locals := 43 } : Room) s m args below meth c H locs 0 0 Q (F0 m 0 ls []) := by
    intro Q hret H locs ls hP hD hS hl
    refine lv_iconst (v := 0) hx hb dX8_rowsFrom_0 (by decide) ?_
    refine lv_istore_n (lv' := [(3, .int (0 : Int32)), (0, .ref a0), (1, .int x1), (2, .int x2)]) hx hb dX8_rowsFrom_1 rfl hl (by decide) rfl (fun ls hl => ?_)
    refine lv_iload_n hx hb dX8_rowsFrom_2 rfl (lv_at hl 2 rfl) ?_
    refine lv_istore (lv' := [(4, .int x1), (3, .int (0 : Int32)), (0, .ref a0), (1, .int x1), (2, .int x2)]) hx hb dX8_rowsFrom_3 hl (by decide) rfl (fun ls hl => ?_)
    have hL5 : ∀ (rr : Int32 × Int32), (∀ (z_12 : Int32) (z_13 : Int32), rr = (z_12, z_13) → ∀ (H : Heap) (locs : List Loc) (ls : Array Slot), va_P (dC, dI) vwCl [(a0, .inr (8, [.ref a1, .ref a2, .int v_acts, .ref a3, .ref a4, .int v_keptActs, .ref a5, .int v_typed, .ref a6, .ref a7, .ref a8, .ref a9, .ref a10, .int v_isSet, .ref a11, .ref a12, .ref a13, .int v_arePages, .ref a14, .ref a15, .int v_place, .ref a16, .int v_readMany])), (a1, .inl (cI, 189, .inl v_now)), (a10, .inl (cI, 12, .inl v_rows))] H → va_D A [(a0, .inr (8, [.ref a1, .ref a2, .int v_acts, .ref a3, .ref a4, .int v_keptActs, .ref a5, .int v_typed, .ref a6, .ref a7, .ref a8, .ref a9, .ref a10, .int v_isSet, .ref a11, .ref a12, .ref a13, .int v_arePages, .ref a14, .ref a15, .int v_place, .ref a16, .int v_readMany])), (a1, .inl (cI, 189, .inl v_now)), (a10, .inl (cI, 12, .inl v_rows))] → va_S A s.heap H locs → lv_has ls 5 [(3, .int z_12)] → W p l e ({ frames := 2, cells := 0, slots := 0, locals := 43 } : Room) s m args below meth c H locs 0 0 Q (F0 m 48 ls [])) → ∀ (n : Nat) (i3_1 : Int32) (i4_2 : Int32), loopN (p_X8_rowsFrom_L5 v_now v_rows x1 x2) n (i3_1, i4_2) = some rr → ∀ (H : Heap) (locs : List Loc) (ls : Array Slot), va_P (dC, dI) vwCl [(a0, .inr (8, [.ref a1, .ref a2, .int v_acts, .ref a3, .ref a4, .int v_keptActs, .ref a5, .int v_typed, .ref a6, .ref a7, .ref a8, .ref a9, .ref a10, .int v_isSet, .ref a11, .ref a12, .ref a13, .int v_arePages, .ref a14, .ref a15, .int v_place, .ref a16, .int v_readMany])), (a1, .inl (cI, 189, .inl v_now)), (a10, .inl (cI, 12, .inl v_rows))] H → va_D A [(a0, .inr (8, [.ref a1, .ref a2, .int v_acts, .ref a3, .ref a4, .int v_keptActs, .ref a5, .int v_typed, .ref a6, .ref a7, .ref a8, .ref a9, .ref a10, .int v_isSet, .ref a11, .ref a12, .ref a13, .int v_arePages, .ref a14, .ref a15, .int v_place, .ref a16, .int v_readMany])), (a1, .inl (cI, 189, .inl v_now)), (a10, .inl (cI, 12, .inl v_rows))] → va_S A s.heap H locs → lv_has ls 5 [(0, .ref a0), (1, .int x1), (2, .int x2), (3, .int i3_1), (4, .int i4_2)] → W p l e ({ frames := 2, cells := 0, slots := 0, locals := 43 } : Room) s m args below meth c H locs 0 0 Q (F0 m 5 ls []) := by
      intro rr hk5 n
      induction n with
      | zero => intro i3_1 i4_2 hf; cases hf
      | succ n ih5 =>
        intro i3_1 i4_2 hf H locs ls hP hD hS hl
        obtain ⟨o5, hf, hi, he⟩ := loopN_el hf
        refine lv_iload hx hb dX8_rowsFrom_5 (lv_at hl 4 rfl) ?_
        refine lv_iload_n hx hb dX8_rowsFrom_7 rfl (lv_at hl 2 rfl) ?_
        refine lv_icmp_ge (tgt := 48) hx hb dX8_rowsFrom_8 (by decide) (fun c3 => ?_) (fun c3 => ?_)
        · replace hf := it_t c3 hf
          exact hk5 _ _ (he _ (Option.some.inj hf).symm).symm H locs ls hP hD hS (lv_sub hl [3] rfl)
        · replace hf := it_f c3 hf
          refine lv_iload_n hx hb dX8_rowsFrom_11 rfl (lv_at hl 3 rfl) ?_
          refine lv_aload_n hx hb dX8_rowsFrom_12 rfl (lv_at hl 0 rfl) ?_
          refine va_get (D := (dC, dI)) (ci := 8) (v := .ref a10) (C := RX8) (T := TX8) (N := 23) hx hb hT in_X8 hown hK hP 0 rfl rfl 12 (by decide) (hT _ q_fl_X8_42) (fun _ h9 => h9) rfl dX8_rowsFrom_13 ?_
          refine lv_iload hx hb dX8_rowsFrom_16 (lv_at hl 4 rfl) ?_
          obtain ⟨h4, hf⟩ := gd_el hf
          refine ia_ld hx hb hK hP 2 0 rfl rfl (ib_in h4) (j := (tn i4_2)) rfl dX8_rowsFrom_18 ?_
          refine lv_iload hx hb dX8_rowsFrom_19 (lv_at hl 4 rfl) ?_
          refine lv_iload_n hx hb dX8_rowsFrom_21 rfl (lv_at hl 1 rfl) ?_
          refine lv_icmp_le (tgt := 38) hx hb dX8_rowsFrom_22 (by decide) (fun c5 => ?_) (fun c5 => ?_)
          · replace hf := it_t c5 hf
            refine lv_iconst (v := 0) hx hb dX8_rowsFrom_38 (by decide) ?_
            refine lv_iadd hx hb dX8_rowsFrom_39 ?_
            refine lv_iadd hx hb dX8_rowsFrom_40 ?_
            obtain ⟨x3_6, ex3_6, hf⟩ := nm_el hf
            refine lv_as (congrArg Value.int ex3_6) ?_
            refine lv_istore_n (lv' := [(3, .int x3_6), (0, .ref a0), (1, .int x1), (2, .int x2), (4, .int i4_2)]) hx hb dX8_rowsFrom_41 rfl hl (by decide) rfl (fun ls hl => ?_)
            refine lv_iinc (v := (i4_2 + (1 : Int32))) (lv' := [(4, .int (i4_2 + (1 : Int32))), (3, .int x3_6), (0, .ref a0), (1, .int x1), (2, .int x2)]) hx hb dX8_rowsFrom_42 hl (k := 4) rfl rfl (by decide) rfl (fun ls hl => ?_)
            refine lv_goto (tgt := 5) hx hb dX8_rowsFrom_45 (by decide) ?_
            exact ih5 x3_6 (i4_2 + (1 : Int32)) (hi _ (Option.some.inj hf).symm) H locs ls hP hD hS (lv_sub hl [2, 3, 4, 1, 0] rfl)
          · replace hf := it_f c5 hf
            refine lv_aload_n hx hb dX8_rowsFrom_25 rfl (lv_at hl 0 rfl) ?_
            refine lv_iload hx hb dX8_rowsFrom_26 (lv_at hl 4 rfl) ?_
            obtain ⟨r_7, hq8, hf⟩ := bd1_el hf
            refine mc_V (As := [.int i4_2]) (rest := [.int (v_rows (tn i4_2)), .int i3_1]) (wr := [(a10, .inl (cI, 12, .inl v_rows))]) (wn := [(a0, .inr (8, [.ref a1, .ref a2, .int v_acts, .ref a3, .ref a4, .int v_keptActs, .ref a5, .int v_typed, .ref a6, .ref a7, .ref a8, .ref a9, .ref a10, .int v_isSet, .ref a11, .ref a12, .ref a13, .int v_arePages, .ref a14, .ref a15, .int v_place, .ref a16, .int v_readMany])), (a1, .inl (cI, 189, .inl v_now)), (a10, .inl (cI, 12, .inl v_rows))]) ⟨hx, hb, hml, hown, hT⟩ (c_X8_begins l dC dI cI cJ cP cS a0 a1 a2 a3 a4 a5 a6 a7 a8 a9 a10 a11 a12 a13 a14 a15 a16 v_acts v_keptActs v_typed v_isSet v_arePages v_place v_readMany v_now i4_2 r_7 hq8) (cwV 1 hT (gdV q_ml_X8_71 q_im_X8_begins q_se_X8_begins q_in_X8 q_co_X8_begins) rfl rfl rfl hd_X8_begins ⟨Nat.le_of_ble_eq_true rfl, Nat.le_of_ble_eq_true rfl⟩) hK hF hP hD hS hA 0 rfl rfl rfl [0, 1] [2] [1, 2, 0] rfl (by decide) rfl (by decide) (by decide) rfl (by decide) rfl hl.1 rfl (Nat.le_of_ble_eq_true rfl) dX8_rowsFrom_28 ⟨Nat.zero_le _, Nat.zero_le _⟩ (fun H locs hP hD hS => ?_)
            refine W.eq (g2 := F0 m 31 ls [.int r_7, .int (v_rows (tn i4_2)), .int i3_1]) rfl ?_
            refine lv_if_eq (tgt := 38) hx hb dX8_rowsFrom_31 (by decide) (fun c9 => ?_) (fun c9 => ?_)
            · replace hf := it_t c9 hf
              refine lv_iconst (v := 0) hx hb dX8_rowsFrom_38 (by decide) ?_
              refine lv_iadd hx hb dX8_rowsFrom_39 ?_
              refine lv_iadd hx hb dX8_rowsFrom_40 ?_
              obtain ⟨x3_10, ex3_10, hf⟩ := nm_el hf
              refine lv_as (congrArg Value.int ex3_10) ?_
              refine lv_istore_n (lv' := [(3, .int x3_10), (0, .ref a0), (1, .int x1), (2, .int x2), (4, .int i4_2)]) hx hb dX8_rowsFrom_41 rfl hl (by decide) rfl (fun ls hl => ?_)
              refine lv_iinc (v := (i4_2 + (1 : Int32))) (lv' := [(4, .int (i4_2 + (1 : Int32))), (3, .int x3_10), (0, .ref a0), (1, .int x1), (2, .int x2)]) hx hb dX8_rowsFrom_42 hl (k := 4) rfl rfl (by decide) rfl (fun ls hl => ?_)
              refine lv_goto (tgt := 5) hx hb dX8_rowsFrom_45 (by decide) ?_
              exact ih5 x3_10 (i4_2 + (1 : Int32)) (hi _ (Option.some.inj hf).symm) H locs ls hP hD hS (lv_sub hl [2, 3, 4, 1, 0] rfl)
            · replace hf := it_f c9 hf
              refine lv_iconst (v := 1) hx hb dX8_rowsFrom_34 (by decide) ?_
              refine lv_goto (tgt := 39) hx hb dX8_rowsFrom_35 (by decide) ?_
              refine lv_iadd hx hb dX8_rowsFrom_39 ?_
              refine lv_iadd hx hb dX8_rowsFrom_40 ?_
              obtain ⟨x3_11, ex3_11, hf⟩ := nm_el hf
              refine lv_as (congrArg Value.int ex3_11) ?_
              refine lv_istore_n (lv' := [(3, .int x3_11), (0, .ref a0), (1, .int x1), (2, .int x2), (4, .int i4_2)]) hx hb dX8_rowsFrom_41 rfl hl (by decide) rfl (fun ls hl => ?_)
              refine lv_iinc (v := (i4_2 + (1 : Int32))) (lv' := [(4, .int (i4_2 + (1 : Int32))), (3, .int x3_11), (0, .ref a0), (1, .int x1), (2, .int x2)]) hx hb dX8_rowsFrom_42 hl (k := 4) rfl rfl (by decide) rfl (fun ls hl => ?_)
              refine lv_goto (tgt := 5) hx hb dX8_rowsFrom_45 (by decide) ?_
              exact ih5 x3_11 (i4_2 + (1 : Int32)) (hi _ (Option.some.inj hf).symm) H locs ls hP hD hS (lv_sub hl [2, 3, 4, 1, 0] rfl)
    obtain ⟨f3_14, f4_15, hq, hf⟩ := bd2_el hf
    refine hL5 (f3_14, f4_15) (fun z_12 z_13 h9 H locs ls hP hD hS hl => ?_) fuel (0 : Int32) x1 hq H locs ls hP hD hS (lv_sub hl [2, 3, 4, 1, 0] rfl)
    simp only [Prod.mk.injEq] at h9
    obtain ⟨h9_0, h9_1⟩ := h9
    subst h9_0; subst h9_1
    refine lv_iload_n hx hb dX8_rowsFrom_48 rfl (lv_at hl 0 rfl) ?_
    replace hf := Option.some.inj hf
    subst hf
    exact hret H locs ls _ dX8_rowsFrom_49 hP hD hS
  refine key _ ?_ _ _ _ hP hD hS hl
  intro H locs ls pc d hP hD hS
  exact W.iret (v := rv) hx hb hr (fun t ht hW => ⟨⟨rfl, by rw [ht]; exact hP, hD⟩, hS.F ht⟩) hS.2.2 d
def p_X8_ends_B56_10 (v_now : (Nat → Int32)) (x2 : Int32) (w0_10 : Int32) : Option (Int32) :=
  (if (x2 - w0_10) < (v_now 6) then (some (-4 : Int32)) else (bd1 (p_X8_endOf v_now x2) fun r_12 => (if (r_12 - x2) < (v_now 6) then (some (-4 : Int32)) else (some (1 : Int32)))))
def p_X8_ends (v_now : (Nat → Int32)) (v_rows : (Nat → Int32)) (x1 : Int32) (x2 : Int32) : Option (Int32) :=
  (bd1 (p_X8_rowsFrom v_now v_rows x1 x2) fun r_1 => (if r_1 ≤ (v_now 5) then (if x2 = (v_now 0) then (some (0 : Int32)) else (bd1 (p_X8_begins v_now x2) fun r_5 => (if r_5 = (0 : Int32) then (bd1 (p_X8_startOf v_now x2) fun r_8 => (if r_8 ≤ x1 then (p_X8_ends_B56_10 v_now x2 x1) else (bd1 (p_X8_startOf v_now x2) fun r_16 => (p_X8_ends_B56_10 v_now x2 r_16)))) else (some (0 : Int32))))) else (some (-4 : Int32))))
set_option maxHeartbeats 4000000 in
set_option maxRecDepth 100000 in
theorem c_X8_ends (l : Launch) (dC : Nat → ClassId) (dI : Nat → Nat → Nat) (cI cJ cP cS : ClassId) (a0 : Nat) (a1 : Nat) (a2 : Nat) (a3 : Nat) (a4 : Nat) (a5 : Nat) (a6 : Nat) (a7 : Nat) (a8 : Nat) (a9 : Nat) (a10 : Nat) (a11 : Nat) (a12 : Nat) (a13 : Nat) (a14 : Nat) (a15 : Nat) (a16 : Nat) (v_acts : Int32) (v_keptActs : Int32) (v_typed : Int32) (v_isSet : Int32) (v_arePages : Int32) (v_place : Int32) (v_readMany : Int32) (v_now : (Nat → Int32)) (v_rows : (Nat → Int32))  (x1 : Int32) (x2 : Int32) (rv : Int32)  (hf : p_X8_ends v_now v_rows x1 x2 = some rv) : MC l (dC, dI) (tyl cI cJ cP cS) yX8_ends (Cond.code yX8_ends cX8_ends 4 (some .int) :: TBG) ({ frames := 3, cells := 0, slots := 0, locals := 67 } : Room) [.ref a0, .int x1, .int x2] [(a0, .inr (8, [.ref a1, .ref a2, .int v_acts, .ref a3, .ref a4, .int v_keptActs, .ref a5, .int v_typed, .ref a6, .ref a7, .ref a8, .ref a9, .ref a10, .int v_isSet, .ref a11, .ref a12, .ref a13, .int v_arePages, .ref a14, .ref a15, .int v_place, .ref a16, .int v_readMany])), (a1, .inl (cI, 189, .inl v_now)), (a10, .inl (cI, 12, .inl v_rows))] [(a0, .inr (8, [.ref a1, .ref a2, .int v_acts, .ref a3, .ref a4, .int v_keptActs, .ref a5, .int v_typed, .ref a6, .ref a7, .ref a8, .ref a9, .ref a10, .int v_isSet, .ref a11, .ref a12, .ref a13, .int v_arePages, .ref a14, .ref a15, .int v_place, .ref a16, .int v_readMany])), (a1, .inl (cI, 189, .inl v_now)), (a10, .inl (cI, 12, .inl v_rows))] (some (.int rv)) := by
  intro sz
  unfold MPost
  refine Met.ofW (cc := cX8_ends) (maxL := 4) (ret := (some .int)) (by decide) rfl ?_
  intro p e s m args below meth c s₁ B hml hv
  obtain ⟨rfl, hsz, hP, hK, hD0, hF⟩ := hv
  have hx := B.exec
  have hb := B.bytes
  have hr := B.returns
  have hT : ∀ w ∈ TBG, w.before _ s = true := fun w h => atoms_spec B.pre w (List.mem_cons_of_mem _ h)
  have hown : s.vm.findClass RX8 = some m.cls := findClass_of_methodNamed B.named
  have hlocks := B.notSynchronized
  subst hsz
  have hD := hD0.self (sz := s.heap.size)
  generalize hAe : va_A [(a0, .inr (8, [.ref a1, .ref a2, .int v_acts, .ref a3, .ref a4, .int v_keptActs, .ref a5, .int v_typed, .ref a6, .ref a7, .ref a8, .ref a9, .ref a10, .int v_isSet, .ref a11, .ref a12, .ref a13, .int v_arePages, .ref a14, .ref a15, .int v_place, .ref a16, .int v_readMany])), (a1, .inl (cI, 189, .inl v_now)), (a10, .inl (cI, 12, .inl v_rows))] s.heap.size = A at hD hF ⊢
  have hA : ∀ q : Nat, s.heap.size ≤ q → A q := fun q h => by rw [← hAe]; exact Or.inr h
  have hS : va_S A s.heap s.heap [] := va_S.rf
  have hl := lv_entry ([.ref a0, .int x1, .int x2]) (n := 4) (Nat.le_of_ble_eq_true rfl)
  rw [lg_entry_eq]
  generalize (lg_sl ([.ref a0, .int x1, .int x2]) ++ List.replicate (4 - (lg_sl ([.ref a0, .int x1, .int x2])).length) Slot.unset).toArray = ls at hl ⊢
  have hl : lv_has ls 4 [(0, .ref a0), (1, .int x1), (2, .int x2)] := hl
  generalize ([.ref a0, .int x1, .int x2] : List Value).toArray = args at hT ⊢
  have key : ∀ (Q : State → Prop), (∀ (H : Heap) (locs : List Loc) (ls : Array Slot) (pc : Nat), decode cX8_ends pc = .ok (.ireturn, 1) → va_P (dC, dI) vwCl [(a0, .inr (8, [.ref a1, .ref a2, .int v_acts, .ref a3, .ref a4, .int v_keptActs, .ref a5, .int v_typed, .ref a6, .ref a7, .ref a8, .ref a9, .ref a10, .int v_isSet, .ref a11, .ref a12, .ref a13, .int v_arePages, .ref a14, .ref a15, .int v_place, .ref a16, .int v_readMany])), (a1, .inl (cI, 189, .inl v_now)), (a10, .inl (cI, 12, .inl v_rows))] H → va_D A [(a0, .inr (8, [.ref a1, .ref a2, .int v_acts, .ref a3, .ref a4, .int v_keptActs, .ref a5, .int v_typed, .ref a6, .ref a7, .ref a8, .ref a9, .ref a10, .int v_isSet, .ref a11, .ref a12, .ref a13, .int v_arePages, .ref a14, .ref a15, .int v_place, .ref a16, .int v_readMany])), (a1, .inl (cI, 189, .inl v_now)), (a10, .inl (cI, 12, .inl v_rows))] → va_S A s.heap H locs → W p l e ({ frames := 3, cells := 0, slots := 0, locals := 67 } : Room) s m args below meth c H locs 0 0 Q (F0 m pc ls [.int rv])) → ∀ (H : Heap) (locs : List Loc) (ls : Array Slot), va_P (dC, dI) vwCl [(a0, .inr (8, [.ref a1, .ref a2, .int v_acts, .ref a3, .ref a4, .int v_keptActs, .ref a5, .int v_typed, .ref a6, .ref a7, .ref a8, .ref a9, .ref a10, .int v_isSet, .ref a11, .ref a12, .ref a13, .int v_arePages, .ref a14, .ref a15, .int v_place, .ref a16, .int v_readMany])), (a1, .inl (cI, 189, .inl v_now)), (a10, .inl (cI, 12, .inl v_rows))] H → va_D A [(a0, .inr (8, [.ref a1, .ref a2, .int v_acts, .ref a3, .ref a4, .int v_keptActs, .ref a5, .int v_typed, .ref a6, .ref a7, .ref a8, .ref a9, .ref a10, .int v_isSet, .ref a11, .ref a12, .ref a13, .int v_arePages, .ref a14, .ref a15, .int v_place, .ref a16, .int v_readMany])), (a1, .inl (cI, 189, .inl v_now)), (a10, .inl (cI, 12, .inl v_rows))] → va_S A s.heap H locs → lv_has ls 4 [(0, .ref a0), (1, .int x1), (2, .int x2)] → W p l e ({ frames := 3, cells := 0, slots := 0, locals := 67 } : Room) s m args below meth c H locs 0 0 Q (F0 m 0 ls []) := by
    intro Q hret H locs ls hP hD hS hl
    refine lv_aload_n hx hb dX8_ends_0 rfl (lv_at hl 0 rfl) ?_
    refine lv_iload_n hx hb dX8_ends_1 rfl (lv_at hl 1 rfl) ?_
    refine lv_iload_n hx hb dX8_ends_2 rfl (lv_at hl 2 rfl) ?_
    obtain ⟨r_1, hq2, hf⟩ := bd1_el hf
    refine mc_V (As := [.int x1, .int x2]) (rest := []) (wr := []) (wn := [(a0, .inr (8, [.ref a1, .ref a2, .int v_acts, .ref a3, .ref a4, .int v_keptActs, .ref a5, .int v_typed, .ref a6, .ref a7, .ref a8, .ref a9, .ref a10, .int v_isSet, .ref a11, .ref a12, .ref a13, .int v_arePages, .ref a14, .ref a15, .int v_place, .ref a16, .int v_readMany])), (a1, .inl (cI, 189, .inl v_now)), (a10, .inl (cI, 12, .inl v_rows))]) ⟨hx, hb, hml, hown, hT⟩ (c_X8_rowsFrom l dC dI cI cJ cP cS a0 a1 a2 a3 a4 a5 a6 a7 a8 a9 a10 a11 a12 a13 a14 a15 a16 v_acts v_keptActs v_typed v_isSet v_arePages v_place v_readMany v_now v_rows x1 x2 r_1 hq2) (cwV 2 hT (gdV q_ml_X8_121 q_im_X8_rowsFrom q_se_X8_rowsFrom q_in_X8 q_co_X8_rowsFrom) rfl rfl rfl hd_X8_rowsFrom ⟨Nat.le_of_ble_eq_true rfl, Nat.le_of_ble_eq_true rfl⟩) hK hF hP hD hS hA 0 rfl rfl rfl [0, 1, 2] [] [0, 1, 2] rfl (by decide) rfl (by decide) (by decide) rfl (by decide) rfl hl.1 rfl (Nat.le_of_ble_eq_true rfl) dX8_ends_3 ⟨Nat.zero_le _, Nat.zero_le _⟩ (fun H locs hP hD hS => ?_)
    refine W.eq (g2 := F0 m 6 ls [.int r_1]) rfl ?_
    refine lv_aload_n hx hb dX8_ends_6 rfl (lv_at hl 0 rfl) ?_
    refine va_get (D := (dC, dI)) (ci := 8) (v := .ref a1) (C := RX8) (T := TX8) (N := 23) hx hb hT in_X8 hown hK hP 0 rfl rfl 0 (by decide) (hT _ q_fl_X8_7) (fun _ h9 => h9) rfl dX8_ends_7 ?_
    refine lv_iconst (v := 5) hx hb dX8_ends_10 (by decide) ?_
    refine ia_ld hx hb hK hP 1 0 rfl rfl (ib_in (by decide)) (j := 5) (by decide) dX8_ends_11 ?_
    refine lv_icmp_le (tgt := 18) hx hb dX8_ends_12 (by decide) (fun c3 => ?_) (fun c3 => ?_)
    · replace hf := it_t c3 hf
      refine lv_iload_n hx hb dX8_ends_18 rfl (lv_at hl 2 rfl) ?_
      refine lv_aload_n hx hb dX8_ends_19 rfl (lv_at hl 0 rfl) ?_
      refine va_get (D := (dC, dI)) (ci := 8) (v := .ref a1) (C := RX8) (T := TX8) (N := 23) hx hb hT in_X8 hown hK hP 0 rfl rfl 0 (by decide) (hT _ q_fl_X8_7) (fun _ h9 => h9) rfl dX8_ends_20 ?_
      refine lv_iconst (v := 0) hx hb dX8_ends_23 (by decide) ?_
      refine ia_ld hx hb hK hP 1 0 rfl rfl (ib_in (by decide)) (j := 0) (by decide) dX8_ends_24 ?_
      refine lv_icmp_eq (tgt := 36) hx hb dX8_ends_25 (by decide) (fun c4 => ?_) (fun c4 => ?_)
      · replace hf := it_t c4 hf
        refine lv_iconst (v := 0) hx hb dX8_ends_36 (by decide) ?_
        replace hf := Option.some.inj hf
        subst hf
        exact hret H locs ls _ dX8_ends_37 hP hD hS
      · replace hf := it_f c4 hf
        refine lv_aload_n hx hb dX8_ends_28 rfl (lv_at hl 0 rfl) ?_
        refine lv_iload_n hx hb dX8_ends_29 rfl (lv_at hl 2 rfl) ?_
        obtain ⟨r_5, hq6, hf⟩ := bd1_el hf
        refine mc_V (As := [.int x2]) (rest := []) (wr := [(a10, .inl (cI, 12, .inl v_rows))]) (wn := [(a0, .inr (8, [.ref a1, .ref a2, .int v_acts, .ref a3, .ref a4, .int v_keptActs, .ref a5, .int v_typed, .ref a6, .ref a7, .ref a8, .ref a9, .ref a10, .int v_isSet, .ref a11, .ref a12, .ref a13, .int v_arePages, .ref a14, .ref a15, .int v_place, .ref a16, .int v_readMany])), (a1, .inl (cI, 189, .inl v_now)), (a10, .inl (cI, 12, .inl v_rows))]) ⟨hx, hb, hml, hown, hT⟩ (c_X8_begins l dC dI cI cJ cP cS a0 a1 a2 a3 a4 a5 a6 a7 a8 a9 a10 a11 a12 a13 a14 a15 a16 v_acts v_keptActs v_typed v_isSet v_arePages v_place v_readMany v_now x2 r_5 hq6) (cwV 1 hT (gdV q_ml_X8_71 q_im_X8_begins q_se_X8_begins q_in_X8 q_co_X8_begins) rfl rfl rfl hd_X8_begins ⟨Nat.le_of_ble_eq_true rfl, Nat.le_of_ble_eq_true rfl⟩) hK hF hP hD hS hA 0 rfl rfl rfl [0, 1] [2] [1, 2, 0] rfl (by decide) rfl (by decide) (by decide) rfl (by decide) rfl hl.1 rfl (Nat.le_of_ble_eq_true rfl) dX8_ends_30 ⟨Nat.zero_le _, Nat.zero_le _⟩ (fun H locs hP hD hS => ?_)
        refine W.eq (g2 := F0 m 33 ls [.int r_5]) rfl ?_
        refine lv_if_eq (tgt := 38) hx hb dX8_ends_33 (by decide) (fun c7 => ?_) (fun c7 => ?_)
        · replace hf := it_t c7 hf
          refine lv_aload_n hx hb dX8_ends_38 rfl (lv_at hl 0 rfl) ?_
          refine lv_iload_n hx hb dX8_ends_39 rfl (lv_at hl 2 rfl) ?_
          obtain ⟨r_8, hq9, hf⟩ := bd1_el hf
          refine mc_V (As := [.int x2]) (rest := []) (wr := [(a10, .inl (cI, 12, .inl v_rows))]) (wn := [(a0, .inr (8, [.ref a1, .ref a2, .int v_acts, .ref a3, .ref a4, .int v_keptActs, .ref a5, .int v_typed, .ref a6, .ref a7, .ref a8, .ref a9, .ref a10, .int v_isSet, .ref a11, .ref a12, .ref a13, .int v_arePages, .ref a14, .ref a15, .int v_place, .ref a16, .int v_readMany])), (a1, .inl (cI, 189, .inl v_now)), (a10, .inl (cI, 12, .inl v_rows))]) ⟨hx, hb, hml, hown, hT⟩ (c_X8_startOf l dC dI cI cJ cP cS a0 a1 a2 a3 a4 a5 a6 a7 a8 a9 a10 a11 a12 a13 a14 a15 a16 v_acts v_keptActs v_typed v_isSet v_arePages v_place v_readMany v_now x2 r_8 hq9) (cwV 1 hT (gdV q_ml_X8_79 q_im_X8_startOf q_se_X8_startOf q_in_X8 q_co_X8_startOf) rfl rfl rfl hd_X8_startOf ⟨Nat.le_of_ble_eq_true rfl, Nat.le_of_ble_eq_true rfl⟩) hK hF hP hD hS hA 0 rfl rfl rfl [0, 1] [2] [1, 2, 0] rfl (by decide) rfl (by decide) (by decide) rfl (by decide) rfl hl.1 rfl (Nat.le_of_ble_eq_true rfl) dX8_ends_40 ⟨Nat.zero_le _, Nat.zero_le _⟩ (fun H locs hP hD hS => ?_)
          refine W.eq (g2 := F0 m 43 ls [.int r_8]) rfl ?_
          refine lv_iload_n hx hb dX8_ends_43 rfl (lv_at hl 1 rfl) ?_
          have hB56_10 : ∀ (w0_10 : Int32), p_X8_ends_B56_10 v_now x2 w0_10 = some rv → ∀ (H : Heap) (locs : List Loc) (ls : Array Slot), va_P (dC, dI) vwCl [(a0, .inr (8, [.ref a1, .ref a2, .int v_acts, .ref a3, .ref a4, .int v_keptActs, .ref a5, .int v_typed, .ref a6, .ref a7, .ref a8, .ref a9, .ref a10, .int v_isSet, .ref a11, .ref a12, .ref a13, .int v_arePages, .ref a14, .ref a15, .int v_place, .ref a16, .int v_readMany])), (a1, .inl (cI, 189, .inl v_now)), (a10, .inl (cI, 12, .inl v_rows))] H → va_D A [(a0, .inr (8, [.ref a1, .ref a2, .int v_acts, .ref a3, .ref a4, .int v_keptActs, .ref a5, .int v_typed, .ref a6, .ref a7, .ref a8, .ref a9, .ref a10, .int v_isSet, .ref a11, .ref a12, .ref a13, .int v_arePages, .ref a14, .ref a15, .int v_place, .ref a16, .int v_readMany])), (a1, .inl (cI, 189, .inl v_now)), (a10, .inl (cI, 12, .inl v_rows))] → va_S A s.heap H locs → lv_has ls 4 [(0, .ref a0), (2, .int x2)] → W p l e ({ frames := 3, cells := 0, slots := 0, locals := 67 } : Room) s m args below meth c H locs 0 0 Q (F0 m 56 ls [.int w0_10]) := by
            intro w0_10 hf H locs ls hP hD hS hl
            refine lv_istore_n (lv' := [(3, .int w0_10), (0, .ref a0), (2, .int x2)]) hx hb dX8_ends_56 rfl hl (by decide) rfl (fun ls hl => ?_)
            refine lv_iload_n hx hb dX8_ends_57 rfl (lv_at hl 2 rfl) ?_
            refine lv_iload_n hx hb dX8_ends_58 rfl (lv_at hl 0 rfl) ?_
            refine lv_isub hx hb dX8_ends_59 ?_
            refine lv_aload_n hx hb dX8_ends_60 rfl (lv_at hl 1 rfl) ?_
            refine va_get (D := (dC, dI)) (ci := 8) (v := .ref a1) (C := RX8) (T := TX8) (N := 23) hx hb hT in_X8 hown hK hP 0 rfl rfl 0 (by decide) (hT _ q_fl_X8_7) (fun _ h9 => h9) rfl dX8_ends_61 ?_
            refine lv_bipush (v := 6) hx hb dX8_ends_64 (by decide) ?_
            refine ia_ld hx hb hK hP 1 0 rfl rfl (ib_in (by decide)) (j := 6) (by decide) dX8_ends_66 ?_
            refine lv_icmp_lt (tgt := 91) hx hb dX8_ends_67 (by decide) (fun c11 => ?_) (fun c11 => ?_)
            · replace hf := it_t c11 hf
              refine lv_bipush (v := (-4)) hx hb dX8_ends_91 (by decide) ?_
              replace hf := Option.some.inj hf
              subst hf
              exact hret H locs ls _ dX8_ends_93 hP hD hS
            · replace hf := it_f c11 hf
              refine lv_aload_n hx hb dX8_ends_70 rfl (lv_at hl 1 rfl) ?_
              refine lv_iload_n hx hb dX8_ends_71 rfl (lv_at hl 2 rfl) ?_
              obtain ⟨r_12, hq13, hf⟩ := bd1_el hf
              refine mc_V (As := [.int x2]) (rest := []) (wr := [(a10, .inl (cI, 12, .inl v_rows))]) (wn := [(a0, .inr (8, [.ref a1, .ref a2, .int v_acts, .ref a3, .ref a4, .int v_keptActs, .ref a5, .int v_typed, .ref a6, .ref a7, .ref a8, .ref a9, .ref a10, .int v_isSet, .ref a11, .ref a12, .ref a13, .int v_arePages, .ref a14, .ref a15, .int v_place, .ref a16, .int v_readMany])), (a1, .inl (cI, 189, .inl v_now)), (a10, .inl (cI, 12, .inl v_rows))]) ⟨hx, hb, hml, hown, hT⟩ (c_X8_endOf l dC dI cI cJ cP cS a0 a1 a2 a3 a4 a5 a6 a7 a8 a9 a10 a11 a12 a13 a14 a15 a16 v_acts v_keptActs v_typed v_isSet v_arePages v_place v_readMany v_now x2 r_12 hq13) (cwV 1 hT (gdV q_ml_X8_124 q_im_X8_endOf q_se_X8_endOf q_in_X8 q_co_X8_endOf) rfl rfl rfl hd_X8_endOf ⟨Nat.le_of_ble_eq_true rfl, Nat.le_of_ble_eq_true rfl⟩) hK hF hP hD hS hA 0 rfl rfl rfl [0, 1] [2] [1, 2, 0] rfl (by decide) rfl (by decide) (by decide) rfl (by decide) rfl hl.1 rfl (Nat.le_of_ble_eq_true rfl) dX8_ends_72 ⟨Nat.zero_le _, Nat.zero_le _⟩ (fun H locs hP hD hS => ?_)
              refine W.eq (g2 := F0 m 75 ls [.int r_12]) rfl ?_
              refine lv_iload_n hx hb dX8_ends_75 rfl (lv_at hl 2 rfl) ?_
              refine lv_isub hx hb dX8_ends_76 ?_
              refine lv_aload_n hx hb dX8_ends_77 rfl (lv_at hl 1 rfl) ?_
              refine va_get (D := (dC, dI)) (ci := 8) (v := .ref a1) (C := RX8) (T := TX8) (N := 23) hx hb hT in_X8 hown hK hP 0 rfl rfl 0 (by decide) (hT _ q_fl_X8_7) (fun _ h9 => h9) rfl dX8_ends_78 ?_
              refine lv_bipush (v := 6) hx hb dX8_ends_81 (by decide) ?_
              refine ia_ld hx hb hK hP 1 0 rfl rfl (ib_in (by decide)) (j := 6) (by decide) dX8_ends_83 ?_
              refine lv_icmp_lt (tgt := 91) hx hb dX8_ends_84 (by decide) (fun c14 => ?_) (fun c14 => ?_)
              · replace hf := it_t c14 hf
                refine lv_bipush (v := (-4)) hx hb dX8_ends_91 (by decide) ?_
                replace hf := Option.some.inj hf
                subst hf
                exact hret H locs ls _ dX8_ends_93 hP hD hS
              · replace hf := it_f c14 hf
                refine lv_iconst (v := 1) hx hb dX8_ends_87 (by decide) ?_
                refine lv_goto (tgt := 93) hx hb dX8_ends_88 (by decide) ?_
                replace hf := Option.some.inj hf
                subst hf
                exact hret H locs ls _ dX8_ends_93 hP hD hS
          refine lv_icmp_le (tgt := 55) hx hb dX8_ends_44 (by decide) (fun c15 => ?_) (fun c15 => ?_)
          · replace hf := it_t c15 hf
            refine lv_iload_n hx hb dX8_ends_55 rfl (lv_at hl 1 rfl) ?_
            exact hB56_10 x1 hf H locs ls hP hD hS (lv_sub hl [0, 2] rfl)
          · replace hf := it_f c15 hf
            refine lv_aload_n hx hb dX8_ends_47 rfl (lv_at hl 0 rfl) ?_
            refine lv_iload_n hx hb dX8_ends_48 rfl (lv_at hl 2 rfl) ?_
            obtain ⟨r_16, hq17, hf⟩ := bd1_el hf
            refine mc_V (As := [.int x2]) (rest := []) (wr := [(a10, .inl (cI, 12, .inl v_rows))]) (wn := [(a0, .inr (8, [.ref a1, .ref a2, .int v_acts, .ref a3, .ref a4, .int v_keptActs, .ref a5, .int v_typed, .ref a6, .ref a7, .ref a8, .ref a9, .ref a10, .int v_isSet, .ref a11, .ref a12, .ref a13, .int v_arePages, .ref a14, .ref a15, .int v_place, .ref a16, .int v_readMany])), (a1, .inl (cI, 189, .inl v_now)), (a10, .inl (cI, 12, .inl v_rows))]) ⟨hx, hb, hml, hown, hT⟩ (c_X8_startOf l dC dI cI cJ cP cS a0 a1 a2 a3 a4 a5 a6 a7 a8 a9 a10 a11 a12 a13 a14 a15 a16 v_acts v_keptActs v_typed v_isSet v_arePages v_place v_readMany v_now x2 r_16 hq17) (cwV 1 hT (gdV q_ml_X8_79 q_im_X8_startOf q_se_X8_startOf q_in_X8 q_co_X8_startOf) rfl rfl rfl hd_X8_startOf ⟨Nat.le_of_ble_eq_true rfl, Nat.le_of_ble_eq_true rfl⟩) hK hF hP hD hS hA 0 rfl rfl rfl [0, 1] [2] [1, 2, 0] rfl (by decide) rfl (by decide) (by decide) rfl (by decide) rfl hl.1 rfl (Nat.le_of_ble_eq_true rfl) dX8_ends_49 ⟨Nat.zero_le _, Nat.zero_le _⟩ (fun H locs hP hD hS => ?_)
            refine W.eq (g2 := F0 m 52 ls [.int r_16]) rfl ?_
            refine lv_goto (tgt := 56) hx hb dX8_ends_52 (by decide) ?_
            exact hB56_10 r_16 hf H locs ls hP hD hS (lv_sub hl [0, 2] rfl)
        · replace hf := it_f c7 hf
          refine lv_iconst (v := 0) hx hb dX8_ends_36 (by decide) ?_
          replace hf := Option.some.inj hf
          subst hf
          exact hret H locs ls _ dX8_ends_37 hP hD hS
    · replace hf := it_f c3 hf
      refine lv_bipush (v := (-4)) hx hb dX8_ends_15 (by decide) ?_
      replace hf := Option.some.inj hf
      subst hf
      exact hret H locs ls _ dX8_ends_17 hP hD hS
  refine key _ ?_ _ _ _ hP hD hS hl
  intro H locs ls pc d hP hD hS
  exact W.iret (v := rv) hx hb hr (fun t ht hW => ⟨⟨rfl, by rw [ht]; exact hP, hD⟩, hS.F ht⟩) hS.2.2 d
def p_X8_lays_B127_27 (i2_8 : Int32) (i3_16 : Int32) (v_cuts_17 : (Nat → Int32)) (v_pages_18 : (Nat → Int32)) (v_next_19 : (Nat → Int32)) (r_22 : Int32) (x5_25 : Int32) (w0_27 : Int32) : Option ((Int32 × (Nat → Int32) × (Nat → Int32) × (Nat → Int32)) ⊕ (Int32 × (Nat → Int32) × (Nat → Int32) × (Nat → Int32))) :=
  (if r_22 < (0 : Int32) then (some (.inl ((i3_16 + (1 : Int32)), v_cuts_17, v_pages_18, v_next_19))) else (if (1000000 : Int32) ≤ x5_25 then (some (.inl ((i3_16 + (1 : Int32)), v_cuts_17, v_pages_18, v_next_19))) else (if w0_27 = (0 : Int32) then (some (.inl ((i3_16 + (1 : Int32)), v_cuts_17, v_pages_18, v_next_19))) else (gd (ib i2_8 13) (gd (ib i3_16 13) (gd (ib i2_8 13) (gd (ib i2_8 13) (some (.inl ((i3_16 + (1 : Int32)), (upd v_cuts_17 (tn i2_8) x5_25), (upd v_pages_18 (tn i2_8) ((v_pages_18 (tn i3_16)) + (1 : Int32))), (upd v_next_19 (tn i2_8) i3_16)))))))))))
def p_X8_lays_B122_34 (i2_8 : Int32) (i3_16 : Int32) (v_cuts_17 : (Nat → Int32)) (v_pages_18 : (Nat → Int32)) (v_next_19 : (Nat → Int32)) (r_22 : Int32) (x5_25 : Int32) : Option ((Int32 × (Nat → Int32) × (Nat → Int32) × (Nat → Int32)) ⊕ (Int32 × (Nat → Int32) × (Nat → Int32) × (Nat → Int32))) :=
  (p_X8_lays_B127_27 i2_8 i3_16 v_cuts_17 v_pages_18 v_next_19 r_22 x5_25 (1 : Int32))
def p_X8_lays_B126_36 (i2_8 : Int32) (i3_16 : Int32) (v_cuts_17 : (Nat → Int32)) (v_pages_18 : (Nat → Int32)) (v_next_19 : (Nat → Int32)) (r_22 : Int32) (x5_25 : Int32) : Option ((Int32 × (Nat → Int32) × (Nat → Int32) × (Nat → Int32)) ⊕ (Int32 × (Nat → Int32) × (Nat → Int32) × (Nat → Int32))) :=
  (p_X8_lays_B127_27 i2_8 i3_16 v_cuts_17 v_pages_18 v_next_19 r_22 x5_25 (0 : Int32))
def p_X8_lays_L52 (v_now : (Nat → Int32)) (v_isSet_1 : Int32) (v_rows_2 : (Nat → Int32)) (x1_4 : Int32) (i2_8 : Int32) (s : Int32 × (Nat → Int32) × (Nat → Int32) × (Nat → Int32)) : Option ((Int32 × (Nat → Int32) × (Nat → Int32) × (Nat → Int32)) ⊕ (Int32 × (Nat → Int32) × (Nat → Int32) × (Nat → Int32))) := match s with
  | (i3_16, v_cuts_17, v_pages_18, v_next_19) => (if x1_4 < i3_16 then (some (.inr (i3_16, v_cuts_17, v_pages_18, v_next_19))) else (if v_isSet_1 = (0 : Int32) then (some (.inr (i3_16, v_cuts_17, v_pages_18, v_next_19))) else (bd1 (p_X8_ends v_now v_rows_2 i2_8 i3_16) fun r_22 => (gd (ib i3_16 13) (nm (r_22 + (v_cuts_17 (tn i3_16))) fun x5_25 => (gd (ib i2_8 13) (if x5_25 < (v_cuts_17 (tn i2_8)) then (p_X8_lays_B122_34 i2_8 i3_16 v_cuts_17 v_pages_18 v_next_19 r_22 x5_25) else (gd (ib i2_8 13) (if x5_25 = (v_cuts_17 (tn i2_8)) then (gd (ib i3_16 13) (gd (ib i2_8 13) (if (v_pages_18 (tn i2_8)) < ((v_pages_18 (tn i3_16)) + (1 : Int32)) then (p_X8_lays_B126_36 i2_8 i3_16 v_cuts_17 v_pages_18 v_next_19 r_22 x5_25) else (p_X8_lays_B122_34 i2_8 i3_16 v_cuts_17 v_pages_18 v_next_19 r_22 x5_25)))) else (p_X8_lays_B126_36 i2_8 i3_16 v_cuts_17 v_pages_18 v_next_19 r_22 x5_25))))))))))
def p_X8_lays_L29 (v_now : (Nat → Int32)) (v_isSet_1 : Int32) (v_rows_2 : (Nat → Int32)) (x1_4 : Int32) (s : Int32 × (Nat → Int32) × (Nat → Int32) × (Nat → Int32)) : Option ((Int32 × (Nat → Int32) × (Nat → Int32) × (Nat → Int32)) ⊕ (Int32 × (Nat → Int32) × (Nat → Int32) × (Nat → Int32))) := match s with
  | (i2_8, v_cuts_9, v_pages_10, v_next_11) => (if i2_8 < (0 : Int32) then (some (.inr (i2_8, v_cuts_9, v_pages_10, v_next_11))) else (gd (ib i2_8 13) (gd (ib i2_8 13) (nm (i2_8 + (1 : Int32)) fun x3_15 => (bd4 (loopN (p_X8_lays_L52 v_now v_isSet_1 v_rows_2 x1_4 i2_8) fuel (x3_15, (upd v_cuts_9 (tn i2_8) (1000000 : Int32)), (upd v_pages_10 (tn i2_8) (0 : Int32)), v_next_11)) fun f3_45 v_cuts_46 v_pages_47 v_next_48 => (some (.inl ((i2_8 + (-1 : Int32)), v_cuts_46, v_pages_47, v_next_48))))))))
def p_X8_lays (v_isSet : Int32) (v_arePages : Int32) (v_now : (Nat → Int32)) (v_rows : (Nat → Int32)) (v_cuts : (Nat → Int32)) (v_pages : (Nat → Int32)) (v_next : (Nat → Int32)) : Option (Int32 × Int32 × (Nat → Int32) × (Nat → Int32) × (Nat → Int32) × (Nat → Int32)) :=
  (bd2 (p_X8_sets v_isSet v_now v_rows) fun v_isSet_1 v_rows_2 => (nm (v_now 0) fun x1_4 => (gd (ib x1_4 13) (gd (ib x1_4 13) (nm (x1_4 - (1 : Int32)) fun x2_7 => (bd4 (loopN (p_X8_lays_L29 v_now v_isSet_1 v_rows_2 x1_4) fuel (x2_7, (upd v_cuts (tn x1_4) (0 : Int32)), (upd v_pages (tn x1_4) (0 : Int32)), v_next)) fun f2_53 v_cuts_54 v_pages_55 v_next_56 => (if v_isSet_1 = (0 : Int32) then (some (v_isSet_1, (0 : Int32), v_rows_2, v_cuts_54, v_pages_55, v_next_56)) else (if (1000000 : Int32) ≤ (v_cuts_54 0) then (some (v_isSet_1, (0 : Int32), v_rows_2, v_cuts_54, v_pages_55, v_next_56)) else (some (v_isSet_1, (1 : Int32), v_rows_2, v_cuts_54, v_pages_55, v_next_56))))))))))
set_option maxHeartbeats 4000000 in
set_option maxRecDepth 100000 in
theorem c_X8_lays (l : Launch) (dC : Nat → ClassId) (dI : Nat → Nat → Nat) (cI cJ cP cS : ClassId) (a0 : Nat) (a1 : Nat) (a2 : Nat) (a3 : Nat) (a4 : Nat) (a5 : Nat) (a6 : Nat) (a7 : Nat) (a8 : Nat) (a9 : Nat) (a10 : Nat) (a11 : Nat) (a12 : Nat) (a13 : Nat) (a14 : Nat) (a15 : Nat) (a16 : Nat) (v_acts : Int32) (v_keptActs : Int32) (v_typed : Int32) (v_isSet : Int32) (v_arePages : Int32) (v_place : Int32) (v_readMany : Int32) (v_now : (Nat → Int32)) (v_rows : (Nat → Int32)) (v_cuts : (Nat → Int32)) (v_pages : (Nat → Int32)) (v_next : (Nat → Int32))    (v_isSet_o : Int32) (v_arePages_o : Int32) (v_rows_o : (Nat → Int32)) (v_cuts_o : (Nat → Int32)) (v_pages_o : (Nat → Int32)) (v_next_o : (Nat → Int32)) (hf : p_X8_lays v_isSet v_arePages v_now v_rows v_cuts v_pages v_next = some (v_isSet_o, v_arePages_o, v_rows_o, v_cuts_o, v_pages_o, v_next_o)) : MC l (dC, dI) (tyl cI cJ cP cS) yX8_lays (Cond.code yX8_lays cX8_lays 7 none :: TBG) ({ frames := 9, cells := 0, slots := 0, locals := 204 } : Room) [.ref a0] [(a0, .inr (8, [.ref a1, .ref a2, .int v_acts, .ref a3, .ref a4, .int v_keptActs, .ref a5, .int v_typed, .ref a6, .ref a7, .ref a8, .ref a9, .ref a10, .int v_isSet, .ref a11, .ref a12, .ref a13, .int v_arePages, .ref a14, .ref a15, .int v_place, .ref a16, .int v_readMany])), (a1, .inl (cI, 189, .inl v_now)), (a10, .inl (cI, 12, .inl v_rows)), (a11, .inl (cI, 13, .inl v_cuts)), (a12, .inl (cI, 13, .inl v_pages)), (a13, .inl (cI, 13, .inl v_next))] [(a0, .inr (8, [.ref a1, .ref a2, .int v_acts, .ref a3, .ref a4, .int v_keptActs, .ref a5, .int v_typed, .ref a6, .ref a7, .ref a8, .ref a9, .ref a10, .int v_isSet_o, .ref a11, .ref a12, .ref a13, .int v_arePages_o, .ref a14, .ref a15, .int v_place, .ref a16, .int v_readMany])), (a1, .inl (cI, 189, .inl v_now)), (a10, .inl (cI, 12, .inl v_rows_o)), (a11, .inl (cI, 13, .inl v_cuts_o)), (a12, .inl (cI, 13, .inl v_pages_o)), (a13, .inl (cI, 13, .inl v_next_o))] none := by
  intro sz
  unfold MPost
  refine Met.ofW (cc := cX8_lays) (maxL := 7) (ret := none) (by decide) rfl ?_
  intro p e s m args below meth c s₁ B hml hv
  obtain ⟨rfl, hsz, hP, hK, hD0, hF⟩ := hv
  have hx := B.exec
  have hb := B.bytes
  have hr := B.returns
  have hT : ∀ w ∈ TBG, w.before _ s = true := fun w h => atoms_spec B.pre w (List.mem_cons_of_mem _ h)
  have hown : s.vm.findClass RX8 = some m.cls := findClass_of_methodNamed B.named
  have hlocks := B.notSynchronized
  subst hsz
  have hD := hD0.self (sz := s.heap.size)
  generalize hAe : va_A [(a0, .inr (8, [.ref a1, .ref a2, .int v_acts, .ref a3, .ref a4, .int v_keptActs, .ref a5, .int v_typed, .ref a6, .ref a7, .ref a8, .ref a9, .ref a10, .int v_isSet, .ref a11, .ref a12, .ref a13, .int v_arePages, .ref a14, .ref a15, .int v_place, .ref a16, .int v_readMany])), (a1, .inl (cI, 189, .inl v_now)), (a10, .inl (cI, 12, .inl v_rows)), (a11, .inl (cI, 13, .inl v_cuts)), (a12, .inl (cI, 13, .inl v_pages)), (a13, .inl (cI, 13, .inl v_next))] s.heap.size = A at hD hF ⊢
  have hA : ∀ q : Nat, s.heap.size ≤ q → A q := fun q h => by rw [← hAe]; exact Or.inr h
  have hS : va_S A s.heap s.heap [] := va_S.rf
  have hl := lv_entry ([.ref a0]) (n := 7) (Nat.le_of_ble_eq_true rfl)
  rw [lg_entry_eq]
  generalize (lg_sl ([.ref a0]) ++ List.replicate (7 - (lg_sl ([.ref a0])).length) Slot.unset).toArray = ls at hl ⊢
  have hl : lv_has ls 7 [(0, .ref a0)] := hl
  generalize ([.ref a0] : List Value).toArray = args at hT ⊢
  have key : ∀ (Q : State → Prop), (∀ (H : Heap) (locs : List Loc) (ls : Array Slot) (pc : Nat), decode cX8_lays pc = .ok (.return_, 1) → va_P (dC, dI) vwCl [(a0, .inr (8, [.ref a1, .ref a2, .int v_acts, .ref a3, .ref a4, .int v_keptActs, .ref a5, .int v_typed, .ref a6, .ref a7, .ref a8, .ref a9, .ref a10, .int v_isSet_o, .ref a11, .ref a12, .ref a13, .int v_arePages_o, .ref a14, .ref a15, .int v_place, .ref a16, .int v_readMany])), (a1, .inl (cI, 189, .inl v_now)), (a10, .inl (cI, 12, .inl v_rows_o)), (a11, .inl (cI, 13, .inl v_cuts_o)), (a12, .inl (cI, 13, .inl v_pages_o)), (a13, .inl (cI, 13, .inl v_next_o))] H → va_D A [(a0, .inr (8, [.ref a1, .ref a2, .int v_acts, .ref a3, .ref a4, .int v_keptActs, .ref a5, .int v_typed, .ref a6, .ref a7, .ref a8, .ref a9, .ref a10, .int v_isSet_o, .ref a11, .ref a12, .ref a13, .int v_arePages_o, .ref a14, .ref a15, .int v_place, .ref a16, .int v_readMany])), (a1, .inl (cI, 189, .inl v_now)), (a10, .inl (cI, 12, .inl v_rows_o)), (a11, .inl (cI, 13, .inl v_cuts_o)), (a12, .inl (cI, 13, .inl v_pages_o)), (a13, .inl (cI, 13, .inl v_next_o))] → va_S A s.heap H locs → W p l e ({ frames := 9, cells := 0, slots := 0, locals := 204 } : Room) s m args below meth c H locs 0 0 Q (F0 m pc ls [])) → ∀ (H : Heap) (locs : List Loc) (ls : Array Slot), va_P (dC, dI) vwCl [(a0, .inr (8, [.ref a1, .ref a2, .int v_acts, .ref a3, .ref a4, .int v_keptActs, .ref a5, .int v_typed, .ref a6, .ref a7, .ref a8, .ref a9, .ref a10, .int v_isSet, .ref a11, .ref a12, .ref a13, .int v_arePages, .ref a14, .ref a15, .int v_place, .ref a16, .int v_readMany])), (a1, .inl (cI, 189, .inl v_now)), (a10, .inl (cI, 12, .inl v_rows)), (a11, .inl (cI, 13, .inl v_cuts)), (a12, .inl (cI, 13, .inl v_pages)), (a13, .inl (cI, 13, .inl v_next))] H → va_D A [(a0, .inr (8, [.ref a1, .ref a2, .int v_acts, .ref a3, .ref a4, .int v_keptActs, .ref a5, .int v_typed, .ref a6, .ref a7, .ref a8, .ref a9, .ref a10, .int v_isSet, .ref a11, .ref a12, .ref a13, .int v_arePages, .ref a14, .ref a15, .int v_place, .ref a16, .int v_readMany])), (a1, .inl (cI, 189, .inl v_now)), (a10, .inl (cI, 12, .inl v_rows)), (a11, .inl (cI, 13, .inl v_cuts)), (a12, .inl (cI, 13, .inl v_pages)), (a13, .inl (cI, 13, .inl v_next))] → va_S A s.heap H locs → lv_has ls 7 [(0, .ref a0)] → W p l e ({ frames := 9, cells := 0, slots := 0, locals := 204 } : Room) s m args below meth c H locs 0 0 Q (F0 m 0 ls []) := by
    intro Q hret H locs ls hP hD hS hl
    refine lv_aload_n hx hb dX8_lays_0 rfl (lv_at hl 0 rfl) ?_
    obtain ⟨v_isSet_1, v_rows_2, hq3, hf⟩ := bd2_el hf
    refine mc_V (As := []) (rest := []) (wr := [(a11, .inl (cI, 13, .inl v_cuts)), (a12, .inl (cI, 13, .inl v_pages)), (a13, .inl (cI, 13, .inl v_next))]) (wn := [(a0, .inr (8, [.ref a1, .ref a2, .int v_acts, .ref a3, .ref a4, .int v_keptActs, .ref a5, .int v_typed, .ref a6, .ref a7, .ref a8, .ref a9, .ref a10, .int v_isSet_1, .ref a11, .ref a12, .ref a13, .int v_arePages, .ref a14, .ref a15, .int v_place, .ref a16, .int v_readMany])), (a1, .inl (cI, 189, .inl v_now)), (a10, .inl (cI, 12, .inl v_rows_2)), (a11, .inl (cI, 13, .inl v_cuts)), (a12, .inl (cI, 13, .inl v_pages)), (a13, .inl (cI, 13, .inl v_next))]) ⟨hx, hb, hml, hown, hT⟩ (c_X8_sets l dC dI cI cJ cP cS a0 a1 a2 a3 a4 a5 a6 a7 a8 a9 a10 a11 a12 a13 a14 a15 a16 v_acts v_keptActs v_typed v_isSet v_arePages v_place v_readMany v_now v_rows v_isSet_1 v_rows_2 hq3) (cwV 0 hT (gdV q_ml_X8_127 q_im_X8_sets q_se_X8_sets q_in_X8 q_co_X8_sets) rfl rfl rfl hd_X8_sets ⟨Nat.le_of_ble_eq_true rfl, Nat.le_of_ble_eq_true rfl⟩) hK hF hP hD hS hA 0 rfl rfl rfl [0, 1, 2] [3, 4, 5] [3, 4, 5, 0, 1, 2] rfl (by decide) rfl (by decide) (by decide) rfl (by decide) rfl hl.1 rfl (Nat.le_of_ble_eq_true rfl) dX8_lays_1 ⟨Nat.zero_le _, Nat.zero_le _⟩ (fun H locs hP hD hS => ?_)
    refine W.eq (g2 := F0 m 4 ls []) rfl ?_
    refine lv_aload_n hx hb dX8_lays_4 rfl (lv_at hl 0 rfl) ?_
    refine va_get (D := (dC, dI)) (ci := 8) (v := .ref a1) (C := RX8) (T := TX8) (N := 23) hx hb hT in_X8 hown hK hP 0 rfl rfl 0 (by decide) (hT _ q_fl_X8_7) (fun _ h9 => h9) rfl dX8_lays_5 ?_
    refine lv_iconst (v := 0) hx hb dX8_lays_8 (by decide) ?_
    refine ia_ld hx hb hK hP 1 0 rfl rfl (ib_in (by decide)) (j := 0) (by decide) dX8_lays_9 ?_
    obtain ⟨x1_4, ex1_4, hf⟩ := nm_el hf
    refine lv_as (congrArg Value.int ex1_4) ?_
    refine lv_istore_n (lv' := [(1, .int x1_4), (0, .ref a0)]) hx hb dX8_lays_10 rfl hl (by decide) rfl (fun ls hl => ?_)
    refine lv_aload_n hx hb dX8_lays_11 rfl (lv_at hl 1 rfl) ?_
    refine va_get (D := (dC, dI)) (ci := 8) (v := .ref a11) (C := RX8) (T := TX8) (N := 23) hx hb hT in_X8 hown hK hP 0 rfl rfl 14 (by decide) (hT _ q_fl_X8_45) (fun _ h9 => h9) rfl dX8_lays_12 ?_
    refine lv_iload_n hx hb dX8_lays_15 rfl (lv_at hl 0 rfl) ?_
    refine lv_iconst (v := 0) hx hb dX8_lays_16 (by decide) ?_
    obtain ⟨h5, hf⟩ := gd_el hf
    refine ia_st hx hb hK hP hD hS 3 0 rfl rfl (ib_in h5) (j := (tn x1_4)) rfl dX8_lays_17 (fun H locs hP hD hS => ?_)
    have hP : va_P (dC, dI) vwCl [(a0, .inr (8, [.ref a1, .ref a2, .int v_acts, .ref a3, .ref a4, .int v_keptActs, .ref a5, .int v_typed, .ref a6, .ref a7, .ref a8, .ref a9, .ref a10, .int v_isSet_1, .ref a11, .ref a12, .ref a13, .int v_arePages, .ref a14, .ref a15, .int v_place, .ref a16, .int v_readMany])), (a1, .inl (cI, 189, .inl v_now)), (a10, .inl (cI, 12, .inl v_rows_2)), (a11, .inl (cI, 13, .inl (upd v_cuts (tn x1_4) (0 : Int32)))), (a12, .inl (cI, 13, .inl v_pages)), (a13, .inl (cI, 13, .inl v_next))] H := hP
    have hD : va_D A [(a0, .inr (8, [.ref a1, .ref a2, .int v_acts, .ref a3, .ref a4, .int v_keptActs, .ref a5, .int v_typed, .ref a6, .ref a7, .ref a8, .ref a9, .ref a10, .int v_isSet_1, .ref a11, .ref a12, .ref a13, .int v_arePages, .ref a14, .ref a15, .int v_place, .ref a16, .int v_readMany])), (a1, .inl (cI, 189, .inl v_now)), (a10, .inl (cI, 12, .inl v_rows_2)), (a11, .inl (cI, 13, .inl (upd v_cuts (tn x1_4) (0 : Int32)))), (a12, .inl (cI, 13, .inl v_pages)), (a13, .inl (cI, 13, .inl v_next))] := hD
    refine lv_aload_n hx hb dX8_lays_18 rfl (lv_at hl 1 rfl) ?_
    refine va_get (D := (dC, dI)) (ci := 8) (v := .ref a12) (C := RX8) (T := TX8) (N := 23) hx hb hT in_X8 hown hK hP 0 rfl rfl 15 (by decide) (hT _ q_fl_X8_48) (fun _ h9 => h9) rfl dX8_lays_19 ?_
    refine lv_iload_n hx hb dX8_lays_22 rfl (lv_at hl 0 rfl) ?_
    refine lv_iconst (v := 0) hx hb dX8_lays_23 (by decide) ?_
    obtain ⟨h6, hf⟩ := gd_el hf
    refine ia_st hx hb hK hP hD hS 4 0 rfl rfl (ib_in h6) (j := (tn x1_4)) rfl dX8_lays_24 (fun H locs hP hD hS => ?_)
    have hP : va_P (dC, dI) vwCl [(a0, .inr (8, [.ref a1, .ref a2, .int v_acts, .ref a3, .ref a4, .int v_keptActs, .ref a5, .int v_typed, .ref a6, .ref a7, .ref a8, .ref a9, .ref a10, .int v_isSet_1, .ref a11, .ref a12, .ref a13, .int v_arePages, .ref a14, .ref a15, .int v_place, .ref a16, .int v_readMany])), (a1, .inl (cI, 189, .inl v_now)), (a10, .inl (cI, 12, .inl v_rows_2)), (a11, .inl (cI, 13, .inl (upd v_cuts (tn x1_4) (0 : Int32)))), (a12, .inl (cI, 13, .inl (upd v_pages (tn x1_4) (0 : Int32)))), (a13, .inl (cI, 13, .inl v_next))] H := hP
    have hD : va_D A [(a0, .inr (8, [.ref a1, .ref a2, .int v_acts, .ref a3, .ref a4, .int v_keptActs, .ref a5, .int v_typed, .ref a6, .ref a7, .ref a8, .ref a9, .ref a10, .int v_isSet_1, .ref a11, .ref a12, .ref a13, .int v_arePages, .ref a14, .ref a15, .int v_place, .ref a16, .int v_readMany])), (a1, .inl (cI, 189, .inl v_now)), (a10, .inl (cI, 12, .inl v_rows_2)), (a11, .inl (cI, 13, .inl (upd v_cuts (tn x1_4) (0 : Int32)))), (a12, .inl (cI, 13, .inl (upd v_pages (tn x1_4) (0 : Int32)))), (a13, .inl (cI, 13, .inl v_next))] := hD
    refine lv_iload_n hx hb dX8_lays_25 rfl (lv_at hl 0 rfl) ?_
    refine lv_iconst (v := 1) hx hb dX8_lays_26 (by decide) ?_
    refine lv_isub hx hb dX8_lays_27 ?_
    obtain ⟨x2_7, ex2_7, hf⟩ := nm_el hf
    refine lv_as (congrArg Value.int ex2_7) ?_
    refine lv_istore_n (lv' := [(2, .int x2_7), (1, .int x1_4), (0, .ref a0)]) hx hb dX8_lays_28 rfl hl (by decide) rfl (fun ls hl => ?_)
    have hL29 : ∀ (rr : Int32 × (Nat → Int32) × (Nat → Int32) × (Nat → Int32)), (∀ (z_49 : Int32) (z_50 : (Nat → Int32)) (z_51 : (Nat → Int32)) (z_52 : (Nat → Int32)), rr = (z_49, z_50, z_51, z_52) → ∀ (H : Heap) (locs : List Loc) (ls : Array Slot), va_P (dC, dI) vwCl [(a0, .inr (8, [.ref a1, .ref a2, .int v_acts, .ref a3, .ref a4, .int v_keptActs, .ref a5, .int v_typed, .ref a6, .ref a7, .ref a8, .ref a9, .ref a10, .int v_isSet_1, .ref a11, .ref a12, .ref a13, .int v_arePages, .ref a14, .ref a15, .int v_place, .ref a16, .int v_readMany])), (a1, .inl (cI, 189, .inl v_now)), (a10, .inl (cI, 12, .inl v_rows_2)), (a11, .inl (cI, 13, .inl z_50)), (a12, .inl (cI, 13, .inl z_51)), (a13, .inl (cI, 13, .inl z_52))] H → va_D A [(a0, .inr (8, [.ref a1, .ref a2, .int v_acts, .ref a3, .ref a4, .int v_keptActs, .ref a5, .int v_typed, .ref a6, .ref a7, .ref a8, .ref a9, .ref a10, .int v_isSet_1, .ref a11, .ref a12, .ref a13, .int v_arePages, .ref a14, .ref a15, .int v_place, .ref a16, .int v_readMany])), (a1, .inl (cI, 189, .inl v_now)), (a10, .inl (cI, 12, .inl v_rows_2)), (a11, .inl (cI, 13, .inl z_50)), (a12, .inl (cI, 13, .inl z_51)), (a13, .inl (cI, 13, .inl z_52))] → va_S A s.heap H locs → lv_has ls 7 [(0, .ref a0)] → W p l e ({ frames := 9, cells := 0, slots := 0, locals := 204 } : Room) s m args below meth c H locs 0 0 Q (F0 m 187 ls [])) → ∀ (n : Nat) (i2_8 : Int32) (v_cuts_9 : (Nat → Int32)) (v_pages_10 : (Nat → Int32)) (v_next_11 : (Nat → Int32)), loopN (p_X8_lays_L29 v_now v_isSet_1 v_rows_2 x1_4) n (i2_8, v_cuts_9, v_pages_10, v_next_11) = some rr → ∀ (H : Heap) (locs : List Loc) (ls : Array Slot), va_P (dC, dI) vwCl [(a0, .inr (8, [.ref a1, .ref a2, .int v_acts, .ref a3, .ref a4, .int v_keptActs, .ref a5, .int v_typed, .ref a6, .ref a7, .ref a8, .ref a9, .ref a10, .int v_isSet_1, .ref a11, .ref a12, .ref a13, .int v_arePages, .ref a14, .ref a15, .int v_place, .ref a16, .int v_readMany])), (a1, .inl (cI, 189, .inl v_now)), (a10, .inl (cI, 12, .inl v_rows_2)), (a11, .inl (cI, 13, .inl v_cuts_9)), (a12, .inl (cI, 13, .inl v_pages_10)), (a13, .inl (cI, 13, .inl v_next_11))] H → va_D A [(a0, .inr (8, [.ref a1, .ref a2, .int v_acts, .ref a3, .ref a4, .int v_keptActs, .ref a5, .int v_typed, .ref a6, .ref a7, .ref a8, .ref a9, .ref a10, .int v_isSet_1, .ref a11, .ref a12, .ref a13, .int v_arePages, .ref a14, .ref a15, .int v_place, .ref a16, .int v_readMany])), (a1, .inl (cI, 189, .inl v_now)), (a10, .inl (cI, 12, .inl v_rows_2)), (a11, .inl (cI, 13, .inl v_cuts_9)), (a12, .inl (cI, 13, .inl v_pages_10)), (a13, .inl (cI, 13, .inl v_next_11))] → va_S A s.heap H locs → lv_has ls 7 [(0, .ref a0), (1, .int x1_4), (2, .int i2_8)] → W p l e ({ frames := 9, cells := 0, slots := 0, locals := 204 } : Room) s m args below meth c H locs 0 0 Q (F0 m 29 ls []) := by
      intro rr hk29 n
      induction n with
      | zero => intro i2_8 v_cuts_9 v_pages_10 v_next_11 hf; cases hf
      | succ n ih29 =>
        intro i2_8 v_cuts_9 v_pages_10 v_next_11 hf H locs ls hP hD hS hl
        obtain ⟨o29, hf, hi, he⟩ := loopN_el hf
        refine lv_iload_n hx hb dX8_lays_29 rfl (lv_at hl 2 rfl) ?_
        refine lv_if_lt (tgt := 187) hx hb dX8_lays_30 (by decide) (fun c12 => ?_) (fun c12 => ?_)
        · replace hf := it_t c12 hf
          exact hk29 _ _ _ _ (he _ (Option.some.inj hf).symm).symm H locs ls hP hD hS (lv_sub hl [0] rfl)
        · replace hf := it_f c12 hf
          refine lv_aload_n hx hb dX8_lays_33 rfl (lv_at hl 0 rfl) ?_
          refine va_get (D := (dC, dI)) (ci := 8) (v := .ref a11) (C := RX8) (T := TX8) (N := 23) hx hb hT in_X8 hown hK hP 0 rfl rfl 14 (by decide) (hT _ q_fl_X8_45) (fun _ h9 => h9) rfl dX8_lays_34 ?_
          refine lv_iload_n hx hb dX8_lays_37 rfl (lv_at hl 2 rfl) ?_
          refine lv_ldc hx hb hown (hT _ q_k_X8_104) dX8_lays_38 ?_
          obtain ⟨h13, hf⟩ := gd_el hf
          refine ia_st hx hb hK hP hD hS 3 0 rfl rfl (ib_in h13) (j := (tn i2_8)) rfl dX8_lays_40 (fun H locs hP hD hS => ?_)
          have hP : va_P (dC, dI) vwCl [(a0, .inr (8, [.ref a1, .ref a2, .int v_acts, .ref a3, .ref a4, .int v_keptActs, .ref a5, .int v_typed, .ref a6, .ref a7, .ref a8, .ref a9, .ref a10, .int v_isSet_1, .ref a11, .ref a12, .ref a13, .int v_arePages, .ref a14, .ref a15, .int v_place, .ref a16, .int v_readMany])), (a1, .inl (cI, 189, .inl v_now)), (a10, .inl (cI, 12, .inl v_rows_2)), (a11, .inl (cI, 13, .inl (upd v_cuts_9 (tn i2_8) (1000000 : Int32)))), (a12, .inl (cI, 13, .inl v_pages_10)), (a13, .inl (cI, 13, .inl v_next_11))] H := hP
          have hD : va_D A [(a0, .inr (8, [.ref a1, .ref a2, .int v_acts, .ref a3, .ref a4, .int v_keptActs, .ref a5, .int v_typed, .ref a6, .ref a7, .ref a8, .ref a9, .ref a10, .int v_isSet_1, .ref a11, .ref a12, .ref a13, .int v_arePages, .ref a14, .ref a15, .int v_place, .ref a16, .int v_readMany])), (a1, .inl (cI, 189, .inl v_now)), (a10, .inl (cI, 12, .inl v_rows_2)), (a11, .inl (cI, 13, .inl (upd v_cuts_9 (tn i2_8) (1000000 : Int32)))), (a12, .inl (cI, 13, .inl v_pages_10)), (a13, .inl (cI, 13, .inl v_next_11))] := hD
          refine lv_aload_n hx hb dX8_lays_41 rfl (lv_at hl 0 rfl) ?_
          refine va_get (D := (dC, dI)) (ci := 8) (v := .ref a12) (C := RX8) (T := TX8) (N := 23) hx hb hT in_X8 hown hK hP 0 rfl rfl 15 (by decide) (hT _ q_fl_X8_48) (fun _ h9 => h9) rfl dX8_lays_42 ?_
          refine lv_iload_n hx hb dX8_lays_45 rfl (lv_at hl 2 rfl) ?_
          refine lv_iconst (v := 0) hx hb dX8_lays_46 (by decide) ?_
          obtain ⟨h14, hf⟩ := gd_el hf
          refine ia_st hx hb hK hP hD hS 4 0 rfl rfl (ib_in h14) (j := (tn i2_8)) rfl dX8_lays_47 (fun H locs hP hD hS => ?_)
          have hP : va_P (dC, dI) vwCl [(a0, .inr (8, [.ref a1, .ref a2, .int v_acts, .ref a3, .ref a4, .int v_keptActs, .ref a5, .int v_typed, .ref a6, .ref a7, .ref a8, .ref a9, .ref a10, .int v_isSet_1, .ref a11, .ref a12, .ref a13, .int v_arePages, .ref a14, .ref a15, .int v_place, .ref a16, .int v_readMany])), (a1, .inl (cI, 189, .inl v_now)), (a10, .inl (cI, 12, .inl v_rows_2)), (a11, .inl (cI, 13, .inl (upd v_cuts_9 (tn i2_8) (1000000 : Int32)))), (a12, .inl (cI, 13, .inl (upd v_pages_10 (tn i2_8) (0 : Int32)))), (a13, .inl (cI, 13, .inl v_next_11))] H := hP
          have hD : va_D A [(a0, .inr (8, [.ref a1, .ref a2, .int v_acts, .ref a3, .ref a4, .int v_keptActs, .ref a5, .int v_typed, .ref a6, .ref a7, .ref a8, .ref a9, .ref a10, .int v_isSet_1, .ref a11, .ref a12, .ref a13, .int v_arePages, .ref a14, .ref a15, .int v_place, .ref a16, .int v_readMany])), (a1, .inl (cI, 189, .inl v_now)), (a10, .inl (cI, 12, .inl v_rows_2)), (a11, .inl (cI, 13, .inl (upd v_cuts_9 (tn i2_8) (1000000 : Int32)))), (a12, .inl (cI, 13, .inl (upd v_pages_10 (tn i2_8) (0 : Int32)))), (a13, .inl (cI, 13, .inl v_next_11))] := hD
          refine lv_iload_n hx hb dX8_lays_48 rfl (lv_at hl 2 rfl) ?_
          refine lv_iconst (v := 1) hx hb dX8_lays_49 (by decide) ?_
          refine lv_iadd hx hb dX8_lays_50 ?_
          obtain ⟨x3_15, ex3_15, hf⟩ := nm_el hf
          refine lv_as (congrArg Value.int ex3_15) ?_
          refine lv_istore_n (lv' := [(3, .int x3_15), (0, .ref a0), (1, .int x1_4), (2, .int i2_8)]) hx hb dX8_lays_51 rfl hl (by decide) rfl (fun ls hl => ?_)
          have hL52 : ∀ (rr : Int32 × (Nat → Int32) × (Nat → Int32) × (Nat → Int32)), (∀ (z_41 : Int32) (z_42 : (Nat → Int32)) (z_43 : (Nat → Int32)) (z_44 : (Nat → Int32)), rr = (z_41, z_42, z_43, z_44) → ∀ (H : Heap) (locs : List Loc) (ls : Array Slot), va_P (dC, dI) vwCl [(a0, .inr (8, [.ref a1, .ref a2, .int v_acts, .ref a3, .ref a4, .int v_keptActs, .ref a5, .int v_typed, .ref a6, .ref a7, .ref a8, .ref a9, .ref a10, .int v_isSet_1, .ref a11, .ref a12, .ref a13, .int v_arePages, .ref a14, .ref a15, .int v_place, .ref a16, .int v_readMany])), (a1, .inl (cI, 189, .inl v_now)), (a10, .inl (cI, 12, .inl v_rows_2)), (a11, .inl (cI, 13, .inl z_42)), (a12, .inl (cI, 13, .inl z_43)), (a13, .inl (cI, 13, .inl z_44))] H → va_D A [(a0, .inr (8, [.ref a1, .ref a2, .int v_acts, .ref a3, .ref a4, .int v_keptActs, .ref a5, .int v_typed, .ref a6, .ref a7, .ref a8, .ref a9, .ref a10, .int v_isSet_1, .ref a11, .ref a12, .ref a13, .int v_arePages, .ref a14, .ref a15, .int v_place, .ref a16, .int v_readMany])), (a1, .inl (cI, 189, .inl v_now)), (a10, .inl (cI, 12, .inl v_rows_2)), (a11, .inl (cI, 13, .inl z_42)), (a12, .inl (cI, 13, .inl z_43)), (a13, .inl (cI, 13, .inl z_44))] → va_S A s.heap H locs → lv_has ls 7 [(0, .ref a0), (1, .int x1_4), (2, .int i2_8)] → W p l e ({ frames := 9, cells := 0, slots := 0, locals := 204 } : Room) s m args below meth c H locs 0 0 Q (F0 m 181 ls [])) → ∀ (n : Nat) (i3_16 : Int32) (v_cuts_17 : (Nat → Int32)) (v_pages_18 : (Nat → Int32)) (v_next_19 : (Nat → Int32)), loopN (p_X8_lays_L52 v_now v_isSet_1 v_rows_2 x1_4 i2_8) n (i3_16, v_cuts_17, v_pages_18, v_next_19) = some rr → ∀ (H : Heap) (locs : List Loc) (ls : Array Slot), va_P (dC, dI) vwCl [(a0, .inr (8, [.ref a1, .ref a2, .int v_acts, .ref a3, .ref a4, .int v_keptActs, .ref a5, .int v_typed, .ref a6, .ref a7, .ref a8, .ref a9, .ref a10, .int v_isSet_1, .ref a11, .ref a12, .ref a13, .int v_arePages, .ref a14, .ref a15, .int v_place, .ref a16, .int v_readMany])), (a1, .inl (cI, 189, .inl v_now)), (a10, .inl (cI, 12, .inl v_rows_2)), (a11, .inl (cI, 13, .inl v_cuts_17)), (a12, .inl (cI, 13, .inl v_pages_18)), (a13, .inl (cI, 13, .inl v_next_19))] H → va_D A [(a0, .inr (8, [.ref a1, .ref a2, .int v_acts, .ref a3, .ref a4, .int v_keptActs, .ref a5, .int v_typed, .ref a6, .ref a7, .ref a8, .ref a9, .ref a10, .int v_isSet_1, .ref a11, .ref a12, .ref a13, .int v_arePages, .ref a14, .ref a15, .int v_place, .ref a16, .int v_readMany])), (a1, .inl (cI, 189, .inl v_now)), (a10, .inl (cI, 12, .inl v_rows_2)), (a11, .inl (cI, 13, .inl v_cuts_17)), (a12, .inl (cI, 13, .inl v_pages_18)), (a13, .inl (cI, 13, .inl v_next_19))] → va_S A s.heap H locs → lv_has ls 7 [(0, .ref a0), (1, .int x1_4), (2, .int i2_8), (3, .int i3_16)] → W p l e ({ frames := 9, cells := 0, slots := 0, locals := 204 } : Room) s m args below meth c H locs 0 0 Q (F0 m 52 ls []) := by
            intro rr hk52 n
            induction n with
            | zero => intro i3_16 v_cuts_17 v_pages_18 v_next_19 hf; cases hf
            | succ n ih52 =>
              intro i3_16 v_cuts_17 v_pages_18 v_next_19 hf H locs ls hP hD hS hl
              obtain ⟨o52, hf, hi, he⟩ := loopN_el hf
              refine lv_iload_n hx hb dX8_lays_52 rfl (lv_at hl 3 rfl) ?_
              refine lv_iload_n hx hb dX8_lays_53 rfl (lv_at hl 1 rfl) ?_
              refine lv_icmp_gt (tgt := 181) hx hb dX8_lays_54 (by decide) (fun c20 => ?_) (fun c20 => ?_)
              · replace hf := it_t c20 hf
                exact hk52 _ _ _ _ (he _ (Option.some.inj hf).symm).symm H locs ls hP hD hS (lv_sub hl [0, 1, 2] rfl)
              · replace hf := it_f c20 hf
                refine lv_aload_n hx hb dX8_lays_57 rfl (lv_at hl 0 rfl) ?_
                refine va_get (D := (dC, dI)) (ci := 8) (v := .int v_isSet_1) (C := RX8) (T := TX8) (N := 23) hx hb hT in_X8 hown hK hP 0 rfl rfl 13 (by decide) (hT _ q_fl_X8_111) (fun _ h9 => h9) rfl dX8_lays_58 ?_
                refine lv_if_eq (tgt := 181) hx hb dX8_lays_61 (by decide) (fun c21 => ?_) (fun c21 => ?_)
                · replace hf := it_t c21 hf
                  exact hk52 _ _ _ _ (he _ (Option.some.inj hf).symm).symm H locs ls hP hD hS (lv_sub hl [0, 1, 2] rfl)
                · replace hf := it_f c21 hf
                  refine lv_aload_n hx hb dX8_lays_64 rfl (lv_at hl 0 rfl) ?_
                  refine lv_iload_n hx hb dX8_lays_65 rfl (lv_at hl 2 rfl) ?_
                  refine lv_iload_n hx hb dX8_lays_66 rfl (lv_at hl 3 rfl) ?_
                  obtain ⟨r_22, hq23, hf⟩ := bd1_el hf
                  refine mc_V (As := [.int i2_8, .int i3_16]) (rest := []) (wr := [(a11, .inl (cI, 13, .inl v_cuts_17)), (a12, .inl (cI, 13, .inl v_pages_18)), (a13, .inl (cI, 13, .inl v_next_19))]) (wn := [(a0, .inr (8, [.ref a1, .ref a2, .int v_acts, .ref a3, .ref a4, .int v_keptActs, .ref a5, .int v_typed, .ref a6, .ref a7, .ref a8, .ref a9, .ref a10, .int v_isSet_1, .ref a11, .ref a12, .ref a13, .int v_arePages, .ref a14, .ref a15, .int v_place, .ref a16, .int v_readMany])), (a1, .inl (cI, 189, .inl v_now)), (a10, .inl (cI, 12, .inl v_rows_2)), (a11, .inl (cI, 13, .inl v_cuts_17)), (a12, .inl (cI, 13, .inl v_pages_18)), (a13, .inl (cI, 13, .inl v_next_19))]) ⟨hx, hb, hml, hown, hT⟩ (c_X8_ends l dC dI cI cJ cP cS a0 a1 a2 a3 a4 a5 a6 a7 a8 a9 a10 a11 a12 a13 a14 a15 a16 v_acts v_keptActs v_typed v_isSet_1 v_arePages v_place v_readMany v_now v_rows_2 i2_8 i3_16 r_22 hq23) (cwV 2 hT (gdV q_ml_X8_130 q_im_X8_ends q_se_X8_ends q_in_X8 q_co_X8_ends) rfl rfl rfl hd_X8_ends ⟨Nat.le_of_ble_eq_true rfl, Nat.le_of_ble_eq_true rfl⟩) hK hF hP hD hS hA 0 rfl rfl rfl [0, 1, 2] [3, 4, 5] [3, 4, 5, 0, 1, 2] rfl (by decide) rfl (by decide) (by decide) rfl (by decide) rfl hl.1 rfl (Nat.le_of_ble_eq_true rfl) dX8_lays_67 ⟨Nat.zero_le _, Nat.zero_le _⟩ (fun H locs hP hD hS => ?_)
                  refine W.eq (g2 := F0 m 70 ls [.int r_22]) rfl ?_
                  refine lv_istore (lv' := [(4, .int r_22), (0, .ref a0), (1, .int x1_4), (2, .int i2_8), (3, .int i3_16)]) hx hb dX8_lays_70 hl (by decide) rfl (fun ls hl => ?_)
                  refine lv_iload hx hb dX8_lays_72 (lv_at hl 0 rfl) ?_
                  refine lv_aload_n hx hb dX8_lays_74 rfl (lv_at hl 1 rfl) ?_
                  refine va_get (D := (dC, dI)) (ci := 8) (v := .ref a11) (C := RX8) (T := TX8) (N := 23) hx hb hT in_X8 hown hK hP 0 rfl rfl 14 (by decide) (hT _ q_fl_X8_45) (fun _ h9 => h9) rfl dX8_lays_75 ?_
                  refine lv_iload_n hx hb dX8_lays_78 rfl (lv_at hl 4 rfl) ?_
                  obtain ⟨h24, hf⟩ := gd_el hf
                  refine ia_ld hx hb hK hP 3 0 rfl rfl (ib_in h24) (j := (tn i3_16)) rfl dX8_lays_79 ?_
                  refine lv_iadd hx hb dX8_lays_80 ?_
                  obtain ⟨x5_25, ex5_25, hf⟩ := nm_el hf
                  refine lv_as (congrArg Value.int ex5_25) ?_
                  refine lv_istore (lv' := [(5, .int x5_25), (4, .int r_22), (0, .ref a0), (1, .int x1_4), (2, .int i2_8), (3, .int i3_16)]) hx hb dX8_lays_81 hl (by decide) rfl (fun ls hl => ?_)
                  refine lv_iload hx hb dX8_lays_83 (lv_at hl 0 rfl) ?_
                  refine lv_aload_n hx hb dX8_lays_85 rfl (lv_at hl 2 rfl) ?_
                  refine va_get (D := (dC, dI)) (ci := 8) (v := .ref a11) (C := RX8) (T := TX8) (N := 23) hx hb hT in_X8 hown hK hP 0 rfl rfl 14 (by decide) (hT _ q_fl_X8_45) (fun _ h9 => h9) rfl dX8_lays_86 ?_
                  refine lv_iload_n hx hb dX8_lays_89 rfl (lv_at hl 4 rfl) ?_
                  obtain ⟨h26, hf⟩ := gd_el hf
                  refine ia_ld hx hb hK hP 3 0 rfl rfl (ib_in h26) (j := (tn i2_8)) rfl dX8_lays_90 ?_
                  have hB127_27 : ∀ (w0_27 : Int32), p_X8_lays_B127_27 i2_8 i3_16 v_cuts_17 v_pages_18 v_next_19 r_22 x5_25 w0_27 = some o52 → ∀ (H : Heap) (locs : List Loc) (ls : Array Slot), va_P (dC, dI) vwCl [(a0, .inr (8, [.ref a1, .ref a2, .int v_acts, .ref a3, .ref a4, .int v_keptActs, .ref a5, .int v_typed, .ref a6, .ref a7, .ref a8, .ref a9, .ref a10, .int v_isSet_1, .ref a11, .ref a12, .ref a13, .int v_arePages, .ref a14, .ref a15, .int v_place, .ref a16, .int v_readMany])), (a1, .inl (cI, 189, .inl v_now)), (a10, .inl (cI, 12, .inl v_rows_2)), (a11, .inl (cI, 13, .inl v_cuts_17)), (a12, .inl (cI, 13, .inl v_pages_18)), (a13, .inl (cI, 13, .inl v_next_19))] H → va_D A [(a0, .inr (8, [.ref a1, .ref a2, .int v_acts, .ref a3, .ref a4, .int v_keptActs, .ref a5, .int v_typed, .ref a6, .ref a7, .ref a8, .ref a9, .ref a10, .int v_isSet_1, .ref a11, .ref a12, .ref a13, .int v_arePages, .ref a14, .ref a15, .int v_place, .ref a16, .int v_readMany])), (a1, .inl (cI, 189, .inl v_now)), (a10, .inl (cI, 12, .inl v_rows_2)), (a11, .inl (cI, 13, .inl v_cuts_17)), (a12, .inl (cI, 13, .inl v_pages_18)), (a13, .inl (cI, 13, .inl v_next_19))] → va_S A s.heap H locs → lv_has ls 7 [(0, .ref a0), (1, .int x1_4), (2, .int i2_8), (3, .int i3_16), (4, .int r_22), (5, .int x5_25)] → W p l e ({ frames := 9, cells := 0, slots := 0, locals := 204 } : Room) s m args below meth c H locs 0 0 Q (F0 m 127 ls [.int w0_27]) := by
                    intro w0_27 hf H locs ls hP hD hS hl
                    refine lv_istore (lv' := [(6, .int w0_27), (0, .ref a0), (1, .int x1_4), (2, .int i2_8), (3, .int i3_16), (4, .int r_22), (5, .int x5_25)]) hx hb dX8_lays_127 hl (by decide) rfl (fun ls hl => ?_)
                    refine lv_iload hx hb dX8_lays_129 (lv_at hl 5 rfl) ?_
                    refine lv_if_lt (tgt := 175) hx hb dX8_lays_131 (by decide) (fun c28 => ?_) (fun c28 => ?_)
                    · replace hf := it_t c28 hf
                      refine lv_iinc (v := (i3_16 + (1 : Int32))) (lv' := [(3, .int (i3_16 + (1 : Int32))), (6, .int w0_27), (0, .ref a0), (1, .int x1_4), (2, .int i2_8), (4, .int r_22), (5, .int x5_25)]) hx hb dX8_lays_175 hl (k := 4) rfl rfl (by decide) rfl (fun ls hl => ?_)
                      refine lv_goto (tgt := 52) hx hb dX8_lays_178 (by decide) ?_
                      exact ih52 (i3_16 + (1 : Int32)) v_cuts_17 v_pages_18 v_next_19 (hi _ (Option.some.inj hf).symm) H locs ls hP hD hS (lv_sub hl [2, 3, 4, 0] rfl)
                    · replace hf := it_f c28 hf
                      refine lv_iload hx hb dX8_lays_134 (lv_at hl 6 rfl) ?_
                      refine lv_ldc hx hb hown (hT _ q_k_X8_104) dX8_lays_136 ?_
                      refine lv_icmp_ge (tgt := 175) hx hb dX8_lays_138 (by decide) (fun c29 => ?_) (fun c29 => ?_)
                      · replace hf := it_t c29 hf
                        refine lv_iinc (v := (i3_16 + (1 : Int32))) (lv' := [(3, .int (i3_16 + (1 : Int32))), (6, .int w0_27), (0, .ref a0), (1, .int x1_4), (2, .int i2_8), (4, .int r_22), (5, .int x5_25)]) hx hb dX8_lays_175 hl (k := 4) rfl rfl (by decide) rfl (fun ls hl => ?_)
                        refine lv_goto (tgt := 52) hx hb dX8_lays_178 (by decide) ?_
                        exact ih52 (i3_16 + (1 : Int32)) v_cuts_17 v_pages_18 v_next_19 (hi _ (Option.some.inj hf).symm) H locs ls hP hD hS (lv_sub hl [2, 3, 4, 0] rfl)
                      · replace hf := it_f c29 hf
                        refine lv_iload hx hb dX8_lays_141 (lv_at hl 0 rfl) ?_
                        refine lv_if_eq (tgt := 175) hx hb dX8_lays_143 (by decide) (fun c30 => ?_) (fun c30 => ?_)
                        · replace hf := it_t c30 hf
                          refine lv_iinc (v := (i3_16 + (1 : Int32))) (lv' := [(3, .int (i3_16 + (1 : Int32))), (6, .int w0_27), (0, .ref a0), (1, .int x1_4), (2, .int i2_8), (4, .int r_22), (5, .int x5_25)]) hx hb dX8_lays_175 hl (k := 4) rfl rfl (by decide) rfl (fun ls hl => ?_)
                          refine lv_goto (tgt := 52) hx hb dX8_lays_178 (by decide) ?_
                          exact ih52 (i3_16 + (1 : Int32)) v_cuts_17 v_pages_18 v_next_19 (hi _ (Option.some.inj hf).symm) H locs ls hP hD hS (lv_sub hl [2, 3, 4, 0] rfl)
                        · replace hf := it_f c30 hf
                          refine lv_aload_n hx hb dX8_lays_146 rfl (lv_at hl 1 rfl) ?_
                          refine va_get (D := (dC, dI)) (ci := 8) (v := .ref a11) (C := RX8) (T := TX8) (N := 23) hx hb hT in_X8 hown hK hP 0 rfl rfl 14 (by decide) (hT _ q_fl_X8_45) (fun _ h9 => h9) rfl dX8_lays_147 ?_
                          refine lv_iload_n hx hb dX8_lays_150 rfl (lv_at hl 3 rfl) ?_
                          refine lv_iload hx hb dX8_lays_151 (lv_at hl 6 rfl) ?_
                          obtain ⟨h31, hf⟩ := gd_el hf
                          refine ia_st hx hb hK hP hD hS 3 0 rfl rfl (ib_in h31) (j := (tn i2_8)) rfl dX8_lays_153 (fun H locs hP hD hS => ?_)
                          have hP : va_P (dC, dI) vwCl [(a0, .inr (8, [.ref a1, .ref a2, .int v_acts, .ref a3, .ref a4, .int v_keptActs, .ref a5, .int v_typed, .ref a6, .ref a7, .ref a8, .ref a9, .ref a10, .int v_isSet_1, .ref a11, .ref a12, .ref a13, .int v_arePages, .ref a14, .ref a15, .int v_place, .ref a16, .int v_readMany])), (a1, .inl (cI, 189, .inl v_now)), (a10, .inl (cI, 12, .inl v_rows_2)), (a11, .inl (cI, 13, .inl (upd v_cuts_17 (tn i2_8) x5_25))), (a12, .inl (cI, 13, .inl v_pages_18)), (a13, .inl (cI, 13, .inl v_next_19))] H := hP
                          have hD : va_D A [(a0, .inr (8, [.ref a1, .ref a2, .int v_acts, .ref a3, .ref a4, .int v_keptActs, .ref a5, .int v_typed, .ref a6, .ref a7, .ref a8, .ref a9, .ref a10, .int v_isSet_1, .ref a11, .ref a12, .ref a13, .int v_arePages, .ref a14, .ref a15, .int v_place, .ref a16, .int v_readMany])), (a1, .inl (cI, 189, .inl v_now)), (a10, .inl (cI, 12, .inl v_rows_2)), (a11, .inl (cI, 13, .inl (upd v_cuts_17 (tn i2_8) x5_25))), (a12, .inl (cI, 13, .inl v_pages_18)), (a13, .inl (cI, 13, .inl v_next_19))] := hD
                          refine lv_aload_n hx hb dX8_lays_154 rfl (lv_at hl 1 rfl) ?_
                          refine va_get (D := (dC, dI)) (ci := 8) (v := .ref a12) (C := RX8) (T := TX8) (N := 23) hx hb hT in_X8 hown hK hP 0 rfl rfl 15 (by decide) (hT _ q_fl_X8_48) (fun _ h9 => h9) rfl dX8_lays_155 ?_
                          refine lv_iload_n hx hb dX8_lays_158 rfl (lv_at hl 3 rfl) ?_
                          refine lv_aload_n hx hb dX8_lays_159 rfl (lv_at hl 1 rfl) ?_
                          refine va_get (D := (dC, dI)) (ci := 8) (v := .ref a12) (C := RX8) (T := TX8) (N := 23) hx hb hT in_X8 hown hK hP 0 rfl rfl 15 (by decide) (hT _ q_fl_X8_48) (fun _ h9 => h9) rfl dX8_lays_160 ?_
                          refine lv_iload_n hx hb dX8_lays_163 rfl (lv_at hl 4 rfl) ?_
                          obtain ⟨h32, hf⟩ := gd_el hf
                          refine ia_ld hx hb hK hP 4 0 rfl rfl (ib_in h32) (j := (tn i3_16)) rfl dX8_lays_164 ?_
                          refine lv_iconst (v := 1) hx hb dX8_lays_165 (by decide) ?_
                          refine lv_iadd hx hb dX8_lays_166 ?_
                          obtain ⟨h33, hf⟩ := gd_el hf
                          refine ia_st hx hb hK hP hD hS 4 0 rfl rfl (ib_in h33) (j := (tn i2_8)) rfl dX8_lays_167 (fun H locs hP hD hS => ?_)
                          have hP : va_P (dC, dI) vwCl [(a0, .inr (8, [.ref a1, .ref a2, .int v_acts, .ref a3, .ref a4, .int v_keptActs, .ref a5, .int v_typed, .ref a6, .ref a7, .ref a8, .ref a9, .ref a10, .int v_isSet_1, .ref a11, .ref a12, .ref a13, .int v_arePages, .ref a14, .ref a15, .int v_place, .ref a16, .int v_readMany])), (a1, .inl (cI, 189, .inl v_now)), (a10, .inl (cI, 12, .inl v_rows_2)), (a11, .inl (cI, 13, .inl (upd v_cuts_17 (tn i2_8) x5_25))), (a12, .inl (cI, 13, .inl (upd v_pages_18 (tn i2_8) ((v_pages_18 (tn i3_16)) + (1 : Int32))))), (a13, .inl (cI, 13, .inl v_next_19))] H := hP
                          have hD : va_D A [(a0, .inr (8, [.ref a1, .ref a2, .int v_acts, .ref a3, .ref a4, .int v_keptActs, .ref a5, .int v_typed, .ref a6, .ref a7, .ref a8, .ref a9, .ref a10, .int v_isSet_1, .ref a11, .ref a12, .ref a13, .int v_arePages, .ref a14, .ref a15, .int v_place, .ref a16, .int v_readMany])), (a1, .inl (cI, 189, .inl v_now)), (a10, .inl (cI, 12, .inl v_rows_2)), (a11, .inl (cI, 13, .inl (upd v_cuts_17 (tn i2_8) x5_25))), (a12, .inl (cI, 13, .inl (upd v_pages_18 (tn i2_8) ((v_pages_18 (tn i3_16)) + (1 : Int32))))), (a13, .inl (cI, 13, .inl v_next_19))] := hD
                          refine lv_aload_n hx hb dX8_lays_168 rfl (lv_at hl 1 rfl) ?_
                          refine va_get (D := (dC, dI)) (ci := 8) (v := .ref a13) (C := RX8) (T := TX8) (N := 23) hx hb hT in_X8 hown hK hP 0 rfl rfl 16 (by decide) (hT _ q_fl_X8_51) (fun _ h9 => h9) rfl dX8_lays_169 ?_
                          refine lv_iload_n hx hb dX8_lays_172 rfl (lv_at hl 3 rfl) ?_
                          refine lv_iload_n hx hb dX8_lays_173 rfl (lv_at hl 4 rfl) ?_
                          obtain ⟨h34, hf⟩ := gd_el hf
                          refine ia_st hx hb hK hP hD hS 5 0 rfl rfl (ib_in h34) (j := (tn i2_8)) rfl dX8_lays_174 (fun H locs hP hD hS => ?_)
                          have hP : va_P (dC, dI) vwCl [(a0, .inr (8, [.ref a1, .ref a2, .int v_acts, .ref a3, .ref a4, .int v_keptActs, .ref a5, .int v_typed, .ref a6, .ref a7, .ref a8, .ref a9, .ref a10, .int v_isSet_1, .ref a11, .ref a12, .ref a13, .int v_arePages, .ref a14, .ref a15, .int v_place, .ref a16, .int v_readMany])), (a1, .inl (cI, 189, .inl v_now)), (a10, .inl (cI, 12, .inl v_rows_2)), (a11, .inl (cI, 13, .inl (upd v_cuts_17 (tn i2_8) x5_25))), (a12, .inl (cI, 13, .inl (upd v_pages_18 (tn i2_8) ((v_pages_18 (tn i3_16)) + (1 : Int32))))), (a13, .inl (cI, 13, .inl (upd v_next_19 (tn i2_8) i3_16)))] H := hP
                          have hD : va_D A [(a0, .inr (8, [.ref a1, .ref a2, .int v_acts, .ref a3, .ref a4, .int v_keptActs, .ref a5, .int v_typed, .ref a6, .ref a7, .ref a8, .ref a9, .ref a10, .int v_isSet_1, .ref a11, .ref a12, .ref a13, .int v_arePages, .ref a14, .ref a15, .int v_place, .ref a16, .int v_readMany])), (a1, .inl (cI, 189, .inl v_now)), (a10, .inl (cI, 12, .inl v_rows_2)), (a11, .inl (cI, 13, .inl (upd v_cuts_17 (tn i2_8) x5_25))), (a12, .inl (cI, 13, .inl (upd v_pages_18 (tn i2_8) ((v_pages_18 (tn i3_16)) + (1 : Int32))))), (a13, .inl (cI, 13, .inl (upd v_next_19 (tn i2_8) i3_16)))] := hD
                          refine lv_iinc (v := (i3_16 + (1 : Int32))) (lv' := [(3, .int (i3_16 + (1 : Int32))), (6, .int w0_27), (0, .ref a0), (1, .int x1_4), (2, .int i2_8), (4, .int r_22), (5, .int x5_25)]) hx hb dX8_lays_175 hl (k := 4) rfl rfl (by decide) rfl (fun ls hl => ?_)
                          refine lv_goto (tgt := 52) hx hb dX8_lays_178 (by decide) ?_
                          exact ih52 (i3_16 + (1 : Int32)) (upd v_cuts_17 (tn i2_8) x5_25) (upd v_pages_18 (tn i2_8) ((v_pages_18 (tn i3_16)) + (1 : Int32))) (upd v_next_19 (tn i2_8) i3_16) (hi _ (Option.some.inj hf).symm) H locs ls hP hD hS (lv_sub hl [2, 3, 4, 0] rfl)
                  have hB122_34 : ∀ (_ : Unit), p_X8_lays_B122_34 i2_8 i3_16 v_cuts_17 v_pages_18 v_next_19 r_22 x5_25 = some o52 → ∀ (H : Heap) (locs : List Loc) (ls : Array Slot), va_P (dC, dI) vwCl [(a0, .inr (8, [.ref a1, .ref a2, .int v_acts, .ref a3, .ref a4, .int v_keptActs, .ref a5, .int v_typed, .ref a6, .ref a7, .ref a8, .ref a9, .ref a10, .int v_isSet_1, .ref a11, .ref a12, .ref a13, .int v_arePages, .ref a14, .ref a15, .int v_place, .ref a16, .int v_readMany])), (a1, .inl (cI, 189, .inl v_now)), (a10, .inl (cI, 12, .inl v_rows_2)), (a11, .inl (cI, 13, .inl v_cuts_17)), (a12, .inl (cI, 13, .inl v_pages_18)), (a13, .inl (cI, 13, .inl v_next_19))] H → va_D A [(a0, .inr (8, [.ref a1, .ref a2, .int v_acts, .ref a3, .ref a4, .int v_keptActs, .ref a5, .int v_typed, .ref a6, .ref a7, .ref a8, .ref a9, .ref a10, .int v_isSet_1, .ref a11, .ref a12, .ref a13, .int v_arePages, .ref a14, .ref a15, .int v_place, .ref a16, .int v_readMany])), (a1, .inl (cI, 189, .inl v_now)), (a10, .inl (cI, 12, .inl v_rows_2)), (a11, .inl (cI, 13, .inl v_cuts_17)), (a12, .inl (cI, 13, .inl v_pages_18)), (a13, .inl (cI, 13, .inl v_next_19))] → va_S A s.heap H locs → lv_has ls 7 [(0, .ref a0), (1, .int x1_4), (2, .int i2_8), (3, .int i3_16), (4, .int r_22), (5, .int x5_25)] → W p l e ({ frames := 9, cells := 0, slots := 0, locals := 204 } : Room) s m args below meth c H locs 0 0 Q (F0 m 122 ls []) := by
                    intro _ hf H locs ls hP hD hS hl
                    refine lv_iconst (v := 1) hx hb dX8_lays_122 (by decide) ?_
                    refine lv_goto (tgt := 127) hx hb dX8_lays_123 (by decide) ?_
                    exact hB127_27 (1 : Int32) hf H locs ls hP hD hS (lv_sub hl [0, 1, 2, 3, 4, 5] rfl)
                  refine lv_icmp_lt (tgt := 122) hx hb dX8_lays_91 (by decide) (fun c35 => ?_) (fun c35 => ?_)
                  · replace hf := it_t c35 hf
                    exact hB122_34 () hf H locs ls hP hD hS (lv_sub hl [2, 3, 4, 5, 1, 0] rfl)
                  · replace hf := it_f c35 hf
                    refine lv_iload hx hb dX8_lays_94 (lv_at hl 0 rfl) ?_
                    refine lv_aload_n hx hb dX8_lays_96 rfl (lv_at hl 2 rfl) ?_
                    refine va_get (D := (dC, dI)) (ci := 8) (v := .ref a11) (C := RX8) (T := TX8) (N := 23) hx hb hT in_X8 hown hK hP 0 rfl rfl 14 (by decide) (hT _ q_fl_X8_45) (fun _ h9 => h9) rfl dX8_lays_97 ?_
                    refine lv_iload_n hx hb dX8_lays_100 rfl (lv_at hl 4 rfl) ?_
                    obtain ⟨h36, hf⟩ := gd_el hf
                    refine ia_ld hx hb hK hP 3 0 rfl rfl (ib_in h36) (j := (tn i2_8)) rfl dX8_lays_101 ?_
                    have hB126_36 : ∀ (_ : Unit), p_X8_lays_B126_36 i2_8 i3_16 v_cuts_17 v_pages_18 v_next_19 r_22 x5_25 = some o52 → ∀ (H : Heap) (locs : List Loc) (ls : Array Slot), va_P (dC, dI) vwCl [(a0, .inr (8, [.ref a1, .ref a2, .int v_acts, .ref a3, .ref a4, .int v_keptActs, .ref a5, .int v_typed, .ref a6, .ref a7, .ref a8, .ref a9, .ref a10, .int v_isSet_1, .ref a11, .ref a12, .ref a13, .int v_arePages, .ref a14, .ref a15, .int v_place, .ref a16, .int v_readMany])), (a1, .inl (cI, 189, .inl v_now)), (a10, .inl (cI, 12, .inl v_rows_2)), (a11, .inl (cI, 13, .inl v_cuts_17)), (a12, .inl (cI, 13, .inl v_pages_18)), (a13, .inl (cI, 13, .inl v_next_19))] H → va_D A [(a0, .inr (8, [.ref a1, .ref a2, .int v_acts, .ref a3, .ref a4, .int v_keptActs, .ref a5, .int v_typed, .ref a6, .ref a7, .ref a8, .ref a9, .ref a10, .int v_isSet_1, .ref a11, .ref a12, .ref a13, .int v_arePages, .ref a14, .ref a15, .int v_place, .ref a16, .int v_readMany])), (a1, .inl (cI, 189, .inl v_now)), (a10, .inl (cI, 12, .inl v_rows_2)), (a11, .inl (cI, 13, .inl v_cuts_17)), (a12, .inl (cI, 13, .inl v_pages_18)), (a13, .inl (cI, 13, .inl v_next_19))] → va_S A s.heap H locs → lv_has ls 7 [(0, .ref a0), (1, .int x1_4), (2, .int i2_8), (3, .int i3_16), (4, .int r_22), (5, .int x5_25)] → W p l e ({ frames := 9, cells := 0, slots := 0, locals := 204 } : Room) s m args below meth c H locs 0 0 Q (F0 m 126 ls []) := by
                      intro _ hf H locs ls hP hD hS hl
                      refine lv_iconst (v := 0) hx hb dX8_lays_126 (by decide) ?_
                      exact hB127_27 (0 : Int32) hf H locs ls hP hD hS (lv_sub hl [0, 1, 2, 3, 4, 5] rfl)
                    refine lv_icmp_ne (tgt := 126) hx hb dX8_lays_102 (by decide) (fun c37 => ?_) (fun c37 => ?_)
                    · replace hf := it_f c37 hf
                      exact hB126_36 () hf H locs ls hP hD hS (lv_sub hl [2, 3, 4, 5, 1, 0] rfl)
                    · replace hf := it_t c37 hf
                      refine lv_aload_n hx hb dX8_lays_105 rfl (lv_at hl 2 rfl) ?_
                      refine va_get (D := (dC, dI)) (ci := 8) (v := .ref a12) (C := RX8) (T := TX8) (N := 23) hx hb hT in_X8 hown hK hP 0 rfl rfl 15 (by decide) (hT _ q_fl_X8_48) (fun _ h9 => h9) rfl dX8_lays_106 ?_
                      refine lv_iload_n hx hb dX8_lays_109 rfl (lv_at hl 5 rfl) ?_
                      obtain ⟨h38, hf⟩ := gd_el hf
                      refine ia_ld hx hb hK hP 4 0 rfl rfl (ib_in h38) (j := (tn i3_16)) rfl dX8_lays_110 ?_
                      refine lv_iconst (v := 1) hx hb dX8_lays_111 (by decide) ?_
                      refine lv_iadd hx hb dX8_lays_112 ?_
                      refine lv_aload_n hx hb dX8_lays_113 rfl (lv_at hl 2 rfl) ?_
                      refine va_get (D := (dC, dI)) (ci := 8) (v := .ref a12) (C := RX8) (T := TX8) (N := 23) hx hb hT in_X8 hown hK hP 0 rfl rfl 15 (by decide) (hT _ q_fl_X8_48) (fun _ h9 => h9) rfl dX8_lays_114 ?_
                      refine lv_iload_n hx hb dX8_lays_117 rfl (lv_at hl 4 rfl) ?_
                      obtain ⟨h39, hf⟩ := gd_el hf
                      refine ia_ld hx hb hK hP 4 0 rfl rfl (ib_in h39) (j := (tn i2_8)) rfl dX8_lays_118 ?_
                      refine lv_icmp_gt (tgt := 126) hx hb dX8_lays_119 (by decide) (fun c40 => ?_) (fun c40 => ?_)
                      · replace hf := it_t c40 hf
                        exact hB126_36 () hf H locs ls hP hD hS (lv_sub hl [2, 3, 4, 5, 1, 0] rfl)
                      · replace hf := it_f c40 hf
                        exact hB122_34 () hf H locs ls hP hD hS (lv_sub hl [2, 3, 4, 5, 1, 0] rfl)
          obtain ⟨f3_45, v_cuts_46, v_pages_47, v_next_48, hq, hf⟩ := bd4_el hf
          refine hL52 (f3_45, v_cuts_46, v_pages_47, v_next_48) (fun z_41 z_42 z_43 z_44 h9 H locs ls hP hD hS hl => ?_) fuel x3_15 (upd v_cuts_9 (tn i2_8) (1000000 : Int32)) (upd v_pages_10 (tn i2_8) (0 : Int32)) v_next_11 hq H locs ls hP hD hS (lv_sub hl [1, 2, 3, 0] rfl)
          simp only [Prod.mk.injEq] at h9
          obtain ⟨h9_0, h9_1, h9_2, h9_3⟩ := h9
          subst h9_0; subst h9_1; subst h9_2; subst h9_3
          refine lv_iinc (v := (i2_8 + (-1 : Int32))) (lv' := [(2, .int (i2_8 + (-1 : Int32))), (0, .ref a0), (1, .int x1_4)]) hx hb dX8_lays_181 hl (k := 2) rfl rfl (by decide) rfl (fun ls hl => ?_)
          refine lv_goto (tgt := 29) hx hb dX8_lays_184 (by decide) ?_
          exact ih29 (i2_8 + (-1 : Int32)) v_cuts_46 v_pages_47 v_next_48 (hi _ (Option.some.inj hf).symm) H locs ls hP hD hS (lv_sub hl [1, 2, 0] rfl)
    obtain ⟨f2_53, v_cuts_54, v_pages_55, v_next_56, hq, hf⟩ := bd4_el hf
    refine hL29 (f2_53, v_cuts_54, v_pages_55, v_next_56) (fun z_49 z_50 z_51 z_52 h9 H locs ls hP hD hS hl => ?_) fuel x2_7 (upd v_cuts (tn x1_4) (0 : Int32)) (upd v_pages (tn x1_4) (0 : Int32)) v_next hq H locs ls hP hD hS (lv_sub hl [2, 1, 0] rfl)
    simp only [Prod.mk.injEq] at h9
    obtain ⟨h9_0, h9_1, h9_2, h9_3⟩ := h9
    subst h9_0; subst h9_1; subst h9_2; subst h9_3
    refine lv_aload_n hx hb dX8_lays_187 rfl (lv_at hl 0 rfl) ?_
    refine lv_aload_n hx hb dX8_lays_188 rfl (lv_at hl 0 rfl) ?_
    refine va_get (D := (dC, dI)) (ci := 8) (v := .int v_isSet_1) (C := RX8) (T := TX8) (N := 23) hx hb hT in_X8 hown hK hP 0 rfl rfl 13 (by decide) (hT _ q_fl_X8_111) (fun _ h9 => h9) rfl dX8_lays_189 ?_
    refine lv_if_eq (tgt := 210) hx hb dX8_lays_192 (by decide) (fun c57 => ?_) (fun c57 => ?_)
    · replace hf := it_t c57 hf
      refine lv_iconst (v := 0) hx hb dX8_lays_210 (by decide) ?_
      refine va_put (D := (dC, dI)) (ci := 8) (v := .int (0 : Int32)) (ty := .boolean) (C := RX8) (T := TX8) (N := 23) hx hb hT in_X8 tyX8 tyX8_ok nmX8 hown hK hP hD hS 0 rfl rfl 17 (by decide) (hT _ q_fl_X8_133) (fun _ h9 => h9) rfl (tyX8_ok 17 (by decide)) rfl rfl (Nat.le_of_ble_eq_true rfl) dX8_lays_211 (fun H locs hP hD hS => ?_)
      have hP : va_P (dC, dI) vwCl [(a0, .inr (8, [.ref a1, .ref a2, .int v_acts, .ref a3, .ref a4, .int v_keptActs, .ref a5, .int v_typed, .ref a6, .ref a7, .ref a8, .ref a9, .ref a10, .int v_isSet_1, .ref a11, .ref a12, .ref a13, .int (0 : Int32), .ref a14, .ref a15, .int v_place, .ref a16, .int v_readMany])), (a1, .inl (cI, 189, .inl v_now)), (a10, .inl (cI, 12, .inl v_rows_2)), (a11, .inl (cI, 13, .inl v_cuts_54)), (a12, .inl (cI, 13, .inl v_pages_55)), (a13, .inl (cI, 13, .inl v_next_56))] H := hP
      have hD : va_D A [(a0, .inr (8, [.ref a1, .ref a2, .int v_acts, .ref a3, .ref a4, .int v_keptActs, .ref a5, .int v_typed, .ref a6, .ref a7, .ref a8, .ref a9, .ref a10, .int v_isSet_1, .ref a11, .ref a12, .ref a13, .int (0 : Int32), .ref a14, .ref a15, .int v_place, .ref a16, .int v_readMany])), (a1, .inl (cI, 189, .inl v_now)), (a10, .inl (cI, 12, .inl v_rows_2)), (a11, .inl (cI, 13, .inl v_cuts_54)), (a12, .inl (cI, 13, .inl v_pages_55)), (a13, .inl (cI, 13, .inl v_next_56))] := hD
      replace hf := Option.some.inj hf
      simp only [Prod.mk.injEq] at hf
      obtain ⟨hf0, hf1, hf2, hf3, hf4, hf5⟩ := hf
      subst hf0; subst hf1; subst hf2; subst hf3; subst hf4; subst hf5
      exact hret H locs ls _ dX8_lays_214 hP hD hS
    · replace hf := it_f c57 hf
      refine lv_aload_n hx hb dX8_lays_195 rfl (lv_at hl 0 rfl) ?_
      refine va_get (D := (dC, dI)) (ci := 8) (v := .ref a11) (C := RX8) (T := TX8) (N := 23) hx hb hT in_X8 hown hK hP 0 rfl rfl 14 (by decide) (hT _ q_fl_X8_45) (fun _ h9 => h9) rfl dX8_lays_196 ?_
      refine lv_iconst (v := 0) hx hb dX8_lays_199 (by decide) ?_
      refine ia_ld hx hb hK hP 3 0 rfl rfl (ib_in (by decide)) (j := 0) (by decide) dX8_lays_200 ?_
      refine lv_ldc hx hb hown (hT _ q_k_X8_104) dX8_lays_201 ?_
      refine lv_icmp_ge (tgt := 210) hx hb dX8_lays_203 (by decide) (fun c58 => ?_) (fun c58 => ?_)
      · replace hf := it_t c58 hf
        refine lv_iconst (v := 0) hx hb dX8_lays_210 (by decide) ?_
        refine va_put (D := (dC, dI)) (ci := 8) (v := .int (0 : Int32)) (ty := .boolean) (C := RX8) (T := TX8) (N := 23) hx hb hT in_X8 tyX8 tyX8_ok nmX8 hown hK hP hD hS 0 rfl rfl 17 (by decide) (hT _ q_fl_X8_133) (fun _ h9 => h9) rfl (tyX8_ok 17 (by decide)) rfl rfl (Nat.le_of_ble_eq_true rfl) dX8_lays_211 (fun H locs hP hD hS => ?_)
        have hP : va_P (dC, dI) vwCl [(a0, .inr (8, [.ref a1, .ref a2, .int v_acts, .ref a3, .ref a4, .int v_keptActs, .ref a5, .int v_typed, .ref a6, .ref a7, .ref a8, .ref a9, .ref a10, .int v_isSet_1, .ref a11, .ref a12, .ref a13, .int (0 : Int32), .ref a14, .ref a15, .int v_place, .ref a16, .int v_readMany])), (a1, .inl (cI, 189, .inl v_now)), (a10, .inl (cI, 12, .inl v_rows_2)), (a11, .inl (cI, 13, .inl v_cuts_54)), (a12, .inl (cI, 13, .inl v_pages_55)), (a13, .inl (cI, 13, .inl v_next_56))] H := hP
        have hD : va_D A [(a0, .inr (8, [.ref a1, .ref a2, .int v_acts, .ref a3, .ref a4, .int v_keptActs, .ref a5, .int v_typed, .ref a6, .ref a7, .ref a8, .ref a9, .ref a10, .int v_isSet_1, .ref a11, .ref a12, .ref a13, .int (0 : Int32), .ref a14, .ref a15, .int v_place, .ref a16, .int v_readMany])), (a1, .inl (cI, 189, .inl v_now)), (a10, .inl (cI, 12, .inl v_rows_2)), (a11, .inl (cI, 13, .inl v_cuts_54)), (a12, .inl (cI, 13, .inl v_pages_55)), (a13, .inl (cI, 13, .inl v_next_56))] := hD
        replace hf := Option.some.inj hf
        simp only [Prod.mk.injEq] at hf
        obtain ⟨hf0, hf1, hf2, hf3, hf4, hf5⟩ := hf
        subst hf0; subst hf1; subst hf2; subst hf3; subst hf4; subst hf5
        exact hret H locs ls _ dX8_lays_214 hP hD hS
      · replace hf := it_f c58 hf
        refine lv_iconst (v := 1) hx hb dX8_lays_206 (by decide) ?_
        refine lv_goto (tgt := 211) hx hb dX8_lays_207 (by decide) ?_
        refine va_put (D := (dC, dI)) (ci := 8) (v := .int (1 : Int32)) (ty := .boolean) (C := RX8) (T := TX8) (N := 23) hx hb hT in_X8 tyX8 tyX8_ok nmX8 hown hK hP hD hS 0 rfl rfl 17 (by decide) (hT _ q_fl_X8_133) (fun _ h9 => h9) rfl (tyX8_ok 17 (by decide)) rfl rfl (Nat.le_of_ble_eq_true rfl) dX8_lays_211 (fun H locs hP hD hS => ?_)
        have hP : va_P (dC, dI) vwCl [(a0, .inr (8, [.ref a1, .ref a2, .int v_acts, .ref a3, .ref a4, .int v_keptActs, .ref a5, .int v_typed, .ref a6, .ref a7, .ref a8, .ref a9, .ref a10, .int v_isSet_1, .ref a11, .ref a12, .ref a13, .int (1 : Int32), .ref a14, .ref a15, .int v_place, .ref a16, .int v_readMany])), (a1, .inl (cI, 189, .inl v_now)), (a10, .inl (cI, 12, .inl v_rows_2)), (a11, .inl (cI, 13, .inl v_cuts_54)), (a12, .inl (cI, 13, .inl v_pages_55)), (a13, .inl (cI, 13, .inl v_next_56))] H := hP
        have hD : va_D A [(a0, .inr (8, [.ref a1, .ref a2, .int v_acts, .ref a3, .ref a4, .int v_keptActs, .ref a5, .int v_typed, .ref a6, .ref a7, .ref a8, .ref a9, .ref a10, .int v_isSet_1, .ref a11, .ref a12, .ref a13, .int (1 : Int32), .ref a14, .ref a15, .int v_place, .ref a16, .int v_readMany])), (a1, .inl (cI, 189, .inl v_now)), (a10, .inl (cI, 12, .inl v_rows_2)), (a11, .inl (cI, 13, .inl v_cuts_54)), (a12, .inl (cI, 13, .inl v_pages_55)), (a13, .inl (cI, 13, .inl v_next_56))] := hD
        replace hf := Option.some.inj hf
        simp only [Prod.mk.injEq] at hf
        obtain ⟨hf0, hf1, hf2, hf3, hf4, hf5⟩ := hf
        subst hf0; subst hf1; subst hf2; subst hf3; subst hf4; subst hf5
        exact hret H locs ls _ dX8_lays_214 hP hD hS
  refine key _ ?_ _ _ _ hP hD hS hl
  intro H locs ls pc d hP hD hS
  exact W.vret hx hb hr (fun t ht hW => ⟨⟨rfl, by rw [ht]; exact hP, hD⟩, hS.F ht⟩) hS.2.2 d
def p_X8_firstOf_L4 (v_next : (Nat → Int32)) (x1 : Int32) (s : Int32 × Int32) : Option ((Int32 × Int32) ⊕ (Int32 × Int32)) := match s with
  | (i2_1, i3_2) => (if x1 ≤ i3_2 then (some (.inr (i2_1, i3_2))) else (gd (ib i2_1 13) (nm (v_next (tn i2_1)) fun x2_5 => (some (.inl (x2_5, (i3_2 + (1 : Int32))))))))
def p_X8_firstOf (v_next : (Nat → Int32)) (x1 : Int32) : Option (Int32) :=
  (bd2 (loopN (p_X8_firstOf_L4 v_next x1) fuel ((0 : Int32), (0 : Int32))) fun f2_8 f3_9 => (some f2_8))
set_option maxHeartbeats 4000000 in
set_option maxRecDepth 100000 in
theorem c_X8_firstOf (l : Launch) (dC : Nat → ClassId) (dI : Nat → Nat → Nat) (cI cJ cP cS : ClassId) (a0 : Nat) (a1 : Nat) (a2 : Nat) (a3 : Nat) (a4 : Nat) (a5 : Nat) (a6 : Nat) (a7 : Nat) (a8 : Nat) (a9 : Nat) (a10 : Nat) (a11 : Nat) (a12 : Nat) (a13 : Nat) (a14 : Nat) (a15 : Nat) (a16 : Nat) (v_acts : Int32) (v_keptActs : Int32) (v_typed : Int32) (v_isSet : Int32) (v_arePages : Int32) (v_place : Int32) (v_readMany : Int32) (v_next : (Nat → Int32))  (x1 : Int32) (rv : Int32)  (hf : p_X8_firstOf v_next x1 = some rv) : MC l (dC, dI) (tyl cI cJ cP cS) yX8_firstOf (Cond.code yX8_firstOf cX8_firstOf 4 (some .int) :: TBG) ({ frames := 0, cells := 0, slots := 0, locals := 0 } : Room) [.ref a0, .int x1] [(a0, .inr (8, [.ref a1, .ref a2, .int v_acts, .ref a3, .ref a4, .int v_keptActs, .ref a5, .int v_typed, .ref a6, .ref a7, .ref a8, .ref a9, .ref a10, .int v_isSet, .ref a11, .ref a12, .ref a13, .int v_arePages, .ref a14, .ref a15, .int v_place, .ref a16, .int v_readMany])), (a13, .inl (cI, 13, .inl v_next))] [(a0, .inr (8, [.ref a1, .ref a2, .int v_acts, .ref a3, .ref a4, .int v_keptActs, .ref a5, .int v_typed, .ref a6, .ref a7, .ref a8, .ref a9, .ref a10, .int v_isSet, .ref a11, .ref a12, .ref a13, .int v_arePages, .ref a14, .ref a15, .int v_place, .ref a16, .int v_readMany])), (a13, .inl (cI, 13, .inl v_next))] (some (.int rv)) := by
  intro sz
  unfold MPost
  refine Met.ofW (cc := cX8_firstOf) (maxL := 4) (ret := (some .int)) (by decide) rfl ?_
  intro p e s m args below meth c s₁ B hml hv
  obtain ⟨rfl, hsz, hP, hK, hD0, hF⟩ := hv
  have hx := B.exec
  have hb := B.bytes
  have hr := B.returns
  have hT : ∀ w ∈ TBG, w.before _ s = true := fun w h => atoms_spec B.pre w (List.mem_cons_of_mem _ h)
  have hown : s.vm.findClass RX8 = some m.cls := findClass_of_methodNamed B.named
  have hlocks := B.notSynchronized
  subst hsz
  have hD := hD0.self (sz := s.heap.size)
  generalize hAe : va_A [(a0, .inr (8, [.ref a1, .ref a2, .int v_acts, .ref a3, .ref a4, .int v_keptActs, .ref a5, .int v_typed, .ref a6, .ref a7, .ref a8, .ref a9, .ref a10, .int v_isSet, .ref a11, .ref a12, .ref a13, .int v_arePages, .ref a14, .ref a15, .int v_place, .ref a16, .int v_readMany])), (a13, .inl (cI, 13, .inl v_next))] s.heap.size = A at hD hF ⊢
  have hA : ∀ q : Nat, s.heap.size ≤ q → A q := fun q h => by rw [← hAe]; exact Or.inr h
  have hS : va_S A s.heap s.heap [] := va_S.rf
  have hl := lv_entry ([.ref a0, .int x1]) (n := 4) (Nat.le_of_ble_eq_true rfl)
  rw [lg_entry_eq]
  generalize (lg_sl ([.ref a0, .int x1]) ++ List.replicate (4 - (lg_sl ([.ref a0, .int x1])).length) Slot.unset).toArray = ls at hl ⊢
  have hl : lv_has ls 4 [(0, .ref a0), (1, .int x1)] := hl
  generalize ([.ref a0, .int x1] : List Value).toArray = args at hT ⊢
  have key : ∀ (Q : State → Prop), (∀ (H : Heap) (locs : List Loc) (ls : Array Slot) (pc : Nat), decode cX8_firstOf pc = .ok (.ireturn, 1) → va_P (dC, dI) vwCl [(a0, .inr (8, [.ref a1, .ref a2, .int v_acts, .ref a3, .ref a4, .int v_keptActs, .ref a5, .int v_typed, .ref a6, .ref a7, .ref a8, .ref a9, .ref a10, .int v_isSet, .ref a11, .ref a12, .ref a13, .int v_arePages, .ref a14, .ref a15, .int v_place, .ref a16, .int v_readMany])), (a13, .inl (cI, 13, .inl v_next))] H → va_D A [(a0, .inr (8, [.ref a1, .ref a2, .int v_acts, .ref a3, .ref a4, .int v_keptActs, .ref a5, .int v_typed, .ref a6, .ref a7, .ref a8, .ref a9, .ref a10, .int v_isSet, .ref a11, .ref a12, .ref a13, .int v_arePages, .ref a14, .ref a15, .int v_place, .ref a16, .int v_readMany])), (a13, .inl (cI, 13, .inl v_next))] → va_S A s.heap H locs → W p l e ({ frames := 0, cells := 0, slots := 0, locals := 0 } : Room) s m args below meth c H locs 0 0 Q (F0 m pc ls [.int rv])) → ∀ (H : Heap) (locs : List Loc) (ls : Array Slot), va_P (dC, dI) vwCl [(a0, .inr (8, [.ref a1, .ref a2, .int v_acts, .ref a3, .ref a4, .int v_keptActs, .ref a5, .int v_typed, .ref a6, .ref a7, .ref a8, .ref a9, .ref a10, .int v_isSet, .ref a11, .ref a12, .ref a13, .int v_arePages, .ref a14, .ref a15, .int v_place, .ref a16, .int v_readMany])), (a13, .inl (cI, 13, .inl v_next))] H → va_D A [(a0, .inr (8, [.ref a1, .ref a2, .int v_acts, .ref a3, .ref a4, .int v_keptActs, .ref a5, .int v_typed, .ref a6, .ref a7, .ref a8, .ref a9, .ref a10, .int v_isSet, .ref a11, .ref a12, .ref a13, .int v_arePages, .ref a14, .ref a15, .int v_place, .ref a16, .int v_readMany])), (a13, .inl (cI, 13, .inl v_next))] → va_S A s.heap H locs → lv_has ls 4 [(0, .ref a0), (1, .int x1)] → W p l e ({ frames := 0, cells := 0, slots := 0, locals := 0 } : Room) s m args below meth c H locs 0 0 Q (F0 m 0 ls []) := by
    intro Q hret H locs ls hP hD hS hl
    refine lv_iconst (v := 0) hx hb dX8_firstOf_0 (by decide) ?_
    refine lv_istore_n (lv' := [(2, .int (0 : Int32)), (0, .ref a0), (1, .int x1)]) hx hb dX8_firstOf_1 rfl hl (by decide) rfl (fun ls hl => ?_)
    refine lv_iconst (v := 0) hx hb dX8_firstOf_2 (by decide) ?_
    refine lv_istore_n (lv' := [(3, .int (0 : Int32)), (2, .int (0 : Int32)), (0, .ref a0), (1, .int x1)]) hx hb dX8_firstOf_3 rfl hl (by decide) rfl (fun ls hl => ?_)
    have hL4 : ∀ (rr : Int32 × Int32), (∀ (z_6 : Int32) (z_7 : Int32), rr = (z_6, z_7) → ∀ (H : Heap) (locs : List Loc) (ls : Array Slot), va_P (dC, dI) vwCl [(a0, .inr (8, [.ref a1, .ref a2, .int v_acts, .ref a3, .ref a4, .int v_keptActs, .ref a5, .int v_typed, .ref a6, .ref a7, .ref a8, .ref a9, .ref a10, .int v_isSet, .ref a11, .ref a12, .ref a13, .int v_arePages, .ref a14, .ref a15, .int v_place, .ref a16, .int v_readMany])), (a13, .inl (cI, 13, .inl v_next))] H → va_D A [(a0, .inr (8, [.ref a1, .ref a2, .int v_acts, .ref a3, .ref a4, .int v_keptActs, .ref a5, .int v_typed, .ref a6, .ref a7, .ref a8, .ref a9, .ref a10, .int v_isSet, .ref a11, .ref a12, .ref a13, .int v_arePages, .ref a14, .ref a15, .int v_place, .ref a16, .int v_readMany])), (a13, .inl (cI, 13, .inl v_next))] → va_S A s.heap H locs → lv_has ls 4 [(2, .int z_6)] → W p l e ({ frames := 0, cells := 0, slots := 0, locals := 0 } : Room) s m args below meth c H locs 0 0 Q (F0 m 22 ls [])) → ∀ (n : Nat) (i2_1 : Int32) (i3_2 : Int32), loopN (p_X8_firstOf_L4 v_next x1) n (i2_1, i3_2) = some rr → ∀ (H : Heap) (locs : List Loc) (ls : Array Slot), va_P (dC, dI) vwCl [(a0, .inr (8, [.ref a1, .ref a2, .int v_acts, .ref a3, .ref a4, .int v_keptActs, .ref a5, .int v_typed, .ref a6, .ref a7, .ref a8, .ref a9, .ref a10, .int v_isSet, .ref a11, .ref a12, .ref a13, .int v_arePages, .ref a14, .ref a15, .int v_place, .ref a16, .int v_readMany])), (a13, .inl (cI, 13, .inl v_next))] H → va_D A [(a0, .inr (8, [.ref a1, .ref a2, .int v_acts, .ref a3, .ref a4, .int v_keptActs, .ref a5, .int v_typed, .ref a6, .ref a7, .ref a8, .ref a9, .ref a10, .int v_isSet, .ref a11, .ref a12, .ref a13, .int v_arePages, .ref a14, .ref a15, .int v_place, .ref a16, .int v_readMany])), (a13, .inl (cI, 13, .inl v_next))] → va_S A s.heap H locs → lv_has ls 4 [(0, .ref a0), (1, .int x1), (2, .int i2_1), (3, .int i3_2)] → W p l e ({ frames := 0, cells := 0, slots := 0, locals := 0 } : Room) s m args below meth c H locs 0 0 Q (F0 m 4 ls []) := by
      intro rr hk4 n
      induction n with
      | zero => intro i2_1 i3_2 hf; cases hf
      | succ n ih4 =>
        intro i2_1 i3_2 hf H locs ls hP hD hS hl
        obtain ⟨o4, hf, hi, he⟩ := loopN_el hf
        refine lv_iload_n hx hb dX8_firstOf_4 rfl (lv_at hl 3 rfl) ?_
        refine lv_iload_n hx hb dX8_firstOf_5 rfl (lv_at hl 1 rfl) ?_
        refine lv_icmp_ge (tgt := 22) hx hb dX8_firstOf_6 (by decide) (fun c3 => ?_) (fun c3 => ?_)
        · replace hf := it_t c3 hf
          exact hk4 _ _ (he _ (Option.some.inj hf).symm).symm H locs ls hP hD hS (lv_sub hl [2] rfl)
        · replace hf := it_f c3 hf
          refine lv_aload_n hx hb dX8_firstOf_9 rfl (lv_at hl 0 rfl) ?_
          refine va_get (D := (dC, dI)) (ci := 8) (v := .ref a13) (C := RX8) (T := TX8) (N := 23) hx hb hT in_X8 hown hK hP 0 rfl rfl 16 (by decide) (hT _ q_fl_X8_51) (fun _ h9 => h9) rfl dX8_firstOf_10 ?_
          refine lv_iload_n hx hb dX8_firstOf_13 rfl (lv_at hl 2 rfl) ?_
          obtain ⟨h4, hf⟩ := gd_el hf
          refine ia_ld hx hb hK hP 1 0 rfl rfl (ib_in h4) (j := (tn i2_1)) rfl dX8_firstOf_14 ?_
          obtain ⟨x2_5, ex2_5, hf⟩ := nm_el hf
          refine lv_as (congrArg Value.int ex2_5) ?_
          refine lv_istore_n (lv' := [(2, .int x2_5), (0, .ref a0), (1, .int x1), (3, .int i3_2)]) hx hb dX8_firstOf_15 rfl hl (by decide) rfl (fun ls hl => ?_)
          refine lv_iinc (v := (i3_2 + (1 : Int32))) (lv' := [(3, .int (i3_2 + (1 : Int32))), (2, .int x2_5), (0, .ref a0), (1, .int x1)]) hx hb dX8_firstOf_16 hl (k := 3) rfl rfl (by decide) rfl (fun ls hl => ?_)
          refine lv_goto (tgt := 4) hx hb dX8_firstOf_19 (by decide) ?_
          exact ih4 x2_5 (i3_2 + (1 : Int32)) (hi _ (Option.some.inj hf).symm) H locs ls hP hD hS (lv_sub hl [2, 3, 1, 0] rfl)
    obtain ⟨f2_8, f3_9, hq, hf⟩ := bd2_el hf
    refine hL4 (f2_8, f3_9) (fun z_6 z_7 h9 H locs ls hP hD hS hl => ?_) fuel (0 : Int32) (0 : Int32) hq H locs ls hP hD hS (lv_sub hl [2, 3, 1, 0] rfl)
    simp only [Prod.mk.injEq] at h9
    obtain ⟨h9_0, h9_1⟩ := h9
    subst h9_0; subst h9_1
    refine lv_iload_n hx hb dX8_firstOf_22 rfl (lv_at hl 0 rfl) ?_
    replace hf := Option.some.inj hf
    subst hf
    exact hret H locs ls _ dX8_firstOf_23 hP hD hS
  refine key _ ?_ _ _ _ hP hD hS hl
  intro H locs ls pc d hP hD hS
  exact W.iret (v := rv) hx hb hr (fun t ht hW => ⟨⟨rfl, by rw [ht]; exact hP, hD⟩, hS.F ht⟩) hS.2.2 d
def p_X8_pageOf_L23 (x1 : Int32) (v_next_6 : (Nat → Int32)) (s : Int32 × Int32) : Option ((Int32 × Int32) ⊕ (Int32 × Int32)) := match s with
  | (i2_10, i3_11) => (if x1 < i3_11 then (some (.inr (i2_10, i3_11))) else (gd (ib i3_11 13) (nm (v_next_6 (tn i3_11)) fun x3_14 => (some (.inl ((i2_10 + (1 : Int32)), x3_14))))))
def p_X8_pageOf (v_isSet : Int32) (v_arePages : Int32) (v_now : (Nat → Int32)) (v_rows : (Nat → Int32)) (v_cuts : (Nat → Int32)) (v_pages : (Nat → Int32)) (v_next : (Nat → Int32)) (x1 : Int32) : Option (Int32 × Int32 × Int32 × (Nat → Int32) × (Nat → Int32) × (Nat → Int32) × (Nat → Int32)) :=
  (bd6 (p_X8_lays v_isSet v_arePages v_now v_rows v_cuts v_pages v_next) fun v_isSet_1 v_arePages_2 v_rows_3 v_cuts_4 v_pages_5 v_next_6 => (if v_arePages_2 = (0 : Int32) then (some ((-4 : Int32), v_isSet_1, v_arePages_2, v_rows_3, v_cuts_4, v_pages_5, v_next_6)) else (nm (v_next_6 0) fun x3_9 => (bd2 (loopN (p_X8_pageOf_L23 x1 v_next_6) fuel ((0 : Int32), x3_9)) fun f2_17 f3_18 => (some (f2_17, v_isSet_1, v_arePages_2, v_rows_3, v_cuts_4, v_pages_5, v_next_6))))))
set_option maxHeartbeats 4000000 in
set_option maxRecDepth 100000 in
theorem c_X8_pageOf (l : Launch) (dC : Nat → ClassId) (dI : Nat → Nat → Nat) (cI cJ cP cS : ClassId) (a0 : Nat) (a1 : Nat) (a2 : Nat) (a3 : Nat) (a4 : Nat) (a5 : Nat) (a6 : Nat) (a7 : Nat) (a8 : Nat) (a9 : Nat) (a10 : Nat) (a11 : Nat) (a12 : Nat) (a13 : Nat) (a14 : Nat) (a15 : Nat) (a16 : Nat) (v_acts : Int32) (v_keptActs : Int32) (v_typed : Int32) (v_isSet : Int32) (v_arePages : Int32) (v_place : Int32) (v_readMany : Int32) (v_now : (Nat → Int32)) (v_rows : (Nat → Int32)) (v_cuts : (Nat → Int32)) (v_pages : (Nat → Int32)) (v_next : (Nat → Int32))  (x1 : Int32) (rv : Int32) (v_isSet_o : Int32) (v_arePages_o : Int32) (v_rows_o : (Nat → Int32)) (v_cuts_o : (Nat → Int32)) (v_pages_o : (Nat → Int32)) (v_next_o : (Nat → Int32)) (hf : p_X8_pageOf v_isSet v_arePages v_now v_rows v_cuts v_pages v_next x1 = some (rv, v_isSet_o, v_arePages_o, v_rows_o, v_cuts_o, v_pages_o, v_next_o)) : MC l (dC, dI) (tyl cI cJ cP cS) yX8_pageOf (Cond.code yX8_pageOf cX8_pageOf 4 (some .int) :: TBG) ({ frames := 10, cells := 0, slots := 0, locals := 230 } : Room) [.ref a0, .int x1] [(a0, .inr (8, [.ref a1, .ref a2, .int v_acts, .ref a3, .ref a4, .int v_keptActs, .ref a5, .int v_typed, .ref a6, .ref a7, .ref a8, .ref a9, .ref a10, .int v_isSet, .ref a11, .ref a12, .ref a13, .int v_arePages, .ref a14, .ref a15, .int v_place, .ref a16, .int v_readMany])), (a1, .inl (cI, 189, .inl v_now)), (a10, .inl (cI, 12, .inl v_rows)), (a11, .inl (cI, 13, .inl v_cuts)), (a12, .inl (cI, 13, .inl v_pages)), (a13, .inl (cI, 13, .inl v_next))] [(a0, .inr (8, [.ref a1, .ref a2, .int v_acts, .ref a3, .ref a4, .int v_keptActs, .ref a5, .int v_typed, .ref a6, .ref a7, .ref a8, .ref a9, .ref a10, .int v_isSet_o, .ref a11, .ref a12, .ref a13, .int v_arePages_o, .ref a14, .ref a15, .int v_place, .ref a16, .int v_readMany])), (a1, .inl (cI, 189, .inl v_now)), (a10, .inl (cI, 12, .inl v_rows_o)), (a11, .inl (cI, 13, .inl v_cuts_o)), (a12, .inl (cI, 13, .inl v_pages_o)), (a13, .inl (cI, 13, .inl v_next_o))] (some (.int rv)) := by
  intro sz
  unfold MPost
  refine Met.ofW (cc := cX8_pageOf) (maxL := 4) (ret := (some .int)) (by decide) rfl ?_
  intro p e s m args below meth c s₁ B hml hv
  obtain ⟨rfl, hsz, hP, hK, hD0, hF⟩ := hv
  have hx := B.exec
  have hb := B.bytes
  have hr := B.returns
  have hT : ∀ w ∈ TBG, w.before _ s = true := fun w h => atoms_spec B.pre w (List.mem_cons_of_mem _ h)
  have hown : s.vm.findClass RX8 = some m.cls := findClass_of_methodNamed B.named
  have hlocks := B.notSynchronized
  subst hsz
  have hD := hD0.self (sz := s.heap.size)
  generalize hAe : va_A [(a0, .inr (8, [.ref a1, .ref a2, .int v_acts, .ref a3, .ref a4, .int v_keptActs, .ref a5, .int v_typed, .ref a6, .ref a7, .ref a8, .ref a9, .ref a10, .int v_isSet, .ref a11, .ref a12, .ref a13, .int v_arePages, .ref a14, .ref a15, .int v_place, .ref a16, .int v_readMany])), (a1, .inl (cI, 189, .inl v_now)), (a10, .inl (cI, 12, .inl v_rows)), (a11, .inl (cI, 13, .inl v_cuts)), (a12, .inl (cI, 13, .inl v_pages)), (a13, .inl (cI, 13, .inl v_next))] s.heap.size = A at hD hF ⊢
  have hA : ∀ q : Nat, s.heap.size ≤ q → A q := fun q h => by rw [← hAe]; exact Or.inr h
  have hS : va_S A s.heap s.heap [] := va_S.rf
  have hl := lv_entry ([.ref a0, .int x1]) (n := 4) (Nat.le_of_ble_eq_true rfl)
  rw [lg_entry_eq]
  generalize (lg_sl ([.ref a0, .int x1]) ++ List.replicate (4 - (lg_sl ([.ref a0, .int x1])).length) Slot.unset).toArray = ls at hl ⊢
  have hl : lv_has ls 4 [(0, .ref a0), (1, .int x1)] := hl
  generalize ([.ref a0, .int x1] : List Value).toArray = args at hT ⊢
  have key : ∀ (Q : State → Prop), (∀ (H : Heap) (locs : List Loc) (ls : Array Slot) (pc : Nat), decode cX8_pageOf pc = .ok (.ireturn, 1) → va_P (dC, dI) vwCl [(a0, .inr (8, [.ref a1, .ref a2, .int v_acts, .ref a3, .ref a4, .int v_keptActs, .ref a5, .int v_typed, .ref a6, .ref a7, .ref a8, .ref a9, .ref a10, .int v_isSet_o, .ref a11, .ref a12, .ref a13, .int v_arePages_o, .ref a14, .ref a15, .int v_place, .ref a16, .int v_readMany])), (a1, .inl (cI, 189, .inl v_now)), (a10, .inl (cI, 12, .inl v_rows_o)), (a11, .inl (cI, 13, .inl v_cuts_o)), (a12, .inl (cI, 13, .inl v_pages_o)), (a13, .inl (cI, 13, .inl v_next_o))] H → va_D A [(a0, .inr (8, [.ref a1, .ref a2, .int v_acts, .ref a3, .ref a4, .int v_keptActs, .ref a5, .int v_typed, .ref a6, .ref a7, .ref a8, .ref a9, .ref a10, .int v_isSet_o, .ref a11, .ref a12, .ref a13, .int v_arePages_o, .ref a14, .ref a15, .int v_place, .ref a16, .int v_readMany])), (a1, .inl (cI, 189, .inl v_now)), (a10, .inl (cI, 12, .inl v_rows_o)), (a11, .inl (cI, 13, .inl v_cuts_o)), (a12, .inl (cI, 13, .inl v_pages_o)), (a13, .inl (cI, 13, .inl v_next_o))] → va_S A s.heap H locs → W p l e ({ frames := 10, cells := 0, slots := 0, locals := 230 } : Room) s m args below meth c H locs 0 0 Q (F0 m pc ls [.int rv])) → ∀ (H : Heap) (locs : List Loc) (ls : Array Slot), va_P (dC, dI) vwCl [(a0, .inr (8, [.ref a1, .ref a2, .int v_acts, .ref a3, .ref a4, .int v_keptActs, .ref a5, .int v_typed, .ref a6, .ref a7, .ref a8, .ref a9, .ref a10, .int v_isSet, .ref a11, .ref a12, .ref a13, .int v_arePages, .ref a14, .ref a15, .int v_place, .ref a16, .int v_readMany])), (a1, .inl (cI, 189, .inl v_now)), (a10, .inl (cI, 12, .inl v_rows)), (a11, .inl (cI, 13, .inl v_cuts)), (a12, .inl (cI, 13, .inl v_pages)), (a13, .inl (cI, 13, .inl v_next))] H → va_D A [(a0, .inr (8, [.ref a1, .ref a2, .int v_acts, .ref a3, .ref a4, .int v_keptActs, .ref a5, .int v_typed, .ref a6, .ref a7, .ref a8, .ref a9, .ref a10, .int v_isSet, .ref a11, .ref a12, .ref a13, .int v_arePages, .ref a14, .ref a15, .int v_place, .ref a16, .int v_readMany])), (a1, .inl (cI, 189, .inl v_now)), (a10, .inl (cI, 12, .inl v_rows)), (a11, .inl (cI, 13, .inl v_cuts)), (a12, .inl (cI, 13, .inl v_pages)), (a13, .inl (cI, 13, .inl v_next))] → va_S A s.heap H locs → lv_has ls 4 [(0, .ref a0), (1, .int x1)] → W p l e ({ frames := 10, cells := 0, slots := 0, locals := 230 } : Room) s m args below meth c H locs 0 0 Q (F0 m 0 ls []) := by
    intro Q hret H locs ls hP hD hS hl
    refine lv_aload_n hx hb dX8_pageOf_0 rfl (lv_at hl 0 rfl) ?_
    obtain ⟨v_isSet_1, v_arePages_2, v_rows_3, v_cuts_4, v_pages_5, v_next_6, hq7, hf⟩ := bd6_el hf
    refine mc_V (As := []) (rest := []) (wr := []) (wn := [(a0, .inr (8, [.ref a1, .ref a2, .int v_acts, .ref a3, .ref a4, .int v_keptActs, .ref a5, .int v_typed, .ref a6, .ref a7, .ref a8, .ref a9, .ref a10, .int v_isSet_1, .ref a11, .ref a12, .ref a13, .int v_arePages_2, .ref a14, .ref a15, .int v_place, .ref a16, .int v_readMany])), (a1, .inl (cI, 189, .inl v_now)), (a10, .inl (cI, 12, .inl v_rows_3)), (a11, .inl (cI, 13, .inl v_cuts_4)), (a12, .inl (cI, 13, .inl v_pages_5)), (a13, .inl (cI, 13, .inl v_next_6))]) ⟨hx, hb, hml, hown, hT⟩ (c_X8_lays l dC dI cI cJ cP cS a0 a1 a2 a3 a4 a5 a6 a7 a8 a9 a10 a11 a12 a13 a14 a15 a16 v_acts v_keptActs v_typed v_isSet v_arePages v_place v_readMany v_now v_rows v_cuts v_pages v_next v_isSet_1 v_arePages_2 v_rows_3 v_cuts_4 v_pages_5 v_next_6 hq7) (cwV 0 hT (gdV q_ml_X8_136 q_im_X8_lays q_se_X8_lays q_in_X8 q_co_X8_lays) rfl rfl rfl hd_X8_lays ⟨Nat.le_of_ble_eq_true rfl, Nat.le_of_ble_eq_true rfl⟩) hK hF hP hD hS hA 0 rfl rfl rfl [0, 1, 2, 3, 4, 5] [] [0, 1, 2, 3, 4, 5] rfl (by decide) rfl (by decide) (by decide) rfl (by decide) rfl hl.1 rfl (Nat.le_of_ble_eq_true rfl) dX8_pageOf_1 ⟨Nat.zero_le _, Nat.zero_le _⟩ (fun H locs hP hD hS => ?_)
    refine W.eq (g2 := F0 m 4 ls []) rfl ?_
    refine lv_aload_n hx hb dX8_pageOf_4 rfl (lv_at hl 0 rfl) ?_
    refine va_get (D := (dC, dI)) (ci := 8) (v := .int v_arePages_2) (C := RX8) (T := TX8) (N := 23) hx hb hT in_X8 hown hK hP 0 rfl rfl 17 (by decide) (hT _ q_fl_X8_133) (fun _ h9 => h9) rfl dX8_pageOf_5 ?_
    refine lv_if_ne (tgt := 14) hx hb dX8_pageOf_8 (by decide) (fun c8 => ?_) (fun c8 => ?_)
    · replace hf := it_f c8 hf
      refine lv_iconst (v := 0) hx hb dX8_pageOf_14 (by decide) ?_
      refine lv_istore_n (lv' := [(2, .int (0 : Int32)), (0, .ref a0), (1, .int x1)]) hx hb dX8_pageOf_15 rfl hl (by decide) rfl (fun ls hl => ?_)
      refine lv_aload_n hx hb dX8_pageOf_16 rfl (lv_at hl 1 rfl) ?_
      refine va_get (D := (dC, dI)) (ci := 8) (v := .ref a13) (C := RX8) (T := TX8) (N := 23) hx hb hT in_X8 hown hK hP 0 rfl rfl 16 (by decide) (hT _ q_fl_X8_51) (fun _ h9 => h9) rfl dX8_pageOf_17 ?_
      refine lv_iconst (v := 0) hx hb dX8_pageOf_20 (by decide) ?_
      refine ia_ld hx hb hK hP 5 0 rfl rfl (ib_in (by decide)) (j := 0) (by decide) dX8_pageOf_21 ?_
      obtain ⟨x3_9, ex3_9, hf⟩ := nm_el hf
      refine lv_as (congrArg Value.int ex3_9) ?_
      refine lv_istore_n (lv' := [(3, .int x3_9), (2, .int (0 : Int32)), (0, .ref a0), (1, .int x1)]) hx hb dX8_pageOf_22 rfl hl (by decide) rfl (fun ls hl => ?_)
      have hL23 : ∀ (rr : Int32 × Int32), (∀ (z_15 : Int32) (z_16 : Int32), rr = (z_15, z_16) → ∀ (H : Heap) (locs : List Loc) (ls : Array Slot), va_P (dC, dI) vwCl [(a0, .inr (8, [.ref a1, .ref a2, .int v_acts, .ref a3, .ref a4, .int v_keptActs, .ref a5, .int v_typed, .ref a6, .ref a7, .ref a8, .ref a9, .ref a10, .int v_isSet_1, .ref a11, .ref a12, .ref a13, .int v_arePages_2, .ref a14, .ref a15, .int v_place, .ref a16, .int v_readMany])), (a1, .inl (cI, 189, .inl v_now)), (a10, .inl (cI, 12, .inl v_rows_3)), (a11, .inl (cI, 13, .inl v_cuts_4)), (a12, .inl (cI, 13, .inl v_pages_5)), (a13, .inl (cI, 13, .inl v_next_6))] H → va_D A [(a0, .inr (8, [.ref a1, .ref a2, .int v_acts, .ref a3, .ref a4, .int v_keptActs, .ref a5, .int v_typed, .ref a6, .ref a7, .ref a8, .ref a9, .ref a10, .int v_isSet_1, .ref a11, .ref a12, .ref a13, .int v_arePages_2, .ref a14, .ref a15, .int v_place, .ref a16, .int v_readMany])), (a1, .inl (cI, 189, .inl v_now)), (a10, .inl (cI, 12, .inl v_rows_3)), (a11, .inl (cI, 13, .inl v_cuts_4)), (a12, .inl (cI, 13, .inl v_pages_5)), (a13, .inl (cI, 13, .inl v_next_6))] → va_S A s.heap H locs → lv_has ls 4 [(2, .int z_15)] → W p l e ({ frames := 10, cells := 0, slots := 0, locals := 230 } : Room) s m args below meth c H locs 0 0 Q (F0 m 41 ls [])) → ∀ (n : Nat) (i2_10 : Int32) (i3_11 : Int32), loopN (p_X8_pageOf_L23 x1 v_next_6) n (i2_10, i3_11) = some rr → ∀ (H : Heap) (locs : List Loc) (ls : Array Slot), va_P (dC, dI) vwCl [(a0, .inr (8, [.ref a1, .ref a2, .int v_acts, .ref a3, .ref a4, .int v_keptActs, .ref a5, .int v_typed, .ref a6, .ref a7, .ref a8, .ref a9, .ref a10, .int v_isSet_1, .ref a11, .ref a12, .ref a13, .int v_arePages_2, .ref a14, .ref a15, .int v_place, .ref a16, .int v_readMany])), (a1, .inl (cI, 189, .inl v_now)), (a10, .inl (cI, 12, .inl v_rows_3)), (a11, .inl (cI, 13, .inl v_cuts_4)), (a12, .inl (cI, 13, .inl v_pages_5)), (a13, .inl (cI, 13, .inl v_next_6))] H → va_D A [(a0, .inr (8, [.ref a1, .ref a2, .int v_acts, .ref a3, .ref a4, .int v_keptActs, .ref a5, .int v_typed, .ref a6, .ref a7, .ref a8, .ref a9, .ref a10, .int v_isSet_1, .ref a11, .ref a12, .ref a13, .int v_arePages_2, .ref a14, .ref a15, .int v_place, .ref a16, .int v_readMany])), (a1, .inl (cI, 189, .inl v_now)), (a10, .inl (cI, 12, .inl v_rows_3)), (a11, .inl (cI, 13, .inl v_cuts_4)), (a12, .inl (cI, 13, .inl v_pages_5)), (a13, .inl (cI, 13, .inl v_next_6))] → va_S A s.heap H locs → lv_has ls 4 [(0, .ref a0), (1, .int x1), (2, .int i2_10), (3, .int i3_11)] → W p l e ({ frames := 10, cells := 0, slots := 0, locals := 230 } : Room) s m args below meth c H locs 0 0 Q (F0 m 23 ls []) := by
        intro rr hk23 n
        induction n with
        | zero => intro i2_10 i3_11 hf; cases hf
        | succ n ih23 =>
          intro i2_10 i3_11 hf H locs ls hP hD hS hl
          obtain ⟨o23, hf, hi, he⟩ := loopN_el hf
          refine lv_iload_n hx hb dX8_pageOf_23 rfl (lv_at hl 3 rfl) ?_
          refine lv_iload_n hx hb dX8_pageOf_24 rfl (lv_at hl 1 rfl) ?_
          refine lv_icmp_gt (tgt := 41) hx hb dX8_pageOf_25 (by decide) (fun c12 => ?_) (fun c12 => ?_)
          · replace hf := it_t c12 hf
            exact hk23 _ _ (he _ (Option.some.inj hf).symm).symm H locs ls hP hD hS (lv_sub hl [2] rfl)
          · replace hf := it_f c12 hf
            refine lv_iinc (v := (i2_10 + (1 : Int32))) (lv' := [(2, .int (i2_10 + (1 : Int32))), (0, .ref a0), (1, .int x1), (3, .int i3_11)]) hx hb dX8_pageOf_28 hl (k := 2) rfl rfl (by decide) rfl (fun ls hl => ?_)
            refine lv_aload_n hx hb dX8_pageOf_31 rfl (lv_at hl 1 rfl) ?_
            refine va_get (D := (dC, dI)) (ci := 8) (v := .ref a13) (C := RX8) (T := TX8) (N := 23) hx hb hT in_X8 hown hK hP 0 rfl rfl 16 (by decide) (hT _ q_fl_X8_51) (fun _ h9 => h9) rfl dX8_pageOf_32 ?_
            refine lv_iload_n hx hb dX8_pageOf_35 rfl (lv_at hl 3 rfl) ?_
            obtain ⟨h13, hf⟩ := gd_el hf
            refine ia_ld hx hb hK hP 5 0 rfl rfl (ib_in h13) (j := (tn i3_11)) rfl dX8_pageOf_36 ?_
            obtain ⟨x3_14, ex3_14, hf⟩ := nm_el hf
            refine lv_as (congrArg Value.int ex3_14) ?_
            refine lv_istore_n (lv' := [(3, .int x3_14), (2, .int (i2_10 + (1 : Int32))), (0, .ref a0), (1, .int x1)]) hx hb dX8_pageOf_37 rfl hl (by decide) rfl (fun ls hl => ?_)
            refine lv_goto (tgt := 23) hx hb dX8_pageOf_38 (by decide) ?_
            exact ih23 (i2_10 + (1 : Int32)) x3_14 (hi _ (Option.some.inj hf).symm) H locs ls hP hD hS (lv_sub hl [2, 3, 1, 0] rfl)
      obtain ⟨f2_17, f3_18, hq, hf⟩ := bd2_el hf
      refine hL23 (f2_17, f3_18) (fun z_15 z_16 h9 H locs ls hP hD hS hl => ?_) fuel (0 : Int32) x3_9 hq H locs ls hP hD hS (lv_sub hl [2, 3, 1, 0] rfl)
      simp only [Prod.mk.injEq] at h9
      obtain ⟨h9_0, h9_1⟩ := h9
      subst h9_0; subst h9_1
      refine lv_iload_n hx hb dX8_pageOf_41 rfl (lv_at hl 0 rfl) ?_
      replace hf := Option.some.inj hf
      simp only [Prod.mk.injEq] at hf
      obtain ⟨hf0, hf1, hf2, hf3, hf4, hf5, hf6⟩ := hf
      subst hf0; subst hf1; subst hf2; subst hf3; subst hf4; subst hf5; subst hf6
      exact hret H locs ls _ dX8_pageOf_42 hP hD hS
    · replace hf := it_t c8 hf
      refine lv_bipush (v := (-4)) hx hb dX8_pageOf_11 (by decide) ?_
      replace hf := Option.some.inj hf
      simp only [Prod.mk.injEq] at hf
      obtain ⟨hf0, hf1, hf2, hf3, hf4, hf5, hf6⟩ := hf
      subst hf0; subst hf1; subst hf2; subst hf3; subst hf4; subst hf5; subst hf6
      exact hret H locs ls _ dX8_pageOf_13 hP hD hS
  refine key _ ?_ _ _ _ hP hD hS hl
  intro H locs ls pc d hP hD hS
  exact W.iret (v := rv) hx hb hr (fun t ht hW => ⟨⟨rfl, by rw [ht]; exact hP, hD⟩, hS.F ht⟩) hS.2.2 d
def p_X8_page (v_isSet : Int32) (v_arePages : Int32) (v_now : (Nat → Int32)) (v_rows : (Nat → Int32)) (v_cuts : (Nat → Int32)) (v_pages : (Nat → Int32)) (v_next : (Nat → Int32)) (x1 : Int32) (x2 : Int32) : Option (Int32 × Int32 × Int32 × (Nat → Int32) × (Nat → Int32) × (Nat → Int32) × (Nat → Int32)) :=
  (bd6 (p_X8_lays v_isSet v_arePages v_now v_rows v_cuts v_pages v_next) fun v_isSet_1 v_arePages_2 v_rows_3 v_cuts_4 v_pages_5 v_next_6 => (if v_arePages_2 = (0 : Int32) then (some ((-1 : Int32), v_isSet_1, v_arePages_2, v_rows_3, v_cuts_4, v_pages_5, v_next_6)) else (bd1 (p_X8_in (Int32.toInt64 x1) (0 : Int64) (Int32.toInt64 ((v_pages_5 0) - (1 : Int32)))) fun r_9 => (if r_9 = (0 : Int32) then (some ((-1 : Int32), v_isSet_1, v_arePages_2, v_rows_3, v_cuts_4, v_pages_5, v_next_6)) else (bd1 (p_X8_in (Int32.toInt64 x2) (0 : Int64) (2 : Int64)) fun r_12 => (if r_12 = (0 : Int32) then (some ((-1 : Int32), v_isSet_1, v_arePages_2, v_rows_3, v_cuts_4, v_pages_5, v_next_6)) else (bd1 (p_X8_firstOf v_next_6 x1) fun r_15 => (if x2 = (0 : Int32) then (some (r_15, v_isSet_1, v_arePages_2, v_rows_3, v_cuts_4, v_pages_5, v_next_6)) else (if x2 = (1 : Int32) then (gd (ib r_15 13) (some (((v_next_6 (tn r_15)) - r_15), v_isSet_1, v_arePages_2, v_rows_3, v_cuts_4, v_pages_5, v_next_6))) else (gd (ib r_15 13) (bd1 (p_X8_rowsFrom v_now v_rows_3 r_15 (v_next_6 (tn r_15))) fun r_20 => (some (r_20, v_isSet_1, v_arePages_2, v_rows_3, v_cuts_4, v_pages_5, v_next_6)))))))))))))
set_option maxHeartbeats 4000000 in
set_option maxRecDepth 100000 in
theorem c_X8_page (l : Launch) (dC : Nat → ClassId) (dI : Nat → Nat → Nat) (cI cJ cP cS : ClassId) (a0 : Nat) (a1 : Nat) (a2 : Nat) (a3 : Nat) (a4 : Nat) (a5 : Nat) (a6 : Nat) (a7 : Nat) (a8 : Nat) (a9 : Nat) (a10 : Nat) (a11 : Nat) (a12 : Nat) (a13 : Nat) (a14 : Nat) (a15 : Nat) (a16 : Nat) (v_acts : Int32) (v_keptActs : Int32) (v_typed : Int32) (v_isSet : Int32) (v_arePages : Int32) (v_place : Int32) (v_readMany : Int32) (v_now : (Nat → Int32)) (v_rows : (Nat → Int32)) (v_cuts : (Nat → Int32)) (v_pages : (Nat → Int32)) (v_next : (Nat → Int32))  (x1 : Int32) (x2 : Int32) (rv : Int32) (v_isSet_o : Int32) (v_arePages_o : Int32) (v_rows_o : (Nat → Int32)) (v_cuts_o : (Nat → Int32)) (v_pages_o : (Nat → Int32)) (v_next_o : (Nat → Int32)) (hf : p_X8_page v_isSet v_arePages v_now v_rows v_cuts v_pages v_next x1 x2 = some (rv, v_isSet_o, v_arePages_o, v_rows_o, v_cuts_o, v_pages_o, v_next_o)) : MC l (dC, dI) (tyl cI cJ cP cS) yX8_page (Cond.code yX8_page cX8_page 4 (some .int) :: TBG) ({ frames := 10, cells := 0, slots := 0, locals := 230 } : Room) [.ref a0, .int x1, .int x2] [(a0, .inr (8, [.ref a1, .ref a2, .int v_acts, .ref a3, .ref a4, .int v_keptActs, .ref a5, .int v_typed, .ref a6, .ref a7, .ref a8, .ref a9, .ref a10, .int v_isSet, .ref a11, .ref a12, .ref a13, .int v_arePages, .ref a14, .ref a15, .int v_place, .ref a16, .int v_readMany])), (a1, .inl (cI, 189, .inl v_now)), (a10, .inl (cI, 12, .inl v_rows)), (a11, .inl (cI, 13, .inl v_cuts)), (a12, .inl (cI, 13, .inl v_pages)), (a13, .inl (cI, 13, .inl v_next))] [(a0, .inr (8, [.ref a1, .ref a2, .int v_acts, .ref a3, .ref a4, .int v_keptActs, .ref a5, .int v_typed, .ref a6, .ref a7, .ref a8, .ref a9, .ref a10, .int v_isSet_o, .ref a11, .ref a12, .ref a13, .int v_arePages_o, .ref a14, .ref a15, .int v_place, .ref a16, .int v_readMany])), (a1, .inl (cI, 189, .inl v_now)), (a10, .inl (cI, 12, .inl v_rows_o)), (a11, .inl (cI, 13, .inl v_cuts_o)), (a12, .inl (cI, 13, .inl v_pages_o)), (a13, .inl (cI, 13, .inl v_next_o))] (some (.int rv)) := by
  intro sz
  unfold MPost
  refine Met.ofW (cc := cX8_page) (maxL := 4) (ret := (some .int)) (by decide) rfl ?_
  intro p e s m args below meth c s₁ B hml hv
  obtain ⟨rfl, hsz, hP, hK, hD0, hF⟩ := hv
  have hx := B.exec
  have hb := B.bytes
  have hr := B.returns
  have hT : ∀ w ∈ TBG, w.before _ s = true := fun w h => atoms_spec B.pre w (List.mem_cons_of_mem _ h)
  have hown : s.vm.findClass RX8 = some m.cls := findClass_of_methodNamed B.named
  have hlocks := B.notSynchronized
  subst hsz
  have hD := hD0.self (sz := s.heap.size)
  generalize hAe : va_A [(a0, .inr (8, [.ref a1, .ref a2, .int v_acts, .ref a3, .ref a4, .int v_keptActs, .ref a5, .int v_typed, .ref a6, .ref a7, .ref a8, .ref a9, .ref a10, .int v_isSet, .ref a11, .ref a12, .ref a13, .int v_arePages, .ref a14, .ref a15, .int v_place, .ref a16, .int v_readMany])), (a1, .inl (cI, 189, .inl v_now)), (a10, .inl (cI, 12, .inl v_rows)), (a11, .inl (cI, 13, .inl v_cuts)), (a12, .inl (cI, 13, .inl v_pages)), (a13, .inl (cI, 13, .inl v_next))] s.heap.size = A at hD hF ⊢
  have hA : ∀ q : Nat, s.heap.size ≤ q → A q := fun q h => by rw [← hAe]; exact Or.inr h
  have hS : va_S A s.heap s.heap [] := va_S.rf
  have hl := lv_entry ([.ref a0, .int x1, .int x2]) (n := 4) (Nat.le_of_ble_eq_true rfl)
  rw [lg_entry_eq]
  generalize (lg_sl ([.ref a0, .int x1, .int x2]) ++ List.replicate (4 - (lg_sl ([.ref a0, .int x1, .int x2])).length) Slot.unset).toArray = ls at hl ⊢
  have hl : lv_has ls 4 [(0, .ref a0), (1, .int x1), (2, .int x2)] := hl
  generalize ([.ref a0, .int x1, .int x2] : List Value).toArray = args at hT ⊢
  have key : ∀ (Q : State → Prop), (∀ (H : Heap) (locs : List Loc) (ls : Array Slot) (pc : Nat), decode cX8_page pc = .ok (.ireturn, 1) → va_P (dC, dI) vwCl [(a0, .inr (8, [.ref a1, .ref a2, .int v_acts, .ref a3, .ref a4, .int v_keptActs, .ref a5, .int v_typed, .ref a6, .ref a7, .ref a8, .ref a9, .ref a10, .int v_isSet_o, .ref a11, .ref a12, .ref a13, .int v_arePages_o, .ref a14, .ref a15, .int v_place, .ref a16, .int v_readMany])), (a1, .inl (cI, 189, .inl v_now)), (a10, .inl (cI, 12, .inl v_rows_o)), (a11, .inl (cI, 13, .inl v_cuts_o)), (a12, .inl (cI, 13, .inl v_pages_o)), (a13, .inl (cI, 13, .inl v_next_o))] H → va_D A [(a0, .inr (8, [.ref a1, .ref a2, .int v_acts, .ref a3, .ref a4, .int v_keptActs, .ref a5, .int v_typed, .ref a6, .ref a7, .ref a8, .ref a9, .ref a10, .int v_isSet_o, .ref a11, .ref a12, .ref a13, .int v_arePages_o, .ref a14, .ref a15, .int v_place, .ref a16, .int v_readMany])), (a1, .inl (cI, 189, .inl v_now)), (a10, .inl (cI, 12, .inl v_rows_o)), (a11, .inl (cI, 13, .inl v_cuts_o)), (a12, .inl (cI, 13, .inl v_pages_o)), (a13, .inl (cI, 13, .inl v_next_o))] → va_S A s.heap H locs → W p l e ({ frames := 10, cells := 0, slots := 0, locals := 230 } : Room) s m args below meth c H locs 0 0 Q (F0 m pc ls [.int rv])) → ∀ (H : Heap) (locs : List Loc) (ls : Array Slot), va_P (dC, dI) vwCl [(a0, .inr (8, [.ref a1, .ref a2, .int v_acts, .ref a3, .ref a4, .int v_keptActs, .ref a5, .int v_typed, .ref a6, .ref a7, .ref a8, .ref a9, .ref a10, .int v_isSet, .ref a11, .ref a12, .ref a13, .int v_arePages, .ref a14, .ref a15, .int v_place, .ref a16, .int v_readMany])), (a1, .inl (cI, 189, .inl v_now)), (a10, .inl (cI, 12, .inl v_rows)), (a11, .inl (cI, 13, .inl v_cuts)), (a12, .inl (cI, 13, .inl v_pages)), (a13, .inl (cI, 13, .inl v_next))] H → va_D A [(a0, .inr (8, [.ref a1, .ref a2, .int v_acts, .ref a3, .ref a4, .int v_keptActs, .ref a5, .int v_typed, .ref a6, .ref a7, .ref a8, .ref a9, .ref a10, .int v_isSet, .ref a11, .ref a12, .ref a13, .int v_arePages, .ref a14, .ref a15, .int v_place, .ref a16, .int v_readMany])), (a1, .inl (cI, 189, .inl v_now)), (a10, .inl (cI, 12, .inl v_rows)), (a11, .inl (cI, 13, .inl v_cuts)), (a12, .inl (cI, 13, .inl v_pages)), (a13, .inl (cI, 13, .inl v_next))] → va_S A s.heap H locs → lv_has ls 4 [(0, .ref a0), (1, .int x1), (2, .int x2)] → W p l e ({ frames := 10, cells := 0, slots := 0, locals := 230 } : Room) s m args below meth c H locs 0 0 Q (F0 m 0 ls []) := by
    intro Q hret H locs ls hP hD hS hl
    refine lv_aload_n hx hb dX8_page_0 rfl (lv_at hl 0 rfl) ?_
    obtain ⟨v_isSet_1, v_arePages_2, v_rows_3, v_cuts_4, v_pages_5, v_next_6, hq7, hf⟩ := bd6_el hf
    refine mc_V (As := []) (rest := []) (wr := []) (wn := [(a0, .inr (8, [.ref a1, .ref a2, .int v_acts, .ref a3, .ref a4, .int v_keptActs, .ref a5, .int v_typed, .ref a6, .ref a7, .ref a8, .ref a9, .ref a10, .int v_isSet_1, .ref a11, .ref a12, .ref a13, .int v_arePages_2, .ref a14, .ref a15, .int v_place, .ref a16, .int v_readMany])), (a1, .inl (cI, 189, .inl v_now)), (a10, .inl (cI, 12, .inl v_rows_3)), (a11, .inl (cI, 13, .inl v_cuts_4)), (a12, .inl (cI, 13, .inl v_pages_5)), (a13, .inl (cI, 13, .inl v_next_6))]) ⟨hx, hb, hml, hown, hT⟩ (c_X8_lays l dC dI cI cJ cP cS a0 a1 a2 a3 a4 a5 a6 a7 a8 a9 a10 a11 a12 a13 a14 a15 a16 v_acts v_keptActs v_typed v_isSet v_arePages v_place v_readMany v_now v_rows v_cuts v_pages v_next v_isSet_1 v_arePages_2 v_rows_3 v_cuts_4 v_pages_5 v_next_6 hq7) (cwV 0 hT (gdV q_ml_X8_136 q_im_X8_lays q_se_X8_lays q_in_X8 q_co_X8_lays) rfl rfl rfl hd_X8_lays ⟨Nat.le_of_ble_eq_true rfl, Nat.le_of_ble_eq_true rfl⟩) hK hF hP hD hS hA 0 rfl rfl rfl [0, 1, 2, 3, 4, 5] [] [0, 1, 2, 3, 4, 5] rfl (by decide) rfl (by decide) (by decide) rfl (by decide) rfl hl.1 rfl (Nat.le_of_ble_eq_true rfl) dX8_page_1 ⟨Nat.zero_le _, Nat.zero_le _⟩ (fun H locs hP hD hS => ?_)
    refine W.eq (g2 := F0 m 4 ls []) rfl ?_
    refine lv_aload_n hx hb dX8_page_4 rfl (lv_at hl 0 rfl) ?_
    refine va_get (D := (dC, dI)) (ci := 8) (v := .int v_arePages_2) (C := RX8) (T := TX8) (N := 23) hx hb hT in_X8 hown hK hP 0 rfl rfl 17 (by decide) (hT _ q_fl_X8_133) (fun _ h9 => h9) rfl dX8_page_5 ?_
    refine lv_if_eq (tgt := 41) hx hb dX8_page_8 (by decide) (fun c8 => ?_) (fun c8 => ?_)
    · replace hf := it_t c8 hf
      refine lv_iconst (v := (-1)) hx hb dX8_page_41 (by decide) ?_
      replace hf := Option.some.inj hf
      simp only [Prod.mk.injEq] at hf
      obtain ⟨hf0, hf1, hf2, hf3, hf4, hf5, hf6⟩ := hf
      subst hf0; subst hf1; subst hf2; subst hf3; subst hf4; subst hf5; subst hf6
      exact hret H locs ls _ dX8_page_42 hP hD hS
    · replace hf := it_f c8 hf
      refine lv_iload_n hx hb dX8_page_11 rfl (lv_at hl 1 rfl) ?_
      refine lv_i2l hx hb dX8_page_12 rfl ?_
      refine lv_lconst (v := 0) hx hb dX8_page_13 (by decide) ?_
      refine lv_aload_n hx hb dX8_page_14 rfl (lv_at hl 0 rfl) ?_
      refine va_get (D := (dC, dI)) (ci := 8) (v := .ref a12) (C := RX8) (T := TX8) (N := 23) hx hb hT in_X8 hown hK hP 0 rfl rfl 15 (by decide) (hT _ q_fl_X8_48) (fun _ h9 => h9) rfl dX8_page_15 ?_
      refine lv_iconst (v := 0) hx hb dX8_page_18 (by decide) ?_
      refine ia_ld hx hb hK hP 4 0 rfl rfl (ib_in (by decide)) (j := 0) (by decide) dX8_page_19 ?_
      refine lv_iconst (v := 1) hx hb dX8_page_20 (by decide) ?_
      refine lv_isub hx hb dX8_page_21 ?_
      refine lv_i2l hx hb dX8_page_22 rfl ?_
      obtain ⟨r_9, hq10, hf⟩ := bd1_el hf
      refine mc_S (As := [.long (Int32.toInt64 x1), .long (0 : Int64), .long (Int32.toInt64 ((v_pages_5 0) - (1 : Int32)))]) (rest := []) (wr := [(a0, .inr (8, [.ref a1, .ref a2, .int v_acts, .ref a3, .ref a4, .int v_keptActs, .ref a5, .int v_typed, .ref a6, .ref a7, .ref a8, .ref a9, .ref a10, .int v_isSet_1, .ref a11, .ref a12, .ref a13, .int v_arePages_2, .ref a14, .ref a15, .int v_place, .ref a16, .int v_readMany])), (a1, .inl (cI, 189, .inl v_now)), (a10, .inl (cI, 12, .inl v_rows_3)), (a11, .inl (cI, 13, .inl v_cuts_4)), (a12, .inl (cI, 13, .inl v_pages_5)), (a13, .inl (cI, 13, .inl v_next_6))]) (wn := [(a0, .inr (8, [.ref a1, .ref a2, .int v_acts, .ref a3, .ref a4, .int v_keptActs, .ref a5, .int v_typed, .ref a6, .ref a7, .ref a8, .ref a9, .ref a10, .int v_isSet_1, .ref a11, .ref a12, .ref a13, .int v_arePages_2, .ref a14, .ref a15, .int v_place, .ref a16, .int v_readMany])), (a1, .inl (cI, 189, .inl v_now)), (a10, .inl (cI, 12, .inl v_rows_3)), (a11, .inl (cI, 13, .inl v_cuts_4)), (a12, .inl (cI, 13, .inl v_pages_5)), (a13, .inl (cI, 13, .inl v_next_6))]) ⟨hx, hb, hml, hown, hT⟩ (c_X8_in l dC dI cI cJ cP cS (Int32.toInt64 x1) (0 : Int64) (Int32.toInt64 ((v_pages_5 0) - (1 : Int32))) r_9 hq10) (va_cwS 3 hT (gdS q_ml_X8_63 q_st_X8_in q_in_X8 q_co_X8_in) rfl rfl rfl hd_X8_in ⟨Nat.le_of_ble_eq_true rfl, Nat.le_of_ble_eq_true rfl⟩) hK hF hP hD hS hA [] [0, 1, 2, 3, 4, 5] [0, 1, 2, 3, 4, 5] rfl (by decide) rfl (by decide) (by decide) rfl (by decide) rfl hl.1 rfl (Nat.le_of_ble_eq_true rfl) dX8_page_23 ⟨Nat.zero_le _, Nat.zero_le _⟩ (fun H locs hP hD hS => ?_)
      refine W.eq (g2 := F0 m 26 ls [.int r_9]) rfl ?_
      refine lv_if_eq (tgt := 41) hx hb dX8_page_26 (by decide) (fun c11 => ?_) (fun c11 => ?_)
      · replace hf := it_t c11 hf
        refine lv_iconst (v := (-1)) hx hb dX8_page_41 (by decide) ?_
        replace hf := Option.some.inj hf
        simp only [Prod.mk.injEq] at hf
        obtain ⟨hf0, hf1, hf2, hf3, hf4, hf5, hf6⟩ := hf
        subst hf0; subst hf1; subst hf2; subst hf3; subst hf4; subst hf5; subst hf6
        exact hret H locs ls _ dX8_page_42 hP hD hS
      · replace hf := it_f c11 hf
        refine lv_iload_n hx hb dX8_page_29 rfl (lv_at hl 2 rfl) ?_
        refine lv_i2l hx hb dX8_page_30 rfl ?_
        refine lv_lconst (v := 0) hx hb dX8_page_31 (by decide) ?_
        refine lv_ldc2 hx hb hown (hT _ q_kl_X8_139) dX8_page_32 ?_
        obtain ⟨r_12, hq13, hf⟩ := bd1_el hf
        refine mc_S (As := [.long (Int32.toInt64 x2), .long (0 : Int64), .long (2 : Int64)]) (rest := []) (wr := [(a0, .inr (8, [.ref a1, .ref a2, .int v_acts, .ref a3, .ref a4, .int v_keptActs, .ref a5, .int v_typed, .ref a6, .ref a7, .ref a8, .ref a9, .ref a10, .int v_isSet_1, .ref a11, .ref a12, .ref a13, .int v_arePages_2, .ref a14, .ref a15, .int v_place, .ref a16, .int v_readMany])), (a1, .inl (cI, 189, .inl v_now)), (a10, .inl (cI, 12, .inl v_rows_3)), (a11, .inl (cI, 13, .inl v_cuts_4)), (a12, .inl (cI, 13, .inl v_pages_5)), (a13, .inl (cI, 13, .inl v_next_6))]) (wn := [(a0, .inr (8, [.ref a1, .ref a2, .int v_acts, .ref a3, .ref a4, .int v_keptActs, .ref a5, .int v_typed, .ref a6, .ref a7, .ref a8, .ref a9, .ref a10, .int v_isSet_1, .ref a11, .ref a12, .ref a13, .int v_arePages_2, .ref a14, .ref a15, .int v_place, .ref a16, .int v_readMany])), (a1, .inl (cI, 189, .inl v_now)), (a10, .inl (cI, 12, .inl v_rows_3)), (a11, .inl (cI, 13, .inl v_cuts_4)), (a12, .inl (cI, 13, .inl v_pages_5)), (a13, .inl (cI, 13, .inl v_next_6))]) ⟨hx, hb, hml, hown, hT⟩ (c_X8_in l dC dI cI cJ cP cS (Int32.toInt64 x2) (0 : Int64) (2 : Int64) r_12 hq13) (va_cwS 3 hT (gdS q_ml_X8_63 q_st_X8_in q_in_X8 q_co_X8_in) rfl rfl rfl hd_X8_in ⟨Nat.le_of_ble_eq_true rfl, Nat.le_of_ble_eq_true rfl⟩) hK hF hP hD hS hA [] [0, 1, 2, 3, 4, 5] [0, 1, 2, 3, 4, 5] rfl (by decide) rfl (by decide) (by decide) rfl (by decide) rfl hl.1 rfl (Nat.le_of_ble_eq_true rfl) dX8_page_35 ⟨Nat.zero_le _, Nat.zero_le _⟩ (fun H locs hP hD hS => ?_)
        refine W.eq (g2 := F0 m 38 ls [.int r_12]) rfl ?_
        refine lv_if_ne (tgt := 43) hx hb dX8_page_38 (by decide) (fun c14 => ?_) (fun c14 => ?_)
        · replace hf := it_f c14 hf
          refine lv_aload_n hx hb dX8_page_43 rfl (lv_at hl 0 rfl) ?_
          refine lv_iload_n hx hb dX8_page_44 rfl (lv_at hl 1 rfl) ?_
          obtain ⟨r_15, hq16, hf⟩ := bd1_el hf
          refine mc_V (As := [.int x1]) (rest := []) (wr := [(a1, .inl (cI, 189, .inl v_now)), (a10, .inl (cI, 12, .inl v_rows_3)), (a11, .inl (cI, 13, .inl v_cuts_4)), (a12, .inl (cI, 13, .inl v_pages_5))]) (wn := [(a0, .inr (8, [.ref a1, .ref a2, .int v_acts, .ref a3, .ref a4, .int v_keptActs, .ref a5, .int v_typed, .ref a6, .ref a7, .ref a8, .ref a9, .ref a10, .int v_isSet_1, .ref a11, .ref a12, .ref a13, .int v_arePages_2, .ref a14, .ref a15, .int v_place, .ref a16, .int v_readMany])), (a1, .inl (cI, 189, .inl v_now)), (a10, .inl (cI, 12, .inl v_rows_3)), (a11, .inl (cI, 13, .inl v_cuts_4)), (a12, .inl (cI, 13, .inl v_pages_5)), (a13, .inl (cI, 13, .inl v_next_6))]) ⟨hx, hb, hml, hown, hT⟩ (c_X8_firstOf l dC dI cI cJ cP cS a0 a1 a2 a3 a4 a5 a6 a7 a8 a9 a10 a11 a12 a13 a14 a15 a16 v_acts v_keptActs v_typed v_isSet_1 v_arePages_2 v_place v_readMany v_next_6 x1 r_15 hq16) (cwV 1 hT (gdV q_ml_X8_141 q_im_X8_firstOf q_se_X8_firstOf q_in_X8 q_co_X8_firstOf) rfl rfl rfl hd_X8_firstOf ⟨Nat.le_of_ble_eq_true rfl, Nat.le_of_ble_eq_true rfl⟩) hK hF hP hD hS hA 0 rfl rfl rfl [0, 5] [1, 2, 3, 4] [4, 0, 1, 2, 3, 5] rfl (by decide) rfl (by decide) (by decide) rfl (by decide) rfl hl.1 rfl (Nat.le_of_ble_eq_true rfl) dX8_page_45 ⟨Nat.zero_le _, Nat.zero_le _⟩ (fun H locs hP hD hS => ?_)
          refine W.eq (g2 := F0 m 48 ls [.int r_15]) rfl ?_
          refine lv_istore_n (lv' := [(3, .int r_15), (0, .ref a0), (1, .int x1), (2, .int x2)]) hx hb dX8_page_48 rfl hl (by decide) rfl (fun ls hl => ?_)
          refine lv_iload_n hx hb dX8_page_49 rfl (lv_at hl 3 rfl) ?_
          refine lv_if_ne (tgt := 57) hx hb dX8_page_50 (by decide) (fun c17 => ?_) (fun c17 => ?_)
          · replace hf := it_f c17 hf
            refine lv_iload_n hx hb dX8_page_57 rfl (lv_at hl 3 rfl) ?_
            refine lv_iconst (v := 1) hx hb dX8_page_58 (by decide) ?_
            refine lv_icmp_ne (tgt := 73) hx hb dX8_page_59 (by decide) (fun c18 => ?_) (fun c18 => ?_)
            · replace hf := it_f c18 hf
              refine lv_aload_n hx hb dX8_page_73 rfl (lv_at hl 1 rfl) ?_
              refine lv_iload_n hx hb dX8_page_74 rfl (lv_at hl 0 rfl) ?_
              refine lv_aload_n hx hb dX8_page_75 rfl (lv_at hl 1 rfl) ?_
              refine va_get (D := (dC, dI)) (ci := 8) (v := .ref a13) (C := RX8) (T := TX8) (N := 23) hx hb hT in_X8 hown hK hP 0 rfl rfl 16 (by decide) (hT _ q_fl_X8_51) (fun _ h9 => h9) rfl dX8_page_76 ?_
              refine lv_iload_n hx hb dX8_page_79 rfl (lv_at hl 0 rfl) ?_
              obtain ⟨h19, hf⟩ := gd_el hf
              refine ia_ld hx hb hK hP 5 0 rfl rfl (ib_in h19) (j := (tn r_15)) rfl dX8_page_80 ?_
              obtain ⟨r_20, hq21, hf⟩ := bd1_el hf
              refine mc_V (As := [.int r_15, .int (v_next_6 (tn r_15))]) (rest := []) (wr := [(a11, .inl (cI, 13, .inl v_cuts_4)), (a12, .inl (cI, 13, .inl v_pages_5)), (a13, .inl (cI, 13, .inl v_next_6))]) (wn := [(a0, .inr (8, [.ref a1, .ref a2, .int v_acts, .ref a3, .ref a4, .int v_keptActs, .ref a5, .int v_typed, .ref a6, .ref a7, .ref a8, .ref a9, .ref a10, .int v_isSet_1, .ref a11, .ref a12, .ref a13, .int v_arePages_2, .ref a14, .ref a15, .int v_place, .ref a16, .int v_readMany])), (a1, .inl (cI, 189, .inl v_now)), (a10, .inl (cI, 12, .inl v_rows_3)), (a11, .inl (cI, 13, .inl v_cuts_4)), (a12, .inl (cI, 13, .inl v_pages_5)), (a13, .inl (cI, 13, .inl v_next_6))]) ⟨hx, hb, hml, hown, hT⟩ (c_X8_rowsFrom l dC dI cI cJ cP cS a0 a1 a2 a3 a4 a5 a6 a7 a8 a9 a10 a11 a12 a13 a14 a15 a16 v_acts v_keptActs v_typed v_isSet_1 v_arePages_2 v_place v_readMany v_now v_rows_3 r_15 (v_next_6 (tn r_15)) r_20 hq21) (cwV 2 hT (gdV q_ml_X8_121 q_im_X8_rowsFrom q_se_X8_rowsFrom q_in_X8 q_co_X8_rowsFrom) rfl rfl rfl hd_X8_rowsFrom ⟨Nat.le_of_ble_eq_true rfl, Nat.le_of_ble_eq_true rfl⟩) hK hF hP hD hS hA 0 rfl rfl rfl [0, 1, 2] [3, 4, 5] [3, 4, 5, 0, 1, 2] rfl (by decide) rfl (by decide) (by decide) rfl (by decide) rfl hl.1 rfl (Nat.le_of_ble_eq_true rfl) dX8_page_81 ⟨Nat.zero_le _, Nat.zero_le _⟩ (fun H locs hP hD hS => ?_)
              refine W.eq (g2 := F0 m 84 ls [.int r_20]) rfl ?_
              replace hf := Option.some.inj hf
              simp only [Prod.mk.injEq] at hf
              obtain ⟨hf0, hf1, hf2, hf3, hf4, hf5, hf6⟩ := hf
              subst hf0; subst hf1; subst hf2; subst hf3; subst hf4; subst hf5; subst hf6
              exact hret H locs ls _ dX8_page_84 hP hD hS
            · replace hf := it_t c18 hf
              refine lv_aload_n hx hb dX8_page_62 rfl (lv_at hl 1 rfl) ?_
              refine va_get (D := (dC, dI)) (ci := 8) (v := .ref a13) (C := RX8) (T := TX8) (N := 23) hx hb hT in_X8 hown hK hP 0 rfl rfl 16 (by decide) (hT _ q_fl_X8_51) (fun _ h9 => h9) rfl dX8_page_63 ?_
              refine lv_iload_n hx hb dX8_page_66 rfl (lv_at hl 0 rfl) ?_
              obtain ⟨h22, hf⟩ := gd_el hf
              refine ia_ld hx hb hK hP 5 0 rfl rfl (ib_in h22) (j := (tn r_15)) rfl dX8_page_67 ?_
              refine lv_iload_n hx hb dX8_page_68 rfl (lv_at hl 0 rfl) ?_
              refine lv_isub hx hb dX8_page_69 ?_
              refine lv_goto (tgt := 84) hx hb dX8_page_70 (by decide) ?_
              replace hf := Option.some.inj hf
              simp only [Prod.mk.injEq] at hf
              obtain ⟨hf0, hf1, hf2, hf3, hf4, hf5, hf6⟩ := hf
              subst hf0; subst hf1; subst hf2; subst hf3; subst hf4; subst hf5; subst hf6
              exact hret H locs ls _ dX8_page_84 hP hD hS
          · replace hf := it_t c17 hf
            refine lv_iload_n hx hb dX8_page_53 rfl (lv_at hl 0 rfl) ?_
            refine lv_goto (tgt := 84) hx hb dX8_page_54 (by decide) ?_
            replace hf := Option.some.inj hf
            simp only [Prod.mk.injEq] at hf
            obtain ⟨hf0, hf1, hf2, hf3, hf4, hf5, hf6⟩ := hf
            subst hf0; subst hf1; subst hf2; subst hf3; subst hf4; subst hf5; subst hf6
            exact hret H locs ls _ dX8_page_84 hP hD hS
        · replace hf := it_t c14 hf
          refine lv_iconst (v := (-1)) hx hb dX8_page_41 (by decide) ?_
          replace hf := Option.some.inj hf
          simp only [Prod.mk.injEq] at hf
          obtain ⟨hf0, hf1, hf2, hf3, hf4, hf5, hf6⟩ := hf
          subst hf0; subst hf1; subst hf2; subst hf3; subst hf4; subst hf5; subst hf6
          exact hret H locs ls _ dX8_page_42 hP hD hS
  refine key _ ?_ _ _ _ hP hD hS hl
  intro H locs ls pc d hP hD hS
  exact W.iret (v := rv) hx hb hr (fun t ht hW => ⟨⟨rfl, by rw [ht]; exact hP, hD⟩, hS.F ht⟩) hS.2.2 d
def p_X8_of (v_isSet : Int32) (v_arePages : Int32) (v_now : (Nat → Int32)) (v_rows : (Nat → Int32)) (v_cuts : (Nat → Int32)) (v_pages : (Nat → Int32)) (v_next : (Nat → Int32)) (x1 : Int32) (x2 : Int32) : Option (Int32 × Int32 × Int32 × (Nat → Int32) × (Nat → Int32) × (Nat → Int32) × (Nat → Int32)) :=
  (bd1 (p_X8_isLine v_now x1) fun r_1 => (if r_1 = (0 : Int32) then (some ((-1 : Int32), v_isSet, v_arePages, v_rows, v_cuts, v_pages, v_next)) else (if x2 = (0 : Int32) then (bd1 (p_X8_at v_now x1 (0 : Int32)) fun r_5 => (some (r_5, v_isSet, v_arePages, v_rows, v_cuts, v_pages, v_next))) else (if x2 = (1 : Int32) then (bd1 (p_X8_begins v_now x1) fun r_8 => (if r_8 = (0 : Int32) then (some ((0 : Int32), v_isSet, v_arePages, v_rows, v_cuts, v_pages, v_next)) else (some ((1 : Int32), v_isSet, v_arePages, v_rows, v_cuts, v_pages, v_next)))) else (if x2 = (2 : Int32) then (bd1 (p_X8_words v_now x1) fun r_12 => (some (r_12, v_isSet, v_arePages, v_rows, v_cuts, v_pages, v_next))) else (if x2 = (3 : Int32) then (bd1 (p_X8_stanzaOf v_now x1) fun r_15 => (some (r_15, v_isSet, v_arePages, v_rows, v_cuts, v_pages, v_next))) else (if x2 = (4 : Int32) then (bd1 (p_X8_indent v_now x1) fun r_18 => (some (r_18, v_isSet, v_arePages, v_rows, v_cuts, v_pages, v_next))) else (if x2 = (5 : Int32) then (bd1 (p_X8_rowsOf v_now x1) fun r_21 => (some (r_21, v_isSet, v_arePages, v_rows, v_cuts, v_pages, v_next))) else (if x2 = (6 : Int32) then (bd1 (p_X8_costOf v_now x1) fun r_24 => (some (r_24, v_isSet, v_arePages, v_rows, v_cuts, v_pages, v_next))) else (if x2 = (7 : Int32) then (bd7 (p_X8_pageOf v_isSet v_arePages v_now v_rows v_cuts v_pages v_next x1) fun r_27 v_isSet_28 v_arePages_29 v_rows_30 v_cuts_31 v_pages_32 v_next_33 => (some (r_27, v_isSet_28, v_arePages_29, v_rows_30, v_cuts_31, v_pages_32, v_next_33))) else (some ((-1 : Int32), v_isSet, v_arePages, v_rows, v_cuts, v_pages, v_next))))))))))))
set_option maxHeartbeats 4000000 in
set_option maxRecDepth 100000 in
theorem c_X8_of (l : Launch) (dC : Nat → ClassId) (dI : Nat → Nat → Nat) (cI cJ cP cS : ClassId) (a0 : Nat) (a1 : Nat) (a2 : Nat) (a3 : Nat) (a4 : Nat) (a5 : Nat) (a6 : Nat) (a7 : Nat) (a8 : Nat) (a9 : Nat) (a10 : Nat) (a11 : Nat) (a12 : Nat) (a13 : Nat) (a14 : Nat) (a15 : Nat) (a16 : Nat) (v_acts : Int32) (v_keptActs : Int32) (v_typed : Int32) (v_isSet : Int32) (v_arePages : Int32) (v_place : Int32) (v_readMany : Int32) (v_now : (Nat → Int32)) (v_rows : (Nat → Int32)) (v_cuts : (Nat → Int32)) (v_pages : (Nat → Int32)) (v_next : (Nat → Int32))  (x1 : Int32) (x2 : Int32) (rv : Int32) (v_isSet_o : Int32) (v_arePages_o : Int32) (v_rows_o : (Nat → Int32)) (v_cuts_o : (Nat → Int32)) (v_pages_o : (Nat → Int32)) (v_next_o : (Nat → Int32)) (hf : p_X8_of v_isSet v_arePages v_now v_rows v_cuts v_pages v_next x1 x2 = some (rv, v_isSet_o, v_arePages_o, v_rows_o, v_cuts_o, v_pages_o, v_next_o)) : MC l (dC, dI) (tyl cI cJ cP cS) yX8_of (Cond.code yX8_of cX8_of 3 (some .int) :: TBG) ({ frames := 11, cells := 0, slots := 0, locals := 253 } : Room) [.ref a0, .int x1, .int x2] [(a0, .inr (8, [.ref a1, .ref a2, .int v_acts, .ref a3, .ref a4, .int v_keptActs, .ref a5, .int v_typed, .ref a6, .ref a7, .ref a8, .ref a9, .ref a10, .int v_isSet, .ref a11, .ref a12, .ref a13, .int v_arePages, .ref a14, .ref a15, .int v_place, .ref a16, .int v_readMany])), (a1, .inl (cI, 189, .inl v_now)), (a10, .inl (cI, 12, .inl v_rows)), (a11, .inl (cI, 13, .inl v_cuts)), (a12, .inl (cI, 13, .inl v_pages)), (a13, .inl (cI, 13, .inl v_next))] [(a0, .inr (8, [.ref a1, .ref a2, .int v_acts, .ref a3, .ref a4, .int v_keptActs, .ref a5, .int v_typed, .ref a6, .ref a7, .ref a8, .ref a9, .ref a10, .int v_isSet_o, .ref a11, .ref a12, .ref a13, .int v_arePages_o, .ref a14, .ref a15, .int v_place, .ref a16, .int v_readMany])), (a1, .inl (cI, 189, .inl v_now)), (a10, .inl (cI, 12, .inl v_rows_o)), (a11, .inl (cI, 13, .inl v_cuts_o)), (a12, .inl (cI, 13, .inl v_pages_o)), (a13, .inl (cI, 13, .inl v_next_o))] (some (.int rv)) := by
  intro sz
  unfold MPost
  refine Met.ofW (cc := cX8_of) (maxL := 3) (ret := (some .int)) (by decide) rfl ?_
  intro p e s m args below meth c s₁ B hml hv
  obtain ⟨rfl, hsz, hP, hK, hD0, hF⟩ := hv
  have hx := B.exec
  have hb := B.bytes
  have hr := B.returns
  have hT : ∀ w ∈ TBG, w.before _ s = true := fun w h => atoms_spec B.pre w (List.mem_cons_of_mem _ h)
  have hown : s.vm.findClass RX8 = some m.cls := findClass_of_methodNamed B.named
  have hlocks := B.notSynchronized
  subst hsz
  have hD := hD0.self (sz := s.heap.size)
  generalize hAe : va_A [(a0, .inr (8, [.ref a1, .ref a2, .int v_acts, .ref a3, .ref a4, .int v_keptActs, .ref a5, .int v_typed, .ref a6, .ref a7, .ref a8, .ref a9, .ref a10, .int v_isSet, .ref a11, .ref a12, .ref a13, .int v_arePages, .ref a14, .ref a15, .int v_place, .ref a16, .int v_readMany])), (a1, .inl (cI, 189, .inl v_now)), (a10, .inl (cI, 12, .inl v_rows)), (a11, .inl (cI, 13, .inl v_cuts)), (a12, .inl (cI, 13, .inl v_pages)), (a13, .inl (cI, 13, .inl v_next))] s.heap.size = A at hD hF ⊢
  have hA : ∀ q : Nat, s.heap.size ≤ q → A q := fun q h => by rw [← hAe]; exact Or.inr h
  have hS : va_S A s.heap s.heap [] := va_S.rf
  have hl := lv_entry ([.ref a0, .int x1, .int x2]) (n := 3) (Nat.le_of_ble_eq_true rfl)
  rw [lg_entry_eq]
  generalize (lg_sl ([.ref a0, .int x1, .int x2]) ++ List.replicate (3 - (lg_sl ([.ref a0, .int x1, .int x2])).length) Slot.unset).toArray = ls at hl ⊢
  have hl : lv_has ls 3 [(0, .ref a0), (1, .int x1), (2, .int x2)] := hl
  generalize ([.ref a0, .int x1, .int x2] : List Value).toArray = args at hT ⊢
  have key : ∀ (Q : State → Prop), (∀ (H : Heap) (locs : List Loc) (ls : Array Slot) (pc : Nat), decode cX8_of pc = .ok (.ireturn, 1) → va_P (dC, dI) vwCl [(a0, .inr (8, [.ref a1, .ref a2, .int v_acts, .ref a3, .ref a4, .int v_keptActs, .ref a5, .int v_typed, .ref a6, .ref a7, .ref a8, .ref a9, .ref a10, .int v_isSet_o, .ref a11, .ref a12, .ref a13, .int v_arePages_o, .ref a14, .ref a15, .int v_place, .ref a16, .int v_readMany])), (a1, .inl (cI, 189, .inl v_now)), (a10, .inl (cI, 12, .inl v_rows_o)), (a11, .inl (cI, 13, .inl v_cuts_o)), (a12, .inl (cI, 13, .inl v_pages_o)), (a13, .inl (cI, 13, .inl v_next_o))] H → va_D A [(a0, .inr (8, [.ref a1, .ref a2, .int v_acts, .ref a3, .ref a4, .int v_keptActs, .ref a5, .int v_typed, .ref a6, .ref a7, .ref a8, .ref a9, .ref a10, .int v_isSet_o, .ref a11, .ref a12, .ref a13, .int v_arePages_o, .ref a14, .ref a15, .int v_place, .ref a16, .int v_readMany])), (a1, .inl (cI, 189, .inl v_now)), (a10, .inl (cI, 12, .inl v_rows_o)), (a11, .inl (cI, 13, .inl v_cuts_o)), (a12, .inl (cI, 13, .inl v_pages_o)), (a13, .inl (cI, 13, .inl v_next_o))] → va_S A s.heap H locs → W p l e ({ frames := 11, cells := 0, slots := 0, locals := 253 } : Room) s m args below meth c H locs 0 0 Q (F0 m pc ls [.int rv])) → ∀ (H : Heap) (locs : List Loc) (ls : Array Slot), va_P (dC, dI) vwCl [(a0, .inr (8, [.ref a1, .ref a2, .int v_acts, .ref a3, .ref a4, .int v_keptActs, .ref a5, .int v_typed, .ref a6, .ref a7, .ref a8, .ref a9, .ref a10, .int v_isSet, .ref a11, .ref a12, .ref a13, .int v_arePages, .ref a14, .ref a15, .int v_place, .ref a16, .int v_readMany])), (a1, .inl (cI, 189, .inl v_now)), (a10, .inl (cI, 12, .inl v_rows)), (a11, .inl (cI, 13, .inl v_cuts)), (a12, .inl (cI, 13, .inl v_pages)), (a13, .inl (cI, 13, .inl v_next))] H → va_D A [(a0, .inr (8, [.ref a1, .ref a2, .int v_acts, .ref a3, .ref a4, .int v_keptActs, .ref a5, .int v_typed, .ref a6, .ref a7, .ref a8, .ref a9, .ref a10, .int v_isSet, .ref a11, .ref a12, .ref a13, .int v_arePages, .ref a14, .ref a15, .int v_place, .ref a16, .int v_readMany])), (a1, .inl (cI, 189, .inl v_now)), (a10, .inl (cI, 12, .inl v_rows)), (a11, .inl (cI, 13, .inl v_cuts)), (a12, .inl (cI, 13, .inl v_pages)), (a13, .inl (cI, 13, .inl v_next))] → va_S A s.heap H locs → lv_has ls 3 [(0, .ref a0), (1, .int x1), (2, .int x2)] → W p l e ({ frames := 11, cells := 0, slots := 0, locals := 253 } : Room) s m args below meth c H locs 0 0 Q (F0 m 0 ls []) := by
    intro Q hret H locs ls hP hD hS hl
    refine lv_aload_n hx hb dX8_of_0 rfl (lv_at hl 0 rfl) ?_
    refine lv_iload_n hx hb dX8_of_1 rfl (lv_at hl 1 rfl) ?_
    obtain ⟨r_1, hq2, hf⟩ := bd1_el hf
    refine mc_V (As := [.int x1]) (rest := []) (wr := [(a10, .inl (cI, 12, .inl v_rows)), (a11, .inl (cI, 13, .inl v_cuts)), (a12, .inl (cI, 13, .inl v_pages)), (a13, .inl (cI, 13, .inl v_next))]) (wn := [(a0, .inr (8, [.ref a1, .ref a2, .int v_acts, .ref a3, .ref a4, .int v_keptActs, .ref a5, .int v_typed, .ref a6, .ref a7, .ref a8, .ref a9, .ref a10, .int v_isSet, .ref a11, .ref a12, .ref a13, .int v_arePages, .ref a14, .ref a15, .int v_place, .ref a16, .int v_readMany])), (a1, .inl (cI, 189, .inl v_now)), (a10, .inl (cI, 12, .inl v_rows)), (a11, .inl (cI, 13, .inl v_cuts)), (a12, .inl (cI, 13, .inl v_pages)), (a13, .inl (cI, 13, .inl v_next))]) ⟨hx, hb, hml, hown, hT⟩ (c_X8_isLine l dC dI cI cJ cP cS a0 a1 a2 a3 a4 a5 a6 a7 a8 a9 a10 a11 a12 a13 a14 a15 a16 v_acts v_keptActs v_typed v_isSet v_arePages v_place v_readMany v_now x1 r_1 hq2) (cwV 1 hT (gdV q_ml_X8_144 q_im_X8_isLine q_se_X8_isLine q_in_X8 q_co_X8_isLine) rfl rfl rfl hd_X8_isLine ⟨Nat.le_of_ble_eq_true rfl, Nat.le_of_ble_eq_true rfl⟩) hK hF hP hD hS hA 0 rfl rfl rfl [0, 1] [2, 3, 4, 5] [4, 5, 0, 1, 2, 3] rfl (by decide) rfl (by decide) (by decide) rfl (by decide) rfl hl.1 rfl (Nat.le_of_ble_eq_true rfl) dX8_of_2 ⟨Nat.zero_le _, Nat.zero_le _⟩ (fun H locs hP hD hS => ?_)
    refine W.eq (g2 := F0 m 5 ls [.int r_1]) rfl ?_
    refine lv_if_ne (tgt := 10) hx hb dX8_of_5 (by decide) (fun c3 => ?_) (fun c3 => ?_)
    · replace hf := it_f c3 hf
      refine lv_iload_n hx hb dX8_of_10 rfl (lv_at hl 2 rfl) ?_
      by_cases c4 : x2 = (0 : Int32)
      · replace hf := it_t c4 hf
        refine lv_tableIn (tgt := 56) (off := 45) hx hb dX8_of_11 (by rw [c4]; decide) (by rw [c4]; decide) (by rw [c4]; rfl) (by decide) ?_
        refine lv_aload_n hx hb dX8_of_56 rfl (lv_at hl 0 rfl) ?_
        refine lv_iload_n hx hb dX8_of_57 rfl (lv_at hl 1 rfl) ?_
        refine lv_iconst (v := 0) hx hb dX8_of_58 (by decide) ?_
        obtain ⟨r_5, hq6, hf⟩ := bd1_el hf
        refine mc_V (As := [.int x1, .int (0 : Int32)]) (rest := []) (wr := [(a10, .inl (cI, 12, .inl v_rows)), (a11, .inl (cI, 13, .inl v_cuts)), (a12, .inl (cI, 13, .inl v_pages)), (a13, .inl (cI, 13, .inl v_next))]) (wn := [(a0, .inr (8, [.ref a1, .ref a2, .int v_acts, .ref a3, .ref a4, .int v_keptActs, .ref a5, .int v_typed, .ref a6, .ref a7, .ref a8, .ref a9, .ref a10, .int v_isSet, .ref a11, .ref a12, .ref a13, .int v_arePages, .ref a14, .ref a15, .int v_place, .ref a16, .int v_readMany])), (a1, .inl (cI, 189, .inl v_now)), (a10, .inl (cI, 12, .inl v_rows)), (a11, .inl (cI, 13, .inl v_cuts)), (a12, .inl (cI, 13, .inl v_pages)), (a13, .inl (cI, 13, .inl v_next))]) ⟨hx, hb, hml, hown, hT⟩ (c_X8_at l dC dI cI cJ cP cS a0 a1 a2 a3 a4 a5 a6 a7 a8 a9 a10 a11 a12 a13 a14 a15 a16 v_acts v_keptActs v_typed v_isSet v_arePages v_place v_readMany v_now x1 (0 : Int32) r_5 hq6) (cwV 2 hT (gdV q_ml_X8_67 q_im_X8_at q_se_X8_at q_in_X8 q_co_X8_at) rfl rfl rfl hd_X8_at ⟨Nat.le_of_ble_eq_true rfl, Nat.le_of_ble_eq_true rfl⟩) hK hF hP hD hS hA 0 rfl rfl rfl [0, 1] [2, 3, 4, 5] [4, 5, 0, 1, 2, 3] rfl (by decide) rfl (by decide) (by decide) rfl (by decide) rfl hl.1 rfl (Nat.le_of_ble_eq_true rfl) dX8_of_59 ⟨Nat.zero_le _, Nat.zero_le _⟩ (fun H locs hP hD hS => ?_)
        refine W.eq (g2 := F0 m 62 ls [.int r_5]) rfl ?_
        replace hf := Option.some.inj hf
        simp only [Prod.mk.injEq] at hf
        obtain ⟨hf0, hf1, hf2, hf3, hf4, hf5, hf6⟩ := hf
        subst hf0; subst hf1; subst hf2; subst hf3; subst hf4; subst hf5; subst hf6
        exact hret H locs ls _ dX8_of_62 hP hD hS
      replace hf := it_f c4 hf
      by_cases c7 : x2 = (1 : Int32)
      · replace hf := it_t c7 hf
        refine lv_tableIn (tgt := 63) (off := 52) hx hb dX8_of_11 (by rw [c7]; decide) (by rw [c7]; decide) (by rw [c7]; rfl) (by decide) ?_
        refine lv_aload_n hx hb dX8_of_63 rfl (lv_at hl 0 rfl) ?_
        refine lv_iload_n hx hb dX8_of_64 rfl (lv_at hl 1 rfl) ?_
        obtain ⟨r_8, hq9, hf⟩ := bd1_el hf
        refine mc_V (As := [.int x1]) (rest := []) (wr := [(a10, .inl (cI, 12, .inl v_rows)), (a11, .inl (cI, 13, .inl v_cuts)), (a12, .inl (cI, 13, .inl v_pages)), (a13, .inl (cI, 13, .inl v_next))]) (wn := [(a0, .inr (8, [.ref a1, .ref a2, .int v_acts, .ref a3, .ref a4, .int v_keptActs, .ref a5, .int v_typed, .ref a6, .ref a7, .ref a8, .ref a9, .ref a10, .int v_isSet, .ref a11, .ref a12, .ref a13, .int v_arePages, .ref a14, .ref a15, .int v_place, .ref a16, .int v_readMany])), (a1, .inl (cI, 189, .inl v_now)), (a10, .inl (cI, 12, .inl v_rows)), (a11, .inl (cI, 13, .inl v_cuts)), (a12, .inl (cI, 13, .inl v_pages)), (a13, .inl (cI, 13, .inl v_next))]) ⟨hx, hb, hml, hown, hT⟩ (c_X8_begins l dC dI cI cJ cP cS a0 a1 a2 a3 a4 a5 a6 a7 a8 a9 a10 a11 a12 a13 a14 a15 a16 v_acts v_keptActs v_typed v_isSet v_arePages v_place v_readMany v_now x1 r_8 hq9) (cwV 1 hT (gdV q_ml_X8_71 q_im_X8_begins q_se_X8_begins q_in_X8 q_co_X8_begins) rfl rfl rfl hd_X8_begins ⟨Nat.le_of_ble_eq_true rfl, Nat.le_of_ble_eq_true rfl⟩) hK hF hP hD hS hA 0 rfl rfl rfl [0, 1] [2, 3, 4, 5] [4, 5, 0, 1, 2, 3] rfl (by decide) rfl (by decide) (by decide) rfl (by decide) rfl hl.1 rfl (Nat.le_of_ble_eq_true rfl) dX8_of_65 ⟨Nat.zero_le _, Nat.zero_le _⟩ (fun H locs hP hD hS => ?_)
        refine W.eq (g2 := F0 m 68 ls [.int r_8]) rfl ?_
        refine lv_if_eq (tgt := 75) hx hb dX8_of_68 (by decide) (fun c10 => ?_) (fun c10 => ?_)
        · replace hf := it_t c10 hf
          refine lv_iconst (v := 0) hx hb dX8_of_75 (by decide) ?_
          replace hf := Option.some.inj hf
          simp only [Prod.mk.injEq] at hf
          obtain ⟨hf0, hf1, hf2, hf3, hf4, hf5, hf6⟩ := hf
          subst hf0; subst hf1; subst hf2; subst hf3; subst hf4; subst hf5; subst hf6
          exact hret H locs ls _ dX8_of_76 hP hD hS
        · replace hf := it_f c10 hf
          refine lv_iconst (v := 1) hx hb dX8_of_71 (by decide) ?_
          refine lv_goto (tgt := 76) hx hb dX8_of_72 (by decide) ?_
          replace hf := Option.some.inj hf
          simp only [Prod.mk.injEq] at hf
          obtain ⟨hf0, hf1, hf2, hf3, hf4, hf5, hf6⟩ := hf
          subst hf0; subst hf1; subst hf2; subst hf3; subst hf4; subst hf5; subst hf6
          exact hret H locs ls _ dX8_of_76 hP hD hS
      replace hf := it_f c7 hf
      by_cases c11 : x2 = (2 : Int32)
      · replace hf := it_t c11 hf
        refine lv_tableIn (tgt := 77) (off := 66) hx hb dX8_of_11 (by rw [c11]; decide) (by rw [c11]; decide) (by rw [c11]; rfl) (by decide) ?_
        refine lv_aload_n hx hb dX8_of_77 rfl (lv_at hl 0 rfl) ?_
        refine lv_iload_n hx hb dX8_of_78 rfl (lv_at hl 1 rfl) ?_
        obtain ⟨r_12, hq13, hf⟩ := bd1_el hf
        refine mc_V (As := [.int x1]) (rest := []) (wr := [(a10, .inl (cI, 12, .inl v_rows)), (a11, .inl (cI, 13, .inl v_cuts)), (a12, .inl (cI, 13, .inl v_pages)), (a13, .inl (cI, 13, .inl v_next))]) (wn := [(a0, .inr (8, [.ref a1, .ref a2, .int v_acts, .ref a3, .ref a4, .int v_keptActs, .ref a5, .int v_typed, .ref a6, .ref a7, .ref a8, .ref a9, .ref a10, .int v_isSet, .ref a11, .ref a12, .ref a13, .int v_arePages, .ref a14, .ref a15, .int v_place, .ref a16, .int v_readMany])), (a1, .inl (cI, 189, .inl v_now)), (a10, .inl (cI, 12, .inl v_rows)), (a11, .inl (cI, 13, .inl v_cuts)), (a12, .inl (cI, 13, .inl v_pages)), (a13, .inl (cI, 13, .inl v_next))]) ⟨hx, hb, hml, hown, hT⟩ (c_X8_words l dC dI cI cJ cP cS a0 a1 a2 a3 a4 a5 a6 a7 a8 a9 a10 a11 a12 a13 a14 a15 a16 v_acts v_keptActs v_typed v_isSet v_arePages v_place v_readMany v_now x1 r_12 hq13) (cwV 1 hT (gdV q_ml_X8_85 q_im_X8_words q_se_X8_words q_in_X8 q_co_X8_words) rfl rfl rfl hd_X8_words ⟨Nat.le_of_ble_eq_true rfl, Nat.le_of_ble_eq_true rfl⟩) hK hF hP hD hS hA 0 rfl rfl rfl [0, 1] [2, 3, 4, 5] [4, 5, 0, 1, 2, 3] rfl (by decide) rfl (by decide) (by decide) rfl (by decide) rfl hl.1 rfl (Nat.le_of_ble_eq_true rfl) dX8_of_79 ⟨Nat.zero_le _, Nat.zero_le _⟩ (fun H locs hP hD hS => ?_)
        refine W.eq (g2 := F0 m 82 ls [.int r_12]) rfl ?_
        replace hf := Option.some.inj hf
        simp only [Prod.mk.injEq] at hf
        obtain ⟨hf0, hf1, hf2, hf3, hf4, hf5, hf6⟩ := hf
        subst hf0; subst hf1; subst hf2; subst hf3; subst hf4; subst hf5; subst hf6
        exact hret H locs ls _ dX8_of_82 hP hD hS
      replace hf := it_f c11 hf
      by_cases c14 : x2 = (3 : Int32)
      · replace hf := it_t c14 hf
        refine lv_tableIn (tgt := 83) (off := 72) hx hb dX8_of_11 (by rw [c14]; decide) (by rw [c14]; decide) (by rw [c14]; rfl) (by decide) ?_
        refine lv_aload_n hx hb dX8_of_83 rfl (lv_at hl 0 rfl) ?_
        refine lv_iload_n hx hb dX8_of_84 rfl (lv_at hl 1 rfl) ?_
        obtain ⟨r_15, hq16, hf⟩ := bd1_el hf
        refine mc_V (As := [.int x1]) (rest := []) (wr := [(a10, .inl (cI, 12, .inl v_rows)), (a11, .inl (cI, 13, .inl v_cuts)), (a12, .inl (cI, 13, .inl v_pages)), (a13, .inl (cI, 13, .inl v_next))]) (wn := [(a0, .inr (8, [.ref a1, .ref a2, .int v_acts, .ref a3, .ref a4, .int v_keptActs, .ref a5, .int v_typed, .ref a6, .ref a7, .ref a8, .ref a9, .ref a10, .int v_isSet, .ref a11, .ref a12, .ref a13, .int v_arePages, .ref a14, .ref a15, .int v_place, .ref a16, .int v_readMany])), (a1, .inl (cI, 189, .inl v_now)), (a10, .inl (cI, 12, .inl v_rows)), (a11, .inl (cI, 13, .inl v_cuts)), (a12, .inl (cI, 13, .inl v_pages)), (a13, .inl (cI, 13, .inl v_next))]) ⟨hx, hb, hml, hown, hT⟩ (c_X8_stanzaOf l dC dI cI cJ cP cS a0 a1 a2 a3 a4 a5 a6 a7 a8 a9 a10 a11 a12 a13 a14 a15 a16 v_acts v_keptActs v_typed v_isSet v_arePages v_place v_readMany v_now x1 r_15 hq16) (cwV 1 hT (gdV q_ml_X8_75 q_im_X8_stanzaOf q_se_X8_stanzaOf q_in_X8 q_co_X8_stanzaOf) rfl rfl rfl hd_X8_stanzaOf ⟨Nat.le_of_ble_eq_true rfl, Nat.le_of_ble_eq_true rfl⟩) hK hF hP hD hS hA 0 rfl rfl rfl [0, 1] [2, 3, 4, 5] [4, 5, 0, 1, 2, 3] rfl (by decide) rfl (by decide) (by decide) rfl (by decide) rfl hl.1 rfl (Nat.le_of_ble_eq_true rfl) dX8_of_85 ⟨Nat.zero_le _, Nat.zero_le _⟩ (fun H locs hP hD hS => ?_)
        refine W.eq (g2 := F0 m 88 ls [.int r_15]) rfl ?_
        replace hf := Option.some.inj hf
        simp only [Prod.mk.injEq] at hf
        obtain ⟨hf0, hf1, hf2, hf3, hf4, hf5, hf6⟩ := hf
        subst hf0; subst hf1; subst hf2; subst hf3; subst hf4; subst hf5; subst hf6
        exact hret H locs ls _ dX8_of_88 hP hD hS
      replace hf := it_f c14 hf
      by_cases c17 : x2 = (4 : Int32)
      · replace hf := it_t c17 hf
        refine lv_tableIn (tgt := 89) (off := 78) hx hb dX8_of_11 (by rw [c17]; decide) (by rw [c17]; decide) (by rw [c17]; rfl) (by decide) ?_
        refine lv_aload_n hx hb dX8_of_89 rfl (lv_at hl 0 rfl) ?_
        refine lv_iload_n hx hb dX8_of_90 rfl (lv_at hl 1 rfl) ?_
        obtain ⟨r_18, hq19, hf⟩ := bd1_el hf
        refine mc_V (As := [.int x1]) (rest := []) (wr := [(a10, .inl (cI, 12, .inl v_rows)), (a11, .inl (cI, 13, .inl v_cuts)), (a12, .inl (cI, 13, .inl v_pages)), (a13, .inl (cI, 13, .inl v_next))]) (wn := [(a0, .inr (8, [.ref a1, .ref a2, .int v_acts, .ref a3, .ref a4, .int v_keptActs, .ref a5, .int v_typed, .ref a6, .ref a7, .ref a8, .ref a9, .ref a10, .int v_isSet, .ref a11, .ref a12, .ref a13, .int v_arePages, .ref a14, .ref a15, .int v_place, .ref a16, .int v_readMany])), (a1, .inl (cI, 189, .inl v_now)), (a10, .inl (cI, 12, .inl v_rows)), (a11, .inl (cI, 13, .inl v_cuts)), (a12, .inl (cI, 13, .inl v_pages)), (a13, .inl (cI, 13, .inl v_next))]) ⟨hx, hb, hml, hown, hT⟩ (c_X8_indent l dC dI cI cJ cP cS a0 a1 a2 a3 a4 a5 a6 a7 a8 a9 a10 a11 a12 a13 a14 a15 a16 v_acts v_keptActs v_typed v_isSet v_arePages v_place v_readMany v_now x1 r_18 hq19) (cwV 1 hT (gdV q_ml_X8_88 q_im_X8_indent q_se_X8_indent q_in_X8 q_co_X8_indent) rfl rfl rfl hd_X8_indent ⟨Nat.le_of_ble_eq_true rfl, Nat.le_of_ble_eq_true rfl⟩) hK hF hP hD hS hA 0 rfl rfl rfl [0, 1] [2, 3, 4, 5] [4, 5, 0, 1, 2, 3] rfl (by decide) rfl (by decide) (by decide) rfl (by decide) rfl hl.1 rfl (Nat.le_of_ble_eq_true rfl) dX8_of_91 ⟨Nat.zero_le _, Nat.zero_le _⟩ (fun H locs hP hD hS => ?_)
        refine W.eq (g2 := F0 m 94 ls [.int r_18]) rfl ?_
        replace hf := Option.some.inj hf
        simp only [Prod.mk.injEq] at hf
        obtain ⟨hf0, hf1, hf2, hf3, hf4, hf5, hf6⟩ := hf
        subst hf0; subst hf1; subst hf2; subst hf3; subst hf4; subst hf5; subst hf6
        exact hret H locs ls _ dX8_of_94 hP hD hS
      replace hf := it_f c17 hf
      by_cases c20 : x2 = (5 : Int32)
      · replace hf := it_t c20 hf
        refine lv_tableIn (tgt := 95) (off := 84) hx hb dX8_of_11 (by rw [c20]; decide) (by rw [c20]; decide) (by rw [c20]; rfl) (by decide) ?_
        refine lv_aload_n hx hb dX8_of_95 rfl (lv_at hl 0 rfl) ?_
        refine lv_iload_n hx hb dX8_of_96 rfl (lv_at hl 1 rfl) ?_
        obtain ⟨r_21, hq22, hf⟩ := bd1_el hf
        refine mc_V (As := [.int x1]) (rest := []) (wr := [(a10, .inl (cI, 12, .inl v_rows)), (a11, .inl (cI, 13, .inl v_cuts)), (a12, .inl (cI, 13, .inl v_pages)), (a13, .inl (cI, 13, .inl v_next))]) (wn := [(a0, .inr (8, [.ref a1, .ref a2, .int v_acts, .ref a3, .ref a4, .int v_keptActs, .ref a5, .int v_typed, .ref a6, .ref a7, .ref a8, .ref a9, .ref a10, .int v_isSet, .ref a11, .ref a12, .ref a13, .int v_arePages, .ref a14, .ref a15, .int v_place, .ref a16, .int v_readMany])), (a1, .inl (cI, 189, .inl v_now)), (a10, .inl (cI, 12, .inl v_rows)), (a11, .inl (cI, 13, .inl v_cuts)), (a12, .inl (cI, 13, .inl v_pages)), (a13, .inl (cI, 13, .inl v_next))]) ⟨hx, hb, hml, hown, hT⟩ (c_X8_rowsOf l dC dI cI cJ cP cS a0 a1 a2 a3 a4 a5 a6 a7 a8 a9 a10 a11 a12 a13 a14 a15 a16 v_acts v_keptActs v_typed v_isSet v_arePages v_place v_readMany v_now x1 r_21 hq22) (cwV 1 hT (gdV q_ml_X8_115 q_im_X8_rowsOf q_se_X8_rowsOf q_in_X8 q_co_X8_rowsOf) rfl rfl rfl hd_X8_rowsOf ⟨Nat.le_of_ble_eq_true rfl, Nat.le_of_ble_eq_true rfl⟩) hK hF hP hD hS hA 0 rfl rfl rfl [0, 1] [2, 3, 4, 5] [4, 5, 0, 1, 2, 3] rfl (by decide) rfl (by decide) (by decide) rfl (by decide) rfl hl.1 rfl (Nat.le_of_ble_eq_true rfl) dX8_of_97 ⟨Nat.zero_le _, Nat.zero_le _⟩ (fun H locs hP hD hS => ?_)
        refine W.eq (g2 := F0 m 100 ls [.int r_21]) rfl ?_
        replace hf := Option.some.inj hf
        simp only [Prod.mk.injEq] at hf
        obtain ⟨hf0, hf1, hf2, hf3, hf4, hf5, hf6⟩ := hf
        subst hf0; subst hf1; subst hf2; subst hf3; subst hf4; subst hf5; subst hf6
        exact hret H locs ls _ dX8_of_100 hP hD hS
      replace hf := it_f c20 hf
      by_cases c23 : x2 = (6 : Int32)
      · replace hf := it_t c23 hf
        refine lv_tableIn (tgt := 101) (off := 90) hx hb dX8_of_11 (by rw [c23]; decide) (by rw [c23]; decide) (by rw [c23]; rfl) (by decide) ?_
        refine lv_aload_n hx hb dX8_of_101 rfl (lv_at hl 0 rfl) ?_
        refine lv_iload_n hx hb dX8_of_102 rfl (lv_at hl 1 rfl) ?_
        obtain ⟨r_24, hq25, hf⟩ := bd1_el hf
        refine mc_V (As := [.int x1]) (rest := []) (wr := [(a10, .inl (cI, 12, .inl v_rows)), (a11, .inl (cI, 13, .inl v_cuts)), (a12, .inl (cI, 13, .inl v_pages)), (a13, .inl (cI, 13, .inl v_next))]) (wn := [(a0, .inr (8, [.ref a1, .ref a2, .int v_acts, .ref a3, .ref a4, .int v_keptActs, .ref a5, .int v_typed, .ref a6, .ref a7, .ref a8, .ref a9, .ref a10, .int v_isSet, .ref a11, .ref a12, .ref a13, .int v_arePages, .ref a14, .ref a15, .int v_place, .ref a16, .int v_readMany])), (a1, .inl (cI, 189, .inl v_now)), (a10, .inl (cI, 12, .inl v_rows)), (a11, .inl (cI, 13, .inl v_cuts)), (a12, .inl (cI, 13, .inl v_pages)), (a13, .inl (cI, 13, .inl v_next))]) ⟨hx, hb, hml, hown, hT⟩ (c_X8_costOf l dC dI cI cJ cP cS a0 a1 a2 a3 a4 a5 a6 a7 a8 a9 a10 a11 a12 a13 a14 a15 a16 v_acts v_keptActs v_typed v_isSet v_arePages v_place v_readMany v_now x1 r_24 hq25) (cwV 1 hT (gdV q_ml_X8_118 q_im_X8_costOf q_se_X8_costOf q_in_X8 q_co_X8_costOf) rfl rfl rfl hd_X8_costOf ⟨Nat.le_of_ble_eq_true rfl, Nat.le_of_ble_eq_true rfl⟩) hK hF hP hD hS hA 0 rfl rfl rfl [0, 1] [2, 3, 4, 5] [4, 5, 0, 1, 2, 3] rfl (by decide) rfl (by decide) (by decide) rfl (by decide) rfl hl.1 rfl (Nat.le_of_ble_eq_true rfl) dX8_of_103 ⟨Nat.zero_le _, Nat.zero_le _⟩ (fun H locs hP hD hS => ?_)
        refine W.eq (g2 := F0 m 106 ls [.int r_24]) rfl ?_
        replace hf := Option.some.inj hf
        simp only [Prod.mk.injEq] at hf
        obtain ⟨hf0, hf1, hf2, hf3, hf4, hf5, hf6⟩ := hf
        subst hf0; subst hf1; subst hf2; subst hf3; subst hf4; subst hf5; subst hf6
        exact hret H locs ls _ dX8_of_106 hP hD hS
      replace hf := it_f c23 hf
      by_cases c26 : x2 = (7 : Int32)
      · replace hf := it_t c26 hf
        refine lv_tableIn (tgt := 107) (off := 96) hx hb dX8_of_11 (by rw [c26]; decide) (by rw [c26]; decide) (by rw [c26]; rfl) (by decide) ?_
        refine lv_aload_n hx hb dX8_of_107 rfl (lv_at hl 0 rfl) ?_
        refine lv_iload_n hx hb dX8_of_108 rfl (lv_at hl 1 rfl) ?_
        obtain ⟨r_27, v_isSet_28, v_arePages_29, v_rows_30, v_cuts_31, v_pages_32, v_next_33, hq34, hf⟩ := bd7_el hf
        refine mc_V (As := [.int x1]) (rest := []) (wr := []) (wn := [(a0, .inr (8, [.ref a1, .ref a2, .int v_acts, .ref a3, .ref a4, .int v_keptActs, .ref a5, .int v_typed, .ref a6, .ref a7, .ref a8, .ref a9, .ref a10, .int v_isSet_28, .ref a11, .ref a12, .ref a13, .int v_arePages_29, .ref a14, .ref a15, .int v_place, .ref a16, .int v_readMany])), (a1, .inl (cI, 189, .inl v_now)), (a10, .inl (cI, 12, .inl v_rows_30)), (a11, .inl (cI, 13, .inl v_cuts_31)), (a12, .inl (cI, 13, .inl v_pages_32)), (a13, .inl (cI, 13, .inl v_next_33))]) ⟨hx, hb, hml, hown, hT⟩ (c_X8_pageOf l dC dI cI cJ cP cS a0 a1 a2 a3 a4 a5 a6 a7 a8 a9 a10 a11 a12 a13 a14 a15 a16 v_acts v_keptActs v_typed v_isSet v_arePages v_place v_readMany v_now v_rows v_cuts v_pages v_next x1 r_27 v_isSet_28 v_arePages_29 v_rows_30 v_cuts_31 v_pages_32 v_next_33 hq34) (cwV 1 hT (gdV q_ml_X8_147 q_im_X8_pageOf q_se_X8_pageOf q_in_X8 q_co_X8_pageOf) rfl rfl rfl hd_X8_pageOf ⟨Nat.le_of_ble_eq_true rfl, Nat.le_of_ble_eq_true rfl⟩) hK hF hP hD hS hA 0 rfl rfl rfl [0, 1, 2, 3, 4, 5] [] [0, 1, 2, 3, 4, 5] rfl (by decide) rfl (by decide) (by decide) rfl (by decide) rfl hl.1 rfl (Nat.le_of_ble_eq_true rfl) dX8_of_109 ⟨Nat.zero_le _, Nat.zero_le _⟩ (fun H locs hP hD hS => ?_)
        refine W.eq (g2 := F0 m 112 ls [.int r_27]) rfl ?_
        replace hf := Option.some.inj hf
        simp only [Prod.mk.injEq] at hf
        obtain ⟨hf0, hf1, hf2, hf3, hf4, hf5, hf6⟩ := hf
        subst hf0; subst hf1; subst hf2; subst hf3; subst hf4; subst hf5; subst hf6
        exact hret H locs ls _ dX8_of_112 hP hD hS
      replace hf := it_f c26 hf
      refine lv_tableOut (tgt := 113) hx hb dX8_of_11 (by have ec4 := ne_ti (n := 0) (by decide) c4; have ec7 := ne_ti (n := 1) (by decide) c7; have ec11 := ne_ti (n := 2) (by decide) c11; have ec14 := ne_ti (n := 3) (by decide) c14; have ec17 := ne_ti (n := 4) (by decide) c17; have ec20 := ne_ti (n := 5) (by decide) c20; have ec23 := ne_ti (n := 6) (by decide) c23; have ec26 := ne_ti (n := 7) (by decide) c26; omega) (by decide) ?_
      refine lv_iconst (v := (-1)) hx hb dX8_of_113 (by decide) ?_
      replace hf := Option.some.inj hf
      simp only [Prod.mk.injEq] at hf
      obtain ⟨hf0, hf1, hf2, hf3, hf4, hf5, hf6⟩ := hf
      subst hf0; subst hf1; subst hf2; subst hf3; subst hf4; subst hf5; subst hf6
      exact hret H locs ls _ dX8_of_114 hP hD hS
    · replace hf := it_t c3 hf
      refine lv_iconst (v := (-1)) hx hb dX8_of_8 (by decide) ?_
      replace hf := Option.some.inj hf
      simp only [Prod.mk.injEq] at hf
      obtain ⟨hf0, hf1, hf2, hf3, hf4, hf5, hf6⟩ := hf
      subst hf0; subst hf1; subst hf2; subst hf3; subst hf4; subst hf5; subst hf6
      exact hret H locs ls _ dX8_of_9 hP hD hS
  refine key _ ?_ _ _ _ hP hD hS hl
  intro H locs ls pc d hP hD hS
  exact W.iret (v := rv) hx hb hr (fun t ht hW => ⟨⟨rfl, by rw [ht]; exact hP, hD⟩, hS.F ht⟩) hS.2.2 d
def p_X8_said_B119_24 (v_now : (Nat → Int32)) (x1 : Int32) (i5_18 : Int32) (i6_19 : Int32) (i7_20 : Int32) (r_22 : Int32) (w1_24 : Int32) : Option ((Int32 × Int32 × Int32) ⊕ (Int32 × Int32 × Int32)) :=
  (nm (i5_18 + w1_24) fun x5_25 => (if r_22 = (0 : Int32) then (bd1 (p_X8_at v_now x1 ((3 : Int32) + i7_20)) fun r_27 => (nm ((i6_19 + r_27) + (1 : Int32)) fun x6_29 => (some (.inl (x5_25, x6_29, (i7_20 + (1 : Int32))))))) else (bd1 (p_X8_indent v_now x1) fun r_30 => (nm (r_30 + (v_now 4)) fun x6_32 => (some (.inl (x5_25, x6_32, (i7_20 + (1 : Int32)))))))))
def p_X8_said_L90 (v_now : (Nat → Int32)) (x1 : Int32) (x2 : Int32) (r_13 : Int32) (s : Int32 × Int32 × Int32) : Option ((Int32 × Int32 × Int32) ⊕ (Int32 × Int32 × Int32)) := match s with
  | (i5_18, i6_19, i7_20) => (if x2 ≤ i7_20 then (some (.inr (i5_18, i6_19, i7_20))) else (bd1 (p_X8_breaks v_now x1 r_13 i7_20) fun r_22 => (if r_22 = (0 : Int32) then (p_X8_said_B119_24 v_now x1 i5_18 i6_19 i7_20 r_22 (0 : Int32)) else (p_X8_said_B119_24 v_now x1 i5_18 i6_19 i7_20 r_22 (1 : Int32)))))
def p_X8_said_B56_41 (v_now : (Nat → Int32)) (x1 : Int32) (x2 : Int32) (w2_41 : Int32) : Option (Int32) :=
  (bd1 (p_X8_at v_now x1 (w2_41 + x2)) fun r_42 => (some r_42))
def p_X8_said (v_now : (Nat → Int32)) (x1 : Int32) (x2 : Int32) (x3 : Int32) : Option (Int32) :=
  (bd1 (p_X8_isLine v_now x1) fun r_1 => (if r_1 = (0 : Int32) then (some (-1 : Int32)) else (bd1 (p_X8_words v_now x1) fun r_4 => (bd1 (p_X8_in (Int32.toInt64 x2) (0 : Int64) (Int32.toInt64 (r_4 - (1 : Int32)))) fun r_6 => (if r_6 = (0 : Int32) then (some (-1 : Int32)) else (bd1 (p_X8_in (Int32.toInt64 x3) (0 : Int64) (3 : Int64)) fun r_9 => (if r_9 = (0 : Int32) then (some (-1 : Int32)) else (if (2 : Int32) ≤ x3 then (bd1 (p_X8_best v_now x1) fun r_13 => (if (0 : Int32) ≤ r_13 then (bd1 (p_X8_indent v_now x1) fun r_16 => (bd3 (loopN (p_X8_said_L90 v_now x1 x2 r_13) fuel ((0 : Int32), r_16, (0 : Int32))) fun f5_37 f6_38 f7_39 => (if x3 = (2 : Int32) then (some f5_37) else (some f6_38)))) else (some (-4 : Int32)))) else (if x3 = (0 : Int32) then (p_X8_said_B56_41 v_now x1 x2 (3 : Int32)) else (p_X8_said_B56_41 v_now x1 x2 (9 : Int32)))))))))))
set_option maxHeartbeats 4000000 in
set_option maxRecDepth 100000 in
theorem c_X8_said (l : Launch) (dC : Nat → ClassId) (dI : Nat → Nat → Nat) (cI cJ cP cS : ClassId) (a0 : Nat) (a1 : Nat) (a2 : Nat) (a3 : Nat) (a4 : Nat) (a5 : Nat) (a6 : Nat) (a7 : Nat) (a8 : Nat) (a9 : Nat) (a10 : Nat) (a11 : Nat) (a12 : Nat) (a13 : Nat) (a14 : Nat) (a15 : Nat) (a16 : Nat) (v_acts : Int32) (v_keptActs : Int32) (v_typed : Int32) (v_isSet : Int32) (v_arePages : Int32) (v_place : Int32) (v_readMany : Int32) (v_now : (Nat → Int32))  (x1 : Int32) (x2 : Int32) (x3 : Int32) (rv : Int32)  (hf : p_X8_said v_now x1 x2 x3 = some rv) : MC l (dC, dI) (tyl cI cJ cP cS) yX8_said (Cond.code yX8_said cX8_said 9 (some .int) :: TBG) ({ frames := 7, cells := 0, slots := 0, locals := 162 } : Room) [.ref a0, .int x1, .int x2, .int x3] [(a0, .inr (8, [.ref a1, .ref a2, .int v_acts, .ref a3, .ref a4, .int v_keptActs, .ref a5, .int v_typed, .ref a6, .ref a7, .ref a8, .ref a9, .ref a10, .int v_isSet, .ref a11, .ref a12, .ref a13, .int v_arePages, .ref a14, .ref a15, .int v_place, .ref a16, .int v_readMany])), (a1, .inl (cI, 189, .inl v_now))] [(a0, .inr (8, [.ref a1, .ref a2, .int v_acts, .ref a3, .ref a4, .int v_keptActs, .ref a5, .int v_typed, .ref a6, .ref a7, .ref a8, .ref a9, .ref a10, .int v_isSet, .ref a11, .ref a12, .ref a13, .int v_arePages, .ref a14, .ref a15, .int v_place, .ref a16, .int v_readMany])), (a1, .inl (cI, 189, .inl v_now))] (some (.int rv)) := by
  intro sz
  unfold MPost
  refine Met.ofW (cc := cX8_said) (maxL := 9) (ret := (some .int)) (by decide) rfl ?_
  intro p e s m args below meth c s₁ B hml hv
  obtain ⟨rfl, hsz, hP, hK, hD0, hF⟩ := hv
  have hx := B.exec
  have hb := B.bytes
  have hr := B.returns
  have hT : ∀ w ∈ TBG, w.before _ s = true := fun w h => atoms_spec B.pre w (List.mem_cons_of_mem _ h)
  have hown : s.vm.findClass RX8 = some m.cls := findClass_of_methodNamed B.named
  have hlocks := B.notSynchronized
  subst hsz
  have hD := hD0.self (sz := s.heap.size)
  generalize hAe : va_A [(a0, .inr (8, [.ref a1, .ref a2, .int v_acts, .ref a3, .ref a4, .int v_keptActs, .ref a5, .int v_typed, .ref a6, .ref a7, .ref a8, .ref a9, .ref a10, .int v_isSet, .ref a11, .ref a12, .ref a13, .int v_arePages, .ref a14, .ref a15, .int v_place, .ref a16, .int v_readMany])), (a1, .inl (cI, 189, .inl v_now))] s.heap.size = A at hD hF ⊢
  have hA : ∀ q : Nat, s.heap.size ≤ q → A q := fun q h => by rw [← hAe]; exact Or.inr h
  have hS : va_S A s.heap s.heap [] := va_S.rf
  have hl := lv_entry ([.ref a0, .int x1, .int x2, .int x3]) (n := 9) (Nat.le_of_ble_eq_true rfl)
  rw [lg_entry_eq]
  generalize (lg_sl ([.ref a0, .int x1, .int x2, .int x3]) ++ List.replicate (9 - (lg_sl ([.ref a0, .int x1, .int x2, .int x3])).length) Slot.unset).toArray = ls at hl ⊢
  have hl : lv_has ls 9 [(0, .ref a0), (1, .int x1), (2, .int x2), (3, .int x3)] := hl
  generalize ([.ref a0, .int x1, .int x2, .int x3] : List Value).toArray = args at hT ⊢
  have key : ∀ (Q : State → Prop), (∀ (H : Heap) (locs : List Loc) (ls : Array Slot) (pc : Nat), decode cX8_said pc = .ok (.ireturn, 1) → va_P (dC, dI) vwCl [(a0, .inr (8, [.ref a1, .ref a2, .int v_acts, .ref a3, .ref a4, .int v_keptActs, .ref a5, .int v_typed, .ref a6, .ref a7, .ref a8, .ref a9, .ref a10, .int v_isSet, .ref a11, .ref a12, .ref a13, .int v_arePages, .ref a14, .ref a15, .int v_place, .ref a16, .int v_readMany])), (a1, .inl (cI, 189, .inl v_now))] H → va_D A [(a0, .inr (8, [.ref a1, .ref a2, .int v_acts, .ref a3, .ref a4, .int v_keptActs, .ref a5, .int v_typed, .ref a6, .ref a7, .ref a8, .ref a9, .ref a10, .int v_isSet, .ref a11, .ref a12, .ref a13, .int v_arePages, .ref a14, .ref a15, .int v_place, .ref a16, .int v_readMany])), (a1, .inl (cI, 189, .inl v_now))] → va_S A s.heap H locs → W p l e ({ frames := 7, cells := 0, slots := 0, locals := 162 } : Room) s m args below meth c H locs 0 0 Q (F0 m pc ls [.int rv])) → ∀ (H : Heap) (locs : List Loc) (ls : Array Slot), va_P (dC, dI) vwCl [(a0, .inr (8, [.ref a1, .ref a2, .int v_acts, .ref a3, .ref a4, .int v_keptActs, .ref a5, .int v_typed, .ref a6, .ref a7, .ref a8, .ref a9, .ref a10, .int v_isSet, .ref a11, .ref a12, .ref a13, .int v_arePages, .ref a14, .ref a15, .int v_place, .ref a16, .int v_readMany])), (a1, .inl (cI, 189, .inl v_now))] H → va_D A [(a0, .inr (8, [.ref a1, .ref a2, .int v_acts, .ref a3, .ref a4, .int v_keptActs, .ref a5, .int v_typed, .ref a6, .ref a7, .ref a8, .ref a9, .ref a10, .int v_isSet, .ref a11, .ref a12, .ref a13, .int v_arePages, .ref a14, .ref a15, .int v_place, .ref a16, .int v_readMany])), (a1, .inl (cI, 189, .inl v_now))] → va_S A s.heap H locs → lv_has ls 9 [(0, .ref a0), (1, .int x1), (2, .int x2), (3, .int x3)] → W p l e ({ frames := 7, cells := 0, slots := 0, locals := 162 } : Room) s m args below meth c H locs 0 0 Q (F0 m 0 ls []) := by
    intro Q hret H locs ls hP hD hS hl
    refine lv_aload_n hx hb dX8_said_0 rfl (lv_at hl 0 rfl) ?_
    refine lv_iload_n hx hb dX8_said_1 rfl (lv_at hl 1 rfl) ?_
    obtain ⟨r_1, hq2, hf⟩ := bd1_el hf
    refine mc_V (As := [.int x1]) (rest := []) (wr := []) (wn := [(a0, .inr (8, [.ref a1, .ref a2, .int v_acts, .ref a3, .ref a4, .int v_keptActs, .ref a5, .int v_typed, .ref a6, .ref a7, .ref a8, .ref a9, .ref a10, .int v_isSet, .ref a11, .ref a12, .ref a13, .int v_arePages, .ref a14, .ref a15, .int v_place, .ref a16, .int v_readMany])), (a1, .inl (cI, 189, .inl v_now))]) ⟨hx, hb, hml, hown, hT⟩ (c_X8_isLine l dC dI cI cJ cP cS a0 a1 a2 a3 a4 a5 a6 a7 a8 a9 a10 a11 a12 a13 a14 a15 a16 v_acts v_keptActs v_typed v_isSet v_arePages v_place v_readMany v_now x1 r_1 hq2) (cwV 1 hT (gdV q_ml_X8_144 q_im_X8_isLine q_se_X8_isLine q_in_X8 q_co_X8_isLine) rfl rfl rfl hd_X8_isLine ⟨Nat.le_of_ble_eq_true rfl, Nat.le_of_ble_eq_true rfl⟩) hK hF hP hD hS hA 0 rfl rfl rfl [0, 1] [] [0, 1] rfl (by decide) rfl (by decide) (by decide) rfl (by decide) rfl hl.1 rfl (Nat.le_of_ble_eq_true rfl) dX8_said_2 ⟨Nat.zero_le _, Nat.zero_le _⟩ (fun H locs hP hD hS => ?_)
    refine W.eq (g2 := F0 m 5 ls [.int r_1]) rfl ?_
    refine lv_if_eq (tgt := 37) hx hb dX8_said_5 (by decide) (fun c3 => ?_) (fun c3 => ?_)
    · replace hf := it_t c3 hf
      refine lv_iconst (v := (-1)) hx hb dX8_said_37 (by decide) ?_
      replace hf := Option.some.inj hf
      subst hf
      exact hret H locs ls _ dX8_said_38 hP hD hS
    · replace hf := it_f c3 hf
      refine lv_iload_n hx hb dX8_said_8 rfl (lv_at hl 2 rfl) ?_
      refine lv_i2l hx hb dX8_said_9 rfl ?_
      refine lv_lconst (v := 0) hx hb dX8_said_10 (by decide) ?_
      refine lv_aload_n hx hb dX8_said_11 rfl (lv_at hl 0 rfl) ?_
      refine lv_iload_n hx hb dX8_said_12 rfl (lv_at hl 1 rfl) ?_
      obtain ⟨r_4, hq5, hf⟩ := bd1_el hf
      refine mc_V (As := [.int x1]) (rest := [.long (0 : Int64), .long (Int32.toInt64 x2)]) (wr := []) (wn := [(a0, .inr (8, [.ref a1, .ref a2, .int v_acts, .ref a3, .ref a4, .int v_keptActs, .ref a5, .int v_typed, .ref a6, .ref a7, .ref a8, .ref a9, .ref a10, .int v_isSet, .ref a11, .ref a12, .ref a13, .int v_arePages, .ref a14, .ref a15, .int v_place, .ref a16, .int v_readMany])), (a1, .inl (cI, 189, .inl v_now))]) ⟨hx, hb, hml, hown, hT⟩ (c_X8_words l dC dI cI cJ cP cS a0 a1 a2 a3 a4 a5 a6 a7 a8 a9 a10 a11 a12 a13 a14 a15 a16 v_acts v_keptActs v_typed v_isSet v_arePages v_place v_readMany v_now x1 r_4 hq5) (cwV 1 hT (gdV q_ml_X8_85 q_im_X8_words q_se_X8_words q_in_X8 q_co_X8_words) rfl rfl rfl hd_X8_words ⟨Nat.le_of_ble_eq_true rfl, Nat.le_of_ble_eq_true rfl⟩) hK hF hP hD hS hA 0 rfl rfl rfl [0, 1] [] [0, 1] rfl (by decide) rfl (by decide) (by decide) rfl (by decide) rfl hl.1 rfl (Nat.le_of_ble_eq_true rfl) dX8_said_13 ⟨Nat.zero_le _, Nat.zero_le _⟩ (fun H locs hP hD hS => ?_)
      refine W.eq (g2 := F0 m 16 ls [.int r_4, .long (0 : Int64), .long (Int32.toInt64 x2)]) rfl ?_
      refine lv_iconst (v := 1) hx hb dX8_said_16 (by decide) ?_
      refine lv_isub hx hb dX8_said_17 ?_
      refine lv_i2l hx hb dX8_said_18 rfl ?_
      obtain ⟨r_6, hq7, hf⟩ := bd1_el hf
      refine mc_S (As := [.long (Int32.toInt64 x2), .long (0 : Int64), .long (Int32.toInt64 (r_4 - (1 : Int32)))]) (rest := []) (wr := [(a0, .inr (8, [.ref a1, .ref a2, .int v_acts, .ref a3, .ref a4, .int v_keptActs, .ref a5, .int v_typed, .ref a6, .ref a7, .ref a8, .ref a9, .ref a10, .int v_isSet, .ref a11, .ref a12, .ref a13, .int v_arePages, .ref a14, .ref a15, .int v_place, .ref a16, .int v_readMany])), (a1, .inl (cI, 189, .inl v_now))]) (wn := [(a0, .inr (8, [.ref a1, .ref a2, .int v_acts, .ref a3, .ref a4, .int v_keptActs, .ref a5, .int v_typed, .ref a6, .ref a7, .ref a8, .ref a9, .ref a10, .int v_isSet, .ref a11, .ref a12, .ref a13, .int v_arePages, .ref a14, .ref a15, .int v_place, .ref a16, .int v_readMany])), (a1, .inl (cI, 189, .inl v_now))]) ⟨hx, hb, hml, hown, hT⟩ (c_X8_in l dC dI cI cJ cP cS (Int32.toInt64 x2) (0 : Int64) (Int32.toInt64 (r_4 - (1 : Int32))) r_6 hq7) (va_cwS 3 hT (gdS q_ml_X8_63 q_st_X8_in q_in_X8 q_co_X8_in) rfl rfl rfl hd_X8_in ⟨Nat.le_of_ble_eq_true rfl, Nat.le_of_ble_eq_true rfl⟩) hK hF hP hD hS hA [] [0, 1] [0, 1] rfl (by decide) rfl (by decide) (by decide) rfl (by decide) rfl hl.1 rfl (Nat.le_of_ble_eq_true rfl) dX8_said_19 ⟨Nat.zero_le _, Nat.zero_le _⟩ (fun H locs hP hD hS => ?_)
      refine W.eq (g2 := F0 m 22 ls [.int r_6]) rfl ?_
      refine lv_if_eq (tgt := 37) hx hb dX8_said_22 (by decide) (fun c8 => ?_) (fun c8 => ?_)
      · replace hf := it_t c8 hf
        refine lv_iconst (v := (-1)) hx hb dX8_said_37 (by decide) ?_
        replace hf := Option.some.inj hf
        subst hf
        exact hret H locs ls _ dX8_said_38 hP hD hS
      · replace hf := it_f c8 hf
        refine lv_iload_n hx hb dX8_said_25 rfl (lv_at hl 3 rfl) ?_
        refine lv_i2l hx hb dX8_said_26 rfl ?_
        refine lv_lconst (v := 0) hx hb dX8_said_27 (by decide) ?_
        refine lv_ldc2 hx hb hown (hT _ q_kl_X8_150) dX8_said_28 ?_
        obtain ⟨r_9, hq10, hf⟩ := bd1_el hf
        refine mc_S (As := [.long (Int32.toInt64 x3), .long (0 : Int64), .long (3 : Int64)]) (rest := []) (wr := [(a0, .inr (8, [.ref a1, .ref a2, .int v_acts, .ref a3, .ref a4, .int v_keptActs, .ref a5, .int v_typed, .ref a6, .ref a7, .ref a8, .ref a9, .ref a10, .int v_isSet, .ref a11, .ref a12, .ref a13, .int v_arePages, .ref a14, .ref a15, .int v_place, .ref a16, .int v_readMany])), (a1, .inl (cI, 189, .inl v_now))]) (wn := [(a0, .inr (8, [.ref a1, .ref a2, .int v_acts, .ref a3, .ref a4, .int v_keptActs, .ref a5, .int v_typed, .ref a6, .ref a7, .ref a8, .ref a9, .ref a10, .int v_isSet, .ref a11, .ref a12, .ref a13, .int v_arePages, .ref a14, .ref a15, .int v_place, .ref a16, .int v_readMany])), (a1, .inl (cI, 189, .inl v_now))]) ⟨hx, hb, hml, hown, hT⟩ (c_X8_in l dC dI cI cJ cP cS (Int32.toInt64 x3) (0 : Int64) (3 : Int64) r_9 hq10) (va_cwS 3 hT (gdS q_ml_X8_63 q_st_X8_in q_in_X8 q_co_X8_in) rfl rfl rfl hd_X8_in ⟨Nat.le_of_ble_eq_true rfl, Nat.le_of_ble_eq_true rfl⟩) hK hF hP hD hS hA [] [0, 1] [0, 1] rfl (by decide) rfl (by decide) (by decide) rfl (by decide) rfl hl.1 rfl (Nat.le_of_ble_eq_true rfl) dX8_said_31 ⟨Nat.zero_le _, Nat.zero_le _⟩ (fun H locs hP hD hS => ?_)
        refine W.eq (g2 := F0 m 34 ls [.int r_9]) rfl ?_
        refine lv_if_ne (tgt := 39) hx hb dX8_said_34 (by decide) (fun c11 => ?_) (fun c11 => ?_)
        · replace hf := it_f c11 hf
          refine lv_iload_n hx hb dX8_said_39 rfl (lv_at hl 3 rfl) ?_
          refine lv_iconst (v := 2) hx hb dX8_said_40 (by decide) ?_
          refine lv_icmp_ge (tgt := 62) hx hb dX8_said_41 (by decide) (fun c12 => ?_) (fun c12 => ?_)
          · replace hf := it_t c12 hf
            refine lv_aload_n hx hb dX8_said_62 rfl (lv_at hl 0 rfl) ?_
            refine lv_iload_n hx hb dX8_said_63 rfl (lv_at hl 1 rfl) ?_
            obtain ⟨r_13, hq14, hf⟩ := bd1_el hf
            refine mc_V (As := [.int x1]) (rest := []) (wr := []) (wn := [(a0, .inr (8, [.ref a1, .ref a2, .int v_acts, .ref a3, .ref a4, .int v_keptActs, .ref a5, .int v_typed, .ref a6, .ref a7, .ref a8, .ref a9, .ref a10, .int v_isSet, .ref a11, .ref a12, .ref a13, .int v_arePages, .ref a14, .ref a15, .int v_place, .ref a16, .int v_readMany])), (a1, .inl (cI, 189, .inl v_now))]) ⟨hx, hb, hml, hown, hT⟩ (c_X8_best l dC dI cI cJ cP cS a0 a1 a2 a3 a4 a5 a6 a7 a8 a9 a10 a11 a12 a13 a14 a15 a16 v_acts v_keptActs v_typed v_isSet v_arePages v_place v_readMany v_now x1 r_13 hq14) (cwV 1 hT (gdV q_ml_X8_105 q_im_X8_best q_se_X8_best q_in_X8 q_co_X8_best) rfl rfl rfl hd_X8_best ⟨Nat.le_of_ble_eq_true rfl, Nat.le_of_ble_eq_true rfl⟩) hK hF hP hD hS hA 0 rfl rfl rfl [0, 1] [] [0, 1] rfl (by decide) rfl (by decide) (by decide) rfl (by decide) rfl hl.1 rfl (Nat.le_of_ble_eq_true rfl) dX8_said_64 ⟨Nat.zero_le _, Nat.zero_le _⟩ (fun H locs hP hD hS => ?_)
            refine W.eq (g2 := F0 m 67 ls [.int r_13]) rfl ?_
            refine lv_istore (lv' := [(4, .int r_13), (0, .ref a0), (1, .int x1), (2, .int x2), (3, .int x3)]) hx hb dX8_said_67 hl (by decide) rfl (fun ls hl => ?_)
            refine lv_iload hx hb dX8_said_69 (lv_at hl 0 rfl) ?_
            refine lv_if_ge (tgt := 77) hx hb dX8_said_71 (by decide) (fun c15 => ?_) (fun c15 => ?_)
            · replace hf := it_t c15 hf
              refine lv_iconst (v := 0) hx hb dX8_said_77 (by decide) ?_
              refine lv_istore (lv' := [(5, .int (0 : Int32)), (4, .int r_13), (0, .ref a0), (1, .int x1), (2, .int x2), (3, .int x3)]) hx hb dX8_said_78 hl (by decide) rfl (fun ls hl => ?_)
              refine lv_aload_n hx hb dX8_said_80 rfl (lv_at hl 2 rfl) ?_
              refine lv_iload_n hx hb dX8_said_81 rfl (lv_at hl 3 rfl) ?_
              obtain ⟨r_16, hq17, hf⟩ := bd1_el hf
              refine mc_V (As := [.int x1]) (rest := []) (wr := []) (wn := [(a0, .inr (8, [.ref a1, .ref a2, .int v_acts, .ref a3, .ref a4, .int v_keptActs, .ref a5, .int v_typed, .ref a6, .ref a7, .ref a8, .ref a9, .ref a10, .int v_isSet, .ref a11, .ref a12, .ref a13, .int v_arePages, .ref a14, .ref a15, .int v_place, .ref a16, .int v_readMany])), (a1, .inl (cI, 189, .inl v_now))]) ⟨hx, hb, hml, hown, hT⟩ (c_X8_indent l dC dI cI cJ cP cS a0 a1 a2 a3 a4 a5 a6 a7 a8 a9 a10 a11 a12 a13 a14 a15 a16 v_acts v_keptActs v_typed v_isSet v_arePages v_place v_readMany v_now x1 r_16 hq17) (cwV 1 hT (gdV q_ml_X8_88 q_im_X8_indent q_se_X8_indent q_in_X8 q_co_X8_indent) rfl rfl rfl hd_X8_indent ⟨Nat.le_of_ble_eq_true rfl, Nat.le_of_ble_eq_true rfl⟩) hK hF hP hD hS hA 0 rfl rfl rfl [0, 1] [] [0, 1] rfl (by decide) rfl (by decide) (by decide) rfl (by decide) rfl hl.1 rfl (Nat.le_of_ble_eq_true rfl) dX8_said_82 ⟨Nat.zero_le _, Nat.zero_le _⟩ (fun H locs hP hD hS => ?_)
              refine W.eq (g2 := F0 m 85 ls [.int r_16]) rfl ?_
              refine lv_istore (lv' := [(6, .int r_16), (5, .int (0 : Int32)), (4, .int r_13), (0, .ref a0), (1, .int x1), (2, .int x2), (3, .int x3)]) hx hb dX8_said_85 hl (by decide) rfl (fun ls hl => ?_)
              refine lv_iconst (v := 0) hx hb dX8_said_87 (by decide) ?_
              refine lv_istore (lv' := [(7, .int (0 : Int32)), (6, .int r_16), (5, .int (0 : Int32)), (4, .int r_13), (0, .ref a0), (1, .int x1), (2, .int x2), (3, .int x3)]) hx hb dX8_said_88 hl (by decide) rfl (fun ls hl => ?_)
              have hL90 : ∀ (rr : Int32 × Int32 × Int32), (∀ (z_34 : Int32) (z_35 : Int32) (z_36 : Int32), rr = (z_34, z_35, z_36) → ∀ (H : Heap) (locs : List Loc) (ls : Array Slot), va_P (dC, dI) vwCl [(a0, .inr (8, [.ref a1, .ref a2, .int v_acts, .ref a3, .ref a4, .int v_keptActs, .ref a5, .int v_typed, .ref a6, .ref a7, .ref a8, .ref a9, .ref a10, .int v_isSet, .ref a11, .ref a12, .ref a13, .int v_arePages, .ref a14, .ref a15, .int v_place, .ref a16, .int v_readMany])), (a1, .inl (cI, 189, .inl v_now))] H → va_D A [(a0, .inr (8, [.ref a1, .ref a2, .int v_acts, .ref a3, .ref a4, .int v_keptActs, .ref a5, .int v_typed, .ref a6, .ref a7, .ref a8, .ref a9, .ref a10, .int v_isSet, .ref a11, .ref a12, .ref a13, .int v_arePages, .ref a14, .ref a15, .int v_place, .ref a16, .int v_readMany])), (a1, .inl (cI, 189, .inl v_now))] → va_S A s.heap H locs → lv_has ls 9 [(3, .int x3), (5, .int z_34), (6, .int z_35)] → W p l e ({ frames := 7, cells := 0, slots := 0, locals := 162 } : Room) s m args below meth c H locs 0 0 Q (F0 m 164 ls [])) → ∀ (n : Nat) (i5_18 : Int32) (i6_19 : Int32) (i7_20 : Int32), loopN (p_X8_said_L90 v_now x1 x2 r_13) n (i5_18, i6_19, i7_20) = some rr → ∀ (H : Heap) (locs : List Loc) (ls : Array Slot), va_P (dC, dI) vwCl [(a0, .inr (8, [.ref a1, .ref a2, .int v_acts, .ref a3, .ref a4, .int v_keptActs, .ref a5, .int v_typed, .ref a6, .ref a7, .ref a8, .ref a9, .ref a10, .int v_isSet, .ref a11, .ref a12, .ref a13, .int v_arePages, .ref a14, .ref a15, .int v_place, .ref a16, .int v_readMany])), (a1, .inl (cI, 189, .inl v_now))] H → va_D A [(a0, .inr (8, [.ref a1, .ref a2, .int v_acts, .ref a3, .ref a4, .int v_keptActs, .ref a5, .int v_typed, .ref a6, .ref a7, .ref a8, .ref a9, .ref a10, .int v_isSet, .ref a11, .ref a12, .ref a13, .int v_arePages, .ref a14, .ref a15, .int v_place, .ref a16, .int v_readMany])), (a1, .inl (cI, 189, .inl v_now))] → va_S A s.heap H locs → lv_has ls 9 [(0, .ref a0), (1, .int x1), (2, .int x2), (3, .int x3), (4, .int r_13), (5, .int i5_18), (6, .int i6_19), (7, .int i7_20)] → W p l e ({ frames := 7, cells := 0, slots := 0, locals := 162 } : Room) s m args below meth c H locs 0 0 Q (F0 m 90 ls []) := by
                intro rr hk90 n
                induction n with
                | zero => intro i5_18 i6_19 i7_20 hf; cases hf
                | succ n ih90 =>
                  intro i5_18 i6_19 i7_20 hf H locs ls hP hD hS hl
                  obtain ⟨o90, hf, hi, he⟩ := loopN_el hf
                  refine lv_iload hx hb dX8_said_90 (lv_at hl 7 rfl) ?_
                  refine lv_iload_n hx hb dX8_said_92 rfl (lv_at hl 2 rfl) ?_
                  refine lv_icmp_ge (tgt := 164) hx hb dX8_said_93 (by decide) (fun c21 => ?_) (fun c21 => ?_)
                  · replace hf := it_t c21 hf
                    exact hk90 _ _ _ (he _ (Option.some.inj hf).symm).symm H locs ls hP hD hS (lv_sub hl [3, 5, 6] rfl)
                  · replace hf := it_f c21 hf
                    refine lv_aload_n hx hb dX8_said_96 rfl (lv_at hl 0 rfl) ?_
                    refine lv_iload_n hx hb dX8_said_97 rfl (lv_at hl 1 rfl) ?_
                    refine lv_iload hx hb dX8_said_98 (lv_at hl 4 rfl) ?_
                    refine lv_iload hx hb dX8_said_100 (lv_at hl 7 rfl) ?_
                    obtain ⟨r_22, hq23, hf⟩ := bd1_el hf
                    refine mc_V (As := [.int x1, .int r_13, .int i7_20]) (rest := []) (wr := []) (wn := [(a0, .inr (8, [.ref a1, .ref a2, .int v_acts, .ref a3, .ref a4, .int v_keptActs, .ref a5, .int v_typed, .ref a6, .ref a7, .ref a8, .ref a9, .ref a10, .int v_isSet, .ref a11, .ref a12, .ref a13, .int v_arePages, .ref a14, .ref a15, .int v_place, .ref a16, .int v_readMany])), (a1, .inl (cI, 189, .inl v_now))]) ⟨hx, hb, hml, hown, hT⟩ (c_X8_breaks l dC dI cI cJ cP cS a0 a1 a2 a3 a4 a5 a6 a7 a8 a9 a10 a11 a12 a13 a14 a15 a16 v_acts v_keptActs v_typed v_isSet v_arePages v_place v_readMany v_now x1 r_13 i7_20 r_22 hq23) (cwV 3 hT (gdV q_ml_X8_91 q_im_X8_breaks q_se_X8_breaks q_in_X8 q_co_X8_breaks) rfl rfl rfl hd_X8_breaks ⟨Nat.le_of_ble_eq_true rfl, Nat.le_of_ble_eq_true rfl⟩) hK hF hP hD hS hA 0 rfl rfl rfl [0, 1] [] [0, 1] rfl (by decide) rfl (by decide) (by decide) rfl (by decide) rfl hl.1 rfl (Nat.le_of_ble_eq_true rfl) dX8_said_102 ⟨Nat.zero_le _, Nat.zero_le _⟩ (fun H locs hP hD hS => ?_)
                    refine W.eq (g2 := F0 m 105 ls [.int r_22]) rfl ?_
                    refine lv_istore (lv' := [(8, .int r_22), (0, .ref a0), (1, .int x1), (2, .int x2), (3, .int x3), (4, .int r_13), (5, .int i5_18), (6, .int i6_19), (7, .int i7_20)]) hx hb dX8_said_105 hl (by decide) rfl (fun ls hl => ?_)
                    refine lv_iload hx hb dX8_said_107 (lv_at hl 6 rfl) ?_
                    refine lv_iload hx hb dX8_said_109 (lv_at hl 0 rfl) ?_
                    have hB119_24 : ∀ (w1_24 : Int32), p_X8_said_B119_24 v_now x1 i5_18 i6_19 i7_20 r_22 w1_24 = some o90 → ∀ (H : Heap) (locs : List Loc) (ls : Array Slot), va_P (dC, dI) vwCl [(a0, .inr (8, [.ref a1, .ref a2, .int v_acts, .ref a3, .ref a4, .int v_keptActs, .ref a5, .int v_typed, .ref a6, .ref a7, .ref a8, .ref a9, .ref a10, .int v_isSet, .ref a11, .ref a12, .ref a13, .int v_arePages, .ref a14, .ref a15, .int v_place, .ref a16, .int v_readMany])), (a1, .inl (cI, 189, .inl v_now))] H → va_D A [(a0, .inr (8, [.ref a1, .ref a2, .int v_acts, .ref a3, .ref a4, .int v_keptActs, .ref a5, .int v_typed, .ref a6, .ref a7, .ref a8, .ref a9, .ref a10, .int v_isSet, .ref a11, .ref a12, .ref a13, .int v_arePages, .ref a14, .ref a15, .int v_place, .ref a16, .int v_readMany])), (a1, .inl (cI, 189, .inl v_now))] → va_S A s.heap H locs → lv_has ls 9 [(0, .ref a0), (1, .int x1), (2, .int x2), (3, .int x3), (4, .int r_13), (6, .int i6_19), (7, .int i7_20), (8, .int r_22)] → W p l e ({ frames := 7, cells := 0, slots := 0, locals := 162 } : Room) s m args below meth c H locs 0 0 Q (F0 m 119 ls [.int w1_24, .int i5_18]) := by
                      intro w1_24 hf H locs ls hP hD hS hl
                      refine lv_iadd hx hb dX8_said_119 ?_
                      obtain ⟨x5_25, ex5_25, hf⟩ := nm_el hf
                      refine lv_as (congrArg Value.int ex5_25) ?_
                      refine lv_istore (lv' := [(5, .int x5_25), (0, .ref a0), (1, .int x1), (2, .int x2), (3, .int x3), (4, .int r_13), (6, .int i6_19), (7, .int i7_20), (8, .int r_22)]) hx hb dX8_said_120 hl (by decide) rfl (fun ls hl => ?_)
                      refine lv_iload hx hb dX8_said_122 (lv_at hl 8 rfl) ?_
                      refine lv_if_eq (tgt := 142) hx hb dX8_said_124 (by decide) (fun c26 => ?_) (fun c26 => ?_)
                      · replace hf := it_t c26 hf
                        refine lv_iload hx hb dX8_said_142 (lv_at hl 6 rfl) ?_
                        refine lv_aload_n hx hb dX8_said_144 rfl (lv_at hl 1 rfl) ?_
                        refine lv_iload_n hx hb dX8_said_145 rfl (lv_at hl 2 rfl) ?_
                        refine lv_iconst (v := 3) hx hb dX8_said_146 (by decide) ?_
                        refine lv_iload hx hb dX8_said_147 (lv_at hl 7 rfl) ?_
                        refine lv_iadd hx hb dX8_said_149 ?_
                        obtain ⟨r_27, hq28, hf⟩ := bd1_el hf
                        refine mc_V (As := [.int x1, .int ((3 : Int32) + i7_20)]) (rest := [.int i6_19]) (wr := []) (wn := [(a0, .inr (8, [.ref a1, .ref a2, .int v_acts, .ref a3, .ref a4, .int v_keptActs, .ref a5, .int v_typed, .ref a6, .ref a7, .ref a8, .ref a9, .ref a10, .int v_isSet, .ref a11, .ref a12, .ref a13, .int v_arePages, .ref a14, .ref a15, .int v_place, .ref a16, .int v_readMany])), (a1, .inl (cI, 189, .inl v_now))]) ⟨hx, hb, hml, hown, hT⟩ (c_X8_at l dC dI cI cJ cP cS a0 a1 a2 a3 a4 a5 a6 a7 a8 a9 a10 a11 a12 a13 a14 a15 a16 v_acts v_keptActs v_typed v_isSet v_arePages v_place v_readMany v_now x1 ((3 : Int32) + i7_20) r_27 hq28) (cwV 2 hT (gdV q_ml_X8_67 q_im_X8_at q_se_X8_at q_in_X8 q_co_X8_at) rfl rfl rfl hd_X8_at ⟨Nat.le_of_ble_eq_true rfl, Nat.le_of_ble_eq_true rfl⟩) hK hF hP hD hS hA 0 rfl rfl rfl [0, 1] [] [0, 1] rfl (by decide) rfl (by decide) (by decide) rfl (by decide) rfl hl.1 rfl (Nat.le_of_ble_eq_true rfl) dX8_said_150 ⟨Nat.zero_le _, Nat.zero_le _⟩ (fun H locs hP hD hS => ?_)
                        refine W.eq (g2 := F0 m 153 ls [.int r_27, .int i6_19]) rfl ?_
                        refine lv_iadd hx hb dX8_said_153 ?_
                        refine lv_iconst (v := 1) hx hb dX8_said_154 (by decide) ?_
                        refine lv_iadd hx hb dX8_said_155 ?_
                        obtain ⟨x6_29, ex6_29, hf⟩ := nm_el hf
                        refine lv_as (congrArg Value.int ex6_29) ?_
                        refine lv_istore (lv' := [(6, .int x6_29), (5, .int x5_25), (0, .ref a0), (1, .int x1), (2, .int x2), (3, .int x3), (4, .int r_13), (7, .int i7_20), (8, .int r_22)]) hx hb dX8_said_156 hl (by decide) rfl (fun ls hl => ?_)
                        refine lv_iinc (v := (i7_20 + (1 : Int32))) (lv' := [(7, .int (i7_20 + (1 : Int32))), (6, .int x6_29), (5, .int x5_25), (0, .ref a0), (1, .int x1), (2, .int x2), (3, .int x3), (4, .int r_13), (8, .int r_22)]) hx hb dX8_said_158 hl (k := 7) rfl rfl (by decide) rfl (fun ls hl => ?_)
                        refine lv_goto (tgt := 90) hx hb dX8_said_161 (by decide) ?_
                        exact ih90 x5_25 x6_29 (i7_20 + (1 : Int32)) (hi _ (Option.some.inj hf).symm) H locs ls hP hD hS (lv_sub hl [3, 4, 5, 6, 7, 2, 1, 0] rfl)
                      · replace hf := it_f c26 hf
                        refine lv_aload_n hx hb dX8_said_127 rfl (lv_at hl 1 rfl) ?_
                        refine lv_iload_n hx hb dX8_said_128 rfl (lv_at hl 2 rfl) ?_
                        obtain ⟨r_30, hq31, hf⟩ := bd1_el hf
                        refine mc_V (As := [.int x1]) (rest := []) (wr := []) (wn := [(a0, .inr (8, [.ref a1, .ref a2, .int v_acts, .ref a3, .ref a4, .int v_keptActs, .ref a5, .int v_typed, .ref a6, .ref a7, .ref a8, .ref a9, .ref a10, .int v_isSet, .ref a11, .ref a12, .ref a13, .int v_arePages, .ref a14, .ref a15, .int v_place, .ref a16, .int v_readMany])), (a1, .inl (cI, 189, .inl v_now))]) ⟨hx, hb, hml, hown, hT⟩ (c_X8_indent l dC dI cI cJ cP cS a0 a1 a2 a3 a4 a5 a6 a7 a8 a9 a10 a11 a12 a13 a14 a15 a16 v_acts v_keptActs v_typed v_isSet v_arePages v_place v_readMany v_now x1 r_30 hq31) (cwV 1 hT (gdV q_ml_X8_88 q_im_X8_indent q_se_X8_indent q_in_X8 q_co_X8_indent) rfl rfl rfl hd_X8_indent ⟨Nat.le_of_ble_eq_true rfl, Nat.le_of_ble_eq_true rfl⟩) hK hF hP hD hS hA 0 rfl rfl rfl [0, 1] [] [0, 1] rfl (by decide) rfl (by decide) (by decide) rfl (by decide) rfl hl.1 rfl (Nat.le_of_ble_eq_true rfl) dX8_said_129 ⟨Nat.zero_le _, Nat.zero_le _⟩ (fun H locs hP hD hS => ?_)
                        refine W.eq (g2 := F0 m 132 ls [.int r_30]) rfl ?_
                        refine lv_aload_n hx hb dX8_said_132 rfl (lv_at hl 1 rfl) ?_
                        refine va_get (D := (dC, dI)) (ci := 8) (v := .ref a1) (C := RX8) (T := TX8) (N := 23) hx hb hT in_X8 hown hK hP 0 rfl rfl 0 (by decide) (hT _ q_fl_X8_7) (fun _ h9 => h9) rfl dX8_said_133 ?_
                        refine lv_iconst (v := 4) hx hb dX8_said_136 (by decide) ?_
                        refine ia_ld hx hb hK hP 1 0 rfl rfl (ib_in (by decide)) (j := 4) (by decide) dX8_said_137 ?_
                        refine lv_iadd hx hb dX8_said_138 ?_
                        refine lv_goto (tgt := 156) hx hb dX8_said_139 (by decide) ?_
                        obtain ⟨x6_32, ex6_32, hf⟩ := nm_el hf
                        refine lv_as (congrArg Value.int ex6_32) ?_
                        refine lv_istore (lv' := [(6, .int x6_32), (5, .int x5_25), (0, .ref a0), (1, .int x1), (2, .int x2), (3, .int x3), (4, .int r_13), (7, .int i7_20), (8, .int r_22)]) hx hb dX8_said_156 hl (by decide) rfl (fun ls hl => ?_)
                        refine lv_iinc (v := (i7_20 + (1 : Int32))) (lv' := [(7, .int (i7_20 + (1 : Int32))), (6, .int x6_32), (5, .int x5_25), (0, .ref a0), (1, .int x1), (2, .int x2), (3, .int x3), (4, .int r_13), (8, .int r_22)]) hx hb dX8_said_158 hl (k := 7) rfl rfl (by decide) rfl (fun ls hl => ?_)
                        refine lv_goto (tgt := 90) hx hb dX8_said_161 (by decide) ?_
                        exact ih90 x5_25 x6_32 (i7_20 + (1 : Int32)) (hi _ (Option.some.inj hf).symm) H locs ls hP hD hS (lv_sub hl [3, 4, 5, 6, 7, 2, 1, 0] rfl)
                    refine lv_if_eq (tgt := 118) hx hb dX8_said_111 (by decide) (fun c33 => ?_) (fun c33 => ?_)
                    · replace hf := it_t c33 hf
                      refine lv_iconst (v := 0) hx hb dX8_said_118 (by decide) ?_
                      exact hB119_24 (0 : Int32) hf H locs ls hP hD hS (lv_sub hl [1, 2, 3, 4, 5, 7, 8, 0] rfl)
                    · replace hf := it_f c33 hf
                      refine lv_iconst (v := 1) hx hb dX8_said_114 (by decide) ?_
                      refine lv_goto (tgt := 119) hx hb dX8_said_115 (by decide) ?_
                      exact hB119_24 (1 : Int32) hf H locs ls hP hD hS (lv_sub hl [1, 2, 3, 4, 5, 7, 8, 0] rfl)
              obtain ⟨f5_37, f6_38, f7_39, hq, hf⟩ := bd3_el hf
              refine hL90 (f5_37, f6_38, f7_39) (fun z_34 z_35 z_36 h9 H locs ls hP hD hS hl => ?_) fuel (0 : Int32) r_16 (0 : Int32) hq H locs ls hP hD hS (lv_sub hl [4, 5, 6, 7, 3, 2, 1, 0] rfl)
              simp only [Prod.mk.injEq] at h9
              obtain ⟨h9_0, h9_1, h9_2⟩ := h9
              subst h9_0; subst h9_1; subst h9_2
              refine lv_iload_n hx hb dX8_said_164 rfl (lv_at hl 0 rfl) ?_
              refine lv_iconst (v := 2) hx hb dX8_said_165 (by decide) ?_
              refine lv_icmp_ne (tgt := 174) hx hb dX8_said_166 (by decide) (fun c40 => ?_) (fun c40 => ?_)
              · replace hf := it_f c40 hf
                refine lv_iload hx hb dX8_said_174 (lv_at hl 2 rfl) ?_
                replace hf := Option.some.inj hf
                subst hf
                exact hret H locs ls _ dX8_said_176 hP hD hS
              · replace hf := it_t c40 hf
                refine lv_iload hx hb dX8_said_169 (lv_at hl 1 rfl) ?_
                refine lv_goto (tgt := 176) hx hb dX8_said_171 (by decide) ?_
                replace hf := Option.some.inj hf
                subst hf
                exact hret H locs ls _ dX8_said_176 hP hD hS
            · replace hf := it_f c15 hf
              refine lv_bipush (v := (-4)) hx hb dX8_said_74 (by decide) ?_
              replace hf := Option.some.inj hf
              subst hf
              exact hret H locs ls _ dX8_said_76 hP hD hS
          · replace hf := it_f c12 hf
            refine lv_aload_n hx hb dX8_said_44 rfl (lv_at hl 0 rfl) ?_
            refine lv_iload_n hx hb dX8_said_45 rfl (lv_at hl 1 rfl) ?_
            refine lv_iload_n hx hb dX8_said_46 rfl (lv_at hl 3 rfl) ?_
            have hB56_41 : ∀ (w2_41 : Int32), p_X8_said_B56_41 v_now x1 x2 w2_41 = some rv → ∀ (H : Heap) (locs : List Loc) (ls : Array Slot), va_P (dC, dI) vwCl [(a0, .inr (8, [.ref a1, .ref a2, .int v_acts, .ref a3, .ref a4, .int v_keptActs, .ref a5, .int v_typed, .ref a6, .ref a7, .ref a8, .ref a9, .ref a10, .int v_isSet, .ref a11, .ref a12, .ref a13, .int v_arePages, .ref a14, .ref a15, .int v_place, .ref a16, .int v_readMany])), (a1, .inl (cI, 189, .inl v_now))] H → va_D A [(a0, .inr (8, [.ref a1, .ref a2, .int v_acts, .ref a3, .ref a4, .int v_keptActs, .ref a5, .int v_typed, .ref a6, .ref a7, .ref a8, .ref a9, .ref a10, .int v_isSet, .ref a11, .ref a12, .ref a13, .int v_arePages, .ref a14, .ref a15, .int v_place, .ref a16, .int v_readMany])), (a1, .inl (cI, 189, .inl v_now))] → va_S A s.heap H locs → lv_has ls 9 [(2, .int x2)] → W p l e ({ frames := 7, cells := 0, slots := 0, locals := 162 } : Room) s m args below meth c H locs 0 0 Q (F0 m 56 ls [.int w2_41, .int x1, .ref a0]) := by
              intro w2_41 hf H locs ls hP hD hS hl
              refine lv_iload_n hx hb dX8_said_56 rfl (lv_at hl 0 rfl) ?_
              refine lv_iadd hx hb dX8_said_57 ?_
              obtain ⟨r_42, hq43, hf⟩ := bd1_el hf
              refine mc_V (As := [.int x1, .int (w2_41 + x2)]) (rest := []) (wr := []) (wn := [(a0, .inr (8, [.ref a1, .ref a2, .int v_acts, .ref a3, .ref a4, .int v_keptActs, .ref a5, .int v_typed, .ref a6, .ref a7, .ref a8, .ref a9, .ref a10, .int v_isSet, .ref a11, .ref a12, .ref a13, .int v_arePages, .ref a14, .ref a15, .int v_place, .ref a16, .int v_readMany])), (a1, .inl (cI, 189, .inl v_now))]) ⟨hx, hb, hml, hown, hT⟩ (c_X8_at l dC dI cI cJ cP cS a0 a1 a2 a3 a4 a5 a6 a7 a8 a9 a10 a11 a12 a13 a14 a15 a16 v_acts v_keptActs v_typed v_isSet v_arePages v_place v_readMany v_now x1 (w2_41 + x2) r_42 hq43) (cwV 2 hT (gdV q_ml_X8_67 q_im_X8_at q_se_X8_at q_in_X8 q_co_X8_at) rfl rfl rfl hd_X8_at ⟨Nat.le_of_ble_eq_true rfl, Nat.le_of_ble_eq_true rfl⟩) hK hF hP hD hS hA 0 rfl rfl rfl [0, 1] [] [0, 1] rfl (by decide) rfl (by decide) (by decide) rfl (by decide) rfl hl.1 rfl (Nat.le_of_ble_eq_true rfl) dX8_said_58 ⟨Nat.zero_le _, Nat.zero_le _⟩ (fun H locs hP hD hS => ?_)
              refine W.eq (g2 := F0 m 61 ls [.int r_42]) rfl ?_
              replace hf := Option.some.inj hf
              subst hf
              exact hret H locs ls _ dX8_said_61 hP hD hS
            refine lv_if_ne (tgt := 54) hx hb dX8_said_47 (by decide) (fun c44 => ?_) (fun c44 => ?_)
            · replace hf := it_f c44 hf
              refine lv_bipush (v := 9) hx hb dX8_said_54 (by decide) ?_
              exact hB56_41 (9 : Int32) hf H locs ls hP hD hS (lv_sub hl [2] rfl)
            · replace hf := it_t c44 hf
              refine lv_iconst (v := 3) hx hb dX8_said_50 (by decide) ?_
              refine lv_goto (tgt := 56) hx hb dX8_said_51 (by decide) ?_
              exact hB56_41 (3 : Int32) hf H locs ls hP hD hS (lv_sub hl [2] rfl)
        · replace hf := it_t c11 hf
          refine lv_iconst (v := (-1)) hx hb dX8_said_37 (by decide) ?_
          replace hf := Option.some.inj hf
          subst hf
          exact hret H locs ls _ dX8_said_38 hP hD hS
  refine key _ ?_ _ _ _ hP hD hS hl
  intro H locs ls pc d hP hD hS
  exact W.iret (v := rv) hx hb hr (fun t ht hW => ⟨⟨rfl, by rw [ht]; exact hP, hD⟩, hS.F ht⟩) hS.2.2 d
def p_X8_count (v_acts : Int32) (v_isSet : Int32) (v_arePages : Int32) (v_now : (Nat → Int32)) (v_rows : (Nat → Int32)) (v_cuts : (Nat → Int32)) (v_pages : (Nat → Int32)) (v_next : (Nat → Int32)) (x1 : Int32) : Option (Int32 × Int32 × Int32 × (Nat → Int32) × (Nat → Int32) × (Nat → Int32) × (Nat → Int32)) :=
  (bd1 (p_X8_in (Int32.toInt64 x1) (0 : Int64) (6 : Int64)) fun r_1 => (if r_1 = (0 : Int32) then (bd6 (p_X8_lays v_isSet v_arePages v_now v_rows v_cuts v_pages v_next) fun v_isSet_4 v_arePages_5 v_rows_6 v_cuts_7 v_pages_8 v_next_9 => (if x1 = (7 : Int32) then (some ((v_now 0), v_isSet_4, v_arePages_5, v_rows_6, v_cuts_7, v_pages_8, v_next_9)) else (if x1 = (8 : Int32) then (bd1 (p_X8_stanzas v_now) fun r_13 => (some (r_13, v_isSet_4, v_arePages_5, v_rows_6, v_cuts_7, v_pages_8, v_next_9))) else (if x1 = (9 : Int32) then (bd1 (p_X8_allCosts v_now) fun r_16 => (some (r_16, v_isSet_4, v_arePages_5, v_rows_6, v_cuts_7, v_pages_8, v_next_9))) else (if x1 = (10 : Int32) then (if v_arePages_5 = (0 : Int32) then (some ((-4 : Int32), v_isSet_4, v_arePages_5, v_rows_6, v_cuts_7, v_pages_8, v_next_9)) else (some ((v_pages_8 0), v_isSet_4, v_arePages_5, v_rows_6, v_cuts_7, v_pages_8, v_next_9))) else (if x1 = (11 : Int32) then (if v_arePages_5 = (0 : Int32) then (some ((-4 : Int32), v_isSet_4, v_arePages_5, v_rows_6, v_cuts_7, v_pages_8, v_next_9)) else (some ((v_cuts_7 0), v_isSet_4, v_arePages_5, v_rows_6, v_cuts_7, v_pages_8, v_next_9))) else (if x1 = (12 : Int32) then (some (v_acts, v_isSet_4, v_arePages_5, v_rows_6, v_cuts_7, v_pages_8, v_next_9)) else (some ((-1 : Int32), v_isSet_4, v_arePages_5, v_rows_6, v_cuts_7, v_pages_8, v_next_9))))))))) else (gd (ib ((2 : Int32) + x1) 189) (some ((v_now (tn ((2 : Int32) + x1))), v_isSet, v_arePages, v_rows, v_cuts, v_pages, v_next)))))
set_option maxHeartbeats 4000000 in
set_option maxRecDepth 100000 in
theorem c_X8_count (l : Launch) (dC : Nat → ClassId) (dI : Nat → Nat → Nat) (cI cJ cP cS : ClassId) (a0 : Nat) (a1 : Nat) (a2 : Nat) (a3 : Nat) (a4 : Nat) (a5 : Nat) (a6 : Nat) (a7 : Nat) (a8 : Nat) (a9 : Nat) (a10 : Nat) (a11 : Nat) (a12 : Nat) (a13 : Nat) (a14 : Nat) (a15 : Nat) (a16 : Nat) (v_acts : Int32) (v_keptActs : Int32) (v_typed : Int32) (v_isSet : Int32) (v_arePages : Int32) (v_place : Int32) (v_readMany : Int32) (v_now : (Nat → Int32)) (v_rows : (Nat → Int32)) (v_cuts : (Nat → Int32)) (v_pages : (Nat → Int32)) (v_next : (Nat → Int32))  (x1 : Int32) (rv : Int32) (v_isSet_o : Int32) (v_arePages_o : Int32) (v_rows_o : (Nat → Int32)) (v_cuts_o : (Nat → Int32)) (v_pages_o : (Nat → Int32)) (v_next_o : (Nat → Int32)) (hf : p_X8_count v_acts v_isSet v_arePages v_now v_rows v_cuts v_pages v_next x1 = some (rv, v_isSet_o, v_arePages_o, v_rows_o, v_cuts_o, v_pages_o, v_next_o)) : MC l (dC, dI) (tyl cI cJ cP cS) yX8_count (Cond.code yX8_count cX8_count 2 (some .int) :: TBG) ({ frames := 10, cells := 0, slots := 0, locals := 230 } : Room) [.ref a0, .int x1] [(a0, .inr (8, [.ref a1, .ref a2, .int v_acts, .ref a3, .ref a4, .int v_keptActs, .ref a5, .int v_typed, .ref a6, .ref a7, .ref a8, .ref a9, .ref a10, .int v_isSet, .ref a11, .ref a12, .ref a13, .int v_arePages, .ref a14, .ref a15, .int v_place, .ref a16, .int v_readMany])), (a1, .inl (cI, 189, .inl v_now)), (a10, .inl (cI, 12, .inl v_rows)), (a11, .inl (cI, 13, .inl v_cuts)), (a12, .inl (cI, 13, .inl v_pages)), (a13, .inl (cI, 13, .inl v_next))] [(a0, .inr (8, [.ref a1, .ref a2, .int v_acts, .ref a3, .ref a4, .int v_keptActs, .ref a5, .int v_typed, .ref a6, .ref a7, .ref a8, .ref a9, .ref a10, .int v_isSet_o, .ref a11, .ref a12, .ref a13, .int v_arePages_o, .ref a14, .ref a15, .int v_place, .ref a16, .int v_readMany])), (a1, .inl (cI, 189, .inl v_now)), (a10, .inl (cI, 12, .inl v_rows_o)), (a11, .inl (cI, 13, .inl v_cuts_o)), (a12, .inl (cI, 13, .inl v_pages_o)), (a13, .inl (cI, 13, .inl v_next_o))] (some (.int rv)) := by
  intro sz
  unfold MPost
  refine Met.ofW (cc := cX8_count) (maxL := 2) (ret := (some .int)) (by decide) rfl ?_
  intro p e s m args below meth c s₁ B hml hv
  obtain ⟨rfl, hsz, hP, hK, hD0, hF⟩ := hv
  have hx := B.exec
  have hb := B.bytes
  have hr := B.returns
  have hT : ∀ w ∈ TBG, w.before _ s = true := fun w h => atoms_spec B.pre w (List.mem_cons_of_mem _ h)
  have hown : s.vm.findClass RX8 = some m.cls := findClass_of_methodNamed B.named
  have hlocks := B.notSynchronized
  subst hsz
  have hD := hD0.self (sz := s.heap.size)
  generalize hAe : va_A [(a0, .inr (8, [.ref a1, .ref a2, .int v_acts, .ref a3, .ref a4, .int v_keptActs, .ref a5, .int v_typed, .ref a6, .ref a7, .ref a8, .ref a9, .ref a10, .int v_isSet, .ref a11, .ref a12, .ref a13, .int v_arePages, .ref a14, .ref a15, .int v_place, .ref a16, .int v_readMany])), (a1, .inl (cI, 189, .inl v_now)), (a10, .inl (cI, 12, .inl v_rows)), (a11, .inl (cI, 13, .inl v_cuts)), (a12, .inl (cI, 13, .inl v_pages)), (a13, .inl (cI, 13, .inl v_next))] s.heap.size = A at hD hF ⊢
  have hA : ∀ q : Nat, s.heap.size ≤ q → A q := fun q h => by rw [← hAe]; exact Or.inr h
  have hS : va_S A s.heap s.heap [] := va_S.rf
  have hl := lv_entry ([.ref a0, .int x1]) (n := 2) (Nat.le_of_ble_eq_true rfl)
  rw [lg_entry_eq]
  generalize (lg_sl ([.ref a0, .int x1]) ++ List.replicate (2 - (lg_sl ([.ref a0, .int x1])).length) Slot.unset).toArray = ls at hl ⊢
  have hl : lv_has ls 2 [(0, .ref a0), (1, .int x1)] := hl
  generalize ([.ref a0, .int x1] : List Value).toArray = args at hT ⊢
  have key : ∀ (Q : State → Prop), (∀ (H : Heap) (locs : List Loc) (ls : Array Slot) (pc : Nat), decode cX8_count pc = .ok (.ireturn, 1) → va_P (dC, dI) vwCl [(a0, .inr (8, [.ref a1, .ref a2, .int v_acts, .ref a3, .ref a4, .int v_keptActs, .ref a5, .int v_typed, .ref a6, .ref a7, .ref a8, .ref a9, .ref a10, .int v_isSet_o, .ref a11, .ref a12, .ref a13, .int v_arePages_o, .ref a14, .ref a15, .int v_place, .ref a16, .int v_readMany])), (a1, .inl (cI, 189, .inl v_now)), (a10, .inl (cI, 12, .inl v_rows_o)), (a11, .inl (cI, 13, .inl v_cuts_o)), (a12, .inl (cI, 13, .inl v_pages_o)), (a13, .inl (cI, 13, .inl v_next_o))] H → va_D A [(a0, .inr (8, [.ref a1, .ref a2, .int v_acts, .ref a3, .ref a4, .int v_keptActs, .ref a5, .int v_typed, .ref a6, .ref a7, .ref a8, .ref a9, .ref a10, .int v_isSet_o, .ref a11, .ref a12, .ref a13, .int v_arePages_o, .ref a14, .ref a15, .int v_place, .ref a16, .int v_readMany])), (a1, .inl (cI, 189, .inl v_now)), (a10, .inl (cI, 12, .inl v_rows_o)), (a11, .inl (cI, 13, .inl v_cuts_o)), (a12, .inl (cI, 13, .inl v_pages_o)), (a13, .inl (cI, 13, .inl v_next_o))] → va_S A s.heap H locs → W p l e ({ frames := 10, cells := 0, slots := 0, locals := 230 } : Room) s m args below meth c H locs 0 0 Q (F0 m pc ls [.int rv])) → ∀ (H : Heap) (locs : List Loc) (ls : Array Slot), va_P (dC, dI) vwCl [(a0, .inr (8, [.ref a1, .ref a2, .int v_acts, .ref a3, .ref a4, .int v_keptActs, .ref a5, .int v_typed, .ref a6, .ref a7, .ref a8, .ref a9, .ref a10, .int v_isSet, .ref a11, .ref a12, .ref a13, .int v_arePages, .ref a14, .ref a15, .int v_place, .ref a16, .int v_readMany])), (a1, .inl (cI, 189, .inl v_now)), (a10, .inl (cI, 12, .inl v_rows)), (a11, .inl (cI, 13, .inl v_cuts)), (a12, .inl (cI, 13, .inl v_pages)), (a13, .inl (cI, 13, .inl v_next))] H → va_D A [(a0, .inr (8, [.ref a1, .ref a2, .int v_acts, .ref a3, .ref a4, .int v_keptActs, .ref a5, .int v_typed, .ref a6, .ref a7, .ref a8, .ref a9, .ref a10, .int v_isSet, .ref a11, .ref a12, .ref a13, .int v_arePages, .ref a14, .ref a15, .int v_place, .ref a16, .int v_readMany])), (a1, .inl (cI, 189, .inl v_now)), (a10, .inl (cI, 12, .inl v_rows)), (a11, .inl (cI, 13, .inl v_cuts)), (a12, .inl (cI, 13, .inl v_pages)), (a13, .inl (cI, 13, .inl v_next))] → va_S A s.heap H locs → lv_has ls 2 [(0, .ref a0), (1, .int x1)] → W p l e ({ frames := 10, cells := 0, slots := 0, locals := 230 } : Room) s m args below meth c H locs 0 0 Q (F0 m 0 ls []) := by
    intro Q hret H locs ls hP hD hS hl
    refine lv_iload_n hx hb dX8_count_0 rfl (lv_at hl 1 rfl) ?_
    refine lv_i2l hx hb dX8_count_1 rfl ?_
    refine lv_lconst (v := 0) hx hb dX8_count_2 (by decide) ?_
    refine lv_ldc2 hx hb hown (hT _ q_kl_X8_152) dX8_count_3 ?_
    obtain ⟨r_1, hq2, hf⟩ := bd1_el hf
    refine mc_S (As := [.long (Int32.toInt64 x1), .long (0 : Int64), .long (6 : Int64)]) (rest := []) (wr := [(a0, .inr (8, [.ref a1, .ref a2, .int v_acts, .ref a3, .ref a4, .int v_keptActs, .ref a5, .int v_typed, .ref a6, .ref a7, .ref a8, .ref a9, .ref a10, .int v_isSet, .ref a11, .ref a12, .ref a13, .int v_arePages, .ref a14, .ref a15, .int v_place, .ref a16, .int v_readMany])), (a1, .inl (cI, 189, .inl v_now)), (a10, .inl (cI, 12, .inl v_rows)), (a11, .inl (cI, 13, .inl v_cuts)), (a12, .inl (cI, 13, .inl v_pages)), (a13, .inl (cI, 13, .inl v_next))]) (wn := [(a0, .inr (8, [.ref a1, .ref a2, .int v_acts, .ref a3, .ref a4, .int v_keptActs, .ref a5, .int v_typed, .ref a6, .ref a7, .ref a8, .ref a9, .ref a10, .int v_isSet, .ref a11, .ref a12, .ref a13, .int v_arePages, .ref a14, .ref a15, .int v_place, .ref a16, .int v_readMany])), (a1, .inl (cI, 189, .inl v_now)), (a10, .inl (cI, 12, .inl v_rows)), (a11, .inl (cI, 13, .inl v_cuts)), (a12, .inl (cI, 13, .inl v_pages)), (a13, .inl (cI, 13, .inl v_next))]) ⟨hx, hb, hml, hown, hT⟩ (c_X8_in l dC dI cI cJ cP cS (Int32.toInt64 x1) (0 : Int64) (6 : Int64) r_1 hq2) (va_cwS 3 hT (gdS q_ml_X8_63 q_st_X8_in q_in_X8 q_co_X8_in) rfl rfl rfl hd_X8_in ⟨Nat.le_of_ble_eq_true rfl, Nat.le_of_ble_eq_true rfl⟩) hK hF hP hD hS hA [] [0, 1, 2, 3, 4, 5] [0, 1, 2, 3, 4, 5] rfl (by decide) rfl (by decide) (by decide) rfl (by decide) rfl hl.1 rfl (Nat.le_of_ble_eq_true rfl) dX8_count_6 ⟨Nat.zero_le _, Nat.zero_le _⟩ (fun H locs hP hD hS => ?_)
    refine W.eq (g2 := F0 m 9 ls [.int r_1]) rfl ?_
    refine lv_if_eq (tgt := 21) hx hb dX8_count_9 (by decide) (fun c3 => ?_) (fun c3 => ?_)
    · replace hf := it_t c3 hf
      refine lv_aload_n hx hb dX8_count_21 rfl (lv_at hl 0 rfl) ?_
      obtain ⟨v_isSet_4, v_arePages_5, v_rows_6, v_cuts_7, v_pages_8, v_next_9, hq10, hf⟩ := bd6_el hf
      refine mc_V (As := []) (rest := []) (wr := []) (wn := [(a0, .inr (8, [.ref a1, .ref a2, .int v_acts, .ref a3, .ref a4, .int v_keptActs, .ref a5, .int v_typed, .ref a6, .ref a7, .ref a8, .ref a9, .ref a10, .int v_isSet_4, .ref a11, .ref a12, .ref a13, .int v_arePages_5, .ref a14, .ref a15, .int v_place, .ref a16, .int v_readMany])), (a1, .inl (cI, 189, .inl v_now)), (a10, .inl (cI, 12, .inl v_rows_6)), (a11, .inl (cI, 13, .inl v_cuts_7)), (a12, .inl (cI, 13, .inl v_pages_8)), (a13, .inl (cI, 13, .inl v_next_9))]) ⟨hx, hb, hml, hown, hT⟩ (c_X8_lays l dC dI cI cJ cP cS a0 a1 a2 a3 a4 a5 a6 a7 a8 a9 a10 a11 a12 a13 a14 a15 a16 v_acts v_keptActs v_typed v_isSet v_arePages v_place v_readMany v_now v_rows v_cuts v_pages v_next v_isSet_4 v_arePages_5 v_rows_6 v_cuts_7 v_pages_8 v_next_9 hq10) (cwV 0 hT (gdV q_ml_X8_136 q_im_X8_lays q_se_X8_lays q_in_X8 q_co_X8_lays) rfl rfl rfl hd_X8_lays ⟨Nat.le_of_ble_eq_true rfl, Nat.le_of_ble_eq_true rfl⟩) hK hF hP hD hS hA 0 rfl rfl rfl [0, 1, 2, 3, 4, 5] [] [0, 1, 2, 3, 4, 5] rfl (by decide) rfl (by decide) (by decide) rfl (by decide) rfl hl.1 rfl (Nat.le_of_ble_eq_true rfl) dX8_count_22 ⟨Nat.zero_le _, Nat.zero_le _⟩ (fun H locs hP hD hS => ?_)
      refine W.eq (g2 := F0 m 25 ls []) rfl ?_
      refine lv_iload_n hx hb dX8_count_25 rfl (lv_at hl 1 rfl) ?_
      by_cases c11 : x1 = (7 : Int32)
      · replace hf := it_t c11 hf
        refine lv_tableIn (tgt := 64) (off := 38) hx hb dX8_count_26 (by rw [c11]; decide) (by rw [c11]; decide) (by rw [c11]; rfl) (by decide) ?_
        refine lv_aload_n hx hb dX8_count_64 rfl (lv_at hl 0 rfl) ?_
        refine va_get (D := (dC, dI)) (ci := 8) (v := .ref a1) (C := RX8) (T := TX8) (N := 23) hx hb hT in_X8 hown hK hP 0 rfl rfl 0 (by decide) (hT _ q_fl_X8_7) (fun _ h9 => h9) rfl dX8_count_65 ?_
        refine lv_iconst (v := 0) hx hb dX8_count_68 (by decide) ?_
        refine ia_ld hx hb hK hP 1 0 rfl rfl (ib_in (by decide)) (j := 0) (by decide) dX8_count_69 ?_
        replace hf := Option.some.inj hf
        simp only [Prod.mk.injEq] at hf
        obtain ⟨hf0, hf1, hf2, hf3, hf4, hf5, hf6⟩ := hf
        subst hf0; subst hf1; subst hf2; subst hf3; subst hf4; subst hf5; subst hf6
        exact hret H locs ls _ dX8_count_70 hP hD hS
      replace hf := it_f c11 hf
      by_cases c12 : x1 = (8 : Int32)
      · replace hf := it_t c12 hf
        refine lv_tableIn (tgt := 71) (off := 45) hx hb dX8_count_26 (by rw [c12]; decide) (by rw [c12]; decide) (by rw [c12]; rfl) (by decide) ?_
        refine lv_aload_n hx hb dX8_count_71 rfl (lv_at hl 0 rfl) ?_
        obtain ⟨r_13, hq14, hf⟩ := bd1_el hf
        refine mc_V (As := []) (rest := []) (wr := [(a10, .inl (cI, 12, .inl v_rows_6)), (a11, .inl (cI, 13, .inl v_cuts_7)), (a12, .inl (cI, 13, .inl v_pages_8)), (a13, .inl (cI, 13, .inl v_next_9))]) (wn := [(a0, .inr (8, [.ref a1, .ref a2, .int v_acts, .ref a3, .ref a4, .int v_keptActs, .ref a5, .int v_typed, .ref a6, .ref a7, .ref a8, .ref a9, .ref a10, .int v_isSet_4, .ref a11, .ref a12, .ref a13, .int v_arePages_5, .ref a14, .ref a15, .int v_place, .ref a16, .int v_readMany])), (a1, .inl (cI, 189, .inl v_now)), (a10, .inl (cI, 12, .inl v_rows_6)), (a11, .inl (cI, 13, .inl v_cuts_7)), (a12, .inl (cI, 13, .inl v_pages_8)), (a13, .inl (cI, 13, .inl v_next_9))]) ⟨hx, hb, hml, hown, hT⟩ (c_X8_stanzas l dC dI cI cJ cP cS a0 a1 a2 a3 a4 a5 a6 a7 a8 a9 a10 a11 a12 a13 a14 a15 a16 v_acts v_keptActs v_typed v_isSet_4 v_arePages_5 v_place v_readMany v_now r_13 hq14) (cwV 0 hT (gdV q_ml_X8_154 q_im_X8_stanzas q_se_X8_stanzas q_in_X8 q_co_X8_stanzas) rfl rfl rfl hd_X8_stanzas ⟨Nat.le_of_ble_eq_true rfl, Nat.le_of_ble_eq_true rfl⟩) hK hF hP hD hS hA 0 rfl rfl rfl [0, 1] [2, 3, 4, 5] [4, 5, 0, 1, 2, 3] rfl (by decide) rfl (by decide) (by decide) rfl (by decide) rfl hl.1 rfl (Nat.le_of_ble_eq_true rfl) dX8_count_72 ⟨Nat.zero_le _, Nat.zero_le _⟩ (fun H locs hP hD hS => ?_)
        refine W.eq (g2 := F0 m 75 ls [.int r_13]) rfl ?_
        replace hf := Option.some.inj hf
        simp only [Prod.mk.injEq] at hf
        obtain ⟨hf0, hf1, hf2, hf3, hf4, hf5, hf6⟩ := hf
        subst hf0; subst hf1; subst hf2; subst hf3; subst hf4; subst hf5; subst hf6
        exact hret H locs ls _ dX8_count_75 hP hD hS
      replace hf := it_f c12 hf
      by_cases c15 : x1 = (9 : Int32)
      · replace hf := it_t c15 hf
        refine lv_tableIn (tgt := 76) (off := 50) hx hb dX8_count_26 (by rw [c15]; decide) (by rw [c15]; decide) (by rw [c15]; rfl) (by decide) ?_
        refine lv_aload_n hx hb dX8_count_76 rfl (lv_at hl 0 rfl) ?_
        obtain ⟨r_16, hq17, hf⟩ := bd1_el hf
        refine mc_V (As := []) (rest := []) (wr := [(a10, .inl (cI, 12, .inl v_rows_6)), (a11, .inl (cI, 13, .inl v_cuts_7)), (a12, .inl (cI, 13, .inl v_pages_8)), (a13, .inl (cI, 13, .inl v_next_9))]) (wn := [(a0, .inr (8, [.ref a1, .ref a2, .int v_acts, .ref a3, .ref a4, .int v_keptActs, .ref a5, .int v_typed, .ref a6, .ref a7, .ref a8, .ref a9, .ref a10, .int v_isSet_4, .ref a11, .ref a12, .ref a13, .int v_arePages_5, .ref a14, .ref a15, .int v_place, .ref a16, .int v_readMany])), (a1, .inl (cI, 189, .inl v_now)), (a10, .inl (cI, 12, .inl v_rows_6)), (a11, .inl (cI, 13, .inl v_cuts_7)), (a12, .inl (cI, 13, .inl v_pages_8)), (a13, .inl (cI, 13, .inl v_next_9))]) ⟨hx, hb, hml, hown, hT⟩ (c_X8_allCosts l dC dI cI cJ cP cS a0 a1 a2 a3 a4 a5 a6 a7 a8 a9 a10 a11 a12 a13 a14 a15 a16 v_acts v_keptActs v_typed v_isSet_4 v_arePages_5 v_place v_readMany v_now r_16 hq17) (cwV 0 hT (gdV q_ml_X8_158 q_im_X8_allCosts q_se_X8_allCosts q_in_X8 q_co_X8_allCosts) rfl rfl rfl hd_X8_allCosts ⟨Nat.le_of_ble_eq_true rfl, Nat.le_of_ble_eq_true rfl⟩) hK hF hP hD hS hA 0 rfl rfl rfl [0, 1] [2, 3, 4, 5] [4, 5, 0, 1, 2, 3] rfl (by decide) rfl (by decide) (by decide) rfl (by decide) rfl hl.1 rfl (Nat.le_of_ble_eq_true rfl) dX8_count_77 ⟨Nat.zero_le _, Nat.zero_le _⟩ (fun H locs hP hD hS => ?_)
        refine W.eq (g2 := F0 m 80 ls [.int r_16]) rfl ?_
        replace hf := Option.some.inj hf
        simp only [Prod.mk.injEq] at hf
        obtain ⟨hf0, hf1, hf2, hf3, hf4, hf5, hf6⟩ := hf
        subst hf0; subst hf1; subst hf2; subst hf3; subst hf4; subst hf5; subst hf6
        exact hret H locs ls _ dX8_count_80 hP hD hS
      replace hf := it_f c15 hf
      by_cases c18 : x1 = (10 : Int32)
      · replace hf := it_t c18 hf
        refine lv_tableIn (tgt := 81) (off := 55) hx hb dX8_count_26 (by rw [c18]; decide) (by rw [c18]; decide) (by rw [c18]; rfl) (by decide) ?_
        refine lv_aload_n hx hb dX8_count_81 rfl (lv_at hl 0 rfl) ?_
        refine va_get (D := (dC, dI)) (ci := 8) (v := .int v_arePages_5) (C := RX8) (T := TX8) (N := 23) hx hb hT in_X8 hown hK hP 0 rfl rfl 17 (by decide) (hT _ q_fl_X8_133) (fun _ h9 => h9) rfl dX8_count_82 ?_
        refine lv_if_eq (tgt := 97) hx hb dX8_count_85 (by decide) (fun c19 => ?_) (fun c19 => ?_)
        · replace hf := it_t c19 hf
          refine lv_bipush (v := (-4)) hx hb dX8_count_97 (by decide) ?_
          replace hf := Option.some.inj hf
          simp only [Prod.mk.injEq] at hf
          obtain ⟨hf0, hf1, hf2, hf3, hf4, hf5, hf6⟩ := hf
          subst hf0; subst hf1; subst hf2; subst hf3; subst hf4; subst hf5; subst hf6
          exact hret H locs ls _ dX8_count_99 hP hD hS
        · replace hf := it_f c19 hf
          refine lv_aload_n hx hb dX8_count_88 rfl (lv_at hl 0 rfl) ?_
          refine va_get (D := (dC, dI)) (ci := 8) (v := .ref a12) (C := RX8) (T := TX8) (N := 23) hx hb hT in_X8 hown hK hP 0 rfl rfl 15 (by decide) (hT _ q_fl_X8_48) (fun _ h9 => h9) rfl dX8_count_89 ?_
          refine lv_iconst (v := 0) hx hb dX8_count_92 (by decide) ?_
          refine ia_ld hx hb hK hP 4 0 rfl rfl (ib_in (by decide)) (j := 0) (by decide) dX8_count_93 ?_
          refine lv_goto (tgt := 99) hx hb dX8_count_94 (by decide) ?_
          replace hf := Option.some.inj hf
          simp only [Prod.mk.injEq] at hf
          obtain ⟨hf0, hf1, hf2, hf3, hf4, hf5, hf6⟩ := hf
          subst hf0; subst hf1; subst hf2; subst hf3; subst hf4; subst hf5; subst hf6
          exact hret H locs ls _ dX8_count_99 hP hD hS
      replace hf := it_f c18 hf
      by_cases c20 : x1 = (11 : Int32)
      · replace hf := it_t c20 hf
        refine lv_tableIn (tgt := 100) (off := 74) hx hb dX8_count_26 (by rw [c20]; decide) (by rw [c20]; decide) (by rw [c20]; rfl) (by decide) ?_
        refine lv_aload_n hx hb dX8_count_100 rfl (lv_at hl 0 rfl) ?_
        refine va_get (D := (dC, dI)) (ci := 8) (v := .int v_arePages_5) (C := RX8) (T := TX8) (N := 23) hx hb hT in_X8 hown hK hP 0 rfl rfl 17 (by decide) (hT _ q_fl_X8_133) (fun _ h9 => h9) rfl dX8_count_101 ?_
        refine lv_if_eq (tgt := 116) hx hb dX8_count_104 (by decide) (fun c21 => ?_) (fun c21 => ?_)
        · replace hf := it_t c21 hf
          refine lv_bipush (v := (-4)) hx hb dX8_count_116 (by decide) ?_
          replace hf := Option.some.inj hf
          simp only [Prod.mk.injEq] at hf
          obtain ⟨hf0, hf1, hf2, hf3, hf4, hf5, hf6⟩ := hf
          subst hf0; subst hf1; subst hf2; subst hf3; subst hf4; subst hf5; subst hf6
          exact hret H locs ls _ dX8_count_118 hP hD hS
        · replace hf := it_f c21 hf
          refine lv_aload_n hx hb dX8_count_107 rfl (lv_at hl 0 rfl) ?_
          refine va_get (D := (dC, dI)) (ci := 8) (v := .ref a11) (C := RX8) (T := TX8) (N := 23) hx hb hT in_X8 hown hK hP 0 rfl rfl 14 (by decide) (hT _ q_fl_X8_45) (fun _ h9 => h9) rfl dX8_count_108 ?_
          refine lv_iconst (v := 0) hx hb dX8_count_111 (by decide) ?_
          refine ia_ld hx hb hK hP 3 0 rfl rfl (ib_in (by decide)) (j := 0) (by decide) dX8_count_112 ?_
          refine lv_goto (tgt := 118) hx hb dX8_count_113 (by decide) ?_
          replace hf := Option.some.inj hf
          simp only [Prod.mk.injEq] at hf
          obtain ⟨hf0, hf1, hf2, hf3, hf4, hf5, hf6⟩ := hf
          subst hf0; subst hf1; subst hf2; subst hf3; subst hf4; subst hf5; subst hf6
          exact hret H locs ls _ dX8_count_118 hP hD hS
      replace hf := it_f c20 hf
      by_cases c22 : x1 = (12 : Int32)
      · replace hf := it_t c22 hf
        refine lv_tableIn (tgt := 119) (off := 93) hx hb dX8_count_26 (by rw [c22]; decide) (by rw [c22]; decide) (by rw [c22]; rfl) (by decide) ?_
        refine lv_aload_n hx hb dX8_count_119 rfl (lv_at hl 0 rfl) ?_
        refine va_get (D := (dC, dI)) (ci := 8) (v := .int v_acts) (C := RX8) (T := TX8) (N := 23) hx hb hT in_X8 hown hK hP 0 rfl rfl 2 (by decide) (hT _ q_fl_X8_161) (fun _ h9 => h9) rfl dX8_count_120 ?_
        replace hf := Option.some.inj hf
        simp only [Prod.mk.injEq] at hf
        obtain ⟨hf0, hf1, hf2, hf3, hf4, hf5, hf6⟩ := hf
        subst hf0; subst hf1; subst hf2; subst hf3; subst hf4; subst hf5; subst hf6
        exact hret H locs ls _ dX8_count_123 hP hD hS
      replace hf := it_f c22 hf
      refine lv_tableOut (tgt := 124) hx hb dX8_count_26 (by have ec11 := ne_ti (n := 7) (by decide) c11; have ec12 := ne_ti (n := 8) (by decide) c12; have ec15 := ne_ti (n := 9) (by decide) c15; have ec18 := ne_ti (n := 10) (by decide) c18; have ec20 := ne_ti (n := 11) (by decide) c20; have ec22 := ne_ti (n := 12) (by decide) c22; omega) (by decide) ?_
      refine lv_iconst (v := (-1)) hx hb dX8_count_124 (by decide) ?_
      replace hf := Option.some.inj hf
      simp only [Prod.mk.injEq] at hf
      obtain ⟨hf0, hf1, hf2, hf3, hf4, hf5, hf6⟩ := hf
      subst hf0; subst hf1; subst hf2; subst hf3; subst hf4; subst hf5; subst hf6
      exact hret H locs ls _ dX8_count_125 hP hD hS
    · replace hf := it_f c3 hf
      refine lv_aload_n hx hb dX8_count_12 rfl (lv_at hl 0 rfl) ?_
      refine va_get (D := (dC, dI)) (ci := 8) (v := .ref a1) (C := RX8) (T := TX8) (N := 23) hx hb hT in_X8 hown hK hP 0 rfl rfl 0 (by decide) (hT _ q_fl_X8_7) (fun _ h9 => h9) rfl dX8_count_13 ?_
      refine lv_iconst (v := 2) hx hb dX8_count_16 (by decide) ?_
      refine lv_iload_n hx hb dX8_count_17 rfl (lv_at hl 1 rfl) ?_
      refine lv_iadd hx hb dX8_count_18 ?_
      obtain ⟨h23, hf⟩ := gd_el hf
      refine ia_ld hx hb hK hP 1 0 rfl rfl (ib_in h23) (j := (tn ((2 : Int32) + x1))) rfl dX8_count_19 ?_
      replace hf := Option.some.inj hf
      simp only [Prod.mk.injEq] at hf
      obtain ⟨hf0, hf1, hf2, hf3, hf4, hf5, hf6⟩ := hf
      subst hf0; subst hf1; subst hf2; subst hf3; subst hf4; subst hf5; subst hf6
      exact hret H locs ls _ dX8_count_20 hP hD hS
  refine key _ ?_ _ _ _ hP hD hS hl
  intro H locs ls pc d hP hD hS
  exact W.iret (v := rv) hx hb hr (fun t ht hW => ⟨⟨rfl, by rw [ht]; exact hP, hD⟩, hS.F ht⟩) hS.2.2 d
def p_X8_settings (v_now : (Nat → Int32)) (x1 : Int32) : Option (Int32) :=
  (bd1 (p_X8_isLine v_now x1) fun r_1 => (if r_1 = (0 : Int32) then (some (-1 : Int32)) else (bd1 (p_X8_many v_now x1) fun r_4 => (some r_4))))
set_option maxHeartbeats 4000000 in
set_option maxRecDepth 100000 in
theorem c_X8_settings (l : Launch) (dC : Nat → ClassId) (dI : Nat → Nat → Nat) (cI cJ cP cS : ClassId) (a0 : Nat) (a1 : Nat) (a2 : Nat) (a3 : Nat) (a4 : Nat) (a5 : Nat) (a6 : Nat) (a7 : Nat) (a8 : Nat) (a9 : Nat) (a10 : Nat) (a11 : Nat) (a12 : Nat) (a13 : Nat) (a14 : Nat) (a15 : Nat) (a16 : Nat) (v_acts : Int32) (v_keptActs : Int32) (v_typed : Int32) (v_isSet : Int32) (v_arePages : Int32) (v_place : Int32) (v_readMany : Int32) (v_now : (Nat → Int32))  (x1 : Int32) (rv : Int32)  (hf : p_X8_settings v_now x1 = some rv) : MC l (dC, dI) (tyl cI cJ cP cS) yX8_settings (Cond.code yX8_settings cX8_settings 2 (some .int) :: TBG) ({ frames := 7, cells := 0, slots := 0, locals := 160 } : Room) [.ref a0, .int x1] [(a0, .inr (8, [.ref a1, .ref a2, .int v_acts, .ref a3, .ref a4, .int v_keptActs, .ref a5, .int v_typed, .ref a6, .ref a7, .ref a8, .ref a9, .ref a10, .int v_isSet, .ref a11, .ref a12, .ref a13, .int v_arePages, .ref a14, .ref a15, .int v_place, .ref a16, .int v_readMany])), (a1, .inl (cI, 189, .inl v_now))] [(a0, .inr (8, [.ref a1, .ref a2, .int v_acts, .ref a3, .ref a4, .int v_keptActs, .ref a5, .int v_typed, .ref a6, .ref a7, .ref a8, .ref a9, .ref a10, .int v_isSet, .ref a11, .ref a12, .ref a13, .int v_arePages, .ref a14, .ref a15, .int v_place, .ref a16, .int v_readMany])), (a1, .inl (cI, 189, .inl v_now))] (some (.int rv)) := by
  intro sz
  unfold MPost
  refine Met.ofW (cc := cX8_settings) (maxL := 2) (ret := (some .int)) (by decide) rfl ?_
  intro p e s m args below meth c s₁ B hml hv
  obtain ⟨rfl, hsz, hP, hK, hD0, hF⟩ := hv
  have hx := B.exec
  have hb := B.bytes
  have hr := B.returns
  have hT : ∀ w ∈ TBG, w.before _ s = true := fun w h => atoms_spec B.pre w (List.mem_cons_of_mem _ h)
  have hown : s.vm.findClass RX8 = some m.cls := findClass_of_methodNamed B.named
  have hlocks := B.notSynchronized
  subst hsz
  have hD := hD0.self (sz := s.heap.size)
  generalize hAe : va_A [(a0, .inr (8, [.ref a1, .ref a2, .int v_acts, .ref a3, .ref a4, .int v_keptActs, .ref a5, .int v_typed, .ref a6, .ref a7, .ref a8, .ref a9, .ref a10, .int v_isSet, .ref a11, .ref a12, .ref a13, .int v_arePages, .ref a14, .ref a15, .int v_place, .ref a16, .int v_readMany])), (a1, .inl (cI, 189, .inl v_now))] s.heap.size = A at hD hF ⊢
  have hA : ∀ q : Nat, s.heap.size ≤ q → A q := fun q h => by rw [← hAe]; exact Or.inr h
  have hS : va_S A s.heap s.heap [] := va_S.rf
  have hl := lv_entry ([.ref a0, .int x1]) (n := 2) (Nat.le_of_ble_eq_true rfl)
  rw [lg_entry_eq]
  generalize (lg_sl ([.ref a0, .int x1]) ++ List.replicate (2 - (lg_sl ([.ref a0, .int x1])).length) Slot.unset).toArray = ls at hl ⊢
  have hl : lv_has ls 2 [(0, .ref a0), (1, .int x1)] := hl
  generalize ([.ref a0, .int x1] : List Value).toArray = args at hT ⊢
  have key : ∀ (Q : State → Prop), (∀ (H : Heap) (locs : List Loc) (ls : Array Slot) (pc : Nat), decode cX8_settings pc = .ok (.ireturn, 1) → va_P (dC, dI) vwCl [(a0, .inr (8, [.ref a1, .ref a2, .int v_acts, .ref a3, .ref a4, .int v_keptActs, .ref a5, .int v_typed, .ref a6, .ref a7, .ref a8, .ref a9, .ref a10, .int v_isSet, .ref a11, .ref a12, .ref a13, .int v_arePages, .ref a14, .ref a15, .int v_place, .ref a16, .int v_readMany])), (a1, .inl (cI, 189, .inl v_now))] H → va_D A [(a0, .inr (8, [.ref a1, .ref a2, .int v_acts, .ref a3, .ref a4, .int v_keptActs, .ref a5, .int v_typed, .ref a6, .ref a7, .ref a8, .ref a9, .ref a10, .int v_isSet, .ref a11, .ref a12, .ref a13, .int v_arePages, .ref a14, .ref a15, .int v_place, .ref a16, .int v_readMany])), (a1, .inl (cI, 189, .inl v_now))] → va_S A s.heap H locs → W p l e ({ frames := 7, cells := 0, slots := 0, locals := 160 } : Room) s m args below meth c H locs 0 0 Q (F0 m pc ls [.int rv])) → ∀ (H : Heap) (locs : List Loc) (ls : Array Slot), va_P (dC, dI) vwCl [(a0, .inr (8, [.ref a1, .ref a2, .int v_acts, .ref a3, .ref a4, .int v_keptActs, .ref a5, .int v_typed, .ref a6, .ref a7, .ref a8, .ref a9, .ref a10, .int v_isSet, .ref a11, .ref a12, .ref a13, .int v_arePages, .ref a14, .ref a15, .int v_place, .ref a16, .int v_readMany])), (a1, .inl (cI, 189, .inl v_now))] H → va_D A [(a0, .inr (8, [.ref a1, .ref a2, .int v_acts, .ref a3, .ref a4, .int v_keptActs, .ref a5, .int v_typed, .ref a6, .ref a7, .ref a8, .ref a9, .ref a10, .int v_isSet, .ref a11, .ref a12, .ref a13, .int v_arePages, .ref a14, .ref a15, .int v_place, .ref a16, .int v_readMany])), (a1, .inl (cI, 189, .inl v_now))] → va_S A s.heap H locs → lv_has ls 2 [(0, .ref a0), (1, .int x1)] → W p l e ({ frames := 7, cells := 0, slots := 0, locals := 160 } : Room) s m args below meth c H locs 0 0 Q (F0 m 0 ls []) := by
    intro Q hret H locs ls hP hD hS hl
    refine lv_aload_n hx hb dX8_settings_0 rfl (lv_at hl 0 rfl) ?_
    refine lv_iload_n hx hb dX8_settings_1 rfl (lv_at hl 1 rfl) ?_
    obtain ⟨r_1, hq2, hf⟩ := bd1_el hf
    refine mc_V (As := [.int x1]) (rest := []) (wr := []) (wn := [(a0, .inr (8, [.ref a1, .ref a2, .int v_acts, .ref a3, .ref a4, .int v_keptActs, .ref a5, .int v_typed, .ref a6, .ref a7, .ref a8, .ref a9, .ref a10, .int v_isSet, .ref a11, .ref a12, .ref a13, .int v_arePages, .ref a14, .ref a15, .int v_place, .ref a16, .int v_readMany])), (a1, .inl (cI, 189, .inl v_now))]) ⟨hx, hb, hml, hown, hT⟩ (c_X8_isLine l dC dI cI cJ cP cS a0 a1 a2 a3 a4 a5 a6 a7 a8 a9 a10 a11 a12 a13 a14 a15 a16 v_acts v_keptActs v_typed v_isSet v_arePages v_place v_readMany v_now x1 r_1 hq2) (cwV 1 hT (gdV q_ml_X8_144 q_im_X8_isLine q_se_X8_isLine q_in_X8 q_co_X8_isLine) rfl rfl rfl hd_X8_isLine ⟨Nat.le_of_ble_eq_true rfl, Nat.le_of_ble_eq_true rfl⟩) hK hF hP hD hS hA 0 rfl rfl rfl [0, 1] [] [0, 1] rfl (by decide) rfl (by decide) (by decide) rfl (by decide) rfl hl.1 rfl (Nat.le_of_ble_eq_true rfl) dX8_settings_2 ⟨Nat.zero_le _, Nat.zero_le _⟩ (fun H locs hP hD hS => ?_)
    refine W.eq (g2 := F0 m 5 ls [.int r_1]) rfl ?_
    refine lv_if_eq (tgt := 16) hx hb dX8_settings_5 (by decide) (fun c3 => ?_) (fun c3 => ?_)
    · replace hf := it_t c3 hf
      refine lv_iconst (v := (-1)) hx hb dX8_settings_16 (by decide) ?_
      replace hf := Option.some.inj hf
      subst hf
      exact hret H locs ls _ dX8_settings_17 hP hD hS
    · replace hf := it_f c3 hf
      refine lv_aload_n hx hb dX8_settings_8 rfl (lv_at hl 0 rfl) ?_
      refine lv_iload_n hx hb dX8_settings_9 rfl (lv_at hl 1 rfl) ?_
      obtain ⟨r_4, hq5, hf⟩ := bd1_el hf
      refine mc_V (As := [.int x1]) (rest := []) (wr := []) (wn := [(a0, .inr (8, [.ref a1, .ref a2, .int v_acts, .ref a3, .ref a4, .int v_keptActs, .ref a5, .int v_typed, .ref a6, .ref a7, .ref a8, .ref a9, .ref a10, .int v_isSet, .ref a11, .ref a12, .ref a13, .int v_arePages, .ref a14, .ref a15, .int v_place, .ref a16, .int v_readMany])), (a1, .inl (cI, 189, .inl v_now))]) ⟨hx, hb, hml, hown, hT⟩ (c_X8_many l dC dI cI cJ cP cS a0 a1 a2 a3 a4 a5 a6 a7 a8 a9 a10 a11 a12 a13 a14 a15 a16 v_acts v_keptActs v_typed v_isSet v_arePages v_place v_readMany v_now x1 r_4 hq5) (cwV 1 hT (gdV q_ml_X8_164 q_im_X8_many q_se_X8_many q_in_X8 q_co_X8_many) rfl rfl rfl hd_X8_many ⟨Nat.le_of_ble_eq_true rfl, Nat.le_of_ble_eq_true rfl⟩) hK hF hP hD hS hA 0 rfl rfl rfl [0, 1] [] [0, 1] rfl (by decide) rfl (by decide) (by decide) rfl (by decide) rfl hl.1 rfl (Nat.le_of_ble_eq_true rfl) dX8_settings_10 ⟨Nat.zero_le _, Nat.zero_le _⟩ (fun H locs hP hD hS => ?_)
      refine W.eq (g2 := F0 m 13 ls [.int r_4]) rfl ?_
      refine lv_goto (tgt := 17) hx hb dX8_settings_13 (by decide) ?_
      replace hf := Option.some.inj hf
      subst hf
      exact hret H locs ls _ dX8_settings_17 hP hD hS
  refine key _ ?_ _ _ _ hP hD hS hl
  intro H locs ls pc d hP hD hS
  exact W.iret (v := rv) hx hb hr (fun t ht hW => ⟨⟨rfl, by rw [ht]; exact hP, hD⟩, hS.F ht⟩) hS.2.2 d
def p_X8_shapeOf_L11 (v_now : (Nat → Int32)) (r_1 : Int32) (s : Int64 × Int32) : Option ((Int64 × Int32) ⊕ (Int64 × Int32)) := match s with
  | (i3_3, i5_4) => (bd1 (p_X8_endOf v_now r_1) fun r_5 => (if r_5 ≤ i5_4 then (some (.inr (i3_3, i5_4))) else (bd1 (p_X8_rank v_now i5_4) fun r_8 => (nm (((10 : Int64) * i3_3) + (Int32.toInt64 r_8)) fun x3_10 => (some (.inl (x3_10, (i5_4 + (1 : Int32)))))))))
def p_X8_shapeOf (v_now : (Nat → Int32)) (x1 : Int32) : Option (Int64) :=
  (bd1 (p_X8_firstLine v_now x1) fun r_1 => (bd2 (loopN (p_X8_shapeOf_L11 v_now r_1) fuel ((0 : Int64), r_1)) fun f3_13 f5_14 => (some f3_13)))
set_option maxHeartbeats 4000000 in
set_option maxRecDepth 100000 in
theorem c_X8_shapeOf (l : Launch) (dC : Nat → ClassId) (dI : Nat → Nat → Nat) (cI cJ cP cS : ClassId) (a0 : Nat) (a1 : Nat) (a2 : Nat) (a3 : Nat) (a4 : Nat) (a5 : Nat) (a6 : Nat) (a7 : Nat) (a8 : Nat) (a9 : Nat) (a10 : Nat) (a11 : Nat) (a12 : Nat) (a13 : Nat) (a14 : Nat) (a15 : Nat) (a16 : Nat) (v_acts : Int32) (v_keptActs : Int32) (v_typed : Int32) (v_isSet : Int32) (v_arePages : Int32) (v_place : Int32) (v_readMany : Int32) (v_now : (Nat → Int32))  (x1 : Int32) (rv : Int64)  (hf : p_X8_shapeOf v_now x1 = some rv) : MC l (dC, dI) (tyl cI cJ cP cS) yX8_shapeOf (Cond.code yX8_shapeOf cX8_shapeOf 6 (some .long) :: TBG) ({ frames := 4, cells := 0, slots := 0, locals := 89 } : Room) [.ref a0, .int x1] [(a0, .inr (8, [.ref a1, .ref a2, .int v_acts, .ref a3, .ref a4, .int v_keptActs, .ref a5, .int v_typed, .ref a6, .ref a7, .ref a8, .ref a9, .ref a10, .int v_isSet, .ref a11, .ref a12, .ref a13, .int v_arePages, .ref a14, .ref a15, .int v_place, .ref a16, .int v_readMany])), (a1, .inl (cI, 189, .inl v_now))] [(a0, .inr (8, [.ref a1, .ref a2, .int v_acts, .ref a3, .ref a4, .int v_keptActs, .ref a5, .int v_typed, .ref a6, .ref a7, .ref a8, .ref a9, .ref a10, .int v_isSet, .ref a11, .ref a12, .ref a13, .int v_arePages, .ref a14, .ref a15, .int v_place, .ref a16, .int v_readMany])), (a1, .inl (cI, 189, .inl v_now))] (some (.long rv)) := by
  intro sz
  unfold MPost
  refine Met.ofW (cc := cX8_shapeOf) (maxL := 6) (ret := (some .long)) (by decide) rfl ?_
  intro p e s m args below meth c s₁ B hml hv
  obtain ⟨rfl, hsz, hP, hK, hD0, hF⟩ := hv
  have hx := B.exec
  have hb := B.bytes
  have hr := B.returns
  have hT : ∀ w ∈ TBG, w.before _ s = true := fun w h => atoms_spec B.pre w (List.mem_cons_of_mem _ h)
  have hown : s.vm.findClass RX8 = some m.cls := findClass_of_methodNamed B.named
  have hlocks := B.notSynchronized
  subst hsz
  have hD := hD0.self (sz := s.heap.size)
  generalize hAe : va_A [(a0, .inr (8, [.ref a1, .ref a2, .int v_acts, .ref a3, .ref a4, .int v_keptActs, .ref a5, .int v_typed, .ref a6, .ref a7, .ref a8, .ref a9, .ref a10, .int v_isSet, .ref a11, .ref a12, .ref a13, .int v_arePages, .ref a14, .ref a15, .int v_place, .ref a16, .int v_readMany])), (a1, .inl (cI, 189, .inl v_now))] s.heap.size = A at hD hF ⊢
  have hA : ∀ q : Nat, s.heap.size ≤ q → A q := fun q h => by rw [← hAe]; exact Or.inr h
  have hS : va_S A s.heap s.heap [] := va_S.rf
  have hl := lv_entry ([.ref a0, .int x1]) (n := 6) (Nat.le_of_ble_eq_true rfl)
  rw [lg_entry_eq]
  generalize (lg_sl ([.ref a0, .int x1]) ++ List.replicate (6 - (lg_sl ([.ref a0, .int x1])).length) Slot.unset).toArray = ls at hl ⊢
  have hl : lv_has ls 6 [(0, .ref a0), (1, .int x1)] := hl
  generalize ([.ref a0, .int x1] : List Value).toArray = args at hT ⊢
  have key : ∀ (Q : State → Prop), (∀ (H : Heap) (locs : List Loc) (ls : Array Slot) (pc : Nat), decode cX8_shapeOf pc = .ok (.lreturn, 1) → va_P (dC, dI) vwCl [(a0, .inr (8, [.ref a1, .ref a2, .int v_acts, .ref a3, .ref a4, .int v_keptActs, .ref a5, .int v_typed, .ref a6, .ref a7, .ref a8, .ref a9, .ref a10, .int v_isSet, .ref a11, .ref a12, .ref a13, .int v_arePages, .ref a14, .ref a15, .int v_place, .ref a16, .int v_readMany])), (a1, .inl (cI, 189, .inl v_now))] H → va_D A [(a0, .inr (8, [.ref a1, .ref a2, .int v_acts, .ref a3, .ref a4, .int v_keptActs, .ref a5, .int v_typed, .ref a6, .ref a7, .ref a8, .ref a9, .ref a10, .int v_isSet, .ref a11, .ref a12, .ref a13, .int v_arePages, .ref a14, .ref a15, .int v_place, .ref a16, .int v_readMany])), (a1, .inl (cI, 189, .inl v_now))] → va_S A s.heap H locs → W p l e ({ frames := 4, cells := 0, slots := 0, locals := 89 } : Room) s m args below meth c H locs 0 0 Q (F0 m pc ls [.long rv])) → ∀ (H : Heap) (locs : List Loc) (ls : Array Slot), va_P (dC, dI) vwCl [(a0, .inr (8, [.ref a1, .ref a2, .int v_acts, .ref a3, .ref a4, .int v_keptActs, .ref a5, .int v_typed, .ref a6, .ref a7, .ref a8, .ref a9, .ref a10, .int v_isSet, .ref a11, .ref a12, .ref a13, .int v_arePages, .ref a14, .ref a15, .int v_place, .ref a16, .int v_readMany])), (a1, .inl (cI, 189, .inl v_now))] H → va_D A [(a0, .inr (8, [.ref a1, .ref a2, .int v_acts, .ref a3, .ref a4, .int v_keptActs, .ref a5, .int v_typed, .ref a6, .ref a7, .ref a8, .ref a9, .ref a10, .int v_isSet, .ref a11, .ref a12, .ref a13, .int v_arePages, .ref a14, .ref a15, .int v_place, .ref a16, .int v_readMany])), (a1, .inl (cI, 189, .inl v_now))] → va_S A s.heap H locs → lv_has ls 6 [(0, .ref a0), (1, .int x1)] → W p l e ({ frames := 4, cells := 0, slots := 0, locals := 89 } : Room) s m args below meth c H locs 0 0 Q (F0 m 0 ls []) := by
    intro Q hret H locs ls hP hD hS hl
    refine lv_aload_n hx hb dX8_shapeOf_0 rfl (lv_at hl 0 rfl) ?_
    refine lv_iload_n hx hb dX8_shapeOf_1 rfl (lv_at hl 1 rfl) ?_
    obtain ⟨r_1, hq2, hf⟩ := bd1_el hf
    refine mc_V (As := [.int x1]) (rest := []) (wr := []) (wn := [(a0, .inr (8, [.ref a1, .ref a2, .int v_acts, .ref a3, .ref a4, .int v_keptActs, .ref a5, .int v_typed, .ref a6, .ref a7, .ref a8, .ref a9, .ref a10, .int v_isSet, .ref a11, .ref a12, .ref a13, .int v_arePages, .ref a14, .ref a15, .int v_place, .ref a16, .int v_readMany])), (a1, .inl (cI, 189, .inl v_now))]) ⟨hx, hb, hml, hown, hT⟩ (c_X8_firstLine l dC dI cI cJ cP cS a0 a1 a2 a3 a4 a5 a6 a7 a8 a9 a10 a11 a12 a13 a14 a15 a16 v_acts v_keptActs v_typed v_isSet v_arePages v_place v_readMany v_now x1 r_1 hq2) (cwV 1 hT (gdV q_ml_X8_167 q_im_X8_firstLine q_se_X8_firstLine q_in_X8 q_co_X8_firstLine) rfl rfl rfl hd_X8_firstLine ⟨Nat.le_of_ble_eq_true rfl, Nat.le_of_ble_eq_true rfl⟩) hK hF hP hD hS hA 0 rfl rfl rfl [0, 1] [] [0, 1] rfl (by decide) rfl (by decide) (by decide) rfl (by decide) rfl hl.1 rfl (Nat.le_of_ble_eq_true rfl) dX8_shapeOf_2 ⟨Nat.zero_le _, Nat.zero_le _⟩ (fun H locs hP hD hS => ?_)
    refine W.eq (g2 := F0 m 5 ls [.int r_1]) rfl ?_
    refine lv_istore_n (lv' := [(2, .int r_1), (0, .ref a0), (1, .int x1)]) hx hb dX8_shapeOf_5 rfl hl (by decide) rfl (fun ls hl => ?_)
    refine lv_lconst (v := 0) hx hb dX8_shapeOf_6 (by decide) ?_
    refine lv_lstore_n (lv' := [(3, .long (0 : Int64)), (2, .int r_1), (0, .ref a0), (1, .int x1)]) hx hb dX8_shapeOf_7 rfl hl (by decide) rfl (fun ls hl => ?_)
    refine lv_iload_n hx hb dX8_shapeOf_8 rfl (lv_at hl 1 rfl) ?_
    refine lv_istore (lv' := [(5, .int r_1), (3, .long (0 : Int64)), (2, .int r_1), (0, .ref a0), (1, .int x1)]) hx hb dX8_shapeOf_9 hl (by decide) rfl (fun ls hl => ?_)
    have hL11 : ∀ (rr : Int64 × Int32), (∀ (z_11 : Int64) (z_12 : Int32), rr = (z_11, z_12) → ∀ (H : Heap) (locs : List Loc) (ls : Array Slot), va_P (dC, dI) vwCl [(a0, .inr (8, [.ref a1, .ref a2, .int v_acts, .ref a3, .ref a4, .int v_keptActs, .ref a5, .int v_typed, .ref a6, .ref a7, .ref a8, .ref a9, .ref a10, .int v_isSet, .ref a11, .ref a12, .ref a13, .int v_arePages, .ref a14, .ref a15, .int v_place, .ref a16, .int v_readMany])), (a1, .inl (cI, 189, .inl v_now))] H → va_D A [(a0, .inr (8, [.ref a1, .ref a2, .int v_acts, .ref a3, .ref a4, .int v_keptActs, .ref a5, .int v_typed, .ref a6, .ref a7, .ref a8, .ref a9, .ref a10, .int v_isSet, .ref a11, .ref a12, .ref a13, .int v_arePages, .ref a14, .ref a15, .int v_place, .ref a16, .int v_readMany])), (a1, .inl (cI, 189, .inl v_now))] → va_S A s.heap H locs → lv_has ls 6 [(3, .long z_11)] → W p l e ({ frames := 4, cells := 0, slots := 0, locals := 89 } : Room) s m args below meth c H locs 0 0 Q (F0 m 41 ls [])) → ∀ (n : Nat) (i3_3 : Int64) (i5_4 : Int32), loopN (p_X8_shapeOf_L11 v_now r_1) n (i3_3, i5_4) = some rr → ∀ (H : Heap) (locs : List Loc) (ls : Array Slot), va_P (dC, dI) vwCl [(a0, .inr (8, [.ref a1, .ref a2, .int v_acts, .ref a3, .ref a4, .int v_keptActs, .ref a5, .int v_typed, .ref a6, .ref a7, .ref a8, .ref a9, .ref a10, .int v_isSet, .ref a11, .ref a12, .ref a13, .int v_arePages, .ref a14, .ref a15, .int v_place, .ref a16, .int v_readMany])), (a1, .inl (cI, 189, .inl v_now))] H → va_D A [(a0, .inr (8, [.ref a1, .ref a2, .int v_acts, .ref a3, .ref a4, .int v_keptActs, .ref a5, .int v_typed, .ref a6, .ref a7, .ref a8, .ref a9, .ref a10, .int v_isSet, .ref a11, .ref a12, .ref a13, .int v_arePages, .ref a14, .ref a15, .int v_place, .ref a16, .int v_readMany])), (a1, .inl (cI, 189, .inl v_now))] → va_S A s.heap H locs → lv_has ls 6 [(0, .ref a0), (2, .int r_1), (3, .long i3_3), (5, .int i5_4)] → W p l e ({ frames := 4, cells := 0, slots := 0, locals := 89 } : Room) s m args below meth c H locs 0 0 Q (F0 m 11 ls []) := by
      intro rr hk11 n
      induction n with
      | zero => intro i3_3 i5_4 hf; cases hf
      | succ n ih11 =>
        intro i3_3 i5_4 hf H locs ls hP hD hS hl
        obtain ⟨o11, hf, hi, he⟩ := loopN_el hf
        rw [p_X8_shapeOf_L11] at hf
        refine lv_iload hx hb dX8_shapeOf_11 (lv_at hl 3 rfl) ?_
        refine lv_aload_n hx hb dX8_shapeOf_13 rfl (lv_at hl 0 rfl) ?_
        refine lv_iload_n hx hb dX8_shapeOf_14 rfl (lv_at hl 1 rfl) ?_
        obtain ⟨r_5, hq6, hf⟩ := bd1_el hf
        refine mc_V (As := [.int r_1]) (rest := [.int i5_4]) (wr := []) (wn := [(a0, .inr (8, [.ref a1, .ref a2, .int v_acts, .ref a3, .ref a4, .int v_keptActs, .ref a5, .int v_typed, .ref a6, .ref a7, .ref a8, .ref a9, .ref a10, .int v_isSet, .ref a11, .ref a12, .ref a13, .int v_arePages, .ref a14, .ref a15, .int v_place, .ref a16, .int v_readMany])), (a1, .inl (cI, 189, .inl v_now))]) ⟨hx, hb, hml, hown, hT⟩ (c_X8_endOf l dC dI cI cJ cP cS a0 a1 a2 a3 a4 a5 a6 a7 a8 a9 a10 a11 a12 a13 a14 a15 a16 v_acts v_keptActs v_typed v_isSet v_arePages v_place v_readMany v_now r_1 r_5 hq6) (cwV 1 hT (gdV q_ml_X8_124 q_im_X8_endOf q_se_X8_endOf q_in_X8 q_co_X8_endOf) rfl rfl rfl hd_X8_endOf ⟨Nat.le_of_ble_eq_true rfl, Nat.le_of_ble_eq_true rfl⟩) hK hF hP hD hS hA 0 rfl rfl rfl [0, 1] [] [0, 1] rfl (by decide) rfl (by decide) (by decide) rfl (by decide) rfl hl.1 rfl (Nat.le_of_ble_eq_true rfl) dX8_shapeOf_15 ⟨Nat.zero_le _, Nat.zero_le _⟩ (fun H locs hP hD hS => ?_)
        refine W.eq (g2 := F0 m 18 ls [.int r_5, .int i5_4]) rfl ?_
        refine lv_icmp_ge (tgt := 41) hx hb dX8_shapeOf_18 (by decide) (fun c7 => ?_) (fun c7 => ?_)
        · replace hf := it_t c7 hf
          exact hk11 _ _ (he _ (Option.some.inj hf).symm).symm H locs ls hP hD hS (lv_sub hl [2] rfl)
        · replace hf := it_f c7 hf
          refine lv_ldc2 hx hb hown (hT _ q_kl_X8_170) dX8_shapeOf_21 ?_
          refine lv_lload_n hx hb dX8_shapeOf_24 rfl (lv_at hl 2 rfl) ?_
          refine lv_lmul hx hb dX8_shapeOf_25 ?_
          refine lv_aload_n hx hb dX8_shapeOf_26 rfl (lv_at hl 0 rfl) ?_
          refine lv_iload hx hb dX8_shapeOf_27 (lv_at hl 3 rfl) ?_
          obtain ⟨r_8, hq9, hf⟩ := bd1_el hf
          refine mc_V (As := [.int i5_4]) (rest := [.long ((10 : Int64) * i3_3)]) (wr := []) (wn := [(a0, .inr (8, [.ref a1, .ref a2, .int v_acts, .ref a3, .ref a4, .int v_keptActs, .ref a5, .int v_typed, .ref a6, .ref a7, .ref a8, .ref a9, .ref a10, .int v_isSet, .ref a11, .ref a12, .ref a13, .int v_arePages, .ref a14, .ref a15, .int v_place, .ref a16, .int v_readMany])), (a1, .inl (cI, 189, .inl v_now))]) ⟨hx, hb, hml, hown, hT⟩ (c_X8_rank l dC dI cI cJ cP cS a0 a1 a2 a3 a4 a5 a6 a7 a8 a9 a10 a11 a12 a13 a14 a15 a16 v_acts v_keptActs v_typed v_isSet v_arePages v_place v_readMany v_now i5_4 r_8 hq9) (cwV 1 hT (gdV q_ml_X8_82 q_im_X8_rank q_se_X8_rank q_in_X8 q_co_X8_rank) rfl rfl rfl hd_X8_rank ⟨Nat.le_of_ble_eq_true rfl, Nat.le_of_ble_eq_true rfl⟩) hK hF hP hD hS hA 0 rfl rfl rfl [0, 1] [] [0, 1] rfl (by decide) rfl (by decide) (by decide) rfl (by decide) rfl hl.1 rfl (Nat.le_of_ble_eq_true rfl) dX8_shapeOf_29 ⟨Nat.zero_le _, Nat.zero_le _⟩ (fun H locs hP hD hS => ?_)
          refine W.eq (g2 := F0 m 32 ls [.int r_8, .long ((10 : Int64) * i3_3)]) rfl ?_
          refine lv_i2l hx hb dX8_shapeOf_32 rfl ?_
          refine lv_ladd hx hb dX8_shapeOf_33 ?_
          obtain ⟨x3_10, ex3_10, hf⟩ := nm_el hf
          refine lv_as (congrArg Value.long ex3_10) ?_
          refine lv_lstore_n (lv' := [(3, .long x3_10), (0, .ref a0), (2, .int r_1), (5, .int i5_4)]) hx hb dX8_shapeOf_34 rfl hl (by decide) rfl (fun ls hl => ?_)
          refine lv_iinc (v := (i5_4 + (1 : Int32))) (lv' := [(5, .int (i5_4 + (1 : Int32))), (3, .long x3_10), (0, .ref a0), (2, .int r_1)]) hx hb dX8_shapeOf_35 hl (k := 3) rfl rfl (by decide) rfl (fun ls hl => ?_)
          refine lv_goto (tgt := 11) hx hb dX8_shapeOf_38 (by decide) ?_
          exact ih11 x3_10 (i5_4 + (1 : Int32)) (hi _ (Option.some.inj hf).symm) H locs ls hP hD hS (lv_sub hl [2, 3, 1, 0] rfl)
    obtain ⟨f3_13, f5_14, hq, hf⟩ := bd2_el hf
    refine hL11 (f3_13, f5_14) (fun z_11 z_12 h9 H locs ls hP hD hS hl => ?_) fuel (0 : Int64) r_1 hq H locs ls hP hD hS (lv_sub hl [3, 2, 1, 0] rfl)
    simp only [Prod.mk.injEq] at h9
    obtain ⟨h9_0, h9_1⟩ := h9
    subst h9_0; subst h9_1
    refine lv_lload_n hx hb dX8_shapeOf_41 rfl (lv_at hl 0 rfl) ?_
    replace hf := Option.some.inj hf
    subst hf
    exact hret H locs ls _ dX8_shapeOf_42 hP hD hS
  refine key _ ?_ _ _ _ hP hD hS hl
  intro H locs ls pc d hP hD hS
  exact W.lret (v := rv) hx hb hr (fun t ht hW => ⟨⟨rfl, by rw [ht]; exact hP, hD⟩, hS.F ht⟩) hS.2.2 d
def p_X8_linesOf (v_now : (Nat → Int32)) (x1 : Int32) : Option (Int32) :=
  (bd1 (p_X8_firstLine v_now x1) fun r_1 => (bd1 (p_X8_endOf v_now r_1) fun r_3 => (some (r_3 - r_1))))
set_option maxHeartbeats 4000000 in
set_option maxRecDepth 100000 in
theorem c_X8_linesOf (l : Launch) (dC : Nat → ClassId) (dI : Nat → Nat → Nat) (cI cJ cP cS : ClassId) (a0 : Nat) (a1 : Nat) (a2 : Nat) (a3 : Nat) (a4 : Nat) (a5 : Nat) (a6 : Nat) (a7 : Nat) (a8 : Nat) (a9 : Nat) (a10 : Nat) (a11 : Nat) (a12 : Nat) (a13 : Nat) (a14 : Nat) (a15 : Nat) (a16 : Nat) (v_acts : Int32) (v_keptActs : Int32) (v_typed : Int32) (v_isSet : Int32) (v_arePages : Int32) (v_place : Int32) (v_readMany : Int32) (v_now : (Nat → Int32))  (x1 : Int32) (rv : Int32)  (hf : p_X8_linesOf v_now x1 = some rv) : MC l (dC, dI) (tyl cI cJ cP cS) yX8_linesOf (Cond.code yX8_linesOf cX8_linesOf 3 (some .int) :: TBG) ({ frames := 4, cells := 0, slots := 0, locals := 88 } : Room) [.ref a0, .int x1] [(a0, .inr (8, [.ref a1, .ref a2, .int v_acts, .ref a3, .ref a4, .int v_keptActs, .ref a5, .int v_typed, .ref a6, .ref a7, .ref a8, .ref a9, .ref a10, .int v_isSet, .ref a11, .ref a12, .ref a13, .int v_arePages, .ref a14, .ref a15, .int v_place, .ref a16, .int v_readMany])), (a1, .inl (cI, 189, .inl v_now))] [(a0, .inr (8, [.ref a1, .ref a2, .int v_acts, .ref a3, .ref a4, .int v_keptActs, .ref a5, .int v_typed, .ref a6, .ref a7, .ref a8, .ref a9, .ref a10, .int v_isSet, .ref a11, .ref a12, .ref a13, .int v_arePages, .ref a14, .ref a15, .int v_place, .ref a16, .int v_readMany])), (a1, .inl (cI, 189, .inl v_now))] (some (.int rv)) := by
  intro sz
  unfold MPost
  refine Met.ofW (cc := cX8_linesOf) (maxL := 3) (ret := (some .int)) (by decide) rfl ?_
  intro p e s m args below meth c s₁ B hml hv
  obtain ⟨rfl, hsz, hP, hK, hD0, hF⟩ := hv
  have hx := B.exec
  have hb := B.bytes
  have hr := B.returns
  have hT : ∀ w ∈ TBG, w.before _ s = true := fun w h => atoms_spec B.pre w (List.mem_cons_of_mem _ h)
  have hown : s.vm.findClass RX8 = some m.cls := findClass_of_methodNamed B.named
  have hlocks := B.notSynchronized
  subst hsz
  have hD := hD0.self (sz := s.heap.size)
  generalize hAe : va_A [(a0, .inr (8, [.ref a1, .ref a2, .int v_acts, .ref a3, .ref a4, .int v_keptActs, .ref a5, .int v_typed, .ref a6, .ref a7, .ref a8, .ref a9, .ref a10, .int v_isSet, .ref a11, .ref a12, .ref a13, .int v_arePages, .ref a14, .ref a15, .int v_place, .ref a16, .int v_readMany])), (a1, .inl (cI, 189, .inl v_now))] s.heap.size = A at hD hF ⊢
  have hA : ∀ q : Nat, s.heap.size ≤ q → A q := fun q h => by rw [← hAe]; exact Or.inr h
  have hS : va_S A s.heap s.heap [] := va_S.rf
  have hl := lv_entry ([.ref a0, .int x1]) (n := 3) (Nat.le_of_ble_eq_true rfl)
  rw [lg_entry_eq]
  generalize (lg_sl ([.ref a0, .int x1]) ++ List.replicate (3 - (lg_sl ([.ref a0, .int x1])).length) Slot.unset).toArray = ls at hl ⊢
  have hl : lv_has ls 3 [(0, .ref a0), (1, .int x1)] := hl
  generalize ([.ref a0, .int x1] : List Value).toArray = args at hT ⊢
  have key : ∀ (Q : State → Prop), (∀ (H : Heap) (locs : List Loc) (ls : Array Slot) (pc : Nat), decode cX8_linesOf pc = .ok (.ireturn, 1) → va_P (dC, dI) vwCl [(a0, .inr (8, [.ref a1, .ref a2, .int v_acts, .ref a3, .ref a4, .int v_keptActs, .ref a5, .int v_typed, .ref a6, .ref a7, .ref a8, .ref a9, .ref a10, .int v_isSet, .ref a11, .ref a12, .ref a13, .int v_arePages, .ref a14, .ref a15, .int v_place, .ref a16, .int v_readMany])), (a1, .inl (cI, 189, .inl v_now))] H → va_D A [(a0, .inr (8, [.ref a1, .ref a2, .int v_acts, .ref a3, .ref a4, .int v_keptActs, .ref a5, .int v_typed, .ref a6, .ref a7, .ref a8, .ref a9, .ref a10, .int v_isSet, .ref a11, .ref a12, .ref a13, .int v_arePages, .ref a14, .ref a15, .int v_place, .ref a16, .int v_readMany])), (a1, .inl (cI, 189, .inl v_now))] → va_S A s.heap H locs → W p l e ({ frames := 4, cells := 0, slots := 0, locals := 88 } : Room) s m args below meth c H locs 0 0 Q (F0 m pc ls [.int rv])) → ∀ (H : Heap) (locs : List Loc) (ls : Array Slot), va_P (dC, dI) vwCl [(a0, .inr (8, [.ref a1, .ref a2, .int v_acts, .ref a3, .ref a4, .int v_keptActs, .ref a5, .int v_typed, .ref a6, .ref a7, .ref a8, .ref a9, .ref a10, .int v_isSet, .ref a11, .ref a12, .ref a13, .int v_arePages, .ref a14, .ref a15, .int v_place, .ref a16, .int v_readMany])), (a1, .inl (cI, 189, .inl v_now))] H → va_D A [(a0, .inr (8, [.ref a1, .ref a2, .int v_acts, .ref a3, .ref a4, .int v_keptActs, .ref a5, .int v_typed, .ref a6, .ref a7, .ref a8, .ref a9, .ref a10, .int v_isSet, .ref a11, .ref a12, .ref a13, .int v_arePages, .ref a14, .ref a15, .int v_place, .ref a16, .int v_readMany])), (a1, .inl (cI, 189, .inl v_now))] → va_S A s.heap H locs → lv_has ls 3 [(0, .ref a0), (1, .int x1)] → W p l e ({ frames := 4, cells := 0, slots := 0, locals := 88 } : Room) s m args below meth c H locs 0 0 Q (F0 m 0 ls []) := by
    intro Q hret H locs ls hP hD hS hl
    refine lv_aload_n hx hb dX8_linesOf_0 rfl (lv_at hl 0 rfl) ?_
    refine lv_iload_n hx hb dX8_linesOf_1 rfl (lv_at hl 1 rfl) ?_
    obtain ⟨r_1, hq2, hf⟩ := bd1_el hf
    refine mc_V (As := [.int x1]) (rest := []) (wr := []) (wn := [(a0, .inr (8, [.ref a1, .ref a2, .int v_acts, .ref a3, .ref a4, .int v_keptActs, .ref a5, .int v_typed, .ref a6, .ref a7, .ref a8, .ref a9, .ref a10, .int v_isSet, .ref a11, .ref a12, .ref a13, .int v_arePages, .ref a14, .ref a15, .int v_place, .ref a16, .int v_readMany])), (a1, .inl (cI, 189, .inl v_now))]) ⟨hx, hb, hml, hown, hT⟩ (c_X8_firstLine l dC dI cI cJ cP cS a0 a1 a2 a3 a4 a5 a6 a7 a8 a9 a10 a11 a12 a13 a14 a15 a16 v_acts v_keptActs v_typed v_isSet v_arePages v_place v_readMany v_now x1 r_1 hq2) (cwV 1 hT (gdV q_ml_X8_167 q_im_X8_firstLine q_se_X8_firstLine q_in_X8 q_co_X8_firstLine) rfl rfl rfl hd_X8_firstLine ⟨Nat.le_of_ble_eq_true rfl, Nat.le_of_ble_eq_true rfl⟩) hK hF hP hD hS hA 0 rfl rfl rfl [0, 1] [] [0, 1] rfl (by decide) rfl (by decide) (by decide) rfl (by decide) rfl hl.1 rfl (Nat.le_of_ble_eq_true rfl) dX8_linesOf_2 ⟨Nat.zero_le _, Nat.zero_le _⟩ (fun H locs hP hD hS => ?_)
    refine W.eq (g2 := F0 m 5 ls [.int r_1]) rfl ?_
    refine lv_istore_n (lv' := [(2, .int r_1), (0, .ref a0), (1, .int x1)]) hx hb dX8_linesOf_5 rfl hl (by decide) rfl (fun ls hl => ?_)
    refine lv_aload_n hx hb dX8_linesOf_6 rfl (lv_at hl 1 rfl) ?_
    refine lv_iload_n hx hb dX8_linesOf_7 rfl (lv_at hl 0 rfl) ?_
    obtain ⟨r_3, hq4, hf⟩ := bd1_el hf
    refine mc_V (As := [.int r_1]) (rest := []) (wr := []) (wn := [(a0, .inr (8, [.ref a1, .ref a2, .int v_acts, .ref a3, .ref a4, .int v_keptActs, .ref a5, .int v_typed, .ref a6, .ref a7, .ref a8, .ref a9, .ref a10, .int v_isSet, .ref a11, .ref a12, .ref a13, .int v_arePages, .ref a14, .ref a15, .int v_place, .ref a16, .int v_readMany])), (a1, .inl (cI, 189, .inl v_now))]) ⟨hx, hb, hml, hown, hT⟩ (c_X8_endOf l dC dI cI cJ cP cS a0 a1 a2 a3 a4 a5 a6 a7 a8 a9 a10 a11 a12 a13 a14 a15 a16 v_acts v_keptActs v_typed v_isSet v_arePages v_place v_readMany v_now r_1 r_3 hq4) (cwV 1 hT (gdV q_ml_X8_124 q_im_X8_endOf q_se_X8_endOf q_in_X8 q_co_X8_endOf) rfl rfl rfl hd_X8_endOf ⟨Nat.le_of_ble_eq_true rfl, Nat.le_of_ble_eq_true rfl⟩) hK hF hP hD hS hA 0 rfl rfl rfl [0, 1] [] [0, 1] rfl (by decide) rfl (by decide) (by decide) rfl (by decide) rfl hl.1 rfl (Nat.le_of_ble_eq_true rfl) dX8_linesOf_8 ⟨Nat.zero_le _, Nat.zero_le _⟩ (fun H locs hP hD hS => ?_)
    refine W.eq (g2 := F0 m 11 ls [.int r_3]) rfl ?_
    refine lv_iload_n hx hb dX8_linesOf_11 rfl (lv_at hl 0 rfl) ?_
    refine lv_isub hx hb dX8_linesOf_12 ?_
    replace hf := Option.some.inj hf
    subst hf
    exact hret H locs ls _ dX8_linesOf_13 hP hD hS
  refine key _ ?_ _ _ _ hP hD hS hl
  intro H locs ls pc d hP hD hS
  exact W.iret (v := rv) hx hb hr (fun t ht hW => ⟨⟨rfl, by rw [ht]; exact hP, hD⟩, hS.F ht⟩) hS.2.2 d
def p_X8_rhymesOf_L11 (v_now : (Nat → Int32)) (r_1 : Int32) (s : Int32 × Int32) : Option ((Int32 × Int32) ⊕ (Int32 × Int32)) := match s with
  | (i3_3, i4_4) => (bd1 (p_X8_endOf v_now r_1) fun r_5 => (if r_5 ≤ i4_4 then (some (.inr (i3_3, i4_4))) else (bd1 (p_X8_at v_now i4_4 (0 : Int32)) fun r_8 => (nm (i3_3 ||| ((1 : Int32) <<< (r_8 &&& 31))) fun x3_10 => (some (.inl (x3_10, (i4_4 + (1 : Int32)))))))))
def p_X8_rhymesOf (v_now : (Nat → Int32)) (x1 : Int32) : Option (Int32) :=
  (bd1 (p_X8_firstLine v_now x1) fun r_1 => (bd2 (loopN (p_X8_rhymesOf_L11 v_now r_1) fuel ((0 : Int32), r_1)) fun f3_13 f4_14 => (bd1 (p_X8_ones f3_13) fun r_15 => (some r_15))))
set_option maxHeartbeats 4000000 in
set_option maxRecDepth 100000 in
theorem c_X8_rhymesOf (l : Launch) (dC : Nat → ClassId) (dI : Nat → Nat → Nat) (cI cJ cP cS : ClassId) (a0 : Nat) (a1 : Nat) (a2 : Nat) (a3 : Nat) (a4 : Nat) (a5 : Nat) (a6 : Nat) (a7 : Nat) (a8 : Nat) (a9 : Nat) (a10 : Nat) (a11 : Nat) (a12 : Nat) (a13 : Nat) (a14 : Nat) (a15 : Nat) (a16 : Nat) (v_acts : Int32) (v_keptActs : Int32) (v_typed : Int32) (v_isSet : Int32) (v_arePages : Int32) (v_place : Int32) (v_readMany : Int32) (v_now : (Nat → Int32))  (x1 : Int32) (rv : Int32)  (hf : p_X8_rhymesOf v_now x1 = some rv) : MC l (dC, dI) (tyl cI cJ cP cS) yX8_rhymesOf (Cond.code yX8_rhymesOf cX8_rhymesOf 5 (some .int) :: TBG) ({ frames := 4, cells := 0, slots := 0, locals := 88 } : Room) [.ref a0, .int x1] [(a0, .inr (8, [.ref a1, .ref a2, .int v_acts, .ref a3, .ref a4, .int v_keptActs, .ref a5, .int v_typed, .ref a6, .ref a7, .ref a8, .ref a9, .ref a10, .int v_isSet, .ref a11, .ref a12, .ref a13, .int v_arePages, .ref a14, .ref a15, .int v_place, .ref a16, .int v_readMany])), (a1, .inl (cI, 189, .inl v_now))] [(a0, .inr (8, [.ref a1, .ref a2, .int v_acts, .ref a3, .ref a4, .int v_keptActs, .ref a5, .int v_typed, .ref a6, .ref a7, .ref a8, .ref a9, .ref a10, .int v_isSet, .ref a11, .ref a12, .ref a13, .int v_arePages, .ref a14, .ref a15, .int v_place, .ref a16, .int v_readMany])), (a1, .inl (cI, 189, .inl v_now))] (some (.int rv)) := by
  intro sz
  unfold MPost
  refine Met.ofW (cc := cX8_rhymesOf) (maxL := 5) (ret := (some .int)) (by decide) rfl ?_
  intro p e s m args below meth c s₁ B hml hv
  obtain ⟨rfl, hsz, hP, hK, hD0, hF⟩ := hv
  have hx := B.exec
  have hb := B.bytes
  have hr := B.returns
  have hT : ∀ w ∈ TBG, w.before _ s = true := fun w h => atoms_spec B.pre w (List.mem_cons_of_mem _ h)
  have hown : s.vm.findClass RX8 = some m.cls := findClass_of_methodNamed B.named
  have hlocks := B.notSynchronized
  subst hsz
  have hD := hD0.self (sz := s.heap.size)
  generalize hAe : va_A [(a0, .inr (8, [.ref a1, .ref a2, .int v_acts, .ref a3, .ref a4, .int v_keptActs, .ref a5, .int v_typed, .ref a6, .ref a7, .ref a8, .ref a9, .ref a10, .int v_isSet, .ref a11, .ref a12, .ref a13, .int v_arePages, .ref a14, .ref a15, .int v_place, .ref a16, .int v_readMany])), (a1, .inl (cI, 189, .inl v_now))] s.heap.size = A at hD hF ⊢
  have hA : ∀ q : Nat, s.heap.size ≤ q → A q := fun q h => by rw [← hAe]; exact Or.inr h
  have hS : va_S A s.heap s.heap [] := va_S.rf
  have hl := lv_entry ([.ref a0, .int x1]) (n := 5) (Nat.le_of_ble_eq_true rfl)
  rw [lg_entry_eq]
  generalize (lg_sl ([.ref a0, .int x1]) ++ List.replicate (5 - (lg_sl ([.ref a0, .int x1])).length) Slot.unset).toArray = ls at hl ⊢
  have hl : lv_has ls 5 [(0, .ref a0), (1, .int x1)] := hl
  generalize ([.ref a0, .int x1] : List Value).toArray = args at hT ⊢
  have key : ∀ (Q : State → Prop), (∀ (H : Heap) (locs : List Loc) (ls : Array Slot) (pc : Nat), decode cX8_rhymesOf pc = .ok (.ireturn, 1) → va_P (dC, dI) vwCl [(a0, .inr (8, [.ref a1, .ref a2, .int v_acts, .ref a3, .ref a4, .int v_keptActs, .ref a5, .int v_typed, .ref a6, .ref a7, .ref a8, .ref a9, .ref a10, .int v_isSet, .ref a11, .ref a12, .ref a13, .int v_arePages, .ref a14, .ref a15, .int v_place, .ref a16, .int v_readMany])), (a1, .inl (cI, 189, .inl v_now))] H → va_D A [(a0, .inr (8, [.ref a1, .ref a2, .int v_acts, .ref a3, .ref a4, .int v_keptActs, .ref a5, .int v_typed, .ref a6, .ref a7, .ref a8, .ref a9, .ref a10, .int v_isSet, .ref a11, .ref a12, .ref a13, .int v_arePages, .ref a14, .ref a15, .int v_place, .ref a16, .int v_readMany])), (a1, .inl (cI, 189, .inl v_now))] → va_S A s.heap H locs → W p l e ({ frames := 4, cells := 0, slots := 0, locals := 88 } : Room) s m args below meth c H locs 0 0 Q (F0 m pc ls [.int rv])) → ∀ (H : Heap) (locs : List Loc) (ls : Array Slot), va_P (dC, dI) vwCl [(a0, .inr (8, [.ref a1, .ref a2, .int v_acts, .ref a3, .ref a4, .int v_keptActs, .ref a5, .int v_typed, .ref a6, .ref a7, .ref a8, .ref a9, .ref a10, .int v_isSet, .ref a11, .ref a12, .ref a13, .int v_arePages, .ref a14, .ref a15, .int v_place, .ref a16, .int v_readMany])), (a1, .inl (cI, 189, .inl v_now))] H → va_D A [(a0, .inr (8, [.ref a1, .ref a2, .int v_acts, .ref a3, .ref a4, .int v_keptActs, .ref a5, .int v_typed, .ref a6, .ref a7, .ref a8, .ref a9, .ref a10, .int v_isSet, .ref a11, .ref a12, .ref a13, .int v_arePages, .ref a14, .ref a15, .int v_place, .ref a16, .int v_readMany])), (a1, .inl (cI, 189, .inl v_now))] → va_S A s.heap H locs → lv_has ls 5 [(0, .ref a0), (1, .int x1)] → W p l e ({ frames := 4, cells := 0, slots := 0, locals := 88 } : Room) s m args below meth c H locs 0 0 Q (F0 m 0 ls []) := by
    intro Q hret H locs ls hP hD hS hl
    refine lv_aload_n hx hb dX8_rhymesOf_0 rfl (lv_at hl 0 rfl) ?_
    refine lv_iload_n hx hb dX8_rhymesOf_1 rfl (lv_at hl 1 rfl) ?_
    obtain ⟨r_1, hq2, hf⟩ := bd1_el hf
    refine mc_V (As := [.int x1]) (rest := []) (wr := []) (wn := [(a0, .inr (8, [.ref a1, .ref a2, .int v_acts, .ref a3, .ref a4, .int v_keptActs, .ref a5, .int v_typed, .ref a6, .ref a7, .ref a8, .ref a9, .ref a10, .int v_isSet, .ref a11, .ref a12, .ref a13, .int v_arePages, .ref a14, .ref a15, .int v_place, .ref a16, .int v_readMany])), (a1, .inl (cI, 189, .inl v_now))]) ⟨hx, hb, hml, hown, hT⟩ (c_X8_firstLine l dC dI cI cJ cP cS a0 a1 a2 a3 a4 a5 a6 a7 a8 a9 a10 a11 a12 a13 a14 a15 a16 v_acts v_keptActs v_typed v_isSet v_arePages v_place v_readMany v_now x1 r_1 hq2) (cwV 1 hT (gdV q_ml_X8_167 q_im_X8_firstLine q_se_X8_firstLine q_in_X8 q_co_X8_firstLine) rfl rfl rfl hd_X8_firstLine ⟨Nat.le_of_ble_eq_true rfl, Nat.le_of_ble_eq_true rfl⟩) hK hF hP hD hS hA 0 rfl rfl rfl [0, 1] [] [0, 1] rfl (by decide) rfl (by decide) (by decide) rfl (by decide) rfl hl.1 rfl (Nat.le_of_ble_eq_true rfl) dX8_rhymesOf_2 ⟨Nat.zero_le _, Nat.zero_le _⟩ (fun H locs hP hD hS => ?_)
    refine W.eq (g2 := F0 m 5 ls [.int r_1]) rfl ?_
    refine lv_istore_n (lv' := [(2, .int r_1), (0, .ref a0), (1, .int x1)]) hx hb dX8_rhymesOf_5 rfl hl (by decide) rfl (fun ls hl => ?_)
    refine lv_iconst (v := 0) hx hb dX8_rhymesOf_6 (by decide) ?_
    refine lv_istore_n (lv' := [(3, .int (0 : Int32)), (2, .int r_1), (0, .ref a0), (1, .int x1)]) hx hb dX8_rhymesOf_7 rfl hl (by decide) rfl (fun ls hl => ?_)
    refine lv_iload_n hx hb dX8_rhymesOf_8 rfl (lv_at hl 1 rfl) ?_
    refine lv_istore (lv' := [(4, .int r_1), (3, .int (0 : Int32)), (2, .int r_1), (0, .ref a0), (1, .int x1)]) hx hb dX8_rhymesOf_9 hl (by decide) rfl (fun ls hl => ?_)
    have hL11 : ∀ (rr : Int32 × Int32), (∀ (z_11 : Int32) (z_12 : Int32), rr = (z_11, z_12) → ∀ (H : Heap) (locs : List Loc) (ls : Array Slot), va_P (dC, dI) vwCl [(a0, .inr (8, [.ref a1, .ref a2, .int v_acts, .ref a3, .ref a4, .int v_keptActs, .ref a5, .int v_typed, .ref a6, .ref a7, .ref a8, .ref a9, .ref a10, .int v_isSet, .ref a11, .ref a12, .ref a13, .int v_arePages, .ref a14, .ref a15, .int v_place, .ref a16, .int v_readMany])), (a1, .inl (cI, 189, .inl v_now))] H → va_D A [(a0, .inr (8, [.ref a1, .ref a2, .int v_acts, .ref a3, .ref a4, .int v_keptActs, .ref a5, .int v_typed, .ref a6, .ref a7, .ref a8, .ref a9, .ref a10, .int v_isSet, .ref a11, .ref a12, .ref a13, .int v_arePages, .ref a14, .ref a15, .int v_place, .ref a16, .int v_readMany])), (a1, .inl (cI, 189, .inl v_now))] → va_S A s.heap H locs → lv_has ls 5 [(3, .int z_11)] → W p l e ({ frames := 4, cells := 0, slots := 0, locals := 88 } : Room) s m args below meth c H locs 0 0 Q (F0 m 39 ls [])) → ∀ (n : Nat) (i3_3 : Int32) (i4_4 : Int32), loopN (p_X8_rhymesOf_L11 v_now r_1) n (i3_3, i4_4) = some rr → ∀ (H : Heap) (locs : List Loc) (ls : Array Slot), va_P (dC, dI) vwCl [(a0, .inr (8, [.ref a1, .ref a2, .int v_acts, .ref a3, .ref a4, .int v_keptActs, .ref a5, .int v_typed, .ref a6, .ref a7, .ref a8, .ref a9, .ref a10, .int v_isSet, .ref a11, .ref a12, .ref a13, .int v_arePages, .ref a14, .ref a15, .int v_place, .ref a16, .int v_readMany])), (a1, .inl (cI, 189, .inl v_now))] H → va_D A [(a0, .inr (8, [.ref a1, .ref a2, .int v_acts, .ref a3, .ref a4, .int v_keptActs, .ref a5, .int v_typed, .ref a6, .ref a7, .ref a8, .ref a9, .ref a10, .int v_isSet, .ref a11, .ref a12, .ref a13, .int v_arePages, .ref a14, .ref a15, .int v_place, .ref a16, .int v_readMany])), (a1, .inl (cI, 189, .inl v_now))] → va_S A s.heap H locs → lv_has ls 5 [(0, .ref a0), (2, .int r_1), (3, .int i3_3), (4, .int i4_4)] → W p l e ({ frames := 4, cells := 0, slots := 0, locals := 88 } : Room) s m args below meth c H locs 0 0 Q (F0 m 11 ls []) := by
      intro rr hk11 n
      induction n with
      | zero => intro i3_3 i4_4 hf; cases hf
      | succ n ih11 =>
        intro i3_3 i4_4 hf H locs ls hP hD hS hl
        obtain ⟨o11, hf, hi, he⟩ := loopN_el hf
        rw [p_X8_rhymesOf_L11] at hf
        refine lv_iload hx hb dX8_rhymesOf_11 (lv_at hl 3 rfl) ?_
        refine lv_aload_n hx hb dX8_rhymesOf_13 rfl (lv_at hl 0 rfl) ?_
        refine lv_iload_n hx hb dX8_rhymesOf_14 rfl (lv_at hl 1 rfl) ?_
        obtain ⟨r_5, hq6, hf⟩ := bd1_el hf
        refine mc_V (As := [.int r_1]) (rest := [.int i4_4]) (wr := []) (wn := [(a0, .inr (8, [.ref a1, .ref a2, .int v_acts, .ref a3, .ref a4, .int v_keptActs, .ref a5, .int v_typed, .ref a6, .ref a7, .ref a8, .ref a9, .ref a10, .int v_isSet, .ref a11, .ref a12, .ref a13, .int v_arePages, .ref a14, .ref a15, .int v_place, .ref a16, .int v_readMany])), (a1, .inl (cI, 189, .inl v_now))]) ⟨hx, hb, hml, hown, hT⟩ (c_X8_endOf l dC dI cI cJ cP cS a0 a1 a2 a3 a4 a5 a6 a7 a8 a9 a10 a11 a12 a13 a14 a15 a16 v_acts v_keptActs v_typed v_isSet v_arePages v_place v_readMany v_now r_1 r_5 hq6) (cwV 1 hT (gdV q_ml_X8_124 q_im_X8_endOf q_se_X8_endOf q_in_X8 q_co_X8_endOf) rfl rfl rfl hd_X8_endOf ⟨Nat.le_of_ble_eq_true rfl, Nat.le_of_ble_eq_true rfl⟩) hK hF hP hD hS hA 0 rfl rfl rfl [0, 1] [] [0, 1] rfl (by decide) rfl (by decide) (by decide) rfl (by decide) rfl hl.1 rfl (Nat.le_of_ble_eq_true rfl) dX8_rhymesOf_15 ⟨Nat.zero_le _, Nat.zero_le _⟩ (fun H locs hP hD hS => ?_)
        refine W.eq (g2 := F0 m 18 ls [.int r_5, .int i4_4]) rfl ?_
        refine lv_icmp_ge (tgt := 39) hx hb dX8_rhymesOf_18 (by decide) (fun c7 => ?_) (fun c7 => ?_)
        · replace hf := it_t c7 hf
          exact hk11 _ _ (he _ (Option.some.inj hf).symm).symm H locs ls hP hD hS (lv_sub hl [2] rfl)
        · replace hf := it_f c7 hf
          refine lv_iload_n hx hb dX8_rhymesOf_21 rfl (lv_at hl 2 rfl) ?_
          refine lv_iconst (v := 1) hx hb dX8_rhymesOf_22 (by decide) ?_
          refine lv_aload_n hx hb dX8_rhymesOf_23 rfl (lv_at hl 0 rfl) ?_
          refine lv_iload hx hb dX8_rhymesOf_24 (lv_at hl 3 rfl) ?_
          refine lv_iconst (v := 0) hx hb dX8_rhymesOf_26 (by decide) ?_
          obtain ⟨r_8, hq9, hf⟩ := bd1_el hf
          refine mc_V (As := [.int i4_4, .int (0 : Int32)]) (rest := [.int (1 : Int32), .int i3_3]) (wr := []) (wn := [(a0, .inr (8, [.ref a1, .ref a2, .int v_acts, .ref a3, .ref a4, .int v_keptActs, .ref a5, .int v_typed, .ref a6, .ref a7, .ref a8, .ref a9, .ref a10, .int v_isSet, .ref a11, .ref a12, .ref a13, .int v_arePages, .ref a14, .ref a15, .int v_place, .ref a16, .int v_readMany])), (a1, .inl (cI, 189, .inl v_now))]) ⟨hx, hb, hml, hown, hT⟩ (c_X8_at l dC dI cI cJ cP cS a0 a1 a2 a3 a4 a5 a6 a7 a8 a9 a10 a11 a12 a13 a14 a15 a16 v_acts v_keptActs v_typed v_isSet v_arePages v_place v_readMany v_now i4_4 (0 : Int32) r_8 hq9) (cwV 2 hT (gdV q_ml_X8_67 q_im_X8_at q_se_X8_at q_in_X8 q_co_X8_at) rfl rfl rfl hd_X8_at ⟨Nat.le_of_ble_eq_true rfl, Nat.le_of_ble_eq_true rfl⟩) hK hF hP hD hS hA 0 rfl rfl rfl [0, 1] [] [0, 1] rfl (by decide) rfl (by decide) (by decide) rfl (by decide) rfl hl.1 rfl (Nat.le_of_ble_eq_true rfl) dX8_rhymesOf_27 ⟨Nat.zero_le _, Nat.zero_le _⟩ (fun H locs hP hD hS => ?_)
          refine W.eq (g2 := F0 m 30 ls [.int r_8, .int (1 : Int32), .int i3_3]) rfl ?_
          refine lv_ishl hx hb dX8_rhymesOf_30 ?_
          refine lv_ior hx hb dX8_rhymesOf_31 ?_
          obtain ⟨x3_10, ex3_10, hf⟩ := nm_el hf
          refine lv_as (congrArg Value.int ex3_10) ?_
          refine lv_istore_n (lv' := [(3, .int x3_10), (0, .ref a0), (2, .int r_1), (4, .int i4_4)]) hx hb dX8_rhymesOf_32 rfl hl (by decide) rfl (fun ls hl => ?_)
          refine lv_iinc (v := (i4_4 + (1 : Int32))) (lv' := [(4, .int (i4_4 + (1 : Int32))), (3, .int x3_10), (0, .ref a0), (2, .int r_1)]) hx hb dX8_rhymesOf_33 hl (k := 3) rfl rfl (by decide) rfl (fun ls hl => ?_)
          refine lv_goto (tgt := 11) hx hb dX8_rhymesOf_36 (by decide) ?_
          exact ih11 x3_10 (i4_4 + (1 : Int32)) (hi _ (Option.some.inj hf).symm) H locs ls hP hD hS (lv_sub hl [2, 3, 1, 0] rfl)
    obtain ⟨f3_13, f4_14, hq, hf⟩ := bd2_el hf
    refine hL11 (f3_13, f4_14) (fun z_11 z_12 h9 H locs ls hP hD hS hl => ?_) fuel (0 : Int32) r_1 hq H locs ls hP hD hS (lv_sub hl [3, 2, 1, 0] rfl)
    simp only [Prod.mk.injEq] at h9
    obtain ⟨h9_0, h9_1⟩ := h9
    subst h9_0; subst h9_1
    refine lv_iload_n hx hb dX8_rhymesOf_39 rfl (lv_at hl 0 rfl) ?_
    obtain ⟨r_15, hq16, hf⟩ := bd1_el hf
    refine mc_S (As := [.int f3_13]) (rest := []) (wr := [(a0, .inr (8, [.ref a1, .ref a2, .int v_acts, .ref a3, .ref a4, .int v_keptActs, .ref a5, .int v_typed, .ref a6, .ref a7, .ref a8, .ref a9, .ref a10, .int v_isSet, .ref a11, .ref a12, .ref a13, .int v_arePages, .ref a14, .ref a15, .int v_place, .ref a16, .int v_readMany])), (a1, .inl (cI, 189, .inl v_now))]) (wn := [(a0, .inr (8, [.ref a1, .ref a2, .int v_acts, .ref a3, .ref a4, .int v_keptActs, .ref a5, .int v_typed, .ref a6, .ref a7, .ref a8, .ref a9, .ref a10, .int v_isSet, .ref a11, .ref a12, .ref a13, .int v_arePages, .ref a14, .ref a15, .int v_place, .ref a16, .int v_readMany])), (a1, .inl (cI, 189, .inl v_now))]) ⟨hx, hb, hml, hown, hT⟩ (c_X8_ones l dC dI cI cJ cP cS f3_13 r_15 hq16) (va_cwS 1 hT (gdS q_ml_X8_108 q_st_X8_ones q_in_X8 q_co_X8_ones) rfl rfl rfl hd_X8_ones ⟨Nat.le_of_ble_eq_true rfl, Nat.le_of_ble_eq_true rfl⟩) hK hF hP hD hS hA [] [0, 1] [0, 1] rfl (by decide) rfl (by decide) (by decide) rfl (by decide) rfl hl.1 rfl (Nat.le_of_ble_eq_true rfl) dX8_rhymesOf_40 ⟨Nat.zero_le _, Nat.zero_le _⟩ (fun H locs hP hD hS => ?_)
    refine W.eq (g2 := F0 m 43 ls [.int r_15]) rfl ?_
    replace hf := Option.some.inj hf
    subst hf
    exact hret H locs ls _ dX8_rhymesOf_43 hP hD hS
  refine key _ ?_ _ _ _ hP hD hS hl
  intro H locs ls pc d hP hD hS
  exact W.iret (v := rv) hx hb hr (fun t ht hW => ⟨⟨rfl, by rw [ht]; exact hP, hD⟩, hS.F ht⟩) hS.2.2 d
def p_X8_alike_L2 (v_now : (Nat → Int32)) (x1 : Int32) (i2_1 : Int32) : Option ((Int32) ⊕ (Int32)) :=
  (bd1 (p_X8_linesOf v_now i2_1) fun r_2 => (bd1 (p_X8_linesOf v_now x1) fun r_4 => (if r_2 = r_4 then (bd1 (p_X8_shapeOf v_now i2_1) fun r_7 => (bd1 (p_X8_shapeOf v_now x1) fun r_9 => (if (lg_cmp r_7 r_9) = (0 : Int32) then (some (.inr i2_1)) else (some (.inl (i2_1 + (1 : Int32))))))) else (some (.inl (i2_1 + (1 : Int32)))))))
def p_X8_alike (v_now : (Nat → Int32)) (x1 : Int32) : Option (Int32) :=
  (bd1 (loopN (p_X8_alike_L2 v_now x1) fuel (0 : Int32)) fun f2_13 => (some f2_13))
set_option maxHeartbeats 4000000 in
set_option maxRecDepth 100000 in
theorem c_X8_alike (l : Launch) (dC : Nat → ClassId) (dI : Nat → Nat → Nat) (cI cJ cP cS : ClassId) (a0 : Nat) (a1 : Nat) (a2 : Nat) (a3 : Nat) (a4 : Nat) (a5 : Nat) (a6 : Nat) (a7 : Nat) (a8 : Nat) (a9 : Nat) (a10 : Nat) (a11 : Nat) (a12 : Nat) (a13 : Nat) (a14 : Nat) (a15 : Nat) (a16 : Nat) (v_acts : Int32) (v_keptActs : Int32) (v_typed : Int32) (v_isSet : Int32) (v_arePages : Int32) (v_place : Int32) (v_readMany : Int32) (v_now : (Nat → Int32))  (x1 : Int32) (rv : Int32)  (hf : p_X8_alike v_now x1 = some rv) : MC l (dC, dI) (tyl cI cJ cP cS) yX8_alike (Cond.code yX8_alike cX8_alike 3 (some .int) :: TBG) ({ frames := 5, cells := 0, slots := 0, locals := 114 } : Room) [.ref a0, .int x1] [(a0, .inr (8, [.ref a1, .ref a2, .int v_acts, .ref a3, .ref a4, .int v_keptActs, .ref a5, .int v_typed, .ref a6, .ref a7, .ref a8, .ref a9, .ref a10, .int v_isSet, .ref a11, .ref a12, .ref a13, .int v_arePages, .ref a14, .ref a15, .int v_place, .ref a16, .int v_readMany])), (a1, .inl (cI, 189, .inl v_now))] [(a0, .inr (8, [.ref a1, .ref a2, .int v_acts, .ref a3, .ref a4, .int v_keptActs, .ref a5, .int v_typed, .ref a6, .ref a7, .ref a8, .ref a9, .ref a10, .int v_isSet, .ref a11, .ref a12, .ref a13, .int v_arePages, .ref a14, .ref a15, .int v_place, .ref a16, .int v_readMany])), (a1, .inl (cI, 189, .inl v_now))] (some (.int rv)) := by
  intro sz
  unfold MPost
  refine Met.ofW (cc := cX8_alike) (maxL := 3) (ret := (some .int)) (by decide) rfl ?_
  intro p e s m args below meth c s₁ B hml hv
  obtain ⟨rfl, hsz, hP, hK, hD0, hF⟩ := hv
  have hx := B.exec
  have hb := B.bytes
  have hr := B.returns
  have hT : ∀ w ∈ TBG, w.before _ s = true := fun w h => atoms_spec B.pre w (List.mem_cons_of_mem _ h)
  have hown : s.vm.findClass RX8 = some m.cls := findClass_of_methodNamed B.named
  have hlocks := B.notSynchronized
  subst hsz
  have hD := hD0.self (sz := s.heap.size)
  generalize hAe : va_A [(a0, .inr (8, [.ref a1, .ref a2, .int v_acts, .ref a3, .ref a4, .int v_keptActs, .ref a5, .int v_typed, .ref a6, .ref a7, .ref a8, .ref a9, .ref a10, .int v_isSet, .ref a11, .ref a12, .ref a13, .int v_arePages, .ref a14, .ref a15, .int v_place, .ref a16, .int v_readMany])), (a1, .inl (cI, 189, .inl v_now))] s.heap.size = A at hD hF ⊢
  have hA : ∀ q : Nat, s.heap.size ≤ q → A q := fun q h => by rw [← hAe]; exact Or.inr h
  have hS : va_S A s.heap s.heap [] := va_S.rf
  have hl := lv_entry ([.ref a0, .int x1]) (n := 3) (Nat.le_of_ble_eq_true rfl)
  rw [lg_entry_eq]
  generalize (lg_sl ([.ref a0, .int x1]) ++ List.replicate (3 - (lg_sl ([.ref a0, .int x1])).length) Slot.unset).toArray = ls at hl ⊢
  have hl : lv_has ls 3 [(0, .ref a0), (1, .int x1)] := hl
  generalize ([.ref a0, .int x1] : List Value).toArray = args at hT ⊢
  have key : ∀ (Q : State → Prop), (∀ (H : Heap) (locs : List Loc) (ls : Array Slot) (pc : Nat), decode cX8_alike pc = .ok (.ireturn, 1) → va_P (dC, dI) vwCl [(a0, .inr (8, [.ref a1, .ref a2, .int v_acts, .ref a3, .ref a4, .int v_keptActs, .ref a5, .int v_typed, .ref a6, .ref a7, .ref a8, .ref a9, .ref a10, .int v_isSet, .ref a11, .ref a12, .ref a13, .int v_arePages, .ref a14, .ref a15, .int v_place, .ref a16, .int v_readMany])), (a1, .inl (cI, 189, .inl v_now))] H → va_D A [(a0, .inr (8, [.ref a1, .ref a2, .int v_acts, .ref a3, .ref a4, .int v_keptActs, .ref a5, .int v_typed, .ref a6, .ref a7, .ref a8, .ref a9, .ref a10, .int v_isSet, .ref a11, .ref a12, .ref a13, .int v_arePages, .ref a14, .ref a15, .int v_place, .ref a16, .int v_readMany])), (a1, .inl (cI, 189, .inl v_now))] → va_S A s.heap H locs → W p l e ({ frames := 5, cells := 0, slots := 0, locals := 114 } : Room) s m args below meth c H locs 0 0 Q (F0 m pc ls [.int rv])) → ∀ (H : Heap) (locs : List Loc) (ls : Array Slot), va_P (dC, dI) vwCl [(a0, .inr (8, [.ref a1, .ref a2, .int v_acts, .ref a3, .ref a4, .int v_keptActs, .ref a5, .int v_typed, .ref a6, .ref a7, .ref a8, .ref a9, .ref a10, .int v_isSet, .ref a11, .ref a12, .ref a13, .int v_arePages, .ref a14, .ref a15, .int v_place, .ref a16, .int v_readMany])), (a1, .inl (cI, 189, .inl v_now))] H → va_D A [(a0, .inr (8, [.ref a1, .ref a2, .int v_acts, .ref a3, .ref a4, .int v_keptActs, .ref a5, .int v_typed, .ref a6, .ref a7, .ref a8, .ref a9, .ref a10, .int v_isSet, .ref a11, .ref a12, .ref a13, .int v_arePages, .ref a14, .ref a15, .int v_place, .ref a16, .int v_readMany])), (a1, .inl (cI, 189, .inl v_now))] → va_S A s.heap H locs → lv_has ls 3 [(0, .ref a0), (1, .int x1)] → W p l e ({ frames := 5, cells := 0, slots := 0, locals := 114 } : Room) s m args below meth c H locs 0 0 Q (F0 m 0 ls []) := by
    intro Q hret H locs ls hP hD hS hl
    refine lv_iconst (v := 0) hx hb dX8_alike_0 (by decide) ?_
    refine lv_istore_n (lv' := [(2, .int (0 : Int32)), (0, .ref a0), (1, .int x1)]) hx hb dX8_alike_1 rfl hl (by decide) rfl (fun ls hl => ?_)
    have hL2 : ∀ (rr : Int32), (∀ (z_12 : Int32), rr = z_12 → ∀ (H : Heap) (locs : List Loc) (ls : Array Slot), va_P (dC, dI) vwCl [(a0, .inr (8, [.ref a1, .ref a2, .int v_acts, .ref a3, .ref a4, .int v_keptActs, .ref a5, .int v_typed, .ref a6, .ref a7, .ref a8, .ref a9, .ref a10, .int v_isSet, .ref a11, .ref a12, .ref a13, .int v_arePages, .ref a14, .ref a15, .int v_place, .ref a16, .int v_readMany])), (a1, .inl (cI, 189, .inl v_now))] H → va_D A [(a0, .inr (8, [.ref a1, .ref a2, .int v_acts, .ref a3, .ref a4, .int v_keptActs, .ref a5, .int v_typed, .ref a6, .ref a7, .ref a8, .ref a9, .ref a10, .int v_isSet, .ref a11, .ref a12, .ref a13, .int v_arePages, .ref a14, .ref a15, .int v_place, .ref a16, .int v_readMany])), (a1, .inl (cI, 189, .inl v_now))] → va_S A s.heap H locs → lv_has ls 3 [(2, .int z_12)] → W p l e ({ frames := 5, cells := 0, slots := 0, locals := 114 } : Room) s m args below meth c H locs 0 0 Q (F0 m 35 ls [])) → ∀ (n : Nat) (i2_1 : Int32), loopN (p_X8_alike_L2 v_now x1) n i2_1 = some rr → ∀ (H : Heap) (locs : List Loc) (ls : Array Slot), va_P (dC, dI) vwCl [(a0, .inr (8, [.ref a1, .ref a2, .int v_acts, .ref a3, .ref a4, .int v_keptActs, .ref a5, .int v_typed, .ref a6, .ref a7, .ref a8, .ref a9, .ref a10, .int v_isSet, .ref a11, .ref a12, .ref a13, .int v_arePages, .ref a14, .ref a15, .int v_place, .ref a16, .int v_readMany])), (a1, .inl (cI, 189, .inl v_now))] H → va_D A [(a0, .inr (8, [.ref a1, .ref a2, .int v_acts, .ref a3, .ref a4, .int v_keptActs, .ref a5, .int v_typed, .ref a6, .ref a7, .ref a8, .ref a9, .ref a10, .int v_isSet, .ref a11, .ref a12, .ref a13, .int v_arePages, .ref a14, .ref a15, .int v_place, .ref a16, .int v_readMany])), (a1, .inl (cI, 189, .inl v_now))] → va_S A s.heap H locs → lv_has ls 3 [(0, .ref a0), (1, .int x1), (2, .int i2_1)] → W p l e ({ frames := 5, cells := 0, slots := 0, locals := 114 } : Room) s m args below meth c H locs 0 0 Q (F0 m 2 ls []) := by
      intro rr hk2 n
      induction n with
      | zero => intro i2_1 hf; cases hf
      | succ n ih2 =>
        intro i2_1 hf H locs ls hP hD hS hl
        obtain ⟨o2, hf, hi, he⟩ := loopN_el hf
        refine lv_aload_n hx hb dX8_alike_2 rfl (lv_at hl 0 rfl) ?_
        refine lv_iload_n hx hb dX8_alike_3 rfl (lv_at hl 2 rfl) ?_
        obtain ⟨r_2, hq3, hf⟩ := bd1_el hf
        refine mc_V (As := [.int i2_1]) (rest := []) (wr := []) (wn := [(a0, .inr (8, [.ref a1, .ref a2, .int v_acts, .ref a3, .ref a4, .int v_keptActs, .ref a5, .int v_typed, .ref a6, .ref a7, .ref a8, .ref a9, .ref a10, .int v_isSet, .ref a11, .ref a12, .ref a13, .int v_arePages, .ref a14, .ref a15, .int v_place, .ref a16, .int v_readMany])), (a1, .inl (cI, 189, .inl v_now))]) ⟨hx, hb, hml, hown, hT⟩ (c_X8_linesOf l dC dI cI cJ cP cS a0 a1 a2 a3 a4 a5 a6 a7 a8 a9 a10 a11 a12 a13 a14 a15 a16 v_acts v_keptActs v_typed v_isSet v_arePages v_place v_readMany v_now i2_1 r_2 hq3) (cwV 1 hT (gdV q_ml_X8_172 q_im_X8_linesOf q_se_X8_linesOf q_in_X8 q_co_X8_linesOf) rfl rfl rfl hd_X8_linesOf ⟨Nat.le_of_ble_eq_true rfl, Nat.le_of_ble_eq_true rfl⟩) hK hF hP hD hS hA 0 rfl rfl rfl [0, 1] [] [0, 1] rfl (by decide) rfl (by decide) (by decide) rfl (by decide) rfl hl.1 rfl (Nat.le_of_ble_eq_true rfl) dX8_alike_4 ⟨Nat.zero_le _, Nat.zero_le _⟩ (fun H locs hP hD hS => ?_)
        refine W.eq (g2 := F0 m 7 ls [.int r_2]) rfl ?_
        refine lv_aload_n hx hb dX8_alike_7 rfl (lv_at hl 0 rfl) ?_
        refine lv_iload_n hx hb dX8_alike_8 rfl (lv_at hl 1 rfl) ?_
        obtain ⟨r_4, hq5, hf⟩ := bd1_el hf
        refine mc_V (As := [.int x1]) (rest := [.int r_2]) (wr := []) (wn := [(a0, .inr (8, [.ref a1, .ref a2, .int v_acts, .ref a3, .ref a4, .int v_keptActs, .ref a5, .int v_typed, .ref a6, .ref a7, .ref a8, .ref a9, .ref a10, .int v_isSet, .ref a11, .ref a12, .ref a13, .int v_arePages, .ref a14, .ref a15, .int v_place, .ref a16, .int v_readMany])), (a1, .inl (cI, 189, .inl v_now))]) ⟨hx, hb, hml, hown, hT⟩ (c_X8_linesOf l dC dI cI cJ cP cS a0 a1 a2 a3 a4 a5 a6 a7 a8 a9 a10 a11 a12 a13 a14 a15 a16 v_acts v_keptActs v_typed v_isSet v_arePages v_place v_readMany v_now x1 r_4 hq5) (cwV 1 hT (gdV q_ml_X8_172 q_im_X8_linesOf q_se_X8_linesOf q_in_X8 q_co_X8_linesOf) rfl rfl rfl hd_X8_linesOf ⟨Nat.le_of_ble_eq_true rfl, Nat.le_of_ble_eq_true rfl⟩) hK hF hP hD hS hA 0 rfl rfl rfl [0, 1] [] [0, 1] rfl (by decide) rfl (by decide) (by decide) rfl (by decide) rfl hl.1 rfl (Nat.le_of_ble_eq_true rfl) dX8_alike_9 ⟨Nat.zero_le _, Nat.zero_le _⟩ (fun H locs hP hD hS => ?_)
        refine W.eq (g2 := F0 m 12 ls [.int r_4, .int r_2]) rfl ?_
        refine lv_icmp_ne (tgt := 29) hx hb dX8_alike_12 (by decide) (fun c6 => ?_) (fun c6 => ?_)
        · replace hf := it_f c6 hf
          refine lv_iinc (v := (i2_1 + (1 : Int32))) (lv' := [(2, .int (i2_1 + (1 : Int32))), (0, .ref a0), (1, .int x1)]) hx hb dX8_alike_29 hl (k := 2) rfl rfl (by decide) rfl (fun ls hl => ?_)
          refine lv_goto (tgt := 2) hx hb dX8_alike_32 (by decide) ?_
          exact ih2 (i2_1 + (1 : Int32)) (hi _ (Option.some.inj hf).symm) H locs ls hP hD hS (lv_sub hl [1, 2, 0] rfl)
        · replace hf := it_t c6 hf
          refine lv_aload_n hx hb dX8_alike_15 rfl (lv_at hl 0 rfl) ?_
          refine lv_iload_n hx hb dX8_alike_16 rfl (lv_at hl 2 rfl) ?_
          obtain ⟨r_7, hq8, hf⟩ := bd1_el hf
          refine mc_V (As := [.int i2_1]) (rest := []) (wr := []) (wn := [(a0, .inr (8, [.ref a1, .ref a2, .int v_acts, .ref a3, .ref a4, .int v_keptActs, .ref a5, .int v_typed, .ref a6, .ref a7, .ref a8, .ref a9, .ref a10, .int v_isSet, .ref a11, .ref a12, .ref a13, .int v_arePages, .ref a14, .ref a15, .int v_place, .ref a16, .int v_readMany])), (a1, .inl (cI, 189, .inl v_now))]) ⟨hx, hb, hml, hown, hT⟩ (c_X8_shapeOf l dC dI cI cJ cP cS a0 a1 a2 a3 a4 a5 a6 a7 a8 a9 a10 a11 a12 a13 a14 a15 a16 v_acts v_keptActs v_typed v_isSet v_arePages v_place v_readMany v_now i2_1 r_7 hq8) (cwV 1 hT (gdV q_ml_X8_175 q_im_X8_shapeOf q_se_X8_shapeOf q_in_X8 q_co_X8_shapeOf) rfl rfl rfl hd_X8_shapeOf ⟨Nat.le_of_ble_eq_true rfl, Nat.le_of_ble_eq_true rfl⟩) hK hF hP hD hS hA 0 rfl rfl rfl [0, 1] [] [0, 1] rfl (by decide) rfl (by decide) (by decide) rfl (by decide) rfl hl.1 rfl (Nat.le_of_ble_eq_true rfl) dX8_alike_17 ⟨Nat.zero_le _, Nat.zero_le _⟩ (fun H locs hP hD hS => ?_)
          refine W.eq (g2 := F0 m 20 ls [.long r_7]) rfl ?_
          refine lv_aload_n hx hb dX8_alike_20 rfl (lv_at hl 0 rfl) ?_
          refine lv_iload_n hx hb dX8_alike_21 rfl (lv_at hl 1 rfl) ?_
          obtain ⟨r_9, hq10, hf⟩ := bd1_el hf
          refine mc_V (As := [.int x1]) (rest := [.long r_7]) (wr := []) (wn := [(a0, .inr (8, [.ref a1, .ref a2, .int v_acts, .ref a3, .ref a4, .int v_keptActs, .ref a5, .int v_typed, .ref a6, .ref a7, .ref a8, .ref a9, .ref a10, .int v_isSet, .ref a11, .ref a12, .ref a13, .int v_arePages, .ref a14, .ref a15, .int v_place, .ref a16, .int v_readMany])), (a1, .inl (cI, 189, .inl v_now))]) ⟨hx, hb, hml, hown, hT⟩ (c_X8_shapeOf l dC dI cI cJ cP cS a0 a1 a2 a3 a4 a5 a6 a7 a8 a9 a10 a11 a12 a13 a14 a15 a16 v_acts v_keptActs v_typed v_isSet v_arePages v_place v_readMany v_now x1 r_9 hq10) (cwV 1 hT (gdV q_ml_X8_175 q_im_X8_shapeOf q_se_X8_shapeOf q_in_X8 q_co_X8_shapeOf) rfl rfl rfl hd_X8_shapeOf ⟨Nat.le_of_ble_eq_true rfl, Nat.le_of_ble_eq_true rfl⟩) hK hF hP hD hS hA 0 rfl rfl rfl [0, 1] [] [0, 1] rfl (by decide) rfl (by decide) (by decide) rfl (by decide) rfl hl.1 rfl (Nat.le_of_ble_eq_true rfl) dX8_alike_22 ⟨Nat.zero_le _, Nat.zero_le _⟩ (fun H locs hP hD hS => ?_)
          refine W.eq (g2 := F0 m 25 ls [.long r_9, .long r_7]) rfl ?_
          refine W.lcmp hx hb dX8_alike_25 ?_
          refine lv_if_eq (tgt := 35) hx hb dX8_alike_26 (by decide) (fun c11 => ?_) (fun c11 => ?_)
          · replace hf := it_t c11 hf
            exact hk2 _ (he _ (Option.some.inj hf).symm).symm H locs ls hP hD hS (lv_sub hl [2] rfl)
          · replace hf := it_f c11 hf
            refine lv_iinc (v := (i2_1 + (1 : Int32))) (lv' := [(2, .int (i2_1 + (1 : Int32))), (0, .ref a0), (1, .int x1)]) hx hb dX8_alike_29 hl (k := 2) rfl rfl (by decide) rfl (fun ls hl => ?_)
            refine lv_goto (tgt := 2) hx hb dX8_alike_32 (by decide) ?_
            exact ih2 (i2_1 + (1 : Int32)) (hi _ (Option.some.inj hf).symm) H locs ls hP hD hS (lv_sub hl [1, 2, 0] rfl)
    obtain ⟨f2_13, hq, hf⟩ := bd1_el hf
    refine hL2 f2_13 (fun z_12 h9 H locs ls hP hD hS hl => ?_) fuel (0 : Int32) hq H locs ls hP hD hS (lv_sub hl [1, 2, 0] rfl)
    subst h9
    refine lv_iload_n hx hb dX8_alike_35 rfl (lv_at hl 0 rfl) ?_
    replace hf := Option.some.inj hf
    subst hf
    exact hret H locs ls _ dX8_alike_36 hP hD hS
  refine key _ ?_ _ _ _ hP hD hS hl
  intro H locs ls pc d hP hD hS
  exact W.iret (v := rv) hx hb hr (fun t ht hW => ⟨⟨rfl, by rw [ht]; exact hP, hD⟩, hS.F ht⟩) hS.2.2 d
