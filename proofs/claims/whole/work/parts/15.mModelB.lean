def p_X8_stanza (v_now : (Nat → Int32)) (x1 : Int32) (x2 : Int32) : Option (Int64) :=
  (bd1 (p_X8_stanzas v_now) fun r_1 => (bd1 (p_X8_in (Int32.toInt64 x1) (0 : Int64) (Int32.toInt64 (r_1 - (1 : Int32)))) fun r_3 => (if r_3 = (0 : Int32) then (some (-1 : Int64)) else (if x2 = (0 : Int32) then (bd1 (p_X8_firstLine v_now x1) fun r_7 => (some (Int32.toInt64 r_7))) else (if x2 = (1 : Int32) then (bd1 (p_X8_linesOf v_now x1) fun r_10 => (some (Int32.toInt64 r_10))) else (if x2 = (2 : Int32) then (bd1 (p_X8_rhymesOf v_now x1) fun r_13 => (some (Int32.toInt64 r_13))) else (if x2 = (3 : Int32) then (bd1 (p_X8_shapeOf v_now x1) fun r_16 => (some r_16)) else (if x2 = (4 : Int32) then (bd1 (p_X8_alike v_now x1) fun r_19 => (some (Int32.toInt64 r_19))) else (some (-1 : Int64))))))))))
set_option maxHeartbeats 4000000 in
set_option maxRecDepth 100000 in
theorem c_X8_stanza (l : Launch) (dC : Nat → ClassId) (dI : Nat → Nat → Nat) (cI cJ cP cS : ClassId) (a0 : Nat) (a1 : Nat) (a2 : Nat) (a3 : Nat) (a4 : Nat) (a5 : Nat) (a6 : Nat) (a7 : Nat) (a8 : Nat) (a9 : Nat) (a10 : Nat) (a11 : Nat) (a12 : Nat) (a13 : Nat) (a14 : Nat) (a15 : Nat) (a16 : Nat) (v_acts : Int32) (v_keptActs : Int32) (v_typed : Int32) (v_isSet : Int32) (v_arePages : Int32) (v_place : Int32) (v_readMany : Int32) (v_now : (Nat → Int32))  (x1 : Int32) (x2 : Int32) (rv : Int64)  (hf : p_X8_stanza v_now x1 x2 = some rv) : MC l (dC, dI) (tyl cI cJ cP cS) yX8_stanza (Cond.code yX8_stanza cX8_stanza 3 (some .long) :: TBG) ({ frames := 6, cells := 0, slots := 0, locals := 136 } : Room) [.ref a0, .int x1, .int x2] [(a0, .inr (8, [.ref a1, .ref a2, .int v_acts, .ref a3, .ref a4, .int v_keptActs, .ref a5, .int v_typed, .ref a6, .ref a7, .ref a8, .ref a9, .ref a10, .int v_isSet, .ref a11, .ref a12, .ref a13, .int v_arePages, .ref a14, .ref a15, .int v_place, .ref a16, .int v_readMany])), (a1, .inl (cI, 189, .inl v_now))] [(a0, .inr (8, [.ref a1, .ref a2, .int v_acts, .ref a3, .ref a4, .int v_keptActs, .ref a5, .int v_typed, .ref a6, .ref a7, .ref a8, .ref a9, .ref a10, .int v_isSet, .ref a11, .ref a12, .ref a13, .int v_arePages, .ref a14, .ref a15, .int v_place, .ref a16, .int v_readMany])), (a1, .inl (cI, 189, .inl v_now))] (some (.long rv)) := by
  intro sz
  unfold MPost
  refine Met.ofW (cc := cX8_stanza) (maxL := 3) (ret := (some .long)) (by decide) rfl ?_
  intro p e s m args below meth c s₁ B hml hv
  obtain ⟨rfl, hsz, hP, hK, hD0, hF⟩ := hv
  have hx := B.exec
  have hb := B.bytes
  have hr := B.returns
  have hT : ∀ w ∈ TBG, w.before _ s = true := fun w h => atoms_spec B.pre w (List.mem_cons_of_mem _ h)
  have hown : s.vm.findClass RX8 = some m.cls := findClass_of_methodNamed B.named
  have hlocks := B.notSynchronized
  subst hsz
  have hD := hD0.self (sz := s.heap.size)
  generalize hAe : va_A [(a0, .inr (8, [.ref a1, .ref a2, .int v_acts, .ref a3, .ref a4, .int v_keptActs, .ref a5, .int v_typed, .ref a6, .ref a7, .ref a8, .ref a9, .ref a10, .int v_isSet, .ref a11, .ref a12, .ref a13, .int v_arePages, .ref a14, .ref a15, .int v_place, .ref a16, .int v_readMany])), (a1, .inl (cI, 189, .inl v_now))] s.heap.size = A at hD hF ⊢
  have hA : ∀ q : Nat, s.heap.size ≤ q → A q := fun q h => by rw [← hAe]; exact Or.inr h
  have hS : va_S A s.heap s.heap [] := va_S.rf
  have hl := lv_entry ([.ref a0, .int x1, .int x2]) (n := 3) (Nat.le_of_ble_eq_true rfl)
  rw [lg_entry_eq]
  generalize (lg_sl ([.ref a0, .int x1, .int x2]) ++ List.replicate (3 - (lg_sl ([.ref a0, .int x1, .int x2])).length) Slot.unset).toArray = ls at hl ⊢
  have hl : lv_has ls 3 [(0, .ref a0), (1, .int x1), (2, .int x2)] := hl
  generalize ([.ref a0, .int x1, .int x2] : List Value).toArray = args at hT ⊢
  have key : ∀ (Q : State → Prop), (∀ (H : Heap) (locs : List Loc) (ls : Array Slot) (pc : Nat), decode cX8_stanza pc = .ok (.lreturn, 1) → va_P (dC, dI) vwCl [(a0, .inr (8, [.ref a1, .ref a2, .int v_acts, .ref a3, .ref a4, .int v_keptActs, .ref a5, .int v_typed, .ref a6, .ref a7, .ref a8, .ref a9, .ref a10, .int v_isSet, .ref a11, .ref a12, .ref a13, .int v_arePages, .ref a14, .ref a15, .int v_place, .ref a16, .int v_readMany])), (a1, .inl (cI, 189, .inl v_now))] H → va_D A [(a0, .inr (8, [.ref a1, .ref a2, .int v_acts, .ref a3, .ref a4, .int v_keptActs, .ref a5, .int v_typed, .ref a6, .ref a7, .ref a8, .ref a9, .ref a10, .int v_isSet, .ref a11, .ref a12, .ref a13, .int v_arePages, .ref a14, .ref a15, .int v_place, .ref a16, .int v_readMany])), (a1, .inl (cI, 189, .inl v_now))] → va_S A s.heap H locs → W p l e ({ frames := 6, cells := 0, slots := 0, locals := 136 } : Room) s m args below meth c H locs 0 0 Q (F0 m pc ls [.long rv])) → ∀ (H : Heap) (locs : List Loc) (ls : Array Slot), va_P (dC, dI) vwCl [(a0, .inr (8, [.ref a1, .ref a2, .int v_acts, .ref a3, .ref a4, .int v_keptActs, .ref a5, .int v_typed, .ref a6, .ref a7, .ref a8, .ref a9, .ref a10, .int v_isSet, .ref a11, .ref a12, .ref a13, .int v_arePages, .ref a14, .ref a15, .int v_place, .ref a16, .int v_readMany])), (a1, .inl (cI, 189, .inl v_now))] H → va_D A [(a0, .inr (8, [.ref a1, .ref a2, .int v_acts, .ref a3, .ref a4, .int v_keptActs, .ref a5, .int v_typed, .ref a6, .ref a7, .ref a8, .ref a9, .ref a10, .int v_isSet, .ref a11, .ref a12, .ref a13, .int v_arePages, .ref a14, .ref a15, .int v_place, .ref a16, .int v_readMany])), (a1, .inl (cI, 189, .inl v_now))] → va_S A s.heap H locs → lv_has ls 3 [(0, .ref a0), (1, .int x1), (2, .int x2)] → W p l e ({ frames := 6, cells := 0, slots := 0, locals := 136 } : Room) s m args below meth c H locs 0 0 Q (F0 m 0 ls []) := by
    intro Q hret H locs ls hP hD hS hl
    refine lv_iload_n hx hb dX8_stanza_0 rfl (lv_at hl 1 rfl) ?_
    refine lv_i2l hx hb dX8_stanza_1 rfl ?_
    refine lv_lconst (v := 0) hx hb dX8_stanza_2 (by decide) ?_
    refine lv_aload_n hx hb dX8_stanza_3 rfl (lv_at hl 0 rfl) ?_
    obtain ⟨r_1, hq2, hf⟩ := bd1_el hf
    refine mc_V (As := []) (rest := [.long (0 : Int64), .long (Int32.toInt64 x1)]) (wr := []) (wn := [(a0, .inr (8, [.ref a1, .ref a2, .int v_acts, .ref a3, .ref a4, .int v_keptActs, .ref a5, .int v_typed, .ref a6, .ref a7, .ref a8, .ref a9, .ref a10, .int v_isSet, .ref a11, .ref a12, .ref a13, .int v_arePages, .ref a14, .ref a15, .int v_place, .ref a16, .int v_readMany])), (a1, .inl (cI, 189, .inl v_now))]) ⟨hx, hb, hml, hown, hT⟩ (c_X8_stanzas l dC dI cI cJ cP cS a0 a1 a2 a3 a4 a5 a6 a7 a8 a9 a10 a11 a12 a13 a14 a15 a16 v_acts v_keptActs v_typed v_isSet v_arePages v_place v_readMany v_now r_1 hq2) (cwV 0 hT (gdV q_ml_X8_154 q_im_X8_stanzas q_se_X8_stanzas q_in_X8 q_co_X8_stanzas) rfl rfl rfl hd_X8_stanzas ⟨Nat.le_of_ble_eq_true rfl, Nat.le_of_ble_eq_true rfl⟩) hK hF hP hD hS hA 0 rfl rfl rfl [0, 1] [] [0, 1] rfl (by decide) rfl (by decide) (by decide) rfl (by decide) rfl hl.1 rfl (Nat.le_of_ble_eq_true rfl) dX8_stanza_4 ⟨Nat.zero_le _, Nat.zero_le _⟩ (fun H locs hP hD hS => ?_)
    refine W.eq (g2 := F0 m 7 ls [.int r_1, .long (0 : Int64), .long (Int32.toInt64 x1)]) rfl ?_
    refine lv_iconst (v := 1) hx hb dX8_stanza_7 (by decide) ?_
    refine lv_isub hx hb dX8_stanza_8 ?_
    refine lv_i2l hx hb dX8_stanza_9 rfl ?_
    obtain ⟨r_3, hq4, hf⟩ := bd1_el hf
    refine mc_S (As := [.long (Int32.toInt64 x1), .long (0 : Int64), .long (Int32.toInt64 (r_1 - (1 : Int32)))]) (rest := []) (wr := [(a0, .inr (8, [.ref a1, .ref a2, .int v_acts, .ref a3, .ref a4, .int v_keptActs, .ref a5, .int v_typed, .ref a6, .ref a7, .ref a8, .ref a9, .ref a10, .int v_isSet, .ref a11, .ref a12, .ref a13, .int v_arePages, .ref a14, .ref a15, .int v_place, .ref a16, .int v_readMany])), (a1, .inl (cI, 189, .inl v_now))]) (wn := [(a0, .inr (8, [.ref a1, .ref a2, .int v_acts, .ref a3, .ref a4, .int v_keptActs, .ref a5, .int v_typed, .ref a6, .ref a7, .ref a8, .ref a9, .ref a10, .int v_isSet, .ref a11, .ref a12, .ref a13, .int v_arePages, .ref a14, .ref a15, .int v_place, .ref a16, .int v_readMany])), (a1, .inl (cI, 189, .inl v_now))]) ⟨hx, hb, hml, hown, hT⟩ (c_X8_in l dC dI cI cJ cP cS (Int32.toInt64 x1) (0 : Int64) (Int32.toInt64 (r_1 - (1 : Int32))) r_3 hq4) (va_cwS 3 hT (gdS q_ml_X8_63 q_st_X8_in q_in_X8 q_co_X8_in) rfl rfl rfl hd_X8_in ⟨Nat.le_of_ble_eq_true rfl, Nat.le_of_ble_eq_true rfl⟩) hK hF hP hD hS hA [] [0, 1] [0, 1] rfl (by decide) rfl (by decide) (by decide) rfl (by decide) rfl hl.1 rfl (Nat.le_of_ble_eq_true rfl) dX8_stanza_10 ⟨Nat.zero_le _, Nat.zero_le _⟩ (fun H locs hP hD hS => ?_)
    refine W.eq (g2 := F0 m 13 ls [.int r_3]) rfl ?_
    refine lv_if_ne (tgt := 20) hx hb dX8_stanza_13 (by decide) (fun c5 => ?_) (fun c5 => ?_)
    · replace hf := it_f c5 hf
      refine lv_iload_n hx hb dX8_stanza_20 rfl (lv_at hl 2 rfl) ?_
      by_cases c6 : x2 = (0 : Int32)
      · replace hf := it_t c6 hf
        refine lv_tableIn (tgt := 56) (off := 35) hx hb dX8_stanza_21 (by rw [c6]; decide) (by rw [c6]; decide) (by rw [c6]; rfl) (by decide) ?_
        refine lv_aload_n hx hb dX8_stanza_56 rfl (lv_at hl 0 rfl) ?_
        refine lv_iload_n hx hb dX8_stanza_57 rfl (lv_at hl 1 rfl) ?_
        obtain ⟨r_7, hq8, hf⟩ := bd1_el hf
        refine mc_V (As := [.int x1]) (rest := []) (wr := []) (wn := [(a0, .inr (8, [.ref a1, .ref a2, .int v_acts, .ref a3, .ref a4, .int v_keptActs, .ref a5, .int v_typed, .ref a6, .ref a7, .ref a8, .ref a9, .ref a10, .int v_isSet, .ref a11, .ref a12, .ref a13, .int v_arePages, .ref a14, .ref a15, .int v_place, .ref a16, .int v_readMany])), (a1, .inl (cI, 189, .inl v_now))]) ⟨hx, hb, hml, hown, hT⟩ (c_X8_firstLine l dC dI cI cJ cP cS a0 a1 a2 a3 a4 a5 a6 a7 a8 a9 a10 a11 a12 a13 a14 a15 a16 v_acts v_keptActs v_typed v_isSet v_arePages v_place v_readMany v_now x1 r_7 hq8) (cwV 1 hT (gdV q_ml_X8_167 q_im_X8_firstLine q_se_X8_firstLine q_in_X8 q_co_X8_firstLine) rfl rfl rfl hd_X8_firstLine ⟨Nat.le_of_ble_eq_true rfl, Nat.le_of_ble_eq_true rfl⟩) hK hF hP hD hS hA 0 rfl rfl rfl [0, 1] [] [0, 1] rfl (by decide) rfl (by decide) (by decide) rfl (by decide) rfl hl.1 rfl (Nat.le_of_ble_eq_true rfl) dX8_stanza_58 ⟨Nat.zero_le _, Nat.zero_le _⟩ (fun H locs hP hD hS => ?_)
        refine W.eq (g2 := F0 m 61 ls [.int r_7]) rfl ?_
        refine lv_i2l hx hb dX8_stanza_61 rfl ?_
        replace hf := Option.some.inj hf
        subst hf
        exact hret H locs ls _ dX8_stanza_62 hP hD hS
      replace hf := it_f c6 hf
      by_cases c9 : x2 = (1 : Int32)
      · replace hf := it_t c9 hf
        refine lv_tableIn (tgt := 63) (off := 42) hx hb dX8_stanza_21 (by rw [c9]; decide) (by rw [c9]; decide) (by rw [c9]; rfl) (by decide) ?_
        refine lv_aload_n hx hb dX8_stanza_63 rfl (lv_at hl 0 rfl) ?_
        refine lv_iload_n hx hb dX8_stanza_64 rfl (lv_at hl 1 rfl) ?_
        obtain ⟨r_10, hq11, hf⟩ := bd1_el hf
        refine mc_V (As := [.int x1]) (rest := []) (wr := []) (wn := [(a0, .inr (8, [.ref a1, .ref a2, .int v_acts, .ref a3, .ref a4, .int v_keptActs, .ref a5, .int v_typed, .ref a6, .ref a7, .ref a8, .ref a9, .ref a10, .int v_isSet, .ref a11, .ref a12, .ref a13, .int v_arePages, .ref a14, .ref a15, .int v_place, .ref a16, .int v_readMany])), (a1, .inl (cI, 189, .inl v_now))]) ⟨hx, hb, hml, hown, hT⟩ (c_X8_linesOf l dC dI cI cJ cP cS a0 a1 a2 a3 a4 a5 a6 a7 a8 a9 a10 a11 a12 a13 a14 a15 a16 v_acts v_keptActs v_typed v_isSet v_arePages v_place v_readMany v_now x1 r_10 hq11) (cwV 1 hT (gdV q_ml_X8_172 q_im_X8_linesOf q_se_X8_linesOf q_in_X8 q_co_X8_linesOf) rfl rfl rfl hd_X8_linesOf ⟨Nat.le_of_ble_eq_true rfl, Nat.le_of_ble_eq_true rfl⟩) hK hF hP hD hS hA 0 rfl rfl rfl [0, 1] [] [0, 1] rfl (by decide) rfl (by decide) (by decide) rfl (by decide) rfl hl.1 rfl (Nat.le_of_ble_eq_true rfl) dX8_stanza_65 ⟨Nat.zero_le _, Nat.zero_le _⟩ (fun H locs hP hD hS => ?_)
        refine W.eq (g2 := F0 m 68 ls [.int r_10]) rfl ?_
        refine lv_i2l hx hb dX8_stanza_68 rfl ?_
        replace hf := Option.some.inj hf
        subst hf
        exact hret H locs ls _ dX8_stanza_69 hP hD hS
      replace hf := it_f c9 hf
      by_cases c12 : x2 = (2 : Int32)
      · replace hf := it_t c12 hf
        refine lv_tableIn (tgt := 70) (off := 49) hx hb dX8_stanza_21 (by rw [c12]; decide) (by rw [c12]; decide) (by rw [c12]; rfl) (by decide) ?_
        refine lv_aload_n hx hb dX8_stanza_70 rfl (lv_at hl 0 rfl) ?_
        refine lv_iload_n hx hb dX8_stanza_71 rfl (lv_at hl 1 rfl) ?_
        obtain ⟨r_13, hq14, hf⟩ := bd1_el hf
        refine mc_V (As := [.int x1]) (rest := []) (wr := []) (wn := [(a0, .inr (8, [.ref a1, .ref a2, .int v_acts, .ref a3, .ref a4, .int v_keptActs, .ref a5, .int v_typed, .ref a6, .ref a7, .ref a8, .ref a9, .ref a10, .int v_isSet, .ref a11, .ref a12, .ref a13, .int v_arePages, .ref a14, .ref a15, .int v_place, .ref a16, .int v_readMany])), (a1, .inl (cI, 189, .inl v_now))]) ⟨hx, hb, hml, hown, hT⟩ (c_X8_rhymesOf l dC dI cI cJ cP cS a0 a1 a2 a3 a4 a5 a6 a7 a8 a9 a10 a11 a12 a13 a14 a15 a16 v_acts v_keptActs v_typed v_isSet v_arePages v_place v_readMany v_now x1 r_13 hq14) (cwV 1 hT (gdV q_ml_X8_181 q_im_X8_rhymesOf q_se_X8_rhymesOf q_in_X8 q_co_X8_rhymesOf) rfl rfl rfl hd_X8_rhymesOf ⟨Nat.le_of_ble_eq_true rfl, Nat.le_of_ble_eq_true rfl⟩) hK hF hP hD hS hA 0 rfl rfl rfl [0, 1] [] [0, 1] rfl (by decide) rfl (by decide) (by decide) rfl (by decide) rfl hl.1 rfl (Nat.le_of_ble_eq_true rfl) dX8_stanza_72 ⟨Nat.zero_le _, Nat.zero_le _⟩ (fun H locs hP hD hS => ?_)
        refine W.eq (g2 := F0 m 75 ls [.int r_13]) rfl ?_
        refine lv_i2l hx hb dX8_stanza_75 rfl ?_
        replace hf := Option.some.inj hf
        subst hf
        exact hret H locs ls _ dX8_stanza_76 hP hD hS
      replace hf := it_f c12 hf
      by_cases c15 : x2 = (3 : Int32)
      · replace hf := it_t c15 hf
        refine lv_tableIn (tgt := 77) (off := 56) hx hb dX8_stanza_21 (by rw [c15]; decide) (by rw [c15]; decide) (by rw [c15]; rfl) (by decide) ?_
        refine lv_aload_n hx hb dX8_stanza_77 rfl (lv_at hl 0 rfl) ?_
        refine lv_iload_n hx hb dX8_stanza_78 rfl (lv_at hl 1 rfl) ?_
        obtain ⟨r_16, hq17, hf⟩ := bd1_el hf
        refine mc_V (As := [.int x1]) (rest := []) (wr := []) (wn := [(a0, .inr (8, [.ref a1, .ref a2, .int v_acts, .ref a3, .ref a4, .int v_keptActs, .ref a5, .int v_typed, .ref a6, .ref a7, .ref a8, .ref a9, .ref a10, .int v_isSet, .ref a11, .ref a12, .ref a13, .int v_arePages, .ref a14, .ref a15, .int v_place, .ref a16, .int v_readMany])), (a1, .inl (cI, 189, .inl v_now))]) ⟨hx, hb, hml, hown, hT⟩ (c_X8_shapeOf l dC dI cI cJ cP cS a0 a1 a2 a3 a4 a5 a6 a7 a8 a9 a10 a11 a12 a13 a14 a15 a16 v_acts v_keptActs v_typed v_isSet v_arePages v_place v_readMany v_now x1 r_16 hq17) (cwV 1 hT (gdV q_ml_X8_175 q_im_X8_shapeOf q_se_X8_shapeOf q_in_X8 q_co_X8_shapeOf) rfl rfl rfl hd_X8_shapeOf ⟨Nat.le_of_ble_eq_true rfl, Nat.le_of_ble_eq_true rfl⟩) hK hF hP hD hS hA 0 rfl rfl rfl [0, 1] [] [0, 1] rfl (by decide) rfl (by decide) (by decide) rfl (by decide) rfl hl.1 rfl (Nat.le_of_ble_eq_true rfl) dX8_stanza_79 ⟨Nat.zero_le _, Nat.zero_le _⟩ (fun H locs hP hD hS => ?_)
        refine W.eq (g2 := F0 m 82 ls [.long r_16]) rfl ?_
        replace hf := Option.some.inj hf
        subst hf
        exact hret H locs ls _ dX8_stanza_82 hP hD hS
      replace hf := it_f c15 hf
      by_cases c18 : x2 = (4 : Int32)
      · replace hf := it_t c18 hf
        refine lv_tableIn (tgt := 83) (off := 62) hx hb dX8_stanza_21 (by rw [c18]; decide) (by rw [c18]; decide) (by rw [c18]; rfl) (by decide) ?_
        refine lv_aload_n hx hb dX8_stanza_83 rfl (lv_at hl 0 rfl) ?_
        refine lv_iload_n hx hb dX8_stanza_84 rfl (lv_at hl 1 rfl) ?_
        obtain ⟨r_19, hq20, hf⟩ := bd1_el hf
        refine mc_V (As := [.int x1]) (rest := []) (wr := []) (wn := [(a0, .inr (8, [.ref a1, .ref a2, .int v_acts, .ref a3, .ref a4, .int v_keptActs, .ref a5, .int v_typed, .ref a6, .ref a7, .ref a8, .ref a9, .ref a10, .int v_isSet, .ref a11, .ref a12, .ref a13, .int v_arePages, .ref a14, .ref a15, .int v_place, .ref a16, .int v_readMany])), (a1, .inl (cI, 189, .inl v_now))]) ⟨hx, hb, hml, hown, hT⟩ (c_X8_alike l dC dI cI cJ cP cS a0 a1 a2 a3 a4 a5 a6 a7 a8 a9 a10 a11 a12 a13 a14 a15 a16 v_acts v_keptActs v_typed v_isSet v_arePages v_place v_readMany v_now x1 r_19 hq20) (cwV 1 hT (gdV q_ml_X8_184 q_im_X8_alike q_se_X8_alike q_in_X8 q_co_X8_alike) rfl rfl rfl hd_X8_alike ⟨Nat.le_of_ble_eq_true rfl, Nat.le_of_ble_eq_true rfl⟩) hK hF hP hD hS hA 0 rfl rfl rfl [0, 1] [] [0, 1] rfl (by decide) rfl (by decide) (by decide) rfl (by decide) rfl hl.1 rfl (Nat.le_of_ble_eq_true rfl) dX8_stanza_85 ⟨Nat.zero_le _, Nat.zero_le _⟩ (fun H locs hP hD hS => ?_)
        refine W.eq (g2 := F0 m 88 ls [.int r_19]) rfl ?_
        refine lv_i2l hx hb dX8_stanza_88 rfl ?_
        replace hf := Option.some.inj hf
        subst hf
        exact hret H locs ls _ dX8_stanza_89 hP hD hS
      replace hf := it_f c18 hf
      refine lv_tableOut (tgt := 90) hx hb dX8_stanza_21 (by have ec6 := ne_ti (n := 0) (by decide) c6; have ec9 := ne_ti (n := 1) (by decide) c9; have ec12 := ne_ti (n := 2) (by decide) c12; have ec15 := ne_ti (n := 3) (by decide) c15; have ec18 := ne_ti (n := 4) (by decide) c18; omega) (by decide) ?_
      refine lv_ldc2 hx hb hown (hT _ q_kl_X8_179) dX8_stanza_90 ?_
      replace hf := Option.some.inj hf
      subst hf
      exact hret H locs ls _ dX8_stanza_93 hP hD hS
    · replace hf := it_t c5 hf
      refine lv_ldc2 hx hb hown (hT _ q_kl_X8_179) dX8_stanza_16 ?_
      replace hf := Option.some.inj hf
      subst hf
      exact hret H locs ls _ dX8_stanza_19 hP hD hS
  refine key _ ?_ _ _ _ hP hD hS hl
  intro H locs ls pc d hP hD hS
  exact W.lret (v := rv) hx hb hr (fun t ht hW => ⟨⟨rfl, by rw [ht]; exact hP, hD⟩, hS.F ht⟩) hS.2.2 d
def p_X8_wholeBy_L2  (s : Int32 × (Nat → Int64)) : Option ((Int32 × (Nat → Int64)) ⊕ (Int32 × (Nat → Int64))) := match s with
  | (i3_1, v_ways_2) => (if (80 : Int32) ≤ i3_1 then (some (.inr (i3_1, v_ways_2))) else (if i3_1 = (0 : Int32) then (gd (ib i3_1 80) (some (.inl ((i3_1 + (1 : Int32)), (vp_updL v_ways_2 (tn i3_1) (1 : Int64)))))) else (gd (ib i3_1 80) (some (.inl ((i3_1 + (1 : Int32)), (vp_updL v_ways_2 (tn i3_1) (0 : Int64))))))))
def p_X8_wholeBy_L52 (v_rows : (Nat → Int32)) (x2 : Int32) (i4_13 : Int32) (s : Int32 × (Nat → Int64)) : Option ((Int32 × (Nat → Int64)) ⊕ (Int32 × (Nat → Int64))) := match s with
  | (i5_18, v_ways_19) => (if i5_18 < (0 : Int32) then (some (.inr (i5_18, v_ways_19))) else (gd (ib i5_18 80) (gd (ib i4_13 12) (if (v_rows (tn i4_13)) ≤ i5_18 then (gd (ib i4_13 12) (gd (ib (i5_18 - (v_rows (tn i4_13))) 80) (gd (ib i5_18 80) (nm (vp_updL v_ways_19 (tn i5_18) (((Int32.toInt64 x2) * (v_ways_19 (tn i5_18))) + ((Int32.toInt64 ((10 : Int32) - x2)) * (v_ways_19 (tn (i5_18 - (v_rows (tn i4_13)))))))) fun v_ways_27 => (some (.inl ((i5_18 + (-1 : Int32)), v_ways_27))))))) else (gd (ib i5_18 80) (some (.inl ((i5_18 + (-1 : Int32)), (vp_updL v_ways_19 (tn i5_18) (((Int32.toInt64 x2) * (v_ways_19 (tn i5_18))) + (0 : Int64)))))))))))
def p_X8_wholeBy_L38 (v_now : (Nat → Int32)) (v_rows : (Nat → Int32)) (x2 : Int32) (r_11 : Int32) (s : Int32 × (Nat → Int64)) : Option ((Int32 × (Nat → Int64)) ⊕ (Int32 × (Nat → Int64))) := match s with
  | (i4_13, v_ways_14) => (bd1 (p_X8_endOf v_now r_11) fun r_15 => (if r_15 ≤ i4_13 then (some (.inr (i4_13, v_ways_14))) else (bd2 (loopN (p_X8_wholeBy_L52 v_rows x2 i4_13) fuel ((79 : Int32), v_ways_14)) fun f5_31 v_ways_32 => (some (.inl ((i4_13 + (1 : Int32)), v_ways_32))))))
def p_X8_wholeBy_L130 (v_now : (Nat → Int32)) (v_ways_36 : (Nat → Int64)) (s : Int64 × Int32) : Option ((Int64 × Int32) ⊕ (Int64 × Int32)) := match s with
  | (i4_37, i6_38) => (if (v_now 5) < i6_38 then (some (.inr (i4_37, i6_38))) else (gd (ib i6_38 80) (nm (i4_37 + (v_ways_36 (tn i6_38))) fun x4_41 => (some (.inl (x4_41, (i6_38 + (1 : Int32))))))))
def p_X8_wholeBy (v_now : (Nat → Int32)) (v_rows : (Nat → Int32)) (v_ways : (Nat → Int64)) (x1 : Int32) (x2 : Int32) : Option (Int64 × (Nat → Int64)) :=
  (bd2 (loopN (p_X8_wholeBy_L2) fuel ((0 : Int32), v_ways)) fun f3_9 v_ways_10 => (bd1 (p_X8_firstLine v_now x1) fun r_11 => (bd2 (loopN (p_X8_wholeBy_L38 v_now v_rows x2 r_11) fuel (r_11, v_ways_10)) fun f4_35 v_ways_36 => (bd2 (loopN (p_X8_wholeBy_L130 v_now v_ways_36) fuel ((0 : Int64), (0 : Int32))) fun f4_44 f6_45 => (some (f4_44, v_ways_36))))))
set_option maxHeartbeats 4000000 in
set_option maxRecDepth 100000 in
theorem c_X8_wholeBy (l : Launch) (dC : Nat → ClassId) (dI : Nat → Nat → Nat) (cI cJ cP cS : ClassId) (a0 : Nat) (a1 : Nat) (a2 : Nat) (a3 : Nat) (a4 : Nat) (a5 : Nat) (a6 : Nat) (a7 : Nat) (a8 : Nat) (a9 : Nat) (a10 : Nat) (a11 : Nat) (a12 : Nat) (a13 : Nat) (a14 : Nat) (a15 : Nat) (a16 : Nat) (v_acts : Int32) (v_keptActs : Int32) (v_typed : Int32) (v_isSet : Int32) (v_arePages : Int32) (v_place : Int32) (v_readMany : Int32) (v_now : (Nat → Int32)) (v_rows : (Nat → Int32)) (v_ways : (Nat → Int64))  (x1 : Int32) (x2 : Int32) (rv : Int64) (v_ways_o : (Nat → Int64)) (hf : p_X8_wholeBy v_now v_rows v_ways x1 x2 = some (rv, v_ways_o)) : MC l (dC, dI) (tyl cI cJ cP cS) yX8_wholeBy (Cond.code yX8_wholeBy cX8_wholeBy 7 (some .long) :: TBG) ({ frames := 4, cells := 0, slots := 0, locals := 88 } : Room) [.ref a0, .int x1, .int x2] [(a0, .inr (8, [.ref a1, .ref a2, .int v_acts, .ref a3, .ref a4, .int v_keptActs, .ref a5, .int v_typed, .ref a6, .ref a7, .ref a8, .ref a9, .ref a10, .int v_isSet, .ref a11, .ref a12, .ref a13, .int v_arePages, .ref a14, .ref a15, .int v_place, .ref a16, .int v_readMany])), (a1, .inl (cI, 189, .inl v_now)), (a10, .inl (cI, 12, .inl v_rows)), (a14, .inl (cJ, 80, .inr (.inl v_ways)))] [(a0, .inr (8, [.ref a1, .ref a2, .int v_acts, .ref a3, .ref a4, .int v_keptActs, .ref a5, .int v_typed, .ref a6, .ref a7, .ref a8, .ref a9, .ref a10, .int v_isSet, .ref a11, .ref a12, .ref a13, .int v_arePages, .ref a14, .ref a15, .int v_place, .ref a16, .int v_readMany])), (a1, .inl (cI, 189, .inl v_now)), (a10, .inl (cI, 12, .inl v_rows)), (a14, .inl (cJ, 80, .inr (.inl v_ways_o)))] (some (.long rv)) := by
  intro sz
  unfold MPost
  refine Met.ofW (cc := cX8_wholeBy) (maxL := 7) (ret := (some .long)) (by decide) rfl ?_
  intro p e s m args below meth c s₁ B hml hv
  obtain ⟨rfl, hsz, hP, hK, hD0, hF⟩ := hv
  have hx := B.exec
  have hb := B.bytes
  have hr := B.returns
  have hT : ∀ w ∈ TBG, w.before _ s = true := fun w h => atoms_spec B.pre w (List.mem_cons_of_mem _ h)
  have hown : s.vm.findClass RX8 = some m.cls := findClass_of_methodNamed B.named
  have hlocks := B.notSynchronized
  subst hsz
  have hD := hD0.self (sz := s.heap.size)
  generalize hAe : va_A [(a0, .inr (8, [.ref a1, .ref a2, .int v_acts, .ref a3, .ref a4, .int v_keptActs, .ref a5, .int v_typed, .ref a6, .ref a7, .ref a8, .ref a9, .ref a10, .int v_isSet, .ref a11, .ref a12, .ref a13, .int v_arePages, .ref a14, .ref a15, .int v_place, .ref a16, .int v_readMany])), (a1, .inl (cI, 189, .inl v_now)), (a10, .inl (cI, 12, .inl v_rows)), (a14, .inl (cJ, 80, .inr (.inl v_ways)))] s.heap.size = A at hD hF ⊢
  have hA : ∀ q : Nat, s.heap.size ≤ q → A q := fun q h => by rw [← hAe]; exact Or.inr h
  have hS : va_S A s.heap s.heap [] := va_S.rf
  have hl := lv_entry ([.ref a0, .int x1, .int x2]) (n := 7) (Nat.le_of_ble_eq_true rfl)
  rw [lg_entry_eq]
  generalize (lg_sl ([.ref a0, .int x1, .int x2]) ++ List.replicate (7 - (lg_sl ([.ref a0, .int x1, .int x2])).length) Slot.unset).toArray = ls at hl ⊢
  have hl : lv_has ls 7 [(0, .ref a0), (1, .int x1), (2, .int x2)] := hl
  generalize ([.ref a0, .int x1, .int x2] : List Value).toArray = args at hT ⊢
  have key : ∀ (Q : State → Prop), (∀ (H : Heap) (locs : List Loc) (ls : Array Slot) (pc : Nat), decode cX8_wholeBy pc = .ok (.lreturn, 1) → va_P (dC, dI) vwCl [(a0, .inr (8, [.ref a1, .ref a2, .int v_acts, .ref a3, .ref a4, .int v_keptActs, .ref a5, .int v_typed, .ref a6, .ref a7, .ref a8, .ref a9, .ref a10, .int v_isSet, .ref a11, .ref a12, .ref a13, .int v_arePages, .ref a14, .ref a15, .int v_place, .ref a16, .int v_readMany])), (a1, .inl (cI, 189, .inl v_now)), (a10, .inl (cI, 12, .inl v_rows)), (a14, .inl (cJ, 80, .inr (.inl v_ways_o)))] H → va_D A [(a0, .inr (8, [.ref a1, .ref a2, .int v_acts, .ref a3, .ref a4, .int v_keptActs, .ref a5, .int v_typed, .ref a6, .ref a7, .ref a8, .ref a9, .ref a10, .int v_isSet, .ref a11, .ref a12, .ref a13, .int v_arePages, .ref a14, .ref a15, .int v_place, .ref a16, .int v_readMany])), (a1, .inl (cI, 189, .inl v_now)), (a10, .inl (cI, 12, .inl v_rows)), (a14, .inl (cJ, 80, .inr (.inl v_ways_o)))] → va_S A s.heap H locs → W p l e ({ frames := 4, cells := 0, slots := 0, locals := 88 } : Room) s m args below meth c H locs 0 0 Q (F0 m pc ls [.long rv])) → ∀ (H : Heap) (locs : List Loc) (ls : Array Slot), va_P (dC, dI) vwCl [(a0, .inr (8, [.ref a1, .ref a2, .int v_acts, .ref a3, .ref a4, .int v_keptActs, .ref a5, .int v_typed, .ref a6, .ref a7, .ref a8, .ref a9, .ref a10, .int v_isSet, .ref a11, .ref a12, .ref a13, .int v_arePages, .ref a14, .ref a15, .int v_place, .ref a16, .int v_readMany])), (a1, .inl (cI, 189, .inl v_now)), (a10, .inl (cI, 12, .inl v_rows)), (a14, .inl (cJ, 80, .inr (.inl v_ways)))] H → va_D A [(a0, .inr (8, [.ref a1, .ref a2, .int v_acts, .ref a3, .ref a4, .int v_keptActs, .ref a5, .int v_typed, .ref a6, .ref a7, .ref a8, .ref a9, .ref a10, .int v_isSet, .ref a11, .ref a12, .ref a13, .int v_arePages, .ref a14, .ref a15, .int v_place, .ref a16, .int v_readMany])), (a1, .inl (cI, 189, .inl v_now)), (a10, .inl (cI, 12, .inl v_rows)), (a14, .inl (cJ, 80, .inr (.inl v_ways)))] → va_S A s.heap H locs → lv_has ls 7 [(0, .ref a0), (1, .int x1), (2, .int x2)] → W p l e ({ frames := 4, cells := 0, slots := 0, locals := 88 } : Room) s m args below meth c H locs 0 0 Q (F0 m 0 ls []) := by
    intro Q hret H locs ls hP hD hS hl
    refine lv_iconst (v := 0) hx hb dX8_wholeBy_0 (by decide) ?_
    refine lv_istore_n (lv' := [(3, .int (0 : Int32)), (0, .ref a0), (1, .int x1), (2, .int x2)]) hx hb dX8_wholeBy_1 rfl hl (by decide) rfl (fun ls hl => ?_)
    have hL2 : ∀ (rr : Int32 × (Nat → Int64)), (∀ (z_7 : Int32) (z_8 : (Nat → Int64)), rr = (z_7, z_8) → ∀ (H : Heap) (locs : List Loc) (ls : Array Slot), va_P (dC, dI) vwCl [(a0, .inr (8, [.ref a1, .ref a2, .int v_acts, .ref a3, .ref a4, .int v_keptActs, .ref a5, .int v_typed, .ref a6, .ref a7, .ref a8, .ref a9, .ref a10, .int v_isSet, .ref a11, .ref a12, .ref a13, .int v_arePages, .ref a14, .ref a15, .int v_place, .ref a16, .int v_readMany])), (a1, .inl (cI, 189, .inl v_now)), (a10, .inl (cI, 12, .inl v_rows)), (a14, .inl (cJ, 80, .inr (.inl z_8)))] H → va_D A [(a0, .inr (8, [.ref a1, .ref a2, .int v_acts, .ref a3, .ref a4, .int v_keptActs, .ref a5, .int v_typed, .ref a6, .ref a7, .ref a8, .ref a9, .ref a10, .int v_isSet, .ref a11, .ref a12, .ref a13, .int v_arePages, .ref a14, .ref a15, .int v_place, .ref a16, .int v_readMany])), (a1, .inl (cI, 189, .inl v_now)), (a10, .inl (cI, 12, .inl v_rows)), (a14, .inl (cJ, 80, .inr (.inl z_8)))] → va_S A s.heap H locs → lv_has ls 7 [(0, .ref a0), (1, .int x1), (2, .int x2)] → W p l e ({ frames := 4, cells := 0, slots := 0, locals := 88 } : Room) s m args below meth c H locs 0 0 Q (F0 m 29 ls [])) → ∀ (n : Nat) (i3_1 : Int32) (v_ways_2 : (Nat → Int64)), loopN (p_X8_wholeBy_L2) n (i3_1, v_ways_2) = some rr → ∀ (H : Heap) (locs : List Loc) (ls : Array Slot), va_P (dC, dI) vwCl [(a0, .inr (8, [.ref a1, .ref a2, .int v_acts, .ref a3, .ref a4, .int v_keptActs, .ref a5, .int v_typed, .ref a6, .ref a7, .ref a8, .ref a9, .ref a10, .int v_isSet, .ref a11, .ref a12, .ref a13, .int v_arePages, .ref a14, .ref a15, .int v_place, .ref a16, .int v_readMany])), (a1, .inl (cI, 189, .inl v_now)), (a10, .inl (cI, 12, .inl v_rows)), (a14, .inl (cJ, 80, .inr (.inl v_ways_2)))] H → va_D A [(a0, .inr (8, [.ref a1, .ref a2, .int v_acts, .ref a3, .ref a4, .int v_keptActs, .ref a5, .int v_typed, .ref a6, .ref a7, .ref a8, .ref a9, .ref a10, .int v_isSet, .ref a11, .ref a12, .ref a13, .int v_arePages, .ref a14, .ref a15, .int v_place, .ref a16, .int v_readMany])), (a1, .inl (cI, 189, .inl v_now)), (a10, .inl (cI, 12, .inl v_rows)), (a14, .inl (cJ, 80, .inr (.inl v_ways_2)))] → va_S A s.heap H locs → lv_has ls 7 [(0, .ref a0), (1, .int x1), (2, .int x2), (3, .int i3_1)] → W p l e ({ frames := 4, cells := 0, slots := 0, locals := 88 } : Room) s m args below meth c H locs 0 0 Q (F0 m 2 ls []) := by
      intro rr hk2 n
      induction n with
      | zero => intro i3_1 v_ways_2 hf; cases hf
      | succ n ih2 =>
        intro i3_1 v_ways_2 hf H locs ls hP hD hS hl
        obtain ⟨o2, hf, hi, he⟩ := loopN_el hf
        refine lv_iload_n hx hb dX8_wholeBy_2 rfl (lv_at hl 3 rfl) ?_
        refine lv_bipush (v := 80) hx hb dX8_wholeBy_3 (by decide) ?_
        refine lv_icmp_ge (tgt := 29) hx hb dX8_wholeBy_5 (by decide) (fun c3 => ?_) (fun c3 => ?_)
        · replace hf := it_t c3 hf
          exact hk2 _ _ (he _ (Option.some.inj hf).symm).symm H locs ls hP hD hS (lv_sub hl [0, 1, 2] rfl)
        · replace hf := it_f c3 hf
          refine lv_aload_n hx hb dX8_wholeBy_8 rfl (lv_at hl 0 rfl) ?_
          refine va_get (D := (dC, dI)) (ci := 8) (v := .ref a14) (C := RX8) (T := TX8) (N := 23) hx hb hT in_X8 hown hK hP 0 rfl rfl 18 (by decide) (hT _ q_fl_X8_54) (fun _ h9 => h9) rfl dX8_wholeBy_9 ?_
          refine lv_iload_n hx hb dX8_wholeBy_12 rfl (lv_at hl 3 rfl) ?_
          refine lv_iload_n hx hb dX8_wholeBy_13 rfl (lv_at hl 3 rfl) ?_
          refine lv_if_ne (tgt := 21) hx hb dX8_wholeBy_14 (by decide) (fun c4 => ?_) (fun c4 => ?_)
          · replace hf := it_f c4 hf
            refine lv_lconst (v := 0) hx hb dX8_wholeBy_21 (by decide) ?_
            obtain ⟨h5, hf⟩ := gd_el hf
            refine la_st hx hb hK hP hD hS 3 1 rfl rfl (ib_in h5) (j := (tn i3_1)) rfl dX8_wholeBy_22 (fun H locs hP hD hS => ?_)
            have hP : va_P (dC, dI) vwCl [(a0, .inr (8, [.ref a1, .ref a2, .int v_acts, .ref a3, .ref a4, .int v_keptActs, .ref a5, .int v_typed, .ref a6, .ref a7, .ref a8, .ref a9, .ref a10, .int v_isSet, .ref a11, .ref a12, .ref a13, .int v_arePages, .ref a14, .ref a15, .int v_place, .ref a16, .int v_readMany])), (a1, .inl (cI, 189, .inl v_now)), (a10, .inl (cI, 12, .inl v_rows)), (a14, .inl (cJ, 80, .inr (.inl (vp_updL v_ways_2 (tn i3_1) (0 : Int64)))))] H := hP
            have hD : va_D A [(a0, .inr (8, [.ref a1, .ref a2, .int v_acts, .ref a3, .ref a4, .int v_keptActs, .ref a5, .int v_typed, .ref a6, .ref a7, .ref a8, .ref a9, .ref a10, .int v_isSet, .ref a11, .ref a12, .ref a13, .int v_arePages, .ref a14, .ref a15, .int v_place, .ref a16, .int v_readMany])), (a1, .inl (cI, 189, .inl v_now)), (a10, .inl (cI, 12, .inl v_rows)), (a14, .inl (cJ, 80, .inr (.inl (vp_updL v_ways_2 (tn i3_1) (0 : Int64)))))] := hD
            refine lv_iinc (v := (i3_1 + (1 : Int32))) (lv' := [(3, .int (i3_1 + (1 : Int32))), (0, .ref a0), (1, .int x1), (2, .int x2)]) hx hb dX8_wholeBy_23 hl (k := 3) rfl rfl (by decide) rfl (fun ls hl => ?_)
            refine lv_goto (tgt := 2) hx hb dX8_wholeBy_26 (by decide) ?_
            exact ih2 (i3_1 + (1 : Int32)) (vp_updL v_ways_2 (tn i3_1) (0 : Int64)) (hi _ (Option.some.inj hf).symm) H locs ls hP hD hS (lv_sub hl [1, 2, 3, 0] rfl)
          · replace hf := it_t c4 hf
            refine lv_lconst (v := 1) hx hb dX8_wholeBy_17 (by decide) ?_
            refine lv_goto (tgt := 22) hx hb dX8_wholeBy_18 (by decide) ?_
            obtain ⟨h6, hf⟩ := gd_el hf
            refine la_st hx hb hK hP hD hS 3 1 rfl rfl (ib_in h6) (j := (tn i3_1)) rfl dX8_wholeBy_22 (fun H locs hP hD hS => ?_)
            have hP : va_P (dC, dI) vwCl [(a0, .inr (8, [.ref a1, .ref a2, .int v_acts, .ref a3, .ref a4, .int v_keptActs, .ref a5, .int v_typed, .ref a6, .ref a7, .ref a8, .ref a9, .ref a10, .int v_isSet, .ref a11, .ref a12, .ref a13, .int v_arePages, .ref a14, .ref a15, .int v_place, .ref a16, .int v_readMany])), (a1, .inl (cI, 189, .inl v_now)), (a10, .inl (cI, 12, .inl v_rows)), (a14, .inl (cJ, 80, .inr (.inl (vp_updL v_ways_2 (tn i3_1) (1 : Int64)))))] H := hP
            have hD : va_D A [(a0, .inr (8, [.ref a1, .ref a2, .int v_acts, .ref a3, .ref a4, .int v_keptActs, .ref a5, .int v_typed, .ref a6, .ref a7, .ref a8, .ref a9, .ref a10, .int v_isSet, .ref a11, .ref a12, .ref a13, .int v_arePages, .ref a14, .ref a15, .int v_place, .ref a16, .int v_readMany])), (a1, .inl (cI, 189, .inl v_now)), (a10, .inl (cI, 12, .inl v_rows)), (a14, .inl (cJ, 80, .inr (.inl (vp_updL v_ways_2 (tn i3_1) (1 : Int64)))))] := hD
            refine lv_iinc (v := (i3_1 + (1 : Int32))) (lv' := [(3, .int (i3_1 + (1 : Int32))), (0, .ref a0), (1, .int x1), (2, .int x2)]) hx hb dX8_wholeBy_23 hl (k := 3) rfl rfl (by decide) rfl (fun ls hl => ?_)
            refine lv_goto (tgt := 2) hx hb dX8_wholeBy_26 (by decide) ?_
            exact ih2 (i3_1 + (1 : Int32)) (vp_updL v_ways_2 (tn i3_1) (1 : Int64)) (hi _ (Option.some.inj hf).symm) H locs ls hP hD hS (lv_sub hl [1, 2, 3, 0] rfl)
    obtain ⟨f3_9, v_ways_10, hq, hf⟩ := bd2_el hf
    refine hL2 (f3_9, v_ways_10) (fun z_7 z_8 h9 H locs ls hP hD hS hl => ?_) fuel (0 : Int32) v_ways hq H locs ls hP hD hS (lv_sub hl [1, 2, 3, 0] rfl)
    simp only [Prod.mk.injEq] at h9
    obtain ⟨h9_0, h9_1⟩ := h9
    subst h9_0; subst h9_1
    refine lv_aload_n hx hb dX8_wholeBy_29 rfl (lv_at hl 0 rfl) ?_
    refine lv_iload_n hx hb dX8_wholeBy_30 rfl (lv_at hl 1 rfl) ?_
    obtain ⟨r_11, hq12, hf⟩ := bd1_el hf
    refine mc_V (As := [.int x1]) (rest := []) (wr := [(a10, .inl (cI, 12, .inl v_rows)), (a14, .inl (cJ, 80, .inr (.inl v_ways_10)))]) (wn := [(a0, .inr (8, [.ref a1, .ref a2, .int v_acts, .ref a3, .ref a4, .int v_keptActs, .ref a5, .int v_typed, .ref a6, .ref a7, .ref a8, .ref a9, .ref a10, .int v_isSet, .ref a11, .ref a12, .ref a13, .int v_arePages, .ref a14, .ref a15, .int v_place, .ref a16, .int v_readMany])), (a1, .inl (cI, 189, .inl v_now)), (a10, .inl (cI, 12, .inl v_rows)), (a14, .inl (cJ, 80, .inr (.inl v_ways_10)))]) ⟨hx, hb, hml, hown, hT⟩ (c_X8_firstLine l dC dI cI cJ cP cS a0 a1 a2 a3 a4 a5 a6 a7 a8 a9 a10 a11 a12 a13 a14 a15 a16 v_acts v_keptActs v_typed v_isSet v_arePages v_place v_readMany v_now x1 r_11 hq12) (cwV 1 hT (gdV q_ml_X8_167 q_im_X8_firstLine q_se_X8_firstLine q_in_X8 q_co_X8_firstLine) rfl rfl rfl hd_X8_firstLine ⟨Nat.le_of_ble_eq_true rfl, Nat.le_of_ble_eq_true rfl⟩) hK hF hP hD hS hA 0 rfl rfl rfl [0, 1] [2, 3] [2, 3, 0, 1] rfl (by decide) rfl (by decide) (by decide) rfl (by decide) rfl hl.1 rfl (Nat.le_of_ble_eq_true rfl) dX8_wholeBy_31 ⟨Nat.zero_le _, Nat.zero_le _⟩ (fun H locs hP hD hS => ?_)
    refine W.eq (g2 := F0 m 34 ls [.int r_11]) rfl ?_
    refine lv_istore_n (lv' := [(3, .int r_11), (0, .ref a0), (1, .int x1), (2, .int x2)]) hx hb dX8_wholeBy_34 rfl hl (by decide) rfl (fun ls hl => ?_)
    refine lv_iload_n hx hb dX8_wholeBy_35 rfl (lv_at hl 0 rfl) ?_
    refine lv_istore (lv' := [(4, .int r_11), (3, .int r_11), (0, .ref a0), (1, .int x1), (2, .int x2)]) hx hb dX8_wholeBy_36 hl (by decide) rfl (fun ls hl => ?_)
    have hL38 : ∀ (rr : Int32 × (Nat → Int64)), (∀ (z_33 : Int32) (z_34 : (Nat → Int64)), rr = (z_33, z_34) → ∀ (H : Heap) (locs : List Loc) (ls : Array Slot), va_P (dC, dI) vwCl [(a0, .inr (8, [.ref a1, .ref a2, .int v_acts, .ref a3, .ref a4, .int v_keptActs, .ref a5, .int v_typed, .ref a6, .ref a7, .ref a8, .ref a9, .ref a10, .int v_isSet, .ref a11, .ref a12, .ref a13, .int v_arePages, .ref a14, .ref a15, .int v_place, .ref a16, .int v_readMany])), (a1, .inl (cI, 189, .inl v_now)), (a10, .inl (cI, 12, .inl v_rows)), (a14, .inl (cJ, 80, .inr (.inl z_34)))] H → va_D A [(a0, .inr (8, [.ref a1, .ref a2, .int v_acts, .ref a3, .ref a4, .int v_keptActs, .ref a5, .int v_typed, .ref a6, .ref a7, .ref a8, .ref a9, .ref a10, .int v_isSet, .ref a11, .ref a12, .ref a13, .int v_arePages, .ref a14, .ref a15, .int v_place, .ref a16, .int v_readMany])), (a1, .inl (cI, 189, .inl v_now)), (a10, .inl (cI, 12, .inl v_rows)), (a14, .inl (cJ, 80, .inr (.inl z_34)))] → va_S A s.heap H locs → lv_has ls 7 [(0, .ref a0)] → W p l e ({ frames := 4, cells := 0, slots := 0, locals := 88 } : Room) s m args below meth c H locs 0 0 Q (F0 m 124 ls [])) → ∀ (n : Nat) (i4_13 : Int32) (v_ways_14 : (Nat → Int64)), loopN (p_X8_wholeBy_L38 v_now v_rows x2 r_11) n (i4_13, v_ways_14) = some rr → ∀ (H : Heap) (locs : List Loc) (ls : Array Slot), va_P (dC, dI) vwCl [(a0, .inr (8, [.ref a1, .ref a2, .int v_acts, .ref a3, .ref a4, .int v_keptActs, .ref a5, .int v_typed, .ref a6, .ref a7, .ref a8, .ref a9, .ref a10, .int v_isSet, .ref a11, .ref a12, .ref a13, .int v_arePages, .ref a14, .ref a15, .int v_place, .ref a16, .int v_readMany])), (a1, .inl (cI, 189, .inl v_now)), (a10, .inl (cI, 12, .inl v_rows)), (a14, .inl (cJ, 80, .inr (.inl v_ways_14)))] H → va_D A [(a0, .inr (8, [.ref a1, .ref a2, .int v_acts, .ref a3, .ref a4, .int v_keptActs, .ref a5, .int v_typed, .ref a6, .ref a7, .ref a8, .ref a9, .ref a10, .int v_isSet, .ref a11, .ref a12, .ref a13, .int v_arePages, .ref a14, .ref a15, .int v_place, .ref a16, .int v_readMany])), (a1, .inl (cI, 189, .inl v_now)), (a10, .inl (cI, 12, .inl v_rows)), (a14, .inl (cJ, 80, .inr (.inl v_ways_14)))] → va_S A s.heap H locs → lv_has ls 7 [(0, .ref a0), (2, .int x2), (3, .int r_11), (4, .int i4_13)] → W p l e ({ frames := 4, cells := 0, slots := 0, locals := 88 } : Room) s m args below meth c H locs 0 0 Q (F0 m 38 ls []) := by
      intro rr hk38 n
      induction n with
      | zero => intro i4_13 v_ways_14 hf; cases hf
      | succ n ih38 =>
        intro i4_13 v_ways_14 hf H locs ls hP hD hS hl
        obtain ⟨o38, hf, hi, he⟩ := loopN_el hf
        rw [p_X8_wholeBy_L38] at hf
        refine lv_iload hx hb dX8_wholeBy_38 (lv_at hl 3 rfl) ?_
        refine lv_aload_n hx hb dX8_wholeBy_40 rfl (lv_at hl 0 rfl) ?_
        refine lv_iload_n hx hb dX8_wholeBy_41 rfl (lv_at hl 2 rfl) ?_
        obtain ⟨r_15, hq16, hf⟩ := bd1_el hf
        refine mc_V (As := [.int r_11]) (rest := [.int i4_13]) (wr := [(a10, .inl (cI, 12, .inl v_rows)), (a14, .inl (cJ, 80, .inr (.inl v_ways_14)))]) (wn := [(a0, .inr (8, [.ref a1, .ref a2, .int v_acts, .ref a3, .ref a4, .int v_keptActs, .ref a5, .int v_typed, .ref a6, .ref a7, .ref a8, .ref a9, .ref a10, .int v_isSet, .ref a11, .ref a12, .ref a13, .int v_arePages, .ref a14, .ref a15, .int v_place, .ref a16, .int v_readMany])), (a1, .inl (cI, 189, .inl v_now)), (a10, .inl (cI, 12, .inl v_rows)), (a14, .inl (cJ, 80, .inr (.inl v_ways_14)))]) ⟨hx, hb, hml, hown, hT⟩ (c_X8_endOf l dC dI cI cJ cP cS a0 a1 a2 a3 a4 a5 a6 a7 a8 a9 a10 a11 a12 a13 a14 a15 a16 v_acts v_keptActs v_typed v_isSet v_arePages v_place v_readMany v_now r_11 r_15 hq16) (cwV 1 hT (gdV q_ml_X8_124 q_im_X8_endOf q_se_X8_endOf q_in_X8 q_co_X8_endOf) rfl rfl rfl hd_X8_endOf ⟨Nat.le_of_ble_eq_true rfl, Nat.le_of_ble_eq_true rfl⟩) hK hF hP hD hS hA 0 rfl rfl rfl [0, 1] [2, 3] [2, 3, 0, 1] rfl (by decide) rfl (by decide) (by decide) rfl (by decide) rfl hl.1 rfl (Nat.le_of_ble_eq_true rfl) dX8_wholeBy_42 ⟨Nat.zero_le _, Nat.zero_le _⟩ (fun H locs hP hD hS => ?_)
        refine W.eq (g2 := F0 m 45 ls [.int r_15, .int i4_13]) rfl ?_
        refine lv_icmp_ge (tgt := 124) hx hb dX8_wholeBy_45 (by decide) (fun c17 => ?_) (fun c17 => ?_)
        · replace hf := it_t c17 hf
          exact hk38 _ _ (he _ (Option.some.inj hf).symm).symm H locs ls hP hD hS (lv_sub hl [0] rfl)
        · replace hf := it_f c17 hf
          refine lv_bipush (v := 79) hx hb dX8_wholeBy_48 (by decide) ?_
          refine lv_istore (lv' := [(5, .int (79 : Int32)), (0, .ref a0), (2, .int x2), (3, .int r_11), (4, .int i4_13)]) hx hb dX8_wholeBy_50 hl (by decide) rfl (fun ls hl => ?_)
          have hL52 : ∀ (rr : Int32 × (Nat → Int64)), (∀ (z_29 : Int32) (z_30 : (Nat → Int64)), rr = (z_29, z_30) → ∀ (H : Heap) (locs : List Loc) (ls : Array Slot), va_P (dC, dI) vwCl [(a0, .inr (8, [.ref a1, .ref a2, .int v_acts, .ref a3, .ref a4, .int v_keptActs, .ref a5, .int v_typed, .ref a6, .ref a7, .ref a8, .ref a9, .ref a10, .int v_isSet, .ref a11, .ref a12, .ref a13, .int v_arePages, .ref a14, .ref a15, .int v_place, .ref a16, .int v_readMany])), (a1, .inl (cI, 189, .inl v_now)), (a10, .inl (cI, 12, .inl v_rows)), (a14, .inl (cJ, 80, .inr (.inl z_30)))] H → va_D A [(a0, .inr (8, [.ref a1, .ref a2, .int v_acts, .ref a3, .ref a4, .int v_keptActs, .ref a5, .int v_typed, .ref a6, .ref a7, .ref a8, .ref a9, .ref a10, .int v_isSet, .ref a11, .ref a12, .ref a13, .int v_arePages, .ref a14, .ref a15, .int v_place, .ref a16, .int v_readMany])), (a1, .inl (cI, 189, .inl v_now)), (a10, .inl (cI, 12, .inl v_rows)), (a14, .inl (cJ, 80, .inr (.inl z_30)))] → va_S A s.heap H locs → lv_has ls 7 [(0, .ref a0), (2, .int x2), (3, .int r_11), (4, .int i4_13)] → W p l e ({ frames := 4, cells := 0, slots := 0, locals := 88 } : Room) s m args below meth c H locs 0 0 Q (F0 m 118 ls [])) → ∀ (n : Nat) (i5_18 : Int32) (v_ways_19 : (Nat → Int64)), loopN (p_X8_wholeBy_L52 v_rows x2 i4_13) n (i5_18, v_ways_19) = some rr → ∀ (H : Heap) (locs : List Loc) (ls : Array Slot), va_P (dC, dI) vwCl [(a0, .inr (8, [.ref a1, .ref a2, .int v_acts, .ref a3, .ref a4, .int v_keptActs, .ref a5, .int v_typed, .ref a6, .ref a7, .ref a8, .ref a9, .ref a10, .int v_isSet, .ref a11, .ref a12, .ref a13, .int v_arePages, .ref a14, .ref a15, .int v_place, .ref a16, .int v_readMany])), (a1, .inl (cI, 189, .inl v_now)), (a10, .inl (cI, 12, .inl v_rows)), (a14, .inl (cJ, 80, .inr (.inl v_ways_19)))] H → va_D A [(a0, .inr (8, [.ref a1, .ref a2, .int v_acts, .ref a3, .ref a4, .int v_keptActs, .ref a5, .int v_typed, .ref a6, .ref a7, .ref a8, .ref a9, .ref a10, .int v_isSet, .ref a11, .ref a12, .ref a13, .int v_arePages, .ref a14, .ref a15, .int v_place, .ref a16, .int v_readMany])), (a1, .inl (cI, 189, .inl v_now)), (a10, .inl (cI, 12, .inl v_rows)), (a14, .inl (cJ, 80, .inr (.inl v_ways_19)))] → va_S A s.heap H locs → lv_has ls 7 [(0, .ref a0), (2, .int x2), (3, .int r_11), (4, .int i4_13), (5, .int i5_18)] → W p l e ({ frames := 4, cells := 0, slots := 0, locals := 88 } : Room) s m args below meth c H locs 0 0 Q (F0 m 52 ls []) := by
            intro rr hk52 n
            induction n with
            | zero => intro i5_18 v_ways_19 hf; cases hf
            | succ n ih52 =>
              intro i5_18 v_ways_19 hf H locs ls hP hD hS hl
              obtain ⟨o52, hf, hi, he⟩ := loopN_el hf
              refine lv_iload hx hb dX8_wholeBy_52 (lv_at hl 4 rfl) ?_
              refine lv_if_lt (tgt := 118) hx hb dX8_wholeBy_54 (by decide) (fun c20 => ?_) (fun c20 => ?_)
              · replace hf := it_t c20 hf
                exact hk52 _ _ (he _ (Option.some.inj hf).symm).symm H locs ls hP hD hS (lv_sub hl [0, 1, 2, 3] rfl)
              · replace hf := it_f c20 hf
                refine lv_aload_n hx hb dX8_wholeBy_57 rfl (lv_at hl 0 rfl) ?_
                refine va_get (D := (dC, dI)) (ci := 8) (v := .ref a14) (C := RX8) (T := TX8) (N := 23) hx hb hT in_X8 hown hK hP 0 rfl rfl 18 (by decide) (hT _ q_fl_X8_54) (fun _ h9 => h9) rfl dX8_wholeBy_58 ?_
                refine lv_iload hx hb dX8_wholeBy_61 (lv_at hl 4 rfl) ?_
                refine lv_iload_n hx hb dX8_wholeBy_63 rfl (lv_at hl 1 rfl) ?_
                refine lv_i2l hx hb dX8_wholeBy_64 rfl ?_
                refine lv_aload_n hx hb dX8_wholeBy_65 rfl (lv_at hl 0 rfl) ?_
                refine va_get (D := (dC, dI)) (ci := 8) (v := .ref a14) (C := RX8) (T := TX8) (N := 23) hx hb hT in_X8 hown hK hP 0 rfl rfl 18 (by decide) (hT _ q_fl_X8_54) (fun _ h9 => h9) rfl dX8_wholeBy_66 ?_
                refine lv_iload hx hb dX8_wholeBy_69 (lv_at hl 4 rfl) ?_
                obtain ⟨h21, hf⟩ := gd_el hf
                refine la_ld hx hb hK hP 3 1 rfl rfl (ib_in h21) (j := (tn i5_18)) rfl dX8_wholeBy_71 ?_
                refine lv_lmul hx hb dX8_wholeBy_72 ?_
                refine lv_iload hx hb dX8_wholeBy_73 (lv_at hl 4 rfl) ?_
                refine lv_aload_n hx hb dX8_wholeBy_75 rfl (lv_at hl 0 rfl) ?_
                refine va_get (D := (dC, dI)) (ci := 8) (v := .ref a10) (C := RX8) (T := TX8) (N := 23) hx hb hT in_X8 hown hK hP 0 rfl rfl 12 (by decide) (hT _ q_fl_X8_42) (fun _ h9 => h9) rfl dX8_wholeBy_76 ?_
                refine lv_iload hx hb dX8_wholeBy_79 (lv_at hl 3 rfl) ?_
                obtain ⟨h22, hf⟩ := gd_el hf
                refine ia_ld hx hb hK hP 2 0 rfl rfl (ib_in h22) (j := (tn i4_13)) rfl dX8_wholeBy_81 ?_
                refine lv_icmp_ge (tgt := 89) hx hb dX8_wholeBy_82 (by decide) (fun c23 => ?_) (fun c23 => ?_)
                · replace hf := it_t c23 hf
                  refine lv_bipush (v := 10) hx hb dX8_wholeBy_89 (by decide) ?_
                  refine lv_iload_n hx hb dX8_wholeBy_91 rfl (lv_at hl 1 rfl) ?_
                  refine lv_isub hx hb dX8_wholeBy_92 ?_
                  refine lv_i2l hx hb dX8_wholeBy_93 rfl ?_
                  refine lv_aload_n hx hb dX8_wholeBy_94 rfl (lv_at hl 0 rfl) ?_
                  refine va_get (D := (dC, dI)) (ci := 8) (v := .ref a14) (C := RX8) (T := TX8) (N := 23) hx hb hT in_X8 hown hK hP 0 rfl rfl 18 (by decide) (hT _ q_fl_X8_54) (fun _ h9 => h9) rfl dX8_wholeBy_95 ?_
                  refine lv_iload hx hb dX8_wholeBy_98 (lv_at hl 4 rfl) ?_
                  refine lv_aload_n hx hb dX8_wholeBy_100 rfl (lv_at hl 0 rfl) ?_
                  refine va_get (D := (dC, dI)) (ci := 8) (v := .ref a10) (C := RX8) (T := TX8) (N := 23) hx hb hT in_X8 hown hK hP 0 rfl rfl 12 (by decide) (hT _ q_fl_X8_42) (fun _ h9 => h9) rfl dX8_wholeBy_101 ?_
                  refine lv_iload hx hb dX8_wholeBy_104 (lv_at hl 3 rfl) ?_
                  obtain ⟨h24, hf⟩ := gd_el hf
                  refine ia_ld hx hb hK hP 2 0 rfl rfl (ib_in h24) (j := (tn i4_13)) rfl dX8_wholeBy_106 ?_
                  refine lv_isub hx hb dX8_wholeBy_107 ?_
                  obtain ⟨h25, hf⟩ := gd_el hf
                  refine la_ld hx hb hK hP 3 1 rfl rfl (ib_in h25) (j := (tn (i5_18 - (v_rows (tn i4_13))))) rfl dX8_wholeBy_108 ?_
                  refine lv_lmul hx hb dX8_wholeBy_109 ?_
                  refine lv_ladd hx hb dX8_wholeBy_110 ?_
                  obtain ⟨h26, hf⟩ := gd_el hf
                  refine la_st hx hb hK hP hD hS 3 1 rfl rfl (ib_in h26) (j := (tn i5_18)) rfl dX8_wholeBy_111 (fun H locs hP hD hS => ?_)
                  have hP : va_P (dC, dI) vwCl [(a0, .inr (8, [.ref a1, .ref a2, .int v_acts, .ref a3, .ref a4, .int v_keptActs, .ref a5, .int v_typed, .ref a6, .ref a7, .ref a8, .ref a9, .ref a10, .int v_isSet, .ref a11, .ref a12, .ref a13, .int v_arePages, .ref a14, .ref a15, .int v_place, .ref a16, .int v_readMany])), (a1, .inl (cI, 189, .inl v_now)), (a10, .inl (cI, 12, .inl v_rows)), (a14, .inl (cJ, 80, .inr (.inl (vp_updL v_ways_19 (tn i5_18) (((Int32.toInt64 x2) * (v_ways_19 (tn i5_18))) + ((Int32.toInt64 ((10 : Int32) - x2)) * (v_ways_19 (tn (i5_18 - (v_rows (tn i4_13)))))))))))] H := hP
                  have hD : va_D A [(a0, .inr (8, [.ref a1, .ref a2, .int v_acts, .ref a3, .ref a4, .int v_keptActs, .ref a5, .int v_typed, .ref a6, .ref a7, .ref a8, .ref a9, .ref a10, .int v_isSet, .ref a11, .ref a12, .ref a13, .int v_arePages, .ref a14, .ref a15, .int v_place, .ref a16, .int v_readMany])), (a1, .inl (cI, 189, .inl v_now)), (a10, .inl (cI, 12, .inl v_rows)), (a14, .inl (cJ, 80, .inr (.inl (vp_updL v_ways_19 (tn i5_18) (((Int32.toInt64 x2) * (v_ways_19 (tn i5_18))) + ((Int32.toInt64 ((10 : Int32) - x2)) * (v_ways_19 (tn (i5_18 - (v_rows (tn i4_13)))))))))))] := hD
                  obtain ⟨v_ways_27, ev_ways_27, hf⟩ := nm_el hf
                  rw [← ev_ways_27] at hP hD
                  refine lv_iinc (v := (i5_18 + (-1 : Int32))) (lv' := [(5, .int (i5_18 + (-1 : Int32))), (0, .ref a0), (2, .int x2), (3, .int r_11), (4, .int i4_13)]) hx hb dX8_wholeBy_112 hl (k := 4) rfl rfl (by decide) rfl (fun ls hl => ?_)
                  refine lv_goto (tgt := 52) hx hb dX8_wholeBy_115 (by decide) ?_
                  exact ih52 (i5_18 + (-1 : Int32)) v_ways_27 (hi _ (Option.some.inj hf).symm) H locs ls hP hD hS (lv_sub hl [1, 2, 3, 4, 0] rfl)
                · replace hf := it_f c23 hf
                  refine lv_lconst (v := 0) hx hb dX8_wholeBy_85 (by decide) ?_
                  refine lv_goto (tgt := 110) hx hb dX8_wholeBy_86 (by decide) ?_
                  refine lv_ladd hx hb dX8_wholeBy_110 ?_
                  obtain ⟨h28, hf⟩ := gd_el hf
                  refine la_st hx hb hK hP hD hS 3 1 rfl rfl (ib_in h28) (j := (tn i5_18)) rfl dX8_wholeBy_111 (fun H locs hP hD hS => ?_)
                  have hP : va_P (dC, dI) vwCl [(a0, .inr (8, [.ref a1, .ref a2, .int v_acts, .ref a3, .ref a4, .int v_keptActs, .ref a5, .int v_typed, .ref a6, .ref a7, .ref a8, .ref a9, .ref a10, .int v_isSet, .ref a11, .ref a12, .ref a13, .int v_arePages, .ref a14, .ref a15, .int v_place, .ref a16, .int v_readMany])), (a1, .inl (cI, 189, .inl v_now)), (a10, .inl (cI, 12, .inl v_rows)), (a14, .inl (cJ, 80, .inr (.inl (vp_updL v_ways_19 (tn i5_18) (((Int32.toInt64 x2) * (v_ways_19 (tn i5_18))) + (0 : Int64))))))] H := hP
                  have hD : va_D A [(a0, .inr (8, [.ref a1, .ref a2, .int v_acts, .ref a3, .ref a4, .int v_keptActs, .ref a5, .int v_typed, .ref a6, .ref a7, .ref a8, .ref a9, .ref a10, .int v_isSet, .ref a11, .ref a12, .ref a13, .int v_arePages, .ref a14, .ref a15, .int v_place, .ref a16, .int v_readMany])), (a1, .inl (cI, 189, .inl v_now)), (a10, .inl (cI, 12, .inl v_rows)), (a14, .inl (cJ, 80, .inr (.inl (vp_updL v_ways_19 (tn i5_18) (((Int32.toInt64 x2) * (v_ways_19 (tn i5_18))) + (0 : Int64))))))] := hD
                  refine lv_iinc (v := (i5_18 + (-1 : Int32))) (lv' := [(5, .int (i5_18 + (-1 : Int32))), (0, .ref a0), (2, .int x2), (3, .int r_11), (4, .int i4_13)]) hx hb dX8_wholeBy_112 hl (k := 4) rfl rfl (by decide) rfl (fun ls hl => ?_)
                  refine lv_goto (tgt := 52) hx hb dX8_wholeBy_115 (by decide) ?_
                  exact ih52 (i5_18 + (-1 : Int32)) (vp_updL v_ways_19 (tn i5_18) (((Int32.toInt64 x2) * (v_ways_19 (tn i5_18))) + (0 : Int64))) (hi _ (Option.some.inj hf).symm) H locs ls hP hD hS (lv_sub hl [1, 2, 3, 4, 0] rfl)
          obtain ⟨f5_31, v_ways_32, hq, hf⟩ := bd2_el hf
          refine hL52 (f5_31, v_ways_32) (fun z_29 z_30 h9 H locs ls hP hD hS hl => ?_) fuel (79 : Int32) v_ways_14 hq H locs ls hP hD hS (lv_sub hl [1, 2, 3, 4, 0] rfl)
          simp only [Prod.mk.injEq] at h9
          obtain ⟨h9_0, h9_1⟩ := h9
          subst h9_0; subst h9_1
          refine lv_iinc (v := (i4_13 + (1 : Int32))) (lv' := [(4, .int (i4_13 + (1 : Int32))), (0, .ref a0), (2, .int x2), (3, .int r_11)]) hx hb dX8_wholeBy_118 hl (k := 3) rfl rfl (by decide) rfl (fun ls hl => ?_)
          refine lv_goto (tgt := 38) hx hb dX8_wholeBy_121 (by decide) ?_
          exact ih38 (i4_13 + (1 : Int32)) v_ways_32 (hi _ (Option.some.inj hf).symm) H locs ls hP hD hS (lv_sub hl [1, 2, 3, 0] rfl)
    obtain ⟨f4_35, v_ways_36, hq, hf⟩ := bd2_el hf
    refine hL38 (f4_35, v_ways_36) (fun z_33 z_34 h9 H locs ls hP hD hS hl => ?_) fuel r_11 v_ways_10 hq H locs ls hP hD hS (lv_sub hl [2, 4, 1, 0] rfl)
    simp only [Prod.mk.injEq] at h9
    obtain ⟨h9_0, h9_1⟩ := h9
    subst h9_0; subst h9_1
    refine lv_lconst (v := 0) hx hb dX8_wholeBy_124 (by decide) ?_
    refine lv_lstore (lv' := [(4, .long (0 : Int64)), (0, .ref a0)]) hx hb dX8_wholeBy_125 hl (by decide) rfl (fun ls hl => ?_)
    refine lv_iconst (v := 0) hx hb dX8_wholeBy_127 (by decide) ?_
    refine lv_istore (lv' := [(6, .int (0 : Int32)), (4, .long (0 : Int64)), (0, .ref a0)]) hx hb dX8_wholeBy_128 hl (by decide) rfl (fun ls hl => ?_)
    have hL130 : ∀ (rr : Int64 × Int32), (∀ (z_42 : Int64) (z_43 : Int32), rr = (z_42, z_43) → ∀ (H : Heap) (locs : List Loc) (ls : Array Slot), va_P (dC, dI) vwCl [(a0, .inr (8, [.ref a1, .ref a2, .int v_acts, .ref a3, .ref a4, .int v_keptActs, .ref a5, .int v_typed, .ref a6, .ref a7, .ref a8, .ref a9, .ref a10, .int v_isSet, .ref a11, .ref a12, .ref a13, .int v_arePages, .ref a14, .ref a15, .int v_place, .ref a16, .int v_readMany])), (a1, .inl (cI, 189, .inl v_now)), (a10, .inl (cI, 12, .inl v_rows)), (a14, .inl (cJ, 80, .inr (.inl v_ways_36)))] H → va_D A [(a0, .inr (8, [.ref a1, .ref a2, .int v_acts, .ref a3, .ref a4, .int v_keptActs, .ref a5, .int v_typed, .ref a6, .ref a7, .ref a8, .ref a9, .ref a10, .int v_isSet, .ref a11, .ref a12, .ref a13, .int v_arePages, .ref a14, .ref a15, .int v_place, .ref a16, .int v_readMany])), (a1, .inl (cI, 189, .inl v_now)), (a10, .inl (cI, 12, .inl v_rows)), (a14, .inl (cJ, 80, .inr (.inl v_ways_36)))] → va_S A s.heap H locs → lv_has ls 7 [(4, .long z_42)] → W p l e ({ frames := 4, cells := 0, slots := 0, locals := 88 } : Room) s m args below meth c H locs 0 0 Q (F0 m 159 ls [])) → ∀ (n : Nat) (i4_37 : Int64) (i6_38 : Int32), loopN (p_X8_wholeBy_L130 v_now v_ways_36) n (i4_37, i6_38) = some rr → ∀ (H : Heap) (locs : List Loc) (ls : Array Slot), va_P (dC, dI) vwCl [(a0, .inr (8, [.ref a1, .ref a2, .int v_acts, .ref a3, .ref a4, .int v_keptActs, .ref a5, .int v_typed, .ref a6, .ref a7, .ref a8, .ref a9, .ref a10, .int v_isSet, .ref a11, .ref a12, .ref a13, .int v_arePages, .ref a14, .ref a15, .int v_place, .ref a16, .int v_readMany])), (a1, .inl (cI, 189, .inl v_now)), (a10, .inl (cI, 12, .inl v_rows)), (a14, .inl (cJ, 80, .inr (.inl v_ways_36)))] H → va_D A [(a0, .inr (8, [.ref a1, .ref a2, .int v_acts, .ref a3, .ref a4, .int v_keptActs, .ref a5, .int v_typed, .ref a6, .ref a7, .ref a8, .ref a9, .ref a10, .int v_isSet, .ref a11, .ref a12, .ref a13, .int v_arePages, .ref a14, .ref a15, .int v_place, .ref a16, .int v_readMany])), (a1, .inl (cI, 189, .inl v_now)), (a10, .inl (cI, 12, .inl v_rows)), (a14, .inl (cJ, 80, .inr (.inl v_ways_36)))] → va_S A s.heap H locs → lv_has ls 7 [(0, .ref a0), (4, .long i4_37), (6, .int i6_38)] → W p l e ({ frames := 4, cells := 0, slots := 0, locals := 88 } : Room) s m args below meth c H locs 0 0 Q (F0 m 130 ls []) := by
      intro rr hk130 n
      induction n with
      | zero => intro i4_37 i6_38 hf; cases hf
      | succ n ih130 =>
        intro i4_37 i6_38 hf H locs ls hP hD hS hl
        obtain ⟨o130, hf, hi, he⟩ := loopN_el hf
        refine lv_iload hx hb dX8_wholeBy_130 (lv_at hl 2 rfl) ?_
        refine lv_aload_n hx hb dX8_wholeBy_132 rfl (lv_at hl 0 rfl) ?_
        refine va_get (D := (dC, dI)) (ci := 8) (v := .ref a1) (C := RX8) (T := TX8) (N := 23) hx hb hT in_X8 hown hK hP 0 rfl rfl 0 (by decide) (hT _ q_fl_X8_7) (fun _ h9 => h9) rfl dX8_wholeBy_133 ?_
        refine lv_iconst (v := 5) hx hb dX8_wholeBy_136 (by decide) ?_
        refine ia_ld hx hb hK hP 1 0 rfl rfl (ib_in (by decide)) (j := 5) (by decide) dX8_wholeBy_137 ?_
        refine lv_icmp_gt (tgt := 159) hx hb dX8_wholeBy_138 (by decide) (fun c39 => ?_) (fun c39 => ?_)
        · replace hf := it_t c39 hf
          exact hk130 _ _ (he _ (Option.some.inj hf).symm).symm H locs ls hP hD hS (lv_sub hl [1] rfl)
        · replace hf := it_f c39 hf
          refine lv_lload hx hb dX8_wholeBy_141 (lv_at hl 1 rfl) ?_
          refine lv_aload_n hx hb dX8_wholeBy_143 rfl (lv_at hl 0 rfl) ?_
          refine va_get (D := (dC, dI)) (ci := 8) (v := .ref a14) (C := RX8) (T := TX8) (N := 23) hx hb hT in_X8 hown hK hP 0 rfl rfl 18 (by decide) (hT _ q_fl_X8_54) (fun _ h9 => h9) rfl dX8_wholeBy_144 ?_
          refine lv_iload hx hb dX8_wholeBy_147 (lv_at hl 2 rfl) ?_
          obtain ⟨h40, hf⟩ := gd_el hf
          refine la_ld hx hb hK hP 3 1 rfl rfl (ib_in h40) (j := (tn i6_38)) rfl dX8_wholeBy_149 ?_
          refine lv_ladd hx hb dX8_wholeBy_150 ?_
          obtain ⟨x4_41, ex4_41, hf⟩ := nm_el hf
          refine lv_as (congrArg Value.long ex4_41) ?_
          refine lv_lstore (lv' := [(4, .long x4_41), (0, .ref a0), (6, .int i6_38)]) hx hb dX8_wholeBy_151 hl (by decide) rfl (fun ls hl => ?_)
          refine lv_iinc (v := (i6_38 + (1 : Int32))) (lv' := [(6, .int (i6_38 + (1 : Int32))), (4, .long x4_41), (0, .ref a0)]) hx hb dX8_wholeBy_153 hl (k := 2) rfl rfl (by decide) rfl (fun ls hl => ?_)
          refine lv_goto (tgt := 130) hx hb dX8_wholeBy_156 (by decide) ?_
          exact ih130 x4_41 (i6_38 + (1 : Int32)) (hi _ (Option.some.inj hf).symm) H locs ls hP hD hS (lv_sub hl [2, 1, 0] rfl)
    obtain ⟨f4_44, f6_45, hq, hf⟩ := bd2_el hf
    refine hL130 (f4_44, f6_45) (fun z_42 z_43 h9 H locs ls hP hD hS hl => ?_) fuel (0 : Int64) (0 : Int32) hq H locs ls hP hD hS (lv_sub hl [2, 1, 0] rfl)
    simp only [Prod.mk.injEq] at h9
    obtain ⟨h9_0, h9_1⟩ := h9
    subst h9_0; subst h9_1
    refine lv_lload hx hb dX8_wholeBy_159 (lv_at hl 0 rfl) ?_
    replace hf := Option.some.inj hf
    simp only [Prod.mk.injEq] at hf
    obtain ⟨hf0, hf1⟩ := hf
    subst hf0; subst hf1
    exact hret H locs ls _ dX8_wholeBy_161 hP hD hS
  refine key _ ?_ _ _ _ hP hD hS hl
  intro H locs ls pc d hP hD hS
  exact W.lret (v := rv) hx hb hr (fun t ht hW => ⟨⟨rfl, by rw [ht]; exact hP, hD⟩, hS.F ht⟩) hS.2.2 d
def p_X8_whole_L49 (v_now : (Nat → Int32)) (x1 : Int32) (v_isSet_7 : Int32) (v_rows_8 : (Nat → Int32)) (s : Int64 × Int32 × (Nat → Int64)) : Option ((Int64 × Int32 × (Nat → Int64)) ⊕ (Int64 × Int32 × (Nat → Int64))) := match s with
  | (i3_11, i7_12, v_ways_13) => (bd1 (p_X8_stanzas v_now) fun r_14 => (if r_14 ≤ i7_12 then (some (.inr (i3_11, i7_12, v_ways_13))) else (if v_isSet_7 = (0 : Int32) then (some (.inr (i3_11, i7_12, v_ways_13))) else (bd2 (p_X8_wholeBy v_now v_rows_8 v_ways_13 i7_12 x1) fun r_18 v_ways_19 => (nm (i3_11 * r_18) fun x3_21 => (some (.inl (x3_21, (i7_12 + (1 : Int32)), v_ways_19))))))))
def p_X8_whole_L84 (v_now : (Nat → Int32)) (s : Int64 × Int32) : Option ((Int64 × Int32) ⊕ (Int64 × Int32)) := match s with
  | (i5_28, i7_29) => (if (v_now 0) ≤ i7_29 then (some (.inr (i5_28, i7_29))) else (nm (i5_28 * (10 : Int64)) fun x5_31 => (some (.inl (x5_31, (i7_29 + (1 : Int32)))))))
def p_X8_whole_L116  (s : Int64 × Int64) : Option ((Int64 × Int64) ⊕ (Int64 × Int64)) := match s with
  | (i7_36, i9_37) => (if (lg_cmp i9_37 (0 : Int64)) = (0 : Int32) then (some (.inr (i7_36, i9_37))) else (gd (nzl i9_37) (nm (lrem i7_36 i9_37) fun x11_40 => (some (.inl (i9_37, x11_40))))))
def p_X8_whole_B42_10 (v_now : (Nat → Int32)) (v_ways : (Nat → Int64)) (x1 : Int32) (x2 : Int32) (v_isSet_7 : Int32) (v_rows_8 : (Nat → Int32)) (w0_10 : Int64) : Option (Int64 × Int32 × (Nat → Int32) × (Nat → Int64)) :=
  (bd3 (loopN (p_X8_whole_L49 v_now x1 v_isSet_7 v_rows_8) fuel (w0_10, (0 : Int32), v_ways)) fun f3_25 f7_26 v_ways_27 => (bd2 (loopN (p_X8_whole_L84 v_now) fuel ((1 : Int64), (0 : Int32))) fun f5_34 f7_35 => (bd2 (loopN (p_X8_whole_L116) fuel (f3_25, f5_34)) fun f7_43 f9_44 => (if x2 = (0 : Int32) then (gd (nzl f7_43) (some ((f3_25 / f7_43), v_isSet_7, v_rows_8, v_ways_27))) else (gd (nzl f7_43) (some ((f5_34 / f7_43), v_isSet_7, v_rows_8, v_ways_27)))))))
def p_X8_whole (v_isSet : Int32) (v_now : (Nat → Int32)) (v_rows : (Nat → Int32)) (v_ways : (Nat → Int64)) (x1 : Int32) (x2 : Int32) : Option (Int64 × Int32 × (Nat → Int32) × (Nat → Int64)) :=
  (bd1 (p_X8_in (Int32.toInt64 x1) (0 : Int64) (10 : Int64)) fun r_1 => (if r_1 = (0 : Int32) then (some ((-1 : Int64), v_isSet, v_rows, v_ways)) else (bd1 (p_X8_in (Int32.toInt64 x2) (0 : Int64) (1 : Int64)) fun r_4 => (if r_4 = (0 : Int32) then (some ((-1 : Int64), v_isSet, v_rows, v_ways)) else (bd2 (p_X8_sets v_isSet v_now v_rows) fun v_isSet_7 v_rows_8 => (if v_isSet_7 = (0 : Int32) then (p_X8_whole_B42_10 v_now v_ways x1 x2 v_isSet_7 v_rows_8 (0 : Int64)) else (p_X8_whole_B42_10 v_now v_ways x1 x2 v_isSet_7 v_rows_8 (1 : Int64))))))))
set_option maxHeartbeats 4000000 in
set_option maxRecDepth 100000 in
theorem c_X8_whole (l : Launch) (dC : Nat → ClassId) (dI : Nat → Nat → Nat) (cI cJ cP cS : ClassId) (a0 : Nat) (a1 : Nat) (a2 : Nat) (a3 : Nat) (a4 : Nat) (a5 : Nat) (a6 : Nat) (a7 : Nat) (a8 : Nat) (a9 : Nat) (a10 : Nat) (a11 : Nat) (a12 : Nat) (a13 : Nat) (a14 : Nat) (a15 : Nat) (a16 : Nat) (v_acts : Int32) (v_keptActs : Int32) (v_typed : Int32) (v_isSet : Int32) (v_arePages : Int32) (v_place : Int32) (v_readMany : Int32) (v_now : (Nat → Int32)) (v_rows : (Nat → Int32)) (v_ways : (Nat → Int64))  (x1 : Int32) (x2 : Int32) (rv : Int64) (v_isSet_o : Int32) (v_rows_o : (Nat → Int32)) (v_ways_o : (Nat → Int64)) (hf : p_X8_whole v_isSet v_now v_rows v_ways x1 x2 = some (rv, v_isSet_o, v_rows_o, v_ways_o)) : MC l (dC, dI) (tyl cI cJ cP cS) yX8_whole (Cond.code yX8_whole cX8_whole 13 (some .long) :: TBG) ({ frames := 9, cells := 0, slots := 0, locals := 204 } : Room) [.ref a0, .int x1, .int x2] [(a0, .inr (8, [.ref a1, .ref a2, .int v_acts, .ref a3, .ref a4, .int v_keptActs, .ref a5, .int v_typed, .ref a6, .ref a7, .ref a8, .ref a9, .ref a10, .int v_isSet, .ref a11, .ref a12, .ref a13, .int v_arePages, .ref a14, .ref a15, .int v_place, .ref a16, .int v_readMany])), (a1, .inl (cI, 189, .inl v_now)), (a10, .inl (cI, 12, .inl v_rows)), (a14, .inl (cJ, 80, .inr (.inl v_ways)))] [(a0, .inr (8, [.ref a1, .ref a2, .int v_acts, .ref a3, .ref a4, .int v_keptActs, .ref a5, .int v_typed, .ref a6, .ref a7, .ref a8, .ref a9, .ref a10, .int v_isSet_o, .ref a11, .ref a12, .ref a13, .int v_arePages, .ref a14, .ref a15, .int v_place, .ref a16, .int v_readMany])), (a1, .inl (cI, 189, .inl v_now)), (a10, .inl (cI, 12, .inl v_rows_o)), (a14, .inl (cJ, 80, .inr (.inl v_ways_o)))] (some (.long rv)) := by
  intro sz
  unfold MPost
  refine Met.ofW (cc := cX8_whole) (maxL := 13) (ret := (some .long)) (by decide) rfl ?_
  intro p e s m args below meth c s₁ B hml hv
  obtain ⟨rfl, hsz, hP, hK, hD0, hF⟩ := hv
  have hx := B.exec
  have hb := B.bytes
  have hr := B.returns
  have hT : ∀ w ∈ TBG, w.before _ s = true := fun w h => atoms_spec B.pre w (List.mem_cons_of_mem _ h)
  have hown : s.vm.findClass RX8 = some m.cls := findClass_of_methodNamed B.named
  have hlocks := B.notSynchronized
  subst hsz
  have hD := hD0.self (sz := s.heap.size)
  generalize hAe : va_A [(a0, .inr (8, [.ref a1, .ref a2, .int v_acts, .ref a3, .ref a4, .int v_keptActs, .ref a5, .int v_typed, .ref a6, .ref a7, .ref a8, .ref a9, .ref a10, .int v_isSet, .ref a11, .ref a12, .ref a13, .int v_arePages, .ref a14, .ref a15, .int v_place, .ref a16, .int v_readMany])), (a1, .inl (cI, 189, .inl v_now)), (a10, .inl (cI, 12, .inl v_rows)), (a14, .inl (cJ, 80, .inr (.inl v_ways)))] s.heap.size = A at hD hF ⊢
  have hA : ∀ q : Nat, s.heap.size ≤ q → A q := fun q h => by rw [← hAe]; exact Or.inr h
  have hS : va_S A s.heap s.heap [] := va_S.rf
  have hl := lv_entry ([.ref a0, .int x1, .int x2]) (n := 13) (Nat.le_of_ble_eq_true rfl)
  rw [lg_entry_eq]
  generalize (lg_sl ([.ref a0, .int x1, .int x2]) ++ List.replicate (13 - (lg_sl ([.ref a0, .int x1, .int x2])).length) Slot.unset).toArray = ls at hl ⊢
  have hl : lv_has ls 13 [(0, .ref a0), (1, .int x1), (2, .int x2)] := hl
  generalize ([.ref a0, .int x1, .int x2] : List Value).toArray = args at hT ⊢
  have key : ∀ (Q : State → Prop), (∀ (H : Heap) (locs : List Loc) (ls : Array Slot) (pc : Nat), decode cX8_whole pc = .ok (.lreturn, 1) → va_P (dC, dI) vwCl [(a0, .inr (8, [.ref a1, .ref a2, .int v_acts, .ref a3, .ref a4, .int v_keptActs, .ref a5, .int v_typed, .ref a6, .ref a7, .ref a8, .ref a9, .ref a10, .int v_isSet_o, .ref a11, .ref a12, .ref a13, .int v_arePages, .ref a14, .ref a15, .int v_place, .ref a16, .int v_readMany])), (a1, .inl (cI, 189, .inl v_now)), (a10, .inl (cI, 12, .inl v_rows_o)), (a14, .inl (cJ, 80, .inr (.inl v_ways_o)))] H → va_D A [(a0, .inr (8, [.ref a1, .ref a2, .int v_acts, .ref a3, .ref a4, .int v_keptActs, .ref a5, .int v_typed, .ref a6, .ref a7, .ref a8, .ref a9, .ref a10, .int v_isSet_o, .ref a11, .ref a12, .ref a13, .int v_arePages, .ref a14, .ref a15, .int v_place, .ref a16, .int v_readMany])), (a1, .inl (cI, 189, .inl v_now)), (a10, .inl (cI, 12, .inl v_rows_o)), (a14, .inl (cJ, 80, .inr (.inl v_ways_o)))] → va_S A s.heap H locs → W p l e ({ frames := 9, cells := 0, slots := 0, locals := 204 } : Room) s m args below meth c H locs 0 0 Q (F0 m pc ls [.long rv])) → ∀ (H : Heap) (locs : List Loc) (ls : Array Slot), va_P (dC, dI) vwCl [(a0, .inr (8, [.ref a1, .ref a2, .int v_acts, .ref a3, .ref a4, .int v_keptActs, .ref a5, .int v_typed, .ref a6, .ref a7, .ref a8, .ref a9, .ref a10, .int v_isSet, .ref a11, .ref a12, .ref a13, .int v_arePages, .ref a14, .ref a15, .int v_place, .ref a16, .int v_readMany])), (a1, .inl (cI, 189, .inl v_now)), (a10, .inl (cI, 12, .inl v_rows)), (a14, .inl (cJ, 80, .inr (.inl v_ways)))] H → va_D A [(a0, .inr (8, [.ref a1, .ref a2, .int v_acts, .ref a3, .ref a4, .int v_keptActs, .ref a5, .int v_typed, .ref a6, .ref a7, .ref a8, .ref a9, .ref a10, .int v_isSet, .ref a11, .ref a12, .ref a13, .int v_arePages, .ref a14, .ref a15, .int v_place, .ref a16, .int v_readMany])), (a1, .inl (cI, 189, .inl v_now)), (a10, .inl (cI, 12, .inl v_rows)), (a14, .inl (cJ, 80, .inr (.inl v_ways)))] → va_S A s.heap H locs → lv_has ls 13 [(0, .ref a0), (1, .int x1), (2, .int x2)] → W p l e ({ frames := 9, cells := 0, slots := 0, locals := 204 } : Room) s m args below meth c H locs 0 0 Q (F0 m 0 ls []) := by
    intro Q hret H locs ls hP hD hS hl
    refine lv_iload_n hx hb dX8_whole_0 rfl (lv_at hl 1 rfl) ?_
    refine lv_i2l hx hb dX8_whole_1 rfl ?_
    refine lv_lconst (v := 0) hx hb dX8_whole_2 (by decide) ?_
    refine lv_ldc2 hx hb hown (hT _ q_kl_X8_170) dX8_whole_3 ?_
    obtain ⟨r_1, hq2, hf⟩ := bd1_el hf
    refine mc_S (As := [.long (Int32.toInt64 x1), .long (0 : Int64), .long (10 : Int64)]) (rest := []) (wr := [(a0, .inr (8, [.ref a1, .ref a2, .int v_acts, .ref a3, .ref a4, .int v_keptActs, .ref a5, .int v_typed, .ref a6, .ref a7, .ref a8, .ref a9, .ref a10, .int v_isSet, .ref a11, .ref a12, .ref a13, .int v_arePages, .ref a14, .ref a15, .int v_place, .ref a16, .int v_readMany])), (a1, .inl (cI, 189, .inl v_now)), (a10, .inl (cI, 12, .inl v_rows)), (a14, .inl (cJ, 80, .inr (.inl v_ways)))]) (wn := [(a0, .inr (8, [.ref a1, .ref a2, .int v_acts, .ref a3, .ref a4, .int v_keptActs, .ref a5, .int v_typed, .ref a6, .ref a7, .ref a8, .ref a9, .ref a10, .int v_isSet, .ref a11, .ref a12, .ref a13, .int v_arePages, .ref a14, .ref a15, .int v_place, .ref a16, .int v_readMany])), (a1, .inl (cI, 189, .inl v_now)), (a10, .inl (cI, 12, .inl v_rows)), (a14, .inl (cJ, 80, .inr (.inl v_ways)))]) ⟨hx, hb, hml, hown, hT⟩ (c_X8_in l dC dI cI cJ cP cS (Int32.toInt64 x1) (0 : Int64) (10 : Int64) r_1 hq2) (va_cwS 3 hT (gdS q_ml_X8_63 q_st_X8_in q_in_X8 q_co_X8_in) rfl rfl rfl hd_X8_in ⟨Nat.le_of_ble_eq_true rfl, Nat.le_of_ble_eq_true rfl⟩) hK hF hP hD hS hA [] [0, 1, 2, 3] [0, 1, 2, 3] rfl (by decide) rfl (by decide) (by decide) rfl (by decide) rfl hl.1 rfl (Nat.le_of_ble_eq_true rfl) dX8_whole_6 ⟨Nat.zero_le _, Nat.zero_le _⟩ (fun H locs hP hD hS => ?_)
    refine W.eq (g2 := F0 m 9 ls [.int r_1]) rfl ?_
    refine lv_if_eq (tgt := 22) hx hb dX8_whole_9 (by decide) (fun c3 => ?_) (fun c3 => ?_)
    · replace hf := it_t c3 hf
      refine lv_ldc2 hx hb hown (hT _ q_kl_X8_179) dX8_whole_22 ?_
      replace hf := Option.some.inj hf
      simp only [Prod.mk.injEq] at hf
      obtain ⟨hf0, hf1, hf2, hf3⟩ := hf
      subst hf0; subst hf1; subst hf2; subst hf3
      exact hret H locs ls _ dX8_whole_25 hP hD hS
    · replace hf := it_f c3 hf
      refine lv_iload_n hx hb dX8_whole_12 rfl (lv_at hl 2 rfl) ?_
      refine lv_i2l hx hb dX8_whole_13 rfl ?_
      refine lv_lconst (v := 0) hx hb dX8_whole_14 (by decide) ?_
      refine lv_lconst (v := 1) hx hb dX8_whole_15 (by decide) ?_
      obtain ⟨r_4, hq5, hf⟩ := bd1_el hf
      refine mc_S (As := [.long (Int32.toInt64 x2), .long (0 : Int64), .long (1 : Int64)]) (rest := []) (wr := [(a0, .inr (8, [.ref a1, .ref a2, .int v_acts, .ref a3, .ref a4, .int v_keptActs, .ref a5, .int v_typed, .ref a6, .ref a7, .ref a8, .ref a9, .ref a10, .int v_isSet, .ref a11, .ref a12, .ref a13, .int v_arePages, .ref a14, .ref a15, .int v_place, .ref a16, .int v_readMany])), (a1, .inl (cI, 189, .inl v_now)), (a10, .inl (cI, 12, .inl v_rows)), (a14, .inl (cJ, 80, .inr (.inl v_ways)))]) (wn := [(a0, .inr (8, [.ref a1, .ref a2, .int v_acts, .ref a3, .ref a4, .int v_keptActs, .ref a5, .int v_typed, .ref a6, .ref a7, .ref a8, .ref a9, .ref a10, .int v_isSet, .ref a11, .ref a12, .ref a13, .int v_arePages, .ref a14, .ref a15, .int v_place, .ref a16, .int v_readMany])), (a1, .inl (cI, 189, .inl v_now)), (a10, .inl (cI, 12, .inl v_rows)), (a14, .inl (cJ, 80, .inr (.inl v_ways)))]) ⟨hx, hb, hml, hown, hT⟩ (c_X8_in l dC dI cI cJ cP cS (Int32.toInt64 x2) (0 : Int64) (1 : Int64) r_4 hq5) (va_cwS 3 hT (gdS q_ml_X8_63 q_st_X8_in q_in_X8 q_co_X8_in) rfl rfl rfl hd_X8_in ⟨Nat.le_of_ble_eq_true rfl, Nat.le_of_ble_eq_true rfl⟩) hK hF hP hD hS hA [] [0, 1, 2, 3] [0, 1, 2, 3] rfl (by decide) rfl (by decide) (by decide) rfl (by decide) rfl hl.1 rfl (Nat.le_of_ble_eq_true rfl) dX8_whole_16 ⟨Nat.zero_le _, Nat.zero_le _⟩ (fun H locs hP hD hS => ?_)
      refine W.eq (g2 := F0 m 19 ls [.int r_4]) rfl ?_
      refine lv_if_ne (tgt := 26) hx hb dX8_whole_19 (by decide) (fun c6 => ?_) (fun c6 => ?_)
      · replace hf := it_f c6 hf
        refine lv_aload_n hx hb dX8_whole_26 rfl (lv_at hl 0 rfl) ?_
        obtain ⟨v_isSet_7, v_rows_8, hq9, hf⟩ := bd2_el hf
        refine mc_V (As := []) (rest := []) (wr := [(a14, .inl (cJ, 80, .inr (.inl v_ways)))]) (wn := [(a0, .inr (8, [.ref a1, .ref a2, .int v_acts, .ref a3, .ref a4, .int v_keptActs, .ref a5, .int v_typed, .ref a6, .ref a7, .ref a8, .ref a9, .ref a10, .int v_isSet_7, .ref a11, .ref a12, .ref a13, .int v_arePages, .ref a14, .ref a15, .int v_place, .ref a16, .int v_readMany])), (a1, .inl (cI, 189, .inl v_now)), (a10, .inl (cI, 12, .inl v_rows_8)), (a14, .inl (cJ, 80, .inr (.inl v_ways)))]) ⟨hx, hb, hml, hown, hT⟩ (c_X8_sets l dC dI cI cJ cP cS a0 a1 a2 a3 a4 a5 a6 a7 a8 a9 a10 a11 a12 a13 a14 a15 a16 v_acts v_keptActs v_typed v_isSet v_arePages v_place v_readMany v_now v_rows v_isSet_7 v_rows_8 hq9) (cwV 0 hT (gdV q_ml_X8_127 q_im_X8_sets q_se_X8_sets q_in_X8 q_co_X8_sets) rfl rfl rfl hd_X8_sets ⟨Nat.le_of_ble_eq_true rfl, Nat.le_of_ble_eq_true rfl⟩) hK hF hP hD hS hA 0 rfl rfl rfl [0, 1, 2] [3] [1, 2, 3, 0] rfl (by decide) rfl (by decide) (by decide) rfl (by decide) rfl hl.1 rfl (Nat.le_of_ble_eq_true rfl) dX8_whole_27 ⟨Nat.zero_le _, Nat.zero_le _⟩ (fun H locs hP hD hS => ?_)
        refine W.eq (g2 := F0 m 30 ls []) rfl ?_
        refine lv_aload_n hx hb dX8_whole_30 rfl (lv_at hl 0 rfl) ?_
        refine va_get (D := (dC, dI)) (ci := 8) (v := .int v_isSet_7) (C := RX8) (T := TX8) (N := 23) hx hb hT in_X8 hown hK hP 0 rfl rfl 13 (by decide) (hT _ q_fl_X8_111) (fun _ h9 => h9) rfl dX8_whole_31 ?_
        have hB42_10 : ∀ (w0_10 : Int64), p_X8_whole_B42_10 v_now v_ways x1 x2 v_isSet_7 v_rows_8 w0_10 = some (rv, v_isSet_o, v_rows_o, v_ways_o) → ∀ (H : Heap) (locs : List Loc) (ls : Array Slot), va_P (dC, dI) vwCl [(a0, .inr (8, [.ref a1, .ref a2, .int v_acts, .ref a3, .ref a4, .int v_keptActs, .ref a5, .int v_typed, .ref a6, .ref a7, .ref a8, .ref a9, .ref a10, .int v_isSet_7, .ref a11, .ref a12, .ref a13, .int v_arePages, .ref a14, .ref a15, .int v_place, .ref a16, .int v_readMany])), (a1, .inl (cI, 189, .inl v_now)), (a10, .inl (cI, 12, .inl v_rows_8)), (a14, .inl (cJ, 80, .inr (.inl v_ways)))] H → va_D A [(a0, .inr (8, [.ref a1, .ref a2, .int v_acts, .ref a3, .ref a4, .int v_keptActs, .ref a5, .int v_typed, .ref a6, .ref a7, .ref a8, .ref a9, .ref a10, .int v_isSet_7, .ref a11, .ref a12, .ref a13, .int v_arePages, .ref a14, .ref a15, .int v_place, .ref a16, .int v_readMany])), (a1, .inl (cI, 189, .inl v_now)), (a10, .inl (cI, 12, .inl v_rows_8)), (a14, .inl (cJ, 80, .inr (.inl v_ways)))] → va_S A s.heap H locs → lv_has ls 13 [(0, .ref a0), (1, .int x1), (2, .int x2)] → W p l e ({ frames := 9, cells := 0, slots := 0, locals := 204 } : Room) s m args below meth c H locs 0 0 Q (F0 m 42 ls [.long w0_10]) := by
          intro w0_10 hf H locs ls hP hD hS hl
          refine lv_lstore_n (lv' := [(3, .long w0_10), (0, .ref a0), (1, .int x1), (2, .int x2)]) hx hb dX8_whole_42 rfl hl (by decide) rfl (fun ls hl => ?_)
          refine lv_lconst (v := 1) hx hb dX8_whole_43 (by decide) ?_
          refine lv_lstore (lv' := [(5, .long (1 : Int64)), (3, .long w0_10), (0, .ref a0), (1, .int x1), (2, .int x2)]) hx hb dX8_whole_44 hl (by decide) rfl (fun ls hl => ?_)
          refine lv_iconst (v := 0) hx hb dX8_whole_46 (by decide) ?_
          refine lv_istore (lv' := [(7, .int (0 : Int32)), (5, .long (1 : Int64)), (3, .long w0_10), (0, .ref a0), (1, .int x1), (2, .int x2)]) hx hb dX8_whole_47 hl (by decide) rfl (fun ls hl => ?_)
          have hL49 : ∀ (rr : Int64 × Int32 × (Nat → Int64)), (∀ (z_22 : Int64) (z_23 : Int32) (z_24 : (Nat → Int64)), rr = (z_22, z_23, z_24) → ∀ (H : Heap) (locs : List Loc) (ls : Array Slot), va_P (dC, dI) vwCl [(a0, .inr (8, [.ref a1, .ref a2, .int v_acts, .ref a3, .ref a4, .int v_keptActs, .ref a5, .int v_typed, .ref a6, .ref a7, .ref a8, .ref a9, .ref a10, .int v_isSet_7, .ref a11, .ref a12, .ref a13, .int v_arePages, .ref a14, .ref a15, .int v_place, .ref a16, .int v_readMany])), (a1, .inl (cI, 189, .inl v_now)), (a10, .inl (cI, 12, .inl v_rows_8)), (a14, .inl (cJ, 80, .inr (.inl z_24)))] H → va_D A [(a0, .inr (8, [.ref a1, .ref a2, .int v_acts, .ref a3, .ref a4, .int v_keptActs, .ref a5, .int v_typed, .ref a6, .ref a7, .ref a8, .ref a9, .ref a10, .int v_isSet_7, .ref a11, .ref a12, .ref a13, .int v_arePages, .ref a14, .ref a15, .int v_place, .ref a16, .int v_readMany])), (a1, .inl (cI, 189, .inl v_now)), (a10, .inl (cI, 12, .inl v_rows_8)), (a14, .inl (cJ, 80, .inr (.inl z_24)))] → va_S A s.heap H locs → lv_has ls 13 [(0, .ref a0), (2, .int x2), (3, .long z_22), (5, .long (1 : Int64))] → W p l e ({ frames := 9, cells := 0, slots := 0, locals := 204 } : Room) s m args below meth c H locs 0 0 Q (F0 m 81 ls [])) → ∀ (n : Nat) (i3_11 : Int64) (i7_12 : Int32) (v_ways_13 : (Nat → Int64)), loopN (p_X8_whole_L49 v_now x1 v_isSet_7 v_rows_8) n (i3_11, i7_12, v_ways_13) = some rr → ∀ (H : Heap) (locs : List Loc) (ls : Array Slot), va_P (dC, dI) vwCl [(a0, .inr (8, [.ref a1, .ref a2, .int v_acts, .ref a3, .ref a4, .int v_keptActs, .ref a5, .int v_typed, .ref a6, .ref a7, .ref a8, .ref a9, .ref a10, .int v_isSet_7, .ref a11, .ref a12, .ref a13, .int v_arePages, .ref a14, .ref a15, .int v_place, .ref a16, .int v_readMany])), (a1, .inl (cI, 189, .inl v_now)), (a10, .inl (cI, 12, .inl v_rows_8)), (a14, .inl (cJ, 80, .inr (.inl v_ways_13)))] H → va_D A [(a0, .inr (8, [.ref a1, .ref a2, .int v_acts, .ref a3, .ref a4, .int v_keptActs, .ref a5, .int v_typed, .ref a6, .ref a7, .ref a8, .ref a9, .ref a10, .int v_isSet_7, .ref a11, .ref a12, .ref a13, .int v_arePages, .ref a14, .ref a15, .int v_place, .ref a16, .int v_readMany])), (a1, .inl (cI, 189, .inl v_now)), (a10, .inl (cI, 12, .inl v_rows_8)), (a14, .inl (cJ, 80, .inr (.inl v_ways_13)))] → va_S A s.heap H locs → lv_has ls 13 [(0, .ref a0), (1, .int x1), (2, .int x2), (3, .long i3_11), (5, .long (1 : Int64)), (7, .int i7_12)] → W p l e ({ frames := 9, cells := 0, slots := 0, locals := 204 } : Room) s m args below meth c H locs 0 0 Q (F0 m 49 ls []) := by
            intro rr hk49 n
            induction n with
            | zero => intro i3_11 i7_12 v_ways_13 hf; cases hf
            | succ n ih49 =>
              intro i3_11 i7_12 v_ways_13 hf H locs ls hP hD hS hl
              obtain ⟨o49, hf, hi, he⟩ := loopN_el hf
              rw [p_X8_whole_L49] at hf
              refine lv_iload hx hb dX8_whole_49 (lv_at hl 5 rfl) ?_
              refine lv_aload_n hx hb dX8_whole_51 rfl (lv_at hl 0 rfl) ?_
              obtain ⟨r_14, hq15, hf⟩ := bd1_el hf
              refine mc_V (As := []) (rest := [.int i7_12]) (wr := [(a10, .inl (cI, 12, .inl v_rows_8)), (a14, .inl (cJ, 80, .inr (.inl v_ways_13)))]) (wn := [(a0, .inr (8, [.ref a1, .ref a2, .int v_acts, .ref a3, .ref a4, .int v_keptActs, .ref a5, .int v_typed, .ref a6, .ref a7, .ref a8, .ref a9, .ref a10, .int v_isSet_7, .ref a11, .ref a12, .ref a13, .int v_arePages, .ref a14, .ref a15, .int v_place, .ref a16, .int v_readMany])), (a1, .inl (cI, 189, .inl v_now)), (a10, .inl (cI, 12, .inl v_rows_8)), (a14, .inl (cJ, 80, .inr (.inl v_ways_13)))]) ⟨hx, hb, hml, hown, hT⟩ (c_X8_stanzas l dC dI cI cJ cP cS a0 a1 a2 a3 a4 a5 a6 a7 a8 a9 a10 a11 a12 a13 a14 a15 a16 v_acts v_keptActs v_typed v_isSet_7 v_arePages v_place v_readMany v_now r_14 hq15) (cwV 0 hT (gdV q_ml_X8_154 q_im_X8_stanzas q_se_X8_stanzas q_in_X8 q_co_X8_stanzas) rfl rfl rfl hd_X8_stanzas ⟨Nat.le_of_ble_eq_true rfl, Nat.le_of_ble_eq_true rfl⟩) hK hF hP hD hS hA 0 rfl rfl rfl [0, 1] [2, 3] [2, 3, 0, 1] rfl (by decide) rfl (by decide) (by decide) rfl (by decide) rfl hl.1 rfl (Nat.le_of_ble_eq_true rfl) dX8_whole_52 ⟨Nat.zero_le _, Nat.zero_le _⟩ (fun H locs hP hD hS => ?_)
              refine W.eq (g2 := F0 m 55 ls [.int r_14, .int i7_12]) rfl ?_
              refine lv_icmp_ge (tgt := 81) hx hb dX8_whole_55 (by decide) (fun c16 => ?_) (fun c16 => ?_)
              · replace hf := it_t c16 hf
                exact hk49 _ _ _ (he _ (Option.some.inj hf).symm).symm H locs ls hP hD hS (lv_sub hl [0, 2, 3, 4] rfl)
              · replace hf := it_f c16 hf
                refine lv_aload_n hx hb dX8_whole_58 rfl (lv_at hl 0 rfl) ?_
                refine va_get (D := (dC, dI)) (ci := 8) (v := .int v_isSet_7) (C := RX8) (T := TX8) (N := 23) hx hb hT in_X8 hown hK hP 0 rfl rfl 13 (by decide) (hT _ q_fl_X8_111) (fun _ h9 => h9) rfl dX8_whole_59 ?_
                refine lv_if_eq (tgt := 81) hx hb dX8_whole_62 (by decide) (fun c17 => ?_) (fun c17 => ?_)
                · replace hf := it_t c17 hf
                  exact hk49 _ _ _ (he _ (Option.some.inj hf).symm).symm H locs ls hP hD hS (lv_sub hl [0, 2, 3, 4] rfl)
                · replace hf := it_f c17 hf
                  refine lv_lload_n hx hb dX8_whole_65 rfl (lv_at hl 3 rfl) ?_
                  refine lv_aload_n hx hb dX8_whole_66 rfl (lv_at hl 0 rfl) ?_
                  refine lv_iload hx hb dX8_whole_67 (lv_at hl 5 rfl) ?_
                  refine lv_iload_n hx hb dX8_whole_69 rfl (lv_at hl 1 rfl) ?_
                  obtain ⟨r_18, v_ways_19, hq20, hf⟩ := bd2_el hf
                  refine mc_V (As := [.int i7_12, .int x1]) (rest := [.long i3_11]) (wr := []) (wn := [(a0, .inr (8, [.ref a1, .ref a2, .int v_acts, .ref a3, .ref a4, .int v_keptActs, .ref a5, .int v_typed, .ref a6, .ref a7, .ref a8, .ref a9, .ref a10, .int v_isSet_7, .ref a11, .ref a12, .ref a13, .int v_arePages, .ref a14, .ref a15, .int v_place, .ref a16, .int v_readMany])), (a1, .inl (cI, 189, .inl v_now)), (a10, .inl (cI, 12, .inl v_rows_8)), (a14, .inl (cJ, 80, .inr (.inl v_ways_19)))]) ⟨hx, hb, hml, hown, hT⟩ (c_X8_wholeBy l dC dI cI cJ cP cS a0 a1 a2 a3 a4 a5 a6 a7 a8 a9 a10 a11 a12 a13 a14 a15 a16 v_acts v_keptActs v_typed v_isSet_7 v_arePages v_place v_readMany v_now v_rows_8 v_ways_13 i7_12 x1 r_18 v_ways_19 hq20) (cwV 2 hT (gdV q_ml_X8_187 q_im_X8_wholeBy q_se_X8_wholeBy q_in_X8 q_co_X8_wholeBy) rfl rfl rfl hd_X8_wholeBy ⟨Nat.le_of_ble_eq_true rfl, Nat.le_of_ble_eq_true rfl⟩) hK hF hP hD hS hA 0 rfl rfl rfl [0, 1, 2, 3] [] [0, 1, 2, 3] rfl (by decide) rfl (by decide) (by decide) rfl (by decide) rfl hl.1 rfl (Nat.le_of_ble_eq_true rfl) dX8_whole_70 ⟨Nat.zero_le _, Nat.zero_le _⟩ (fun H locs hP hD hS => ?_)
                  refine W.eq (g2 := F0 m 73 ls [.long r_18, .long i3_11]) rfl ?_
                  refine lv_lmul hx hb dX8_whole_73 ?_
                  obtain ⟨x3_21, ex3_21, hf⟩ := nm_el hf
                  refine lv_as (congrArg Value.long ex3_21) ?_
                  refine lv_lstore_n (lv' := [(3, .long x3_21), (0, .ref a0), (1, .int x1), (2, .int x2), (5, .long (1 : Int64)), (7, .int i7_12)]) hx hb dX8_whole_74 rfl hl (by decide) rfl (fun ls hl => ?_)
                  refine lv_iinc (v := (i7_12 + (1 : Int32))) (lv' := [(7, .int (i7_12 + (1 : Int32))), (3, .long x3_21), (0, .ref a0), (1, .int x1), (2, .int x2), (5, .long (1 : Int64))]) hx hb dX8_whole_75 hl (k := 5) rfl rfl (by decide) rfl (fun ls hl => ?_)
                  refine lv_goto (tgt := 49) hx hb dX8_whole_78 (by decide) ?_
                  exact ih49 x3_21 (i7_12 + (1 : Int32)) v_ways_19 (hi _ (Option.some.inj hf).symm) H locs ls hP hD hS (lv_sub hl [2, 3, 4, 1, 5, 0] rfl)
          obtain ⟨f3_25, f7_26, v_ways_27, hq, hf⟩ := bd3_el hf
          refine hL49 (f3_25, f7_26, v_ways_27) (fun z_22 z_23 z_24 h9 H locs ls hP hD hS hl => ?_) fuel w0_10 (0 : Int32) v_ways hq H locs ls hP hD hS (lv_sub hl [3, 4, 5, 2, 1, 0] rfl)
          simp only [Prod.mk.injEq] at h9
          obtain ⟨h9_0, h9_1, h9_2⟩ := h9
          subst h9_0; subst h9_1; subst h9_2
          refine lv_iconst (v := 0) hx hb dX8_whole_81 (by decide) ?_
          refine lv_istore (lv' := [(7, .int (0 : Int32)), (0, .ref a0), (2, .int x2), (3, .long f3_25), (5, .long (1 : Int64))]) hx hb dX8_whole_82 hl (by decide) rfl (fun ls hl => ?_)
          have hL84 : ∀ (rr : Int64 × Int32), (∀ (z_32 : Int64) (z_33 : Int32), rr = (z_32, z_33) → ∀ (H : Heap) (locs : List Loc) (ls : Array Slot), va_P (dC, dI) vwCl [(a0, .inr (8, [.ref a1, .ref a2, .int v_acts, .ref a3, .ref a4, .int v_keptActs, .ref a5, .int v_typed, .ref a6, .ref a7, .ref a8, .ref a9, .ref a10, .int v_isSet_7, .ref a11, .ref a12, .ref a13, .int v_arePages, .ref a14, .ref a15, .int v_place, .ref a16, .int v_readMany])), (a1, .inl (cI, 189, .inl v_now)), (a10, .inl (cI, 12, .inl v_rows_8)), (a14, .inl (cJ, 80, .inr (.inl v_ways_27)))] H → va_D A [(a0, .inr (8, [.ref a1, .ref a2, .int v_acts, .ref a3, .ref a4, .int v_keptActs, .ref a5, .int v_typed, .ref a6, .ref a7, .ref a8, .ref a9, .ref a10, .int v_isSet_7, .ref a11, .ref a12, .ref a13, .int v_arePages, .ref a14, .ref a15, .int v_place, .ref a16, .int v_readMany])), (a1, .inl (cI, 189, .inl v_now)), (a10, .inl (cI, 12, .inl v_rows_8)), (a14, .inl (cJ, 80, .inr (.inl v_ways_27)))] → va_S A s.heap H locs → lv_has ls 13 [(2, .int x2), (3, .long f3_25), (5, .long z_32)] → W p l e ({ frames := 9, cells := 0, slots := 0, locals := 204 } : Room) s m args below meth c H locs 0 0 Q (F0 m 109 ls [])) → ∀ (n : Nat) (i5_28 : Int64) (i7_29 : Int32), loopN (p_X8_whole_L84 v_now) n (i5_28, i7_29) = some rr → ∀ (H : Heap) (locs : List Loc) (ls : Array Slot), va_P (dC, dI) vwCl [(a0, .inr (8, [.ref a1, .ref a2, .int v_acts, .ref a3, .ref a4, .int v_keptActs, .ref a5, .int v_typed, .ref a6, .ref a7, .ref a8, .ref a9, .ref a10, .int v_isSet_7, .ref a11, .ref a12, .ref a13, .int v_arePages, .ref a14, .ref a15, .int v_place, .ref a16, .int v_readMany])), (a1, .inl (cI, 189, .inl v_now)), (a10, .inl (cI, 12, .inl v_rows_8)), (a14, .inl (cJ, 80, .inr (.inl v_ways_27)))] H → va_D A [(a0, .inr (8, [.ref a1, .ref a2, .int v_acts, .ref a3, .ref a4, .int v_keptActs, .ref a5, .int v_typed, .ref a6, .ref a7, .ref a8, .ref a9, .ref a10, .int v_isSet_7, .ref a11, .ref a12, .ref a13, .int v_arePages, .ref a14, .ref a15, .int v_place, .ref a16, .int v_readMany])), (a1, .inl (cI, 189, .inl v_now)), (a10, .inl (cI, 12, .inl v_rows_8)), (a14, .inl (cJ, 80, .inr (.inl v_ways_27)))] → va_S A s.heap H locs → lv_has ls 13 [(0, .ref a0), (2, .int x2), (3, .long f3_25), (5, .long i5_28), (7, .int i7_29)] → W p l e ({ frames := 9, cells := 0, slots := 0, locals := 204 } : Room) s m args below meth c H locs 0 0 Q (F0 m 84 ls []) := by
            intro rr hk84 n
            induction n with
            | zero => intro i5_28 i7_29 hf; cases hf
            | succ n ih84 =>
              intro i5_28 i7_29 hf H locs ls hP hD hS hl
              obtain ⟨o84, hf, hi, he⟩ := loopN_el hf
              refine lv_iload hx hb dX8_whole_84 (lv_at hl 4 rfl) ?_
              refine lv_aload_n hx hb dX8_whole_86 rfl (lv_at hl 0 rfl) ?_
              refine va_get (D := (dC, dI)) (ci := 8) (v := .ref a1) (C := RX8) (T := TX8) (N := 23) hx hb hT in_X8 hown hK hP 0 rfl rfl 0 (by decide) (hT _ q_fl_X8_7) (fun _ h9 => h9) rfl dX8_whole_87 ?_
              refine lv_iconst (v := 0) hx hb dX8_whole_90 (by decide) ?_
              refine ia_ld hx hb hK hP 1 0 rfl rfl (ib_in (by decide)) (j := 0) (by decide) dX8_whole_91 ?_
              refine lv_icmp_ge (tgt := 109) hx hb dX8_whole_92 (by decide) (fun c30 => ?_) (fun c30 => ?_)
              · replace hf := it_t c30 hf
                exact hk84 _ _ (he _ (Option.some.inj hf).symm).symm H locs ls hP hD hS (lv_sub hl [1, 2, 3] rfl)
              · replace hf := it_f c30 hf
                refine lv_lload hx hb dX8_whole_95 (lv_at hl 3 rfl) ?_
                refine lv_ldc2 hx hb hown (hT _ q_kl_X8_170) dX8_whole_97 ?_
                refine lv_lmul hx hb dX8_whole_100 ?_
                obtain ⟨x5_31, ex5_31, hf⟩ := nm_el hf
                refine lv_as (congrArg Value.long ex5_31) ?_
                refine lv_lstore (lv' := [(5, .long x5_31), (0, .ref a0), (2, .int x2), (3, .long f3_25), (7, .int i7_29)]) hx hb dX8_whole_101 hl (by decide) rfl (fun ls hl => ?_)
                refine lv_iinc (v := (i7_29 + (1 : Int32))) (lv' := [(7, .int (i7_29 + (1 : Int32))), (5, .long x5_31), (0, .ref a0), (2, .int x2), (3, .long f3_25)]) hx hb dX8_whole_103 hl (k := 4) rfl rfl (by decide) rfl (fun ls hl => ?_)
                refine lv_goto (tgt := 84) hx hb dX8_whole_106 (by decide) ?_
                exact ih84 x5_31 (i7_29 + (1 : Int32)) (hi _ (Option.some.inj hf).symm) H locs ls hP hD hS (lv_sub hl [2, 3, 4, 1, 0] rfl)
          obtain ⟨f5_34, f7_35, hq, hf⟩ := bd2_el hf
          refine hL84 (f5_34, f7_35) (fun z_32 z_33 h9 H locs ls hP hD hS hl => ?_) fuel (1 : Int64) (0 : Int32) hq H locs ls hP hD hS (lv_sub hl [1, 2, 3, 4, 0] rfl)
          simp only [Prod.mk.injEq] at h9
          obtain ⟨h9_0, h9_1⟩ := h9
          subst h9_0; subst h9_1
          refine lv_lload_n hx hb dX8_whole_109 rfl (lv_at hl 1 rfl) ?_
          refine lv_lstore (lv' := [(7, .long f3_25), (2, .int x2), (3, .long f3_25), (5, .long f5_34)]) hx hb dX8_whole_110 hl (by decide) rfl (fun ls hl => ?_)
          refine lv_lload hx hb dX8_whole_112 (lv_at hl 3 rfl) ?_
          refine lv_lstore (lv' := [(9, .long f5_34), (7, .long f3_25), (2, .int x2), (3, .long f3_25), (5, .long f5_34)]) hx hb dX8_whole_114 hl (by decide) rfl (fun ls hl => ?_)
          have hL116 : ∀ (rr : Int64 × Int64), (∀ (z_41 : Int64) (z_42 : Int64), rr = (z_41, z_42) → ∀ (H : Heap) (locs : List Loc) (ls : Array Slot), va_P (dC, dI) vwCl [(a0, .inr (8, [.ref a1, .ref a2, .int v_acts, .ref a3, .ref a4, .int v_keptActs, .ref a5, .int v_typed, .ref a6, .ref a7, .ref a8, .ref a9, .ref a10, .int v_isSet_7, .ref a11, .ref a12, .ref a13, .int v_arePages, .ref a14, .ref a15, .int v_place, .ref a16, .int v_readMany])), (a1, .inl (cI, 189, .inl v_now)), (a10, .inl (cI, 12, .inl v_rows_8)), (a14, .inl (cJ, 80, .inr (.inl v_ways_27)))] H → va_D A [(a0, .inr (8, [.ref a1, .ref a2, .int v_acts, .ref a3, .ref a4, .int v_keptActs, .ref a5, .int v_typed, .ref a6, .ref a7, .ref a8, .ref a9, .ref a10, .int v_isSet_7, .ref a11, .ref a12, .ref a13, .int v_arePages, .ref a14, .ref a15, .int v_place, .ref a16, .int v_readMany])), (a1, .inl (cI, 189, .inl v_now)), (a10, .inl (cI, 12, .inl v_rows_8)), (a14, .inl (cJ, 80, .inr (.inl v_ways_27)))] → va_S A s.heap H locs → lv_has ls 13 [(2, .int x2), (3, .long f3_25), (5, .long f5_34), (7, .long z_41)] → W p l e ({ frames := 9, cells := 0, slots := 0, locals := 204 } : Room) s m args below meth c H locs 0 0 Q (F0 m 141 ls [])) → ∀ (n : Nat) (i7_36 : Int64) (i9_37 : Int64), loopN (p_X8_whole_L116) n (i7_36, i9_37) = some rr → ∀ (H : Heap) (locs : List Loc) (ls : Array Slot), va_P (dC, dI) vwCl [(a0, .inr (8, [.ref a1, .ref a2, .int v_acts, .ref a3, .ref a4, .int v_keptActs, .ref a5, .int v_typed, .ref a6, .ref a7, .ref a8, .ref a9, .ref a10, .int v_isSet_7, .ref a11, .ref a12, .ref a13, .int v_arePages, .ref a14, .ref a15, .int v_place, .ref a16, .int v_readMany])), (a1, .inl (cI, 189, .inl v_now)), (a10, .inl (cI, 12, .inl v_rows_8)), (a14, .inl (cJ, 80, .inr (.inl v_ways_27)))] H → va_D A [(a0, .inr (8, [.ref a1, .ref a2, .int v_acts, .ref a3, .ref a4, .int v_keptActs, .ref a5, .int v_typed, .ref a6, .ref a7, .ref a8, .ref a9, .ref a10, .int v_isSet_7, .ref a11, .ref a12, .ref a13, .int v_arePages, .ref a14, .ref a15, .int v_place, .ref a16, .int v_readMany])), (a1, .inl (cI, 189, .inl v_now)), (a10, .inl (cI, 12, .inl v_rows_8)), (a14, .inl (cJ, 80, .inr (.inl v_ways_27)))] → va_S A s.heap H locs → lv_has ls 13 [(2, .int x2), (3, .long f3_25), (5, .long f5_34), (7, .long i7_36), (9, .long i9_37)] → W p l e ({ frames := 9, cells := 0, slots := 0, locals := 204 } : Room) s m args below meth c H locs 0 0 Q (F0 m 116 ls []) := by
            intro rr hk116 n
            induction n with
            | zero => intro i7_36 i9_37 hf; cases hf
            | succ n ih116 =>
              intro i7_36 i9_37 hf H locs ls hP hD hS hl
              obtain ⟨o116, hf, hi, he⟩ := loopN_el hf
              refine lv_lload hx hb dX8_whole_116 (lv_at hl 4 rfl) ?_
              refine lv_lconst (v := 0) hx hb dX8_whole_118 (by decide) ?_
              refine W.lcmp hx hb dX8_whole_119 ?_
              refine lv_if_eq (tgt := 141) hx hb dX8_whole_120 (by decide) (fun c38 => ?_) (fun c38 => ?_)
              · replace hf := it_t c38 hf
                exact hk116 _ _ (he _ (Option.some.inj hf).symm).symm H locs ls hP hD hS (lv_sub hl [0, 1, 2, 3] rfl)
              · replace hf := it_f c38 hf
                refine lv_lload hx hb dX8_whole_123 (lv_at hl 3 rfl) ?_
                refine lv_lload hx hb dX8_whole_125 (lv_at hl 4 rfl) ?_
                obtain ⟨h39, hf⟩ := gd_el hf
                refine lv_lrem hx hb dX8_whole_127 (nzl_ne h39) ?_
                obtain ⟨x11_40, ex11_40, hf⟩ := nm_el hf
                refine lv_as (congrArg Value.long ex11_40) ?_
                refine lv_lstore (lv' := [(11, .long x11_40), (2, .int x2), (3, .long f3_25), (5, .long f5_34), (7, .long i7_36), (9, .long i9_37)]) hx hb dX8_whole_128 hl (by decide) rfl (fun ls hl => ?_)
                refine lv_lload hx hb dX8_whole_130 (lv_at hl 5 rfl) ?_
                refine lv_lstore (lv' := [(7, .long i9_37), (11, .long x11_40), (2, .int x2), (3, .long f3_25), (5, .long f5_34), (9, .long i9_37)]) hx hb dX8_whole_132 hl (by decide) rfl (fun ls hl => ?_)
                refine lv_lload hx hb dX8_whole_134 (lv_at hl 1 rfl) ?_
                refine lv_lstore (lv' := [(9, .long x11_40), (7, .long i9_37), (11, .long x11_40), (2, .int x2), (3, .long f3_25), (5, .long f5_34)]) hx hb dX8_whole_136 hl (by decide) rfl (fun ls hl => ?_)
                refine lv_goto (tgt := 116) hx hb dX8_whole_138 (by decide) ?_
                exact ih116 i9_37 x11_40 (hi _ (Option.some.inj hf).symm) H locs ls hP hD hS (lv_sub hl [3, 4, 5, 1, 0] rfl)
          obtain ⟨f7_43, f9_44, hq, hf⟩ := bd2_el hf
          refine hL116 (f7_43, f9_44) (fun z_41 z_42 h9 H locs ls hP hD hS hl => ?_) fuel f3_25 f5_34 hq H locs ls hP hD hS (lv_sub hl [2, 3, 4, 1, 0] rfl)
          simp only [Prod.mk.injEq] at h9
          obtain ⟨h9_0, h9_1⟩ := h9
          subst h9_0; subst h9_1
          refine lv_iload_n hx hb dX8_whole_141 rfl (lv_at hl 0 rfl) ?_
          refine lv_if_ne (tgt := 152) hx hb dX8_whole_142 (by decide) (fun c45 => ?_) (fun c45 => ?_)
          · replace hf := it_f c45 hf
            refine lv_lload hx hb dX8_whole_152 (lv_at hl 2 rfl) ?_
            refine lv_lload hx hb dX8_whole_154 (lv_at hl 3 rfl) ?_
            obtain ⟨h46, hf⟩ := gd_el hf
            refine lv_ldiv hx hb dX8_whole_156 (nzl_ne h46) ?_
            replace hf := Option.some.inj hf
            simp only [Prod.mk.injEq] at hf
            obtain ⟨hf0, hf1, hf2, hf3⟩ := hf
            subst hf0; subst hf1; subst hf2; subst hf3
            exact hret H locs ls _ dX8_whole_157 hP hD hS
          · replace hf := it_t c45 hf
            refine lv_lload_n hx hb dX8_whole_145 rfl (lv_at hl 1 rfl) ?_
            refine lv_lload hx hb dX8_whole_146 (lv_at hl 3 rfl) ?_
            obtain ⟨h47, hf⟩ := gd_el hf
            refine lv_ldiv hx hb dX8_whole_148 (nzl_ne h47) ?_
            refine lv_goto (tgt := 157) hx hb dX8_whole_149 (by decide) ?_
            replace hf := Option.some.inj hf
            simp only [Prod.mk.injEq] at hf
            obtain ⟨hf0, hf1, hf2, hf3⟩ := hf
            subst hf0; subst hf1; subst hf2; subst hf3
            exact hret H locs ls _ dX8_whole_157 hP hD hS
        refine lv_if_eq (tgt := 41) hx hb dX8_whole_34 (by decide) (fun c48 => ?_) (fun c48 => ?_)
        · replace hf := it_t c48 hf
          refine lv_lconst (v := 0) hx hb dX8_whole_41 (by decide) ?_
          exact hB42_10 (0 : Int64) hf H locs ls hP hD hS (lv_sub hl [0, 1, 2] rfl)
        · replace hf := it_f c48 hf
          refine lv_lconst (v := 1) hx hb dX8_whole_37 (by decide) ?_
          refine lv_goto (tgt := 42) hx hb dX8_whole_38 (by decide) ?_
          exact hB42_10 (1 : Int64) hf H locs ls hP hD hS (lv_sub hl [0, 1, 2] rfl)
      · replace hf := it_t c6 hf
        refine lv_ldc2 hx hb hown (hT _ q_kl_X8_179) dX8_whole_22 ?_
        replace hf := Option.some.inj hf
        simp only [Prod.mk.injEq] at hf
        obtain ⟨hf0, hf1, hf2, hf3⟩ := hf
        subst hf0; subst hf1; subst hf2; subst hf3
        exact hret H locs ls _ dX8_whole_25 hP hD hS
  refine key _ ?_ _ _ _ hP hD hS hl
  intro H locs ls pc d hP hD hS
  exact W.lret (v := rv) hx hb hr (fun t ht hW => ⟨⟨rfl, by rw [ht]; exact hP, hD⟩, hS.F ht⟩) hS.2.2 d
def p_X8_starts_L2 (v_now : (Nat → Int32)) (s : Int32 × (Nat → Int32)) : Option ((Int32 × (Nat → Int32)) ⊕ (Int32 × (Nat → Int32))) := match s with
  | (i1_1, v_first_2) => (if (189 : Int32) ≤ i1_1 then (some (.inr (i1_1, v_first_2))) else (gd (ib i1_1 189) (gd (ib i1_1 189) (some (.inl ((i1_1 + (1 : Int32)), (upd v_first_2 (tn i1_1) (v_now (tn i1_1)))))))))
def p_X8_starts (v_now : (Nat → Int32)) (v_first : (Nat → Int32)) : Option ((Nat → Int32)) :=
  (bd2 (loopN (p_X8_starts_L2 v_now) fuel ((0 : Int32), v_first)) fun f1_8 v_first_9 => (some v_first_9))
set_option maxHeartbeats 4000000 in
set_option maxRecDepth 100000 in
theorem c_X8_starts (l : Launch) (dC : Nat → ClassId) (dI : Nat → Nat → Nat) (cI cJ cP cS : ClassId) (a0 : Nat) (a1 : Nat) (a2 : Nat) (a3 : Nat) (a4 : Nat) (a5 : Nat) (a6 : Nat) (a7 : Nat) (a8 : Nat) (a9 : Nat) (a10 : Nat) (a11 : Nat) (a12 : Nat) (a13 : Nat) (a14 : Nat) (a15 : Nat) (a16 : Nat) (v_acts : Int32) (v_keptActs : Int32) (v_typed : Int32) (v_isSet : Int32) (v_arePages : Int32) (v_place : Int32) (v_readMany : Int32) (v_now : (Nat → Int32)) (v_first : (Nat → Int32))    (v_first_o : (Nat → Int32)) (hf : p_X8_starts v_now v_first = some v_first_o) : MC l (dC, dI) (tyl cI cJ cP cS) yX8_starts (Cond.code yX8_starts cX8_starts 2 none :: TBG) ({ frames := 0, cells := 0, slots := 0, locals := 0 } : Room) [.ref a0] [(a0, .inr (8, [.ref a1, .ref a2, .int v_acts, .ref a3, .ref a4, .int v_keptActs, .ref a5, .int v_typed, .ref a6, .ref a7, .ref a8, .ref a9, .ref a10, .int v_isSet, .ref a11, .ref a12, .ref a13, .int v_arePages, .ref a14, .ref a15, .int v_place, .ref a16, .int v_readMany])), (a1, .inl (cI, 189, .inl v_now)), (a15, .inl (cI, 189, .inl v_first))] [(a0, .inr (8, [.ref a1, .ref a2, .int v_acts, .ref a3, .ref a4, .int v_keptActs, .ref a5, .int v_typed, .ref a6, .ref a7, .ref a8, .ref a9, .ref a10, .int v_isSet, .ref a11, .ref a12, .ref a13, .int v_arePages, .ref a14, .ref a15, .int v_place, .ref a16, .int v_readMany])), (a1, .inl (cI, 189, .inl v_now)), (a15, .inl (cI, 189, .inl v_first_o))] none := by
  intro sz
  unfold MPost
  refine Met.ofW (cc := cX8_starts) (maxL := 2) (ret := none) (by decide) rfl ?_
  intro p e s m args below meth c s₁ B hml hv
  obtain ⟨rfl, hsz, hP, hK, hD0, hF⟩ := hv
  have hx := B.exec
  have hb := B.bytes
  have hr := B.returns
  have hT : ∀ w ∈ TBG, w.before _ s = true := fun w h => atoms_spec B.pre w (List.mem_cons_of_mem _ h)
  have hown : s.vm.findClass RX8 = some m.cls := findClass_of_methodNamed B.named
  have hlocks := B.notSynchronized
  subst hsz
  have hD := hD0.self (sz := s.heap.size)
  generalize hAe : va_A [(a0, .inr (8, [.ref a1, .ref a2, .int v_acts, .ref a3, .ref a4, .int v_keptActs, .ref a5, .int v_typed, .ref a6, .ref a7, .ref a8, .ref a9, .ref a10, .int v_isSet, .ref a11, .ref a12, .ref a13, .int v_arePages, .ref a14, .ref a15, .int v_place, .ref a16, .int v_readMany])), (a1, .inl (cI, 189, .inl v_now)), (a15, .inl (cI, 189, .inl v_first))] s.heap.size = A at hD hF ⊢
  have hA : ∀ q : Nat, s.heap.size ≤ q → A q := fun q h => by rw [← hAe]; exact Or.inr h
  have hS : va_S A s.heap s.heap [] := va_S.rf
  have hl := lv_entry ([.ref a0]) (n := 2) (Nat.le_of_ble_eq_true rfl)
  rw [lg_entry_eq]
  generalize (lg_sl ([.ref a0]) ++ List.replicate (2 - (lg_sl ([.ref a0])).length) Slot.unset).toArray = ls at hl ⊢
  have hl : lv_has ls 2 [(0, .ref a0)] := hl
  generalize ([.ref a0] : List Value).toArray = args at hT ⊢
  have key : ∀ (Q : State → Prop), (∀ (H : Heap) (locs : List Loc) (ls : Array Slot) (pc : Nat), decode cX8_starts pc = .ok (.return_, 1) → va_P (dC, dI) vwCl [(a0, .inr (8, [.ref a1, .ref a2, .int v_acts, .ref a3, .ref a4, .int v_keptActs, .ref a5, .int v_typed, .ref a6, .ref a7, .ref a8, .ref a9, .ref a10, .int v_isSet, .ref a11, .ref a12, .ref a13, .int v_arePages, .ref a14, .ref a15, .int v_place, .ref a16, .int v_readMany])), (a1, .inl (cI, 189, .inl v_now)), (a15, .inl (cI, 189, .inl v_first_o))] H → va_D A [(a0, .inr (8, [.ref a1, .ref a2, .int v_acts, .ref a3, .ref a4, .int v_keptActs, .ref a5, .int v_typed, .ref a6, .ref a7, .ref a8, .ref a9, .ref a10, .int v_isSet, .ref a11, .ref a12, .ref a13, .int v_arePages, .ref a14, .ref a15, .int v_place, .ref a16, .int v_readMany])), (a1, .inl (cI, 189, .inl v_now)), (a15, .inl (cI, 189, .inl v_first_o))] → va_S A s.heap H locs → W p l e ({ frames := 0, cells := 0, slots := 0, locals := 0 } : Room) s m args below meth c H locs 0 0 Q (F0 m pc ls [])) → ∀ (H : Heap) (locs : List Loc) (ls : Array Slot), va_P (dC, dI) vwCl [(a0, .inr (8, [.ref a1, .ref a2, .int v_acts, .ref a3, .ref a4, .int v_keptActs, .ref a5, .int v_typed, .ref a6, .ref a7, .ref a8, .ref a9, .ref a10, .int v_isSet, .ref a11, .ref a12, .ref a13, .int v_arePages, .ref a14, .ref a15, .int v_place, .ref a16, .int v_readMany])), (a1, .inl (cI, 189, .inl v_now)), (a15, .inl (cI, 189, .inl v_first))] H → va_D A [(a0, .inr (8, [.ref a1, .ref a2, .int v_acts, .ref a3, .ref a4, .int v_keptActs, .ref a5, .int v_typed, .ref a6, .ref a7, .ref a8, .ref a9, .ref a10, .int v_isSet, .ref a11, .ref a12, .ref a13, .int v_arePages, .ref a14, .ref a15, .int v_place, .ref a16, .int v_readMany])), (a1, .inl (cI, 189, .inl v_now)), (a15, .inl (cI, 189, .inl v_first))] → va_S A s.heap H locs → lv_has ls 2 [(0, .ref a0)] → W p l e ({ frames := 0, cells := 0, slots := 0, locals := 0 } : Room) s m args below meth c H locs 0 0 Q (F0 m 0 ls []) := by
    intro Q hret H locs ls hP hD hS hl
    refine lv_iconst (v := 0) hx hb dX8_starts_0 (by decide) ?_
    refine lv_istore_n (lv' := [(1, .int (0 : Int32)), (0, .ref a0)]) hx hb dX8_starts_1 rfl hl (by decide) rfl (fun ls hl => ?_)
    have hL2 : ∀ (rr : Int32 × (Nat → Int32)), (∀ (z_6 : Int32) (z_7 : (Nat → Int32)), rr = (z_6, z_7) → ∀ (H : Heap) (locs : List Loc) (ls : Array Slot), va_P (dC, dI) vwCl [(a0, .inr (8, [.ref a1, .ref a2, .int v_acts, .ref a3, .ref a4, .int v_keptActs, .ref a5, .int v_typed, .ref a6, .ref a7, .ref a8, .ref a9, .ref a10, .int v_isSet, .ref a11, .ref a12, .ref a13, .int v_arePages, .ref a14, .ref a15, .int v_place, .ref a16, .int v_readMany])), (a1, .inl (cI, 189, .inl v_now)), (a15, .inl (cI, 189, .inl z_7))] H → va_D A [(a0, .inr (8, [.ref a1, .ref a2, .int v_acts, .ref a3, .ref a4, .int v_keptActs, .ref a5, .int v_typed, .ref a6, .ref a7, .ref a8, .ref a9, .ref a10, .int v_isSet, .ref a11, .ref a12, .ref a13, .int v_arePages, .ref a14, .ref a15, .int v_place, .ref a16, .int v_readMany])), (a1, .inl (cI, 189, .inl v_now)), (a15, .inl (cI, 189, .inl z_7))] → va_S A s.heap H locs → lv_has ls 2 [] → W p l e ({ frames := 0, cells := 0, slots := 0, locals := 0 } : Room) s m args below meth c H locs 0 0 Q (F0 m 27 ls [])) → ∀ (n : Nat) (i1_1 : Int32) (v_first_2 : (Nat → Int32)), loopN (p_X8_starts_L2 v_now) n (i1_1, v_first_2) = some rr → ∀ (H : Heap) (locs : List Loc) (ls : Array Slot), va_P (dC, dI) vwCl [(a0, .inr (8, [.ref a1, .ref a2, .int v_acts, .ref a3, .ref a4, .int v_keptActs, .ref a5, .int v_typed, .ref a6, .ref a7, .ref a8, .ref a9, .ref a10, .int v_isSet, .ref a11, .ref a12, .ref a13, .int v_arePages, .ref a14, .ref a15, .int v_place, .ref a16, .int v_readMany])), (a1, .inl (cI, 189, .inl v_now)), (a15, .inl (cI, 189, .inl v_first_2))] H → va_D A [(a0, .inr (8, [.ref a1, .ref a2, .int v_acts, .ref a3, .ref a4, .int v_keptActs, .ref a5, .int v_typed, .ref a6, .ref a7, .ref a8, .ref a9, .ref a10, .int v_isSet, .ref a11, .ref a12, .ref a13, .int v_arePages, .ref a14, .ref a15, .int v_place, .ref a16, .int v_readMany])), (a1, .inl (cI, 189, .inl v_now)), (a15, .inl (cI, 189, .inl v_first_2))] → va_S A s.heap H locs → lv_has ls 2 [(0, .ref a0), (1, .int i1_1)] → W p l e ({ frames := 0, cells := 0, slots := 0, locals := 0 } : Room) s m args below meth c H locs 0 0 Q (F0 m 2 ls []) := by
      intro rr hk2 n
      induction n with
      | zero => intro i1_1 v_first_2 hf; cases hf
      | succ n ih2 =>
        intro i1_1 v_first_2 hf H locs ls hP hD hS hl
        obtain ⟨o2, hf, hi, he⟩ := loopN_el hf
        refine lv_iload_n hx hb dX8_starts_2 rfl (lv_at hl 1 rfl) ?_
        refine lv_sipush (v := 189) hx hb dX8_starts_3 (by decide) ?_
        refine lv_icmp_ge (tgt := 27) hx hb dX8_starts_6 (by decide) (fun c3 => ?_) (fun c3 => ?_)
        · replace hf := it_t c3 hf
          exact hk2 _ _ (he _ (Option.some.inj hf).symm).symm H locs ls hP hD hS (lv_sub hl [] rfl)
        · replace hf := it_f c3 hf
          refine lv_aload_n hx hb dX8_starts_9 rfl (lv_at hl 0 rfl) ?_
          refine va_get (D := (dC, dI)) (ci := 8) (v := .ref a15) (C := RX8) (T := TX8) (N := 23) hx hb hT in_X8 hown hK hP 0 rfl rfl 19 (by decide) (hT _ q_fl_X8_57) (fun _ h9 => h9) rfl dX8_starts_10 ?_
          refine lv_iload_n hx hb dX8_starts_13 rfl (lv_at hl 1 rfl) ?_
          refine lv_aload_n hx hb dX8_starts_14 rfl (lv_at hl 0 rfl) ?_
          refine va_get (D := (dC, dI)) (ci := 8) (v := .ref a1) (C := RX8) (T := TX8) (N := 23) hx hb hT in_X8 hown hK hP 0 rfl rfl 0 (by decide) (hT _ q_fl_X8_7) (fun _ h9 => h9) rfl dX8_starts_15 ?_
          refine lv_iload_n hx hb dX8_starts_18 rfl (lv_at hl 1 rfl) ?_
          obtain ⟨h4, hf⟩ := gd_el hf
          refine ia_ld hx hb hK hP 1 0 rfl rfl (ib_in h4) (j := (tn i1_1)) rfl dX8_starts_19 ?_
          obtain ⟨h5, hf⟩ := gd_el hf
          refine ia_st hx hb hK hP hD hS 2 0 rfl rfl (ib_in h5) (j := (tn i1_1)) rfl dX8_starts_20 (fun H locs hP hD hS => ?_)
          have hP : va_P (dC, dI) vwCl [(a0, .inr (8, [.ref a1, .ref a2, .int v_acts, .ref a3, .ref a4, .int v_keptActs, .ref a5, .int v_typed, .ref a6, .ref a7, .ref a8, .ref a9, .ref a10, .int v_isSet, .ref a11, .ref a12, .ref a13, .int v_arePages, .ref a14, .ref a15, .int v_place, .ref a16, .int v_readMany])), (a1, .inl (cI, 189, .inl v_now)), (a15, .inl (cI, 189, .inl (upd v_first_2 (tn i1_1) (v_now (tn i1_1)))))] H := hP
          have hD : va_D A [(a0, .inr (8, [.ref a1, .ref a2, .int v_acts, .ref a3, .ref a4, .int v_keptActs, .ref a5, .int v_typed, .ref a6, .ref a7, .ref a8, .ref a9, .ref a10, .int v_isSet, .ref a11, .ref a12, .ref a13, .int v_arePages, .ref a14, .ref a15, .int v_place, .ref a16, .int v_readMany])), (a1, .inl (cI, 189, .inl v_now)), (a15, .inl (cI, 189, .inl (upd v_first_2 (tn i1_1) (v_now (tn i1_1)))))] := hD
          refine lv_iinc (v := (i1_1 + (1 : Int32))) (lv' := [(1, .int (i1_1 + (1 : Int32))), (0, .ref a0)]) hx hb dX8_starts_21 hl (k := 1) rfl rfl (by decide) rfl (fun ls hl => ?_)
          refine lv_goto (tgt := 2) hx hb dX8_starts_24 (by decide) ?_
          exact ih2 (i1_1 + (1 : Int32)) (upd v_first_2 (tn i1_1) (v_now (tn i1_1))) (hi _ (Option.some.inj hf).symm) H locs ls hP hD hS (lv_sub hl [1, 0] rfl)
    obtain ⟨f1_8, v_first_9, hq, hf⟩ := bd2_el hf
    refine hL2 (f1_8, v_first_9) (fun z_6 z_7 h9 H locs ls hP hD hS hl => ?_) fuel (0 : Int32) v_first hq H locs ls hP hD hS (lv_sub hl [1, 0] rfl)
    simp only [Prod.mk.injEq] at h9
    obtain ⟨h9_0, h9_1⟩ := h9
    subst h9_0; subst h9_1
    replace hf := Option.some.inj hf
    subst hf
    exact hret H locs ls _ dX8_starts_27 hP hD hS
  refine key _ ?_ _ _ _ hP hD hS hl
  intro H locs ls pc d hP hD hS
  exact W.vret hx hb hr (fun t ht hW => ⟨⟨rfl, by rw [ht]; exact hP, hD⟩, hS.F ht⟩) hS.2.2 d
def p_X8_notes_L47 (v_first : (Nat → Int32)) (v_acts_1 : Int32) (s : Int32 × (Nat → Int32)) : Option ((Int32 × (Nat → Int32)) ⊕ (Int32 × (Nat → Int32))) := match s with
  | (i1_3, v_past_4) => (if (189 : Int32) ≤ i1_3 then (some (.inr (i1_3, v_past_4))) else (gd (ib i1_3 189) (gd (ib (((189 : Int32) * v_acts_1) + i1_3) 1134) (some (.inl ((i1_3 + (1 : Int32)), (upd v_past_4 (tn (((189 : Int32) * v_acts_1) + i1_3)) (v_first (tn i1_3)))))))))
def p_X8_notes_B45_2 (v_first : (Nat → Int32)) (v_acts_1 : Int32) (v_past_2 : (Nat → Int32)) : Option (Int32 × (Nat → Int32)) :=
  (bd2 (loopN (p_X8_notes_L47 v_first v_acts_1) fuel ((0 : Int32), v_past_2)) fun f1_10 v_past_11 => (some ((v_acts_1 + (1 : Int32)), v_past_11)))
def p_X8_notes_L11  (s : Int32 × (Nat → Int32)) : Option ((Int32 × (Nat → Int32)) ⊕ (Int32 × (Nat → Int32))) := match s with
  | (i1_13, v_past_14) => (if (945 : Int32) ≤ i1_13 then (some (.inr (i1_13, v_past_14))) else (gd (ib (i1_13 + (189 : Int32)) 1134) (gd (ib i1_13 1134) (some (.inl ((i1_13 + (1 : Int32)), (upd v_past_14 (tn i1_13) (v_past_14 (tn (i1_13 + (189 : Int32)))))))))))
def p_X8_notes (v_acts : Int32) (v_past : (Nat → Int32)) (v_first : (Nat → Int32)) : Option (Int32 × (Nat → Int32)) :=
  (if v_acts = (6 : Int32) then (bd2 (loopN (p_X8_notes_L11) fuel ((0 : Int32), v_past)) fun f1_20 v_past_21 => (p_X8_notes_B45_2 v_first (5 : Int32) v_past_21)) else (p_X8_notes_B45_2 v_first v_acts v_past))
set_option maxHeartbeats 4000000 in
set_option maxRecDepth 100000 in
theorem c_X8_notes (l : Launch) (dC : Nat → ClassId) (dI : Nat → Nat → Nat) (cI cJ cP cS : ClassId) (a0 : Nat) (a1 : Nat) (a2 : Nat) (a3 : Nat) (a4 : Nat) (a5 : Nat) (a6 : Nat) (a7 : Nat) (a8 : Nat) (a9 : Nat) (a10 : Nat) (a11 : Nat) (a12 : Nat) (a13 : Nat) (a14 : Nat) (a15 : Nat) (a16 : Nat) (v_acts : Int32) (v_keptActs : Int32) (v_typed : Int32) (v_isSet : Int32) (v_arePages : Int32) (v_place : Int32) (v_readMany : Int32) (v_past : (Nat → Int32)) (v_first : (Nat → Int32))    (v_acts_o : Int32) (v_past_o : (Nat → Int32)) (hf : p_X8_notes v_acts v_past v_first = some (v_acts_o, v_past_o)) : MC l (dC, dI) (tyl cI cJ cP cS) yX8_notes (Cond.code yX8_notes cX8_notes 2 none :: TBG) ({ frames := 0, cells := 0, slots := 0, locals := 0 } : Room) [.ref a0] [(a0, .inr (8, [.ref a1, .ref a2, .int v_acts, .ref a3, .ref a4, .int v_keptActs, .ref a5, .int v_typed, .ref a6, .ref a7, .ref a8, .ref a9, .ref a10, .int v_isSet, .ref a11, .ref a12, .ref a13, .int v_arePages, .ref a14, .ref a15, .int v_place, .ref a16, .int v_readMany])), (a2, .inl (cI, 1134, .inl v_past)), (a15, .inl (cI, 189, .inl v_first))] [(a0, .inr (8, [.ref a1, .ref a2, .int v_acts_o, .ref a3, .ref a4, .int v_keptActs, .ref a5, .int v_typed, .ref a6, .ref a7, .ref a8, .ref a9, .ref a10, .int v_isSet, .ref a11, .ref a12, .ref a13, .int v_arePages, .ref a14, .ref a15, .int v_place, .ref a16, .int v_readMany])), (a2, .inl (cI, 1134, .inl v_past_o)), (a15, .inl (cI, 189, .inl v_first))] none := by
  intro sz
  unfold MPost
  refine Met.ofW (cc := cX8_notes) (maxL := 2) (ret := none) (by decide) rfl ?_
  intro p e s m args below meth c s₁ B hml hv
  obtain ⟨rfl, hsz, hP, hK, hD0, hF⟩ := hv
  have hx := B.exec
  have hb := B.bytes
  have hr := B.returns
  have hT : ∀ w ∈ TBG, w.before _ s = true := fun w h => atoms_spec B.pre w (List.mem_cons_of_mem _ h)
  have hown : s.vm.findClass RX8 = some m.cls := findClass_of_methodNamed B.named
  have hlocks := B.notSynchronized
  subst hsz
  have hD := hD0.self (sz := s.heap.size)
  generalize hAe : va_A [(a0, .inr (8, [.ref a1, .ref a2, .int v_acts, .ref a3, .ref a4, .int v_keptActs, .ref a5, .int v_typed, .ref a6, .ref a7, .ref a8, .ref a9, .ref a10, .int v_isSet, .ref a11, .ref a12, .ref a13, .int v_arePages, .ref a14, .ref a15, .int v_place, .ref a16, .int v_readMany])), (a2, .inl (cI, 1134, .inl v_past)), (a15, .inl (cI, 189, .inl v_first))] s.heap.size = A at hD hF ⊢
  have hA : ∀ q : Nat, s.heap.size ≤ q → A q := fun q h => by rw [← hAe]; exact Or.inr h
  have hS : va_S A s.heap s.heap [] := va_S.rf
  have hl := lv_entry ([.ref a0]) (n := 2) (Nat.le_of_ble_eq_true rfl)
  rw [lg_entry_eq]
  generalize (lg_sl ([.ref a0]) ++ List.replicate (2 - (lg_sl ([.ref a0])).length) Slot.unset).toArray = ls at hl ⊢
  have hl : lv_has ls 2 [(0, .ref a0)] := hl
  generalize ([.ref a0] : List Value).toArray = args at hT ⊢
  have key : ∀ (Q : State → Prop), (∀ (H : Heap) (locs : List Loc) (ls : Array Slot) (pc : Nat), decode cX8_notes pc = .ok (.return_, 1) → va_P (dC, dI) vwCl [(a0, .inr (8, [.ref a1, .ref a2, .int v_acts_o, .ref a3, .ref a4, .int v_keptActs, .ref a5, .int v_typed, .ref a6, .ref a7, .ref a8, .ref a9, .ref a10, .int v_isSet, .ref a11, .ref a12, .ref a13, .int v_arePages, .ref a14, .ref a15, .int v_place, .ref a16, .int v_readMany])), (a2, .inl (cI, 1134, .inl v_past_o)), (a15, .inl (cI, 189, .inl v_first))] H → va_D A [(a0, .inr (8, [.ref a1, .ref a2, .int v_acts_o, .ref a3, .ref a4, .int v_keptActs, .ref a5, .int v_typed, .ref a6, .ref a7, .ref a8, .ref a9, .ref a10, .int v_isSet, .ref a11, .ref a12, .ref a13, .int v_arePages, .ref a14, .ref a15, .int v_place, .ref a16, .int v_readMany])), (a2, .inl (cI, 1134, .inl v_past_o)), (a15, .inl (cI, 189, .inl v_first))] → va_S A s.heap H locs → W p l e ({ frames := 0, cells := 0, slots := 0, locals := 0 } : Room) s m args below meth c H locs 0 0 Q (F0 m pc ls [])) → ∀ (H : Heap) (locs : List Loc) (ls : Array Slot), va_P (dC, dI) vwCl [(a0, .inr (8, [.ref a1, .ref a2, .int v_acts, .ref a3, .ref a4, .int v_keptActs, .ref a5, .int v_typed, .ref a6, .ref a7, .ref a8, .ref a9, .ref a10, .int v_isSet, .ref a11, .ref a12, .ref a13, .int v_arePages, .ref a14, .ref a15, .int v_place, .ref a16, .int v_readMany])), (a2, .inl (cI, 1134, .inl v_past)), (a15, .inl (cI, 189, .inl v_first))] H → va_D A [(a0, .inr (8, [.ref a1, .ref a2, .int v_acts, .ref a3, .ref a4, .int v_keptActs, .ref a5, .int v_typed, .ref a6, .ref a7, .ref a8, .ref a9, .ref a10, .int v_isSet, .ref a11, .ref a12, .ref a13, .int v_arePages, .ref a14, .ref a15, .int v_place, .ref a16, .int v_readMany])), (a2, .inl (cI, 1134, .inl v_past)), (a15, .inl (cI, 189, .inl v_first))] → va_S A s.heap H locs → lv_has ls 2 [(0, .ref a0)] → W p l e ({ frames := 0, cells := 0, slots := 0, locals := 0 } : Room) s m args below meth c H locs 0 0 Q (F0 m 0 ls []) := by
    intro Q hret H locs ls hP hD hS hl
    refine lv_aload_n hx hb dX8_notes_0 rfl (lv_at hl 0 rfl) ?_
    refine va_get (D := (dC, dI)) (ci := 8) (v := .int v_acts) (C := RX8) (T := TX8) (N := 23) hx hb hT in_X8 hown hK hP 0 rfl rfl 2 (by decide) (hT _ q_fl_X8_161) (fun _ h9 => h9) rfl dX8_notes_1 ?_
    refine lv_bipush (v := 6) hx hb dX8_notes_4 (by decide) ?_
    have hB45_2 : ∀ (v_acts_1 : Int32) (v_past_2 : (Nat → Int32)), p_X8_notes_B45_2 v_first v_acts_1 v_past_2 = some (v_acts_o, v_past_o) → ∀ (H : Heap) (locs : List Loc) (ls : Array Slot), va_P (dC, dI) vwCl [(a0, .inr (8, [.ref a1, .ref a2, .int v_acts_1, .ref a3, .ref a4, .int v_keptActs, .ref a5, .int v_typed, .ref a6, .ref a7, .ref a8, .ref a9, .ref a10, .int v_isSet, .ref a11, .ref a12, .ref a13, .int v_arePages, .ref a14, .ref a15, .int v_place, .ref a16, .int v_readMany])), (a2, .inl (cI, 1134, .inl v_past_2)), (a15, .inl (cI, 189, .inl v_first))] H → va_D A [(a0, .inr (8, [.ref a1, .ref a2, .int v_acts_1, .ref a3, .ref a4, .int v_keptActs, .ref a5, .int v_typed, .ref a6, .ref a7, .ref a8, .ref a9, .ref a10, .int v_isSet, .ref a11, .ref a12, .ref a13, .int v_arePages, .ref a14, .ref a15, .int v_place, .ref a16, .int v_readMany])), (a2, .inl (cI, 1134, .inl v_past_2)), (a15, .inl (cI, 189, .inl v_first))] → va_S A s.heap H locs → lv_has ls 2 [(0, .ref a0)] → W p l e ({ frames := 0, cells := 0, slots := 0, locals := 0 } : Room) s m args below meth c H locs 0 0 Q (F0 m 45 ls []) := by
      intro v_acts_1 v_past_2 hf H locs ls hP hD hS hl
      refine lv_iconst (v := 0) hx hb dX8_notes_45 (by decide) ?_
      refine lv_istore_n (lv' := [(1, .int (0 : Int32)), (0, .ref a0)]) hx hb dX8_notes_46 rfl hl (by decide) rfl (fun ls hl => ?_)
      have hL47 : ∀ (rr : Int32 × (Nat → Int32)), (∀ (z_8 : Int32) (z_9 : (Nat → Int32)), rr = (z_8, z_9) → ∀ (H : Heap) (locs : List Loc) (ls : Array Slot), va_P (dC, dI) vwCl [(a0, .inr (8, [.ref a1, .ref a2, .int v_acts_1, .ref a3, .ref a4, .int v_keptActs, .ref a5, .int v_typed, .ref a6, .ref a7, .ref a8, .ref a9, .ref a10, .int v_isSet, .ref a11, .ref a12, .ref a13, .int v_arePages, .ref a14, .ref a15, .int v_place, .ref a16, .int v_readMany])), (a2, .inl (cI, 1134, .inl z_9)), (a15, .inl (cI, 189, .inl v_first))] H → va_D A [(a0, .inr (8, [.ref a1, .ref a2, .int v_acts_1, .ref a3, .ref a4, .int v_keptActs, .ref a5, .int v_typed, .ref a6, .ref a7, .ref a8, .ref a9, .ref a10, .int v_isSet, .ref a11, .ref a12, .ref a13, .int v_arePages, .ref a14, .ref a15, .int v_place, .ref a16, .int v_readMany])), (a2, .inl (cI, 1134, .inl z_9)), (a15, .inl (cI, 189, .inl v_first))] → va_S A s.heap H locs → lv_has ls 2 [(0, .ref a0)] → W p l e ({ frames := 0, cells := 0, slots := 0, locals := 0 } : Room) s m args below meth c H locs 0 0 Q (F0 m 81 ls [])) → ∀ (n : Nat) (i1_3 : Int32) (v_past_4 : (Nat → Int32)), loopN (p_X8_notes_L47 v_first v_acts_1) n (i1_3, v_past_4) = some rr → ∀ (H : Heap) (locs : List Loc) (ls : Array Slot), va_P (dC, dI) vwCl [(a0, .inr (8, [.ref a1, .ref a2, .int v_acts_1, .ref a3, .ref a4, .int v_keptActs, .ref a5, .int v_typed, .ref a6, .ref a7, .ref a8, .ref a9, .ref a10, .int v_isSet, .ref a11, .ref a12, .ref a13, .int v_arePages, .ref a14, .ref a15, .int v_place, .ref a16, .int v_readMany])), (a2, .inl (cI, 1134, .inl v_past_4)), (a15, .inl (cI, 189, .inl v_first))] H → va_D A [(a0, .inr (8, [.ref a1, .ref a2, .int v_acts_1, .ref a3, .ref a4, .int v_keptActs, .ref a5, .int v_typed, .ref a6, .ref a7, .ref a8, .ref a9, .ref a10, .int v_isSet, .ref a11, .ref a12, .ref a13, .int v_arePages, .ref a14, .ref a15, .int v_place, .ref a16, .int v_readMany])), (a2, .inl (cI, 1134, .inl v_past_4)), (a15, .inl (cI, 189, .inl v_first))] → va_S A s.heap H locs → lv_has ls 2 [(0, .ref a0), (1, .int i1_3)] → W p l e ({ frames := 0, cells := 0, slots := 0, locals := 0 } : Room) s m args below meth c H locs 0 0 Q (F0 m 47 ls []) := by
        intro rr hk47 n
        induction n with
        | zero => intro i1_3 v_past_4 hf; cases hf
        | succ n ih47 =>
          intro i1_3 v_past_4 hf H locs ls hP hD hS hl
          obtain ⟨o47, hf, hi, he⟩ := loopN_el hf
          refine lv_iload_n hx hb dX8_notes_47 rfl (lv_at hl 1 rfl) ?_
          refine lv_sipush (v := 189) hx hb dX8_notes_48 (by decide) ?_
          refine lv_icmp_ge (tgt := 81) hx hb dX8_notes_51 (by decide) (fun c5 => ?_) (fun c5 => ?_)
          · replace hf := it_t c5 hf
            exact hk47 _ _ (he _ (Option.some.inj hf).symm).symm H locs ls hP hD hS (lv_sub hl [0] rfl)
          · replace hf := it_f c5 hf
            refine lv_aload_n hx hb dX8_notes_54 rfl (lv_at hl 0 rfl) ?_
            refine va_get (D := (dC, dI)) (ci := 8) (v := .ref a2) (C := RX8) (T := TX8) (N := 23) hx hb hT in_X8 hown hK hP 0 rfl rfl 1 (by decide) (hT _ q_fl_X8_13) (fun _ h9 => h9) rfl dX8_notes_55 ?_
            refine lv_sipush (v := 189) hx hb dX8_notes_58 (by decide) ?_
            refine lv_aload_n hx hb dX8_notes_61 rfl (lv_at hl 0 rfl) ?_
            refine va_get (D := (dC, dI)) (ci := 8) (v := .int v_acts_1) (C := RX8) (T := TX8) (N := 23) hx hb hT in_X8 hown hK hP 0 rfl rfl 2 (by decide) (hT _ q_fl_X8_161) (fun _ h9 => h9) rfl dX8_notes_62 ?_
            refine lv_imul hx hb dX8_notes_65 ?_
            refine lv_iload_n hx hb dX8_notes_66 rfl (lv_at hl 1 rfl) ?_
            refine lv_iadd hx hb dX8_notes_67 ?_
            refine lv_aload_n hx hb dX8_notes_68 rfl (lv_at hl 0 rfl) ?_
            refine va_get (D := (dC, dI)) (ci := 8) (v := .ref a15) (C := RX8) (T := TX8) (N := 23) hx hb hT in_X8 hown hK hP 0 rfl rfl 19 (by decide) (hT _ q_fl_X8_57) (fun _ h9 => h9) rfl dX8_notes_69 ?_
            refine lv_iload_n hx hb dX8_notes_72 rfl (lv_at hl 1 rfl) ?_
            obtain ⟨h6, hf⟩ := gd_el hf
            refine ia_ld hx hb hK hP 2 0 rfl rfl (ib_in h6) (j := (tn i1_3)) rfl dX8_notes_73 ?_
            obtain ⟨h7, hf⟩ := gd_el hf
            refine ia_st hx hb hK hP hD hS 1 0 rfl rfl (ib_in h7) (j := (tn (((189 : Int32) * v_acts_1) + i1_3))) rfl dX8_notes_74 (fun H locs hP hD hS => ?_)
            have hP : va_P (dC, dI) vwCl [(a0, .inr (8, [.ref a1, .ref a2, .int v_acts_1, .ref a3, .ref a4, .int v_keptActs, .ref a5, .int v_typed, .ref a6, .ref a7, .ref a8, .ref a9, .ref a10, .int v_isSet, .ref a11, .ref a12, .ref a13, .int v_arePages, .ref a14, .ref a15, .int v_place, .ref a16, .int v_readMany])), (a2, .inl (cI, 1134, .inl (upd v_past_4 (tn (((189 : Int32) * v_acts_1) + i1_3)) (v_first (tn i1_3))))), (a15, .inl (cI, 189, .inl v_first))] H := hP
            have hD : va_D A [(a0, .inr (8, [.ref a1, .ref a2, .int v_acts_1, .ref a3, .ref a4, .int v_keptActs, .ref a5, .int v_typed, .ref a6, .ref a7, .ref a8, .ref a9, .ref a10, .int v_isSet, .ref a11, .ref a12, .ref a13, .int v_arePages, .ref a14, .ref a15, .int v_place, .ref a16, .int v_readMany])), (a2, .inl (cI, 1134, .inl (upd v_past_4 (tn (((189 : Int32) * v_acts_1) + i1_3)) (v_first (tn i1_3))))), (a15, .inl (cI, 189, .inl v_first))] := hD
            refine lv_iinc (v := (i1_3 + (1 : Int32))) (lv' := [(1, .int (i1_3 + (1 : Int32))), (0, .ref a0)]) hx hb dX8_notes_75 hl (k := 1) rfl rfl (by decide) rfl (fun ls hl => ?_)
            refine lv_goto (tgt := 47) hx hb dX8_notes_78 (by decide) ?_
            exact ih47 (i1_3 + (1 : Int32)) (upd v_past_4 (tn (((189 : Int32) * v_acts_1) + i1_3)) (v_first (tn i1_3))) (hi _ (Option.some.inj hf).symm) H locs ls hP hD hS (lv_sub hl [1, 0] rfl)
      obtain ⟨f1_10, v_past_11, hq, hf⟩ := bd2_el hf
      refine hL47 (f1_10, v_past_11) (fun z_8 z_9 h9 H locs ls hP hD hS hl => ?_) fuel (0 : Int32) v_past_2 hq H locs ls hP hD hS (lv_sub hl [1, 0] rfl)
      simp only [Prod.mk.injEq] at h9
      obtain ⟨h9_0, h9_1⟩ := h9
      subst h9_0; subst h9_1
      refine lv_aload_n hx hb dX8_notes_81 rfl (lv_at hl 0 rfl) ?_
      refine lv_dup hx hb dX8_notes_82 rfl ?_
      refine va_get (D := (dC, dI)) (ci := 8) (v := .int v_acts_1) (C := RX8) (T := TX8) (N := 23) hx hb hT in_X8 hown hK hP 0 rfl rfl 2 (by decide) (hT _ q_fl_X8_161) (fun _ h9 => h9) rfl dX8_notes_83 ?_
      refine lv_iconst (v := 1) hx hb dX8_notes_86 (by decide) ?_
      refine lv_iadd hx hb dX8_notes_87 ?_
      refine va_put (D := (dC, dI)) (ci := 8) (v := .int (v_acts_1 + (1 : Int32))) (ty := .int) (C := RX8) (T := TX8) (N := 23) hx hb hT in_X8 tyX8 tyX8_ok nmX8 hown hK hP hD hS 0 rfl rfl 2 (by decide) (hT _ q_fl_X8_161) (fun _ h9 => h9) rfl (tyX8_ok 2 (by decide)) rfl rfl (Nat.le_of_ble_eq_true rfl) dX8_notes_88 (fun H locs hP hD hS => ?_)
      have hP : va_P (dC, dI) vwCl [(a0, .inr (8, [.ref a1, .ref a2, .int (v_acts_1 + (1 : Int32)), .ref a3, .ref a4, .int v_keptActs, .ref a5, .int v_typed, .ref a6, .ref a7, .ref a8, .ref a9, .ref a10, .int v_isSet, .ref a11, .ref a12, .ref a13, .int v_arePages, .ref a14, .ref a15, .int v_place, .ref a16, .int v_readMany])), (a2, .inl (cI, 1134, .inl v_past_11)), (a15, .inl (cI, 189, .inl v_first))] H := hP
      have hD : va_D A [(a0, .inr (8, [.ref a1, .ref a2, .int (v_acts_1 + (1 : Int32)), .ref a3, .ref a4, .int v_keptActs, .ref a5, .int v_typed, .ref a6, .ref a7, .ref a8, .ref a9, .ref a10, .int v_isSet, .ref a11, .ref a12, .ref a13, .int v_arePages, .ref a14, .ref a15, .int v_place, .ref a16, .int v_readMany])), (a2, .inl (cI, 1134, .inl v_past_11)), (a15, .inl (cI, 189, .inl v_first))] := hD
      replace hf := Option.some.inj hf
      simp only [Prod.mk.injEq] at hf
      obtain ⟨hf0, hf1⟩ := hf
      subst hf0; subst hf1
      exact hret H locs ls _ dX8_notes_91 hP hD hS
    refine lv_icmp_ne (tgt := 45) hx hb dX8_notes_6 (by decide) (fun c12 => ?_) (fun c12 => ?_)
    · replace hf := it_f c12 hf
      exact hB45_2 v_acts v_past hf H locs ls hP hD hS (lv_sub hl [0] rfl)
    · replace hf := it_t c12 hf
      refine lv_iconst (v := 0) hx hb dX8_notes_9 (by decide) ?_
      refine lv_istore_n (lv' := [(1, .int (0 : Int32)), (0, .ref a0)]) hx hb dX8_notes_10 rfl hl (by decide) rfl (fun ls hl => ?_)
      have hL11 : ∀ (rr : Int32 × (Nat → Int32)), (∀ (z_18 : Int32) (z_19 : (Nat → Int32)), rr = (z_18, z_19) → ∀ (H : Heap) (locs : List Loc) (ls : Array Slot), va_P (dC, dI) vwCl [(a0, .inr (8, [.ref a1, .ref a2, .int v_acts, .ref a3, .ref a4, .int v_keptActs, .ref a5, .int v_typed, .ref a6, .ref a7, .ref a8, .ref a9, .ref a10, .int v_isSet, .ref a11, .ref a12, .ref a13, .int v_arePages, .ref a14, .ref a15, .int v_place, .ref a16, .int v_readMany])), (a2, .inl (cI, 1134, .inl z_19)), (a15, .inl (cI, 189, .inl v_first))] H → va_D A [(a0, .inr (8, [.ref a1, .ref a2, .int v_acts, .ref a3, .ref a4, .int v_keptActs, .ref a5, .int v_typed, .ref a6, .ref a7, .ref a8, .ref a9, .ref a10, .int v_isSet, .ref a11, .ref a12, .ref a13, .int v_arePages, .ref a14, .ref a15, .int v_place, .ref a16, .int v_readMany])), (a2, .inl (cI, 1134, .inl z_19)), (a15, .inl (cI, 189, .inl v_first))] → va_S A s.heap H locs → lv_has ls 2 [(0, .ref a0)] → W p l e ({ frames := 0, cells := 0, slots := 0, locals := 0 } : Room) s m args below meth c H locs 0 0 Q (F0 m 40 ls [])) → ∀ (n : Nat) (i1_13 : Int32) (v_past_14 : (Nat → Int32)), loopN (p_X8_notes_L11) n (i1_13, v_past_14) = some rr → ∀ (H : Heap) (locs : List Loc) (ls : Array Slot), va_P (dC, dI) vwCl [(a0, .inr (8, [.ref a1, .ref a2, .int v_acts, .ref a3, .ref a4, .int v_keptActs, .ref a5, .int v_typed, .ref a6, .ref a7, .ref a8, .ref a9, .ref a10, .int v_isSet, .ref a11, .ref a12, .ref a13, .int v_arePages, .ref a14, .ref a15, .int v_place, .ref a16, .int v_readMany])), (a2, .inl (cI, 1134, .inl v_past_14)), (a15, .inl (cI, 189, .inl v_first))] H → va_D A [(a0, .inr (8, [.ref a1, .ref a2, .int v_acts, .ref a3, .ref a4, .int v_keptActs, .ref a5, .int v_typed, .ref a6, .ref a7, .ref a8, .ref a9, .ref a10, .int v_isSet, .ref a11, .ref a12, .ref a13, .int v_arePages, .ref a14, .ref a15, .int v_place, .ref a16, .int v_readMany])), (a2, .inl (cI, 1134, .inl v_past_14)), (a15, .inl (cI, 189, .inl v_first))] → va_S A s.heap H locs → lv_has ls 2 [(0, .ref a0), (1, .int i1_13)] → W p l e ({ frames := 0, cells := 0, slots := 0, locals := 0 } : Room) s m args below meth c H locs 0 0 Q (F0 m 11 ls []) := by
        intro rr hk11 n
        induction n with
        | zero => intro i1_13 v_past_14 hf; cases hf
        | succ n ih11 =>
          intro i1_13 v_past_14 hf H locs ls hP hD hS hl
          obtain ⟨o11, hf, hi, he⟩ := loopN_el hf
          refine lv_iload_n hx hb dX8_notes_11 rfl (lv_at hl 1 rfl) ?_
          refine lv_sipush (v := 945) hx hb dX8_notes_12 (by decide) ?_
          refine lv_icmp_ge (tgt := 40) hx hb dX8_notes_15 (by decide) (fun c15 => ?_) (fun c15 => ?_)
          · replace hf := it_t c15 hf
            exact hk11 _ _ (he _ (Option.some.inj hf).symm).symm H locs ls hP hD hS (lv_sub hl [0] rfl)
          · replace hf := it_f c15 hf
            refine lv_aload_n hx hb dX8_notes_18 rfl (lv_at hl 0 rfl) ?_
            refine va_get (D := (dC, dI)) (ci := 8) (v := .ref a2) (C := RX8) (T := TX8) (N := 23) hx hb hT in_X8 hown hK hP 0 rfl rfl 1 (by decide) (hT _ q_fl_X8_13) (fun _ h9 => h9) rfl dX8_notes_19 ?_
            refine lv_iload_n hx hb dX8_notes_22 rfl (lv_at hl 1 rfl) ?_
            refine lv_aload_n hx hb dX8_notes_23 rfl (lv_at hl 0 rfl) ?_
            refine va_get (D := (dC, dI)) (ci := 8) (v := .ref a2) (C := RX8) (T := TX8) (N := 23) hx hb hT in_X8 hown hK hP 0 rfl rfl 1 (by decide) (hT _ q_fl_X8_13) (fun _ h9 => h9) rfl dX8_notes_24 ?_
            refine lv_iload_n hx hb dX8_notes_27 rfl (lv_at hl 1 rfl) ?_
            refine lv_sipush (v := 189) hx hb dX8_notes_28 (by decide) ?_
            refine lv_iadd hx hb dX8_notes_31 ?_
            obtain ⟨h16, hf⟩ := gd_el hf
            refine ia_ld hx hb hK hP 1 0 rfl rfl (ib_in h16) (j := (tn (i1_13 + (189 : Int32)))) rfl dX8_notes_32 ?_
            obtain ⟨h17, hf⟩ := gd_el hf
            refine ia_st hx hb hK hP hD hS 1 0 rfl rfl (ib_in h17) (j := (tn i1_13)) rfl dX8_notes_33 (fun H locs hP hD hS => ?_)
            have hP : va_P (dC, dI) vwCl [(a0, .inr (8, [.ref a1, .ref a2, .int v_acts, .ref a3, .ref a4, .int v_keptActs, .ref a5, .int v_typed, .ref a6, .ref a7, .ref a8, .ref a9, .ref a10, .int v_isSet, .ref a11, .ref a12, .ref a13, .int v_arePages, .ref a14, .ref a15, .int v_place, .ref a16, .int v_readMany])), (a2, .inl (cI, 1134, .inl (upd v_past_14 (tn i1_13) (v_past_14 (tn (i1_13 + (189 : Int32))))))), (a15, .inl (cI, 189, .inl v_first))] H := hP
            have hD : va_D A [(a0, .inr (8, [.ref a1, .ref a2, .int v_acts, .ref a3, .ref a4, .int v_keptActs, .ref a5, .int v_typed, .ref a6, .ref a7, .ref a8, .ref a9, .ref a10, .int v_isSet, .ref a11, .ref a12, .ref a13, .int v_arePages, .ref a14, .ref a15, .int v_place, .ref a16, .int v_readMany])), (a2, .inl (cI, 1134, .inl (upd v_past_14 (tn i1_13) (v_past_14 (tn (i1_13 + (189 : Int32))))))), (a15, .inl (cI, 189, .inl v_first))] := hD
            refine lv_iinc (v := (i1_13 + (1 : Int32))) (lv' := [(1, .int (i1_13 + (1 : Int32))), (0, .ref a0)]) hx hb dX8_notes_34 hl (k := 1) rfl rfl (by decide) rfl (fun ls hl => ?_)
            refine lv_goto (tgt := 11) hx hb dX8_notes_37 (by decide) ?_
            exact ih11 (i1_13 + (1 : Int32)) (upd v_past_14 (tn i1_13) (v_past_14 (tn (i1_13 + (189 : Int32))))) (hi _ (Option.some.inj hf).symm) H locs ls hP hD hS (lv_sub hl [1, 0] rfl)
      obtain ⟨f1_20, v_past_21, hq, hf⟩ := bd2_el hf
      refine hL11 (f1_20, v_past_21) (fun z_18 z_19 h9 H locs ls hP hD hS hl => ?_) fuel (0 : Int32) v_past hq H locs ls hP hD hS (lv_sub hl [1, 0] rfl)
      simp only [Prod.mk.injEq] at h9
      obtain ⟨h9_0, h9_1⟩ := h9
      subst h9_0; subst h9_1
      refine lv_aload_n hx hb dX8_notes_40 rfl (lv_at hl 0 rfl) ?_
      refine lv_iconst (v := 5) hx hb dX8_notes_41 (by decide) ?_
      refine va_put (D := (dC, dI)) (ci := 8) (v := .int (5 : Int32)) (ty := .int) (C := RX8) (T := TX8) (N := 23) hx hb hT in_X8 tyX8 tyX8_ok nmX8 hown hK hP hD hS 0 rfl rfl 2 (by decide) (hT _ q_fl_X8_161) (fun _ h9 => h9) rfl (tyX8_ok 2 (by decide)) rfl rfl (Nat.le_of_ble_eq_true rfl) dX8_notes_42 (fun H locs hP hD hS => ?_)
      have hP : va_P (dC, dI) vwCl [(a0, .inr (8, [.ref a1, .ref a2, .int (5 : Int32), .ref a3, .ref a4, .int v_keptActs, .ref a5, .int v_typed, .ref a6, .ref a7, .ref a8, .ref a9, .ref a10, .int v_isSet, .ref a11, .ref a12, .ref a13, .int v_arePages, .ref a14, .ref a15, .int v_place, .ref a16, .int v_readMany])), (a2, .inl (cI, 1134, .inl v_past_21)), (a15, .inl (cI, 189, .inl v_first))] H := hP
      have hD : va_D A [(a0, .inr (8, [.ref a1, .ref a2, .int (5 : Int32), .ref a3, .ref a4, .int v_keptActs, .ref a5, .int v_typed, .ref a6, .ref a7, .ref a8, .ref a9, .ref a10, .int v_isSet, .ref a11, .ref a12, .ref a13, .int v_arePages, .ref a14, .ref a15, .int v_place, .ref a16, .int v_readMany])), (a2, .inl (cI, 1134, .inl v_past_21)), (a15, .inl (cI, 189, .inl v_first))] := hD
      exact hB45_2 (5 : Int32) v_past_21 hf H locs ls hP hD hS (lv_sub hl [0] rfl)
  refine key _ ?_ _ _ _ hP hD hS hl
  intro H locs ls pc d hP hD hS
  exact W.vret hx hb hr (fun t ht hW => ⟨⟨rfl, by rw [ht]; exact hP, hD⟩, hS.F ht⟩) hS.2.2 d
def p_X8_done (v_acts : Int32) (v_past : (Nat → Int32)) (v_first : (Nat → Int32)) (x1 : Int32) : Option (Int32 × Int32 × (Nat → Int32)) :=
  (if x1 < (0 : Int32) then (some (x1, v_acts, v_past)) else (bd2 (p_X8_notes v_acts v_past v_first) fun v_acts_2 v_past_3 => (some (x1, v_acts_2, v_past_3))))
set_option maxHeartbeats 4000000 in
set_option maxRecDepth 100000 in
theorem c_X8_done (l : Launch) (dC : Nat → ClassId) (dI : Nat → Nat → Nat) (cI cJ cP cS : ClassId) (a0 : Nat) (a1 : Nat) (a2 : Nat) (a3 : Nat) (a4 : Nat) (a5 : Nat) (a6 : Nat) (a7 : Nat) (a8 : Nat) (a9 : Nat) (a10 : Nat) (a11 : Nat) (a12 : Nat) (a13 : Nat) (a14 : Nat) (a15 : Nat) (a16 : Nat) (v_acts : Int32) (v_keptActs : Int32) (v_typed : Int32) (v_isSet : Int32) (v_arePages : Int32) (v_place : Int32) (v_readMany : Int32) (v_past : (Nat → Int32)) (v_first : (Nat → Int32))  (x1 : Int32) (rv : Int32) (v_acts_o : Int32) (v_past_o : (Nat → Int32)) (hf : p_X8_done v_acts v_past v_first x1 = some (rv, v_acts_o, v_past_o)) : MC l (dC, dI) (tyl cI cJ cP cS) yX8_done (Cond.code yX8_done cX8_done 2 (some .int) :: TBG) ({ frames := 1, cells := 0, slots := 0, locals := 21 } : Room) [.ref a0, .int x1] [(a0, .inr (8, [.ref a1, .ref a2, .int v_acts, .ref a3, .ref a4, .int v_keptActs, .ref a5, .int v_typed, .ref a6, .ref a7, .ref a8, .ref a9, .ref a10, .int v_isSet, .ref a11, .ref a12, .ref a13, .int v_arePages, .ref a14, .ref a15, .int v_place, .ref a16, .int v_readMany])), (a2, .inl (cI, 1134, .inl v_past)), (a15, .inl (cI, 189, .inl v_first))] [(a0, .inr (8, [.ref a1, .ref a2, .int v_acts_o, .ref a3, .ref a4, .int v_keptActs, .ref a5, .int v_typed, .ref a6, .ref a7, .ref a8, .ref a9, .ref a10, .int v_isSet, .ref a11, .ref a12, .ref a13, .int v_arePages, .ref a14, .ref a15, .int v_place, .ref a16, .int v_readMany])), (a2, .inl (cI, 1134, .inl v_past_o)), (a15, .inl (cI, 189, .inl v_first))] (some (.int rv)) := by
  intro sz
  unfold MPost
  refine Met.ofW (cc := cX8_done) (maxL := 2) (ret := (some .int)) (by decide) rfl ?_
  intro p e s m args below meth c s₁ B hml hv
  obtain ⟨rfl, hsz, hP, hK, hD0, hF⟩ := hv
  have hx := B.exec
  have hb := B.bytes
  have hr := B.returns
  have hT : ∀ w ∈ TBG, w.before _ s = true := fun w h => atoms_spec B.pre w (List.mem_cons_of_mem _ h)
  have hown : s.vm.findClass RX8 = some m.cls := findClass_of_methodNamed B.named
  have hlocks := B.notSynchronized
  subst hsz
  have hD := hD0.self (sz := s.heap.size)
  generalize hAe : va_A [(a0, .inr (8, [.ref a1, .ref a2, .int v_acts, .ref a3, .ref a4, .int v_keptActs, .ref a5, .int v_typed, .ref a6, .ref a7, .ref a8, .ref a9, .ref a10, .int v_isSet, .ref a11, .ref a12, .ref a13, .int v_arePages, .ref a14, .ref a15, .int v_place, .ref a16, .int v_readMany])), (a2, .inl (cI, 1134, .inl v_past)), (a15, .inl (cI, 189, .inl v_first))] s.heap.size = A at hD hF ⊢
  have hA : ∀ q : Nat, s.heap.size ≤ q → A q := fun q h => by rw [← hAe]; exact Or.inr h
  have hS : va_S A s.heap s.heap [] := va_S.rf
  have hl := lv_entry ([.ref a0, .int x1]) (n := 2) (Nat.le_of_ble_eq_true rfl)
  rw [lg_entry_eq]
  generalize (lg_sl ([.ref a0, .int x1]) ++ List.replicate (2 - (lg_sl ([.ref a0, .int x1])).length) Slot.unset).toArray = ls at hl ⊢
  have hl : lv_has ls 2 [(0, .ref a0), (1, .int x1)] := hl
  generalize ([.ref a0, .int x1] : List Value).toArray = args at hT ⊢
  have key : ∀ (Q : State → Prop), (∀ (H : Heap) (locs : List Loc) (ls : Array Slot) (pc : Nat), decode cX8_done pc = .ok (.ireturn, 1) → va_P (dC, dI) vwCl [(a0, .inr (8, [.ref a1, .ref a2, .int v_acts_o, .ref a3, .ref a4, .int v_keptActs, .ref a5, .int v_typed, .ref a6, .ref a7, .ref a8, .ref a9, .ref a10, .int v_isSet, .ref a11, .ref a12, .ref a13, .int v_arePages, .ref a14, .ref a15, .int v_place, .ref a16, .int v_readMany])), (a2, .inl (cI, 1134, .inl v_past_o)), (a15, .inl (cI, 189, .inl v_first))] H → va_D A [(a0, .inr (8, [.ref a1, .ref a2, .int v_acts_o, .ref a3, .ref a4, .int v_keptActs, .ref a5, .int v_typed, .ref a6, .ref a7, .ref a8, .ref a9, .ref a10, .int v_isSet, .ref a11, .ref a12, .ref a13, .int v_arePages, .ref a14, .ref a15, .int v_place, .ref a16, .int v_readMany])), (a2, .inl (cI, 1134, .inl v_past_o)), (a15, .inl (cI, 189, .inl v_first))] → va_S A s.heap H locs → W p l e ({ frames := 1, cells := 0, slots := 0, locals := 21 } : Room) s m args below meth c H locs 0 0 Q (F0 m pc ls [.int rv])) → ∀ (H : Heap) (locs : List Loc) (ls : Array Slot), va_P (dC, dI) vwCl [(a0, .inr (8, [.ref a1, .ref a2, .int v_acts, .ref a3, .ref a4, .int v_keptActs, .ref a5, .int v_typed, .ref a6, .ref a7, .ref a8, .ref a9, .ref a10, .int v_isSet, .ref a11, .ref a12, .ref a13, .int v_arePages, .ref a14, .ref a15, .int v_place, .ref a16, .int v_readMany])), (a2, .inl (cI, 1134, .inl v_past)), (a15, .inl (cI, 189, .inl v_first))] H → va_D A [(a0, .inr (8, [.ref a1, .ref a2, .int v_acts, .ref a3, .ref a4, .int v_keptActs, .ref a5, .int v_typed, .ref a6, .ref a7, .ref a8, .ref a9, .ref a10, .int v_isSet, .ref a11, .ref a12, .ref a13, .int v_arePages, .ref a14, .ref a15, .int v_place, .ref a16, .int v_readMany])), (a2, .inl (cI, 1134, .inl v_past)), (a15, .inl (cI, 189, .inl v_first))] → va_S A s.heap H locs → lv_has ls 2 [(0, .ref a0), (1, .int x1)] → W p l e ({ frames := 1, cells := 0, slots := 0, locals := 21 } : Room) s m args below meth c H locs 0 0 Q (F0 m 0 ls []) := by
    intro Q hret H locs ls hP hD hS hl
    refine lv_iload_n hx hb dX8_done_0 rfl (lv_at hl 1 rfl) ?_
    refine lv_if_lt (tgt := 8) hx hb dX8_done_1 (by decide) (fun c1 => ?_) (fun c1 => ?_)
    · replace hf := it_t c1 hf
      refine lv_iload_n hx hb dX8_done_8 rfl (lv_at hl 1 rfl) ?_
      replace hf := Option.some.inj hf
      simp only [Prod.mk.injEq] at hf
      obtain ⟨hf0, hf1, hf2⟩ := hf
      subst hf0; subst hf1; subst hf2
      exact hret H locs ls _ dX8_done_9 hP hD hS
    · replace hf := it_f c1 hf
      refine lv_aload_n hx hb dX8_done_4 rfl (lv_at hl 0 rfl) ?_
      obtain ⟨v_acts_2, v_past_3, hq4, hf⟩ := bd2_el hf
      refine mc_V (As := []) (rest := []) (wr := []) (wn := [(a0, .inr (8, [.ref a1, .ref a2, .int v_acts_2, .ref a3, .ref a4, .int v_keptActs, .ref a5, .int v_typed, .ref a6, .ref a7, .ref a8, .ref a9, .ref a10, .int v_isSet, .ref a11, .ref a12, .ref a13, .int v_arePages, .ref a14, .ref a15, .int v_place, .ref a16, .int v_readMany])), (a2, .inl (cI, 1134, .inl v_past_3)), (a15, .inl (cI, 189, .inl v_first))]) ⟨hx, hb, hml, hown, hT⟩ (c_X8_notes l dC dI cI cJ cP cS a0 a1 a2 a3 a4 a5 a6 a7 a8 a9 a10 a11 a12 a13 a14 a15 a16 v_acts v_keptActs v_typed v_isSet v_arePages v_place v_readMany v_past v_first v_acts_2 v_past_3 hq4) (cwV 0 hT (gdV q_ml_X8_191 q_im_X8_notes q_se_X8_notes q_in_X8 q_co_X8_notes) rfl rfl rfl hd_X8_notes ⟨Nat.le_of_ble_eq_true rfl, Nat.le_of_ble_eq_true rfl⟩) hK hF hP hD hS hA 0 rfl rfl rfl [0, 1, 2] [] [0, 1, 2] rfl (by decide) rfl (by decide) (by decide) rfl (by decide) rfl hl.1 rfl (Nat.le_of_ble_eq_true rfl) dX8_done_5 ⟨Nat.zero_le _, Nat.zero_le _⟩ (fun H locs hP hD hS => ?_)
      refine W.eq (g2 := F0 m 8 ls []) rfl ?_
      refine lv_iload_n hx hb dX8_done_8 rfl (lv_at hl 1 rfl) ?_
      replace hf := Option.some.inj hf
      simp only [Prod.mk.injEq] at hf
      obtain ⟨hf0, hf1, hf2⟩ := hf
      subst hf0; subst hf1; subst hf2
      exact hret H locs ls _ dX8_done_9 hP hD hS
  refine key _ ?_ _ _ _ hP hD hS hl
  intro H locs ls pc d hP hD hS
  exact W.iret (v := rv) hx hb hr (fun t ht hW => ⟨⟨rfl, by rw [ht]; exact hP, hD⟩, hS.F ht⟩) hS.2.2 d
def p_X8_lineMore_L43 (x3_7 : Int32) (s : Int32 × (Nat → Int32)) : Option ((Int32 × (Nat → Int32)) ⊕ (Int32 × (Nat → Int32))) := match s with
  | (i4_9, v_now_10) => (if (15 : Int32) ≤ i4_9 then (some (.inr (i4_9, v_now_10))) else (gd (ib (((9 : Int32) + ((15 : Int32) * x3_7)) + i4_9) 189) (some (.inl ((i4_9 + (1 : Int32)), (upd v_now_10 (tn (((9 : Int32) + ((15 : Int32) * x3_7)) + i4_9)) (0 : Int32)))))))
def p_X8_lineMore (v_now : (Nat → Int32)) (x1 : Int32) (x2 : Int32) : Option (Int32 × (Nat → Int32)) :=
  (bd1 (p_X8_in (Int32.toInt64 x1) (0 : Int64) (3 : Int64)) fun r_1 => (if r_1 = (0 : Int32) then (some ((-1 : Int32), v_now)) else (bd1 (p_X8_in (Int32.toInt64 x2) (0 : Int64) (1 : Int64)) fun r_4 => (if r_4 = (0 : Int32) then (some ((-1 : Int32), v_now)) else (nm (v_now 0) fun x3_7 => (if x3_7 = (12 : Int32) then (some ((-3 : Int32), v_now)) else (bd2 (loopN (p_X8_lineMore_L43 x3_7) fuel ((0 : Int32), v_now)) fun f4_15 v_now_16 => (gd (ib (((9 : Int32) + ((15 : Int32) * x3_7)) + (0 : Int32)) 189) (gd (ib (((9 : Int32) + ((15 : Int32) * x3_7)) + (1 : Int32)) 189) (nm (upd (upd (upd v_now_16 (tn (((9 : Int32) + ((15 : Int32) * x3_7)) + (0 : Int32))) x1) (tn (((9 : Int32) + ((15 : Int32) * x3_7)) + (1 : Int32))) x2) 0 (((upd (upd v_now_16 (tn (((9 : Int32) + ((15 : Int32) * x3_7)) + (0 : Int32))) x1) (tn (((9 : Int32) + ((15 : Int32) * x3_7)) + (1 : Int32))) x2) 0) + (1 : Int32))) fun v_now_19 => (some (x3_7, v_now_19))))))))))))
set_option maxHeartbeats 4000000 in
set_option maxRecDepth 100000 in
theorem c_X8_lineMore (l : Launch) (dC : Nat → ClassId) (dI : Nat → Nat → Nat) (cI cJ cP cS : ClassId) (a0 : Nat) (a1 : Nat) (a2 : Nat) (a3 : Nat) (a4 : Nat) (a5 : Nat) (a6 : Nat) (a7 : Nat) (a8 : Nat) (a9 : Nat) (a10 : Nat) (a11 : Nat) (a12 : Nat) (a13 : Nat) (a14 : Nat) (a15 : Nat) (a16 : Nat) (v_acts : Int32) (v_keptActs : Int32) (v_typed : Int32) (v_isSet : Int32) (v_arePages : Int32) (v_place : Int32) (v_readMany : Int32) (v_now : (Nat → Int32))  (x1 : Int32) (x2 : Int32) (rv : Int32) (v_now_o : (Nat → Int32)) (hf : p_X8_lineMore v_now x1 x2 = some (rv, v_now_o)) : MC l (dC, dI) (tyl cI cJ cP cS) yX8_lineMore (Cond.code yX8_lineMore cX8_lineMore 5 (some .int) :: TBG) ({ frames := 1, cells := 0, slots := 0, locals := 25 } : Room) [.ref a0, .int x1, .int x2] [(a0, .inr (8, [.ref a1, .ref a2, .int v_acts, .ref a3, .ref a4, .int v_keptActs, .ref a5, .int v_typed, .ref a6, .ref a7, .ref a8, .ref a9, .ref a10, .int v_isSet, .ref a11, .ref a12, .ref a13, .int v_arePages, .ref a14, .ref a15, .int v_place, .ref a16, .int v_readMany])), (a1, .inl (cI, 189, .inl v_now))] [(a0, .inr (8, [.ref a1, .ref a2, .int v_acts, .ref a3, .ref a4, .int v_keptActs, .ref a5, .int v_typed, .ref a6, .ref a7, .ref a8, .ref a9, .ref a10, .int v_isSet, .ref a11, .ref a12, .ref a13, .int v_arePages, .ref a14, .ref a15, .int v_place, .ref a16, .int v_readMany])), (a1, .inl (cI, 189, .inl v_now_o))] (some (.int rv)) := by
  intro sz
  unfold MPost
  refine Met.ofW (cc := cX8_lineMore) (maxL := 5) (ret := (some .int)) (by decide) rfl ?_
  intro p e s m args below meth c s₁ B hml hv
  obtain ⟨rfl, hsz, hP, hK, hD0, hF⟩ := hv
  have hx := B.exec
  have hb := B.bytes
  have hr := B.returns
  have hT : ∀ w ∈ TBG, w.before _ s = true := fun w h => atoms_spec B.pre w (List.mem_cons_of_mem _ h)
  have hown : s.vm.findClass RX8 = some m.cls := findClass_of_methodNamed B.named
  have hlocks := B.notSynchronized
  subst hsz
  have hD := hD0.self (sz := s.heap.size)
  generalize hAe : va_A [(a0, .inr (8, [.ref a1, .ref a2, .int v_acts, .ref a3, .ref a4, .int v_keptActs, .ref a5, .int v_typed, .ref a6, .ref a7, .ref a8, .ref a9, .ref a10, .int v_isSet, .ref a11, .ref a12, .ref a13, .int v_arePages, .ref a14, .ref a15, .int v_place, .ref a16, .int v_readMany])), (a1, .inl (cI, 189, .inl v_now))] s.heap.size = A at hD hF ⊢
  have hA : ∀ q : Nat, s.heap.size ≤ q → A q := fun q h => by rw [← hAe]; exact Or.inr h
  have hS : va_S A s.heap s.heap [] := va_S.rf
  have hl := lv_entry ([.ref a0, .int x1, .int x2]) (n := 5) (Nat.le_of_ble_eq_true rfl)
  rw [lg_entry_eq]
  generalize (lg_sl ([.ref a0, .int x1, .int x2]) ++ List.replicate (5 - (lg_sl ([.ref a0, .int x1, .int x2])).length) Slot.unset).toArray = ls at hl ⊢
  have hl : lv_has ls 5 [(0, .ref a0), (1, .int x1), (2, .int x2)] := hl
  generalize ([.ref a0, .int x1, .int x2] : List Value).toArray = args at hT ⊢
  have key : ∀ (Q : State → Prop), (∀ (H : Heap) (locs : List Loc) (ls : Array Slot) (pc : Nat), decode cX8_lineMore pc = .ok (.ireturn, 1) → va_P (dC, dI) vwCl [(a0, .inr (8, [.ref a1, .ref a2, .int v_acts, .ref a3, .ref a4, .int v_keptActs, .ref a5, .int v_typed, .ref a6, .ref a7, .ref a8, .ref a9, .ref a10, .int v_isSet, .ref a11, .ref a12, .ref a13, .int v_arePages, .ref a14, .ref a15, .int v_place, .ref a16, .int v_readMany])), (a1, .inl (cI, 189, .inl v_now_o))] H → va_D A [(a0, .inr (8, [.ref a1, .ref a2, .int v_acts, .ref a3, .ref a4, .int v_keptActs, .ref a5, .int v_typed, .ref a6, .ref a7, .ref a8, .ref a9, .ref a10, .int v_isSet, .ref a11, .ref a12, .ref a13, .int v_arePages, .ref a14, .ref a15, .int v_place, .ref a16, .int v_readMany])), (a1, .inl (cI, 189, .inl v_now_o))] → va_S A s.heap H locs → W p l e ({ frames := 1, cells := 0, slots := 0, locals := 25 } : Room) s m args below meth c H locs 0 0 Q (F0 m pc ls [.int rv])) → ∀ (H : Heap) (locs : List Loc) (ls : Array Slot), va_P (dC, dI) vwCl [(a0, .inr (8, [.ref a1, .ref a2, .int v_acts, .ref a3, .ref a4, .int v_keptActs, .ref a5, .int v_typed, .ref a6, .ref a7, .ref a8, .ref a9, .ref a10, .int v_isSet, .ref a11, .ref a12, .ref a13, .int v_arePages, .ref a14, .ref a15, .int v_place, .ref a16, .int v_readMany])), (a1, .inl (cI, 189, .inl v_now))] H → va_D A [(a0, .inr (8, [.ref a1, .ref a2, .int v_acts, .ref a3, .ref a4, .int v_keptActs, .ref a5, .int v_typed, .ref a6, .ref a7, .ref a8, .ref a9, .ref a10, .int v_isSet, .ref a11, .ref a12, .ref a13, .int v_arePages, .ref a14, .ref a15, .int v_place, .ref a16, .int v_readMany])), (a1, .inl (cI, 189, .inl v_now))] → va_S A s.heap H locs → lv_has ls 5 [(0, .ref a0), (1, .int x1), (2, .int x2)] → W p l e ({ frames := 1, cells := 0, slots := 0, locals := 25 } : Room) s m args below meth c H locs 0 0 Q (F0 m 0 ls []) := by
    intro Q hret H locs ls hP hD hS hl
    refine lv_iload_n hx hb dX8_lineMore_0 rfl (lv_at hl 1 rfl) ?_
    refine lv_i2l hx hb dX8_lineMore_1 rfl ?_
    refine lv_lconst (v := 0) hx hb dX8_lineMore_2 (by decide) ?_
    refine lv_ldc2 hx hb hown (hT _ q_kl_X8_150) dX8_lineMore_3 ?_
    obtain ⟨r_1, hq2, hf⟩ := bd1_el hf
    refine mc_S (As := [.long (Int32.toInt64 x1), .long (0 : Int64), .long (3 : Int64)]) (rest := []) (wr := [(a0, .inr (8, [.ref a1, .ref a2, .int v_acts, .ref a3, .ref a4, .int v_keptActs, .ref a5, .int v_typed, .ref a6, .ref a7, .ref a8, .ref a9, .ref a10, .int v_isSet, .ref a11, .ref a12, .ref a13, .int v_arePages, .ref a14, .ref a15, .int v_place, .ref a16, .int v_readMany])), (a1, .inl (cI, 189, .inl v_now))]) (wn := [(a0, .inr (8, [.ref a1, .ref a2, .int v_acts, .ref a3, .ref a4, .int v_keptActs, .ref a5, .int v_typed, .ref a6, .ref a7, .ref a8, .ref a9, .ref a10, .int v_isSet, .ref a11, .ref a12, .ref a13, .int v_arePages, .ref a14, .ref a15, .int v_place, .ref a16, .int v_readMany])), (a1, .inl (cI, 189, .inl v_now))]) ⟨hx, hb, hml, hown, hT⟩ (c_X8_in l dC dI cI cJ cP cS (Int32.toInt64 x1) (0 : Int64) (3 : Int64) r_1 hq2) (va_cwS 3 hT (gdS q_ml_X8_63 q_st_X8_in q_in_X8 q_co_X8_in) rfl rfl rfl hd_X8_in ⟨Nat.le_of_ble_eq_true rfl, Nat.le_of_ble_eq_true rfl⟩) hK hF hP hD hS hA [] [0, 1] [0, 1] rfl (by decide) rfl (by decide) (by decide) rfl (by decide) rfl hl.1 rfl (Nat.le_of_ble_eq_true rfl) dX8_lineMore_6 ⟨Nat.zero_le _, Nat.zero_le _⟩ (fun H locs hP hD hS => ?_)
    refine W.eq (g2 := F0 m 9 ls [.int r_1]) rfl ?_
    refine lv_if_eq (tgt := 22) hx hb dX8_lineMore_9 (by decide) (fun c3 => ?_) (fun c3 => ?_)
    · replace hf := it_t c3 hf
      refine lv_iconst (v := (-1)) hx hb dX8_lineMore_22 (by decide) ?_
      replace hf := Option.some.inj hf
      simp only [Prod.mk.injEq] at hf
      obtain ⟨hf0, hf1⟩ := hf
      subst hf0; subst hf1
      exact hret H locs ls _ dX8_lineMore_23 hP hD hS
    · replace hf := it_f c3 hf
      refine lv_iload_n hx hb dX8_lineMore_12 rfl (lv_at hl 2 rfl) ?_
      refine lv_i2l hx hb dX8_lineMore_13 rfl ?_
      refine lv_lconst (v := 0) hx hb dX8_lineMore_14 (by decide) ?_
      refine lv_lconst (v := 1) hx hb dX8_lineMore_15 (by decide) ?_
      obtain ⟨r_4, hq5, hf⟩ := bd1_el hf
      refine mc_S (As := [.long (Int32.toInt64 x2), .long (0 : Int64), .long (1 : Int64)]) (rest := []) (wr := [(a0, .inr (8, [.ref a1, .ref a2, .int v_acts, .ref a3, .ref a4, .int v_keptActs, .ref a5, .int v_typed, .ref a6, .ref a7, .ref a8, .ref a9, .ref a10, .int v_isSet, .ref a11, .ref a12, .ref a13, .int v_arePages, .ref a14, .ref a15, .int v_place, .ref a16, .int v_readMany])), (a1, .inl (cI, 189, .inl v_now))]) (wn := [(a0, .inr (8, [.ref a1, .ref a2, .int v_acts, .ref a3, .ref a4, .int v_keptActs, .ref a5, .int v_typed, .ref a6, .ref a7, .ref a8, .ref a9, .ref a10, .int v_isSet, .ref a11, .ref a12, .ref a13, .int v_arePages, .ref a14, .ref a15, .int v_place, .ref a16, .int v_readMany])), (a1, .inl (cI, 189, .inl v_now))]) ⟨hx, hb, hml, hown, hT⟩ (c_X8_in l dC dI cI cJ cP cS (Int32.toInt64 x2) (0 : Int64) (1 : Int64) r_4 hq5) (va_cwS 3 hT (gdS q_ml_X8_63 q_st_X8_in q_in_X8 q_co_X8_in) rfl rfl rfl hd_X8_in ⟨Nat.le_of_ble_eq_true rfl, Nat.le_of_ble_eq_true rfl⟩) hK hF hP hD hS hA [] [0, 1] [0, 1] rfl (by decide) rfl (by decide) (by decide) rfl (by decide) rfl hl.1 rfl (Nat.le_of_ble_eq_true rfl) dX8_lineMore_16 ⟨Nat.zero_le _, Nat.zero_le _⟩ (fun H locs hP hD hS => ?_)
      refine W.eq (g2 := F0 m 19 ls [.int r_4]) rfl ?_
      refine lv_if_ne (tgt := 24) hx hb dX8_lineMore_19 (by decide) (fun c6 => ?_) (fun c6 => ?_)
      · replace hf := it_f c6 hf
        refine lv_aload_n hx hb dX8_lineMore_24 rfl (lv_at hl 0 rfl) ?_
        refine va_get (D := (dC, dI)) (ci := 8) (v := .ref a1) (C := RX8) (T := TX8) (N := 23) hx hb hT in_X8 hown hK hP 0 rfl rfl 0 (by decide) (hT _ q_fl_X8_7) (fun _ h9 => h9) rfl dX8_lineMore_25 ?_
        refine lv_iconst (v := 0) hx hb dX8_lineMore_28 (by decide) ?_
        refine ia_ld hx hb hK hP 1 0 rfl rfl (ib_in (by decide)) (j := 0) (by decide) dX8_lineMore_29 ?_
        obtain ⟨x3_7, ex3_7, hf⟩ := nm_el hf
        refine lv_as (congrArg Value.int ex3_7) ?_
        refine lv_istore_n (lv' := [(3, .int x3_7), (0, .ref a0), (1, .int x1), (2, .int x2)]) hx hb dX8_lineMore_30 rfl hl (by decide) rfl (fun ls hl => ?_)
        refine lv_iload_n hx hb dX8_lineMore_31 rfl (lv_at hl 0 rfl) ?_
        refine lv_bipush (v := 12) hx hb dX8_lineMore_32 (by decide) ?_
        refine lv_icmp_ne (tgt := 40) hx hb dX8_lineMore_34 (by decide) (fun c8 => ?_) (fun c8 => ?_)
        · replace hf := it_f c8 hf
          refine lv_iconst (v := 0) hx hb dX8_lineMore_40 (by decide) ?_
          refine lv_istore (lv' := [(4, .int (0 : Int32)), (3, .int x3_7), (0, .ref a0), (1, .int x1), (2, .int x2)]) hx hb dX8_lineMore_41 hl (by decide) rfl (fun ls hl => ?_)
          have hL43 : ∀ (rr : Int32 × (Nat → Int32)), (∀ (z_13 : Int32) (z_14 : (Nat → Int32)), rr = (z_13, z_14) → ∀ (H : Heap) (locs : List Loc) (ls : Array Slot), va_P (dC, dI) vwCl [(a0, .inr (8, [.ref a1, .ref a2, .int v_acts, .ref a3, .ref a4, .int v_keptActs, .ref a5, .int v_typed, .ref a6, .ref a7, .ref a8, .ref a9, .ref a10, .int v_isSet, .ref a11, .ref a12, .ref a13, .int v_arePages, .ref a14, .ref a15, .int v_place, .ref a16, .int v_readMany])), (a1, .inl (cI, 189, .inl z_14))] H → va_D A [(a0, .inr (8, [.ref a1, .ref a2, .int v_acts, .ref a3, .ref a4, .int v_keptActs, .ref a5, .int v_typed, .ref a6, .ref a7, .ref a8, .ref a9, .ref a10, .int v_isSet, .ref a11, .ref a12, .ref a13, .int v_arePages, .ref a14, .ref a15, .int v_place, .ref a16, .int v_readMany])), (a1, .inl (cI, 189, .inl z_14))] → va_S A s.heap H locs → lv_has ls 5 [(0, .ref a0), (1, .int x1), (2, .int x2), (3, .int x3_7)] → W p l e ({ frames := 1, cells := 0, slots := 0, locals := 25 } : Room) s m args below meth c H locs 0 0 Q (F0 m 72 ls [])) → ∀ (n : Nat) (i4_9 : Int32) (v_now_10 : (Nat → Int32)), loopN (p_X8_lineMore_L43 x3_7) n (i4_9, v_now_10) = some rr → ∀ (H : Heap) (locs : List Loc) (ls : Array Slot), va_P (dC, dI) vwCl [(a0, .inr (8, [.ref a1, .ref a2, .int v_acts, .ref a3, .ref a4, .int v_keptActs, .ref a5, .int v_typed, .ref a6, .ref a7, .ref a8, .ref a9, .ref a10, .int v_isSet, .ref a11, .ref a12, .ref a13, .int v_arePages, .ref a14, .ref a15, .int v_place, .ref a16, .int v_readMany])), (a1, .inl (cI, 189, .inl v_now_10))] H → va_D A [(a0, .inr (8, [.ref a1, .ref a2, .int v_acts, .ref a3, .ref a4, .int v_keptActs, .ref a5, .int v_typed, .ref a6, .ref a7, .ref a8, .ref a9, .ref a10, .int v_isSet, .ref a11, .ref a12, .ref a13, .int v_arePages, .ref a14, .ref a15, .int v_place, .ref a16, .int v_readMany])), (a1, .inl (cI, 189, .inl v_now_10))] → va_S A s.heap H locs → lv_has ls 5 [(0, .ref a0), (1, .int x1), (2, .int x2), (3, .int x3_7), (4, .int i4_9)] → W p l e ({ frames := 1, cells := 0, slots := 0, locals := 25 } : Room) s m args below meth c H locs 0 0 Q (F0 m 43 ls []) := by
            intro rr hk43 n
            induction n with
            | zero => intro i4_9 v_now_10 hf; cases hf
            | succ n ih43 =>
              intro i4_9 v_now_10 hf H locs ls hP hD hS hl
              obtain ⟨o43, hf, hi, he⟩ := loopN_el hf
              refine lv_iload hx hb dX8_lineMore_43 (lv_at hl 4 rfl) ?_
              refine lv_bipush (v := 15) hx hb dX8_lineMore_45 (by decide) ?_
              refine lv_icmp_ge (tgt := 72) hx hb dX8_lineMore_47 (by decide) (fun c11 => ?_) (fun c11 => ?_)
              · replace hf := it_t c11 hf
                exact hk43 _ _ (he _ (Option.some.inj hf).symm).symm H locs ls hP hD hS (lv_sub hl [0, 1, 2, 3] rfl)
              · replace hf := it_f c11 hf
                refine lv_aload_n hx hb dX8_lineMore_50 rfl (lv_at hl 0 rfl) ?_
                refine va_get (D := (dC, dI)) (ci := 8) (v := .ref a1) (C := RX8) (T := TX8) (N := 23) hx hb hT in_X8 hown hK hP 0 rfl rfl 0 (by decide) (hT _ q_fl_X8_7) (fun _ h9 => h9) rfl dX8_lineMore_51 ?_
                refine lv_bipush (v := 9) hx hb dX8_lineMore_54 (by decide) ?_
                refine lv_bipush (v := 15) hx hb dX8_lineMore_56 (by decide) ?_
                refine lv_iload_n hx hb dX8_lineMore_58 rfl (lv_at hl 3 rfl) ?_
                refine lv_imul hx hb dX8_lineMore_59 ?_
                refine lv_iadd hx hb dX8_lineMore_60 ?_
                refine lv_iload hx hb dX8_lineMore_61 (lv_at hl 4 rfl) ?_
                refine lv_iadd hx hb dX8_lineMore_63 ?_
                refine lv_iconst (v := 0) hx hb dX8_lineMore_64 (by decide) ?_
                obtain ⟨h12, hf⟩ := gd_el hf
                refine ia_st hx hb hK hP hD hS 1 0 rfl rfl (ib_in h12) (j := (tn (((9 : Int32) + ((15 : Int32) * x3_7)) + i4_9))) rfl dX8_lineMore_65 (fun H locs hP hD hS => ?_)
                have hP : va_P (dC, dI) vwCl [(a0, .inr (8, [.ref a1, .ref a2, .int v_acts, .ref a3, .ref a4, .int v_keptActs, .ref a5, .int v_typed, .ref a6, .ref a7, .ref a8, .ref a9, .ref a10, .int v_isSet, .ref a11, .ref a12, .ref a13, .int v_arePages, .ref a14, .ref a15, .int v_place, .ref a16, .int v_readMany])), (a1, .inl (cI, 189, .inl (upd v_now_10 (tn (((9 : Int32) + ((15 : Int32) * x3_7)) + i4_9)) (0 : Int32))))] H := hP
                have hD : va_D A [(a0, .inr (8, [.ref a1, .ref a2, .int v_acts, .ref a3, .ref a4, .int v_keptActs, .ref a5, .int v_typed, .ref a6, .ref a7, .ref a8, .ref a9, .ref a10, .int v_isSet, .ref a11, .ref a12, .ref a13, .int v_arePages, .ref a14, .ref a15, .int v_place, .ref a16, .int v_readMany])), (a1, .inl (cI, 189, .inl (upd v_now_10 (tn (((9 : Int32) + ((15 : Int32) * x3_7)) + i4_9)) (0 : Int32))))] := hD
                refine lv_iinc (v := (i4_9 + (1 : Int32))) (lv' := [(4, .int (i4_9 + (1 : Int32))), (0, .ref a0), (1, .int x1), (2, .int x2), (3, .int x3_7)]) hx hb dX8_lineMore_66 hl (k := 4) rfl rfl (by decide) rfl (fun ls hl => ?_)
                refine lv_goto (tgt := 43) hx hb dX8_lineMore_69 (by decide) ?_
                exact ih43 (i4_9 + (1 : Int32)) (upd v_now_10 (tn (((9 : Int32) + ((15 : Int32) * x3_7)) + i4_9)) (0 : Int32)) (hi _ (Option.some.inj hf).symm) H locs ls hP hD hS (lv_sub hl [1, 2, 3, 4, 0] rfl)
          obtain ⟨f4_15, v_now_16, hq, hf⟩ := bd2_el hf
          refine hL43 (f4_15, v_now_16) (fun z_13 z_14 h9 H locs ls hP hD hS hl => ?_) fuel (0 : Int32) v_now hq H locs ls hP hD hS (lv_sub hl [2, 3, 4, 1, 0] rfl)
          simp only [Prod.mk.injEq] at h9
          obtain ⟨h9_0, h9_1⟩ := h9
          subst h9_0; subst h9_1
          refine lv_aload_n hx hb dX8_lineMore_72 rfl (lv_at hl 0 rfl) ?_
          refine va_get (D := (dC, dI)) (ci := 8) (v := .ref a1) (C := RX8) (T := TX8) (N := 23) hx hb hT in_X8 hown hK hP 0 rfl rfl 0 (by decide) (hT _ q_fl_X8_7) (fun _ h9 => h9) rfl dX8_lineMore_73 ?_
          refine lv_bipush (v := 9) hx hb dX8_lineMore_76 (by decide) ?_
          refine lv_bipush (v := 15) hx hb dX8_lineMore_78 (by decide) ?_
          refine lv_iload_n hx hb dX8_lineMore_80 rfl (lv_at hl 3 rfl) ?_
          refine lv_imul hx hb dX8_lineMore_81 ?_
          refine lv_iadd hx hb dX8_lineMore_82 ?_
          refine lv_iconst (v := 0) hx hb dX8_lineMore_83 (by decide) ?_
          refine lv_iadd hx hb dX8_lineMore_84 ?_
          refine lv_iload_n hx hb dX8_lineMore_85 rfl (lv_at hl 1 rfl) ?_
          obtain ⟨h17, hf⟩ := gd_el hf
          refine ia_st hx hb hK hP hD hS 1 0 rfl rfl (ib_in h17) (j := (tn (((9 : Int32) + ((15 : Int32) * x3_7)) + (0 : Int32)))) rfl dX8_lineMore_86 (fun H locs hP hD hS => ?_)
          have hP : va_P (dC, dI) vwCl [(a0, .inr (8, [.ref a1, .ref a2, .int v_acts, .ref a3, .ref a4, .int v_keptActs, .ref a5, .int v_typed, .ref a6, .ref a7, .ref a8, .ref a9, .ref a10, .int v_isSet, .ref a11, .ref a12, .ref a13, .int v_arePages, .ref a14, .ref a15, .int v_place, .ref a16, .int v_readMany])), (a1, .inl (cI, 189, .inl (upd v_now_16 (tn (((9 : Int32) + ((15 : Int32) * x3_7)) + (0 : Int32))) x1)))] H := hP
          have hD : va_D A [(a0, .inr (8, [.ref a1, .ref a2, .int v_acts, .ref a3, .ref a4, .int v_keptActs, .ref a5, .int v_typed, .ref a6, .ref a7, .ref a8, .ref a9, .ref a10, .int v_isSet, .ref a11, .ref a12, .ref a13, .int v_arePages, .ref a14, .ref a15, .int v_place, .ref a16, .int v_readMany])), (a1, .inl (cI, 189, .inl (upd v_now_16 (tn (((9 : Int32) + ((15 : Int32) * x3_7)) + (0 : Int32))) x1)))] := hD
          refine lv_aload_n hx hb dX8_lineMore_87 rfl (lv_at hl 0 rfl) ?_
          refine va_get (D := (dC, dI)) (ci := 8) (v := .ref a1) (C := RX8) (T := TX8) (N := 23) hx hb hT in_X8 hown hK hP 0 rfl rfl 0 (by decide) (hT _ q_fl_X8_7) (fun _ h9 => h9) rfl dX8_lineMore_88 ?_
          refine lv_bipush (v := 9) hx hb dX8_lineMore_91 (by decide) ?_
          refine lv_bipush (v := 15) hx hb dX8_lineMore_93 (by decide) ?_
          refine lv_iload_n hx hb dX8_lineMore_95 rfl (lv_at hl 3 rfl) ?_
          refine lv_imul hx hb dX8_lineMore_96 ?_
          refine lv_iadd hx hb dX8_lineMore_97 ?_
          refine lv_iconst (v := 1) hx hb dX8_lineMore_98 (by decide) ?_
          refine lv_iadd hx hb dX8_lineMore_99 ?_
          refine lv_iload_n hx hb dX8_lineMore_100 rfl (lv_at hl 2 rfl) ?_
          obtain ⟨h18, hf⟩ := gd_el hf
          refine ia_st hx hb hK hP hD hS 1 0 rfl rfl (ib_in h18) (j := (tn (((9 : Int32) + ((15 : Int32) * x3_7)) + (1 : Int32)))) rfl dX8_lineMore_101 (fun H locs hP hD hS => ?_)
          have hP : va_P (dC, dI) vwCl [(a0, .inr (8, [.ref a1, .ref a2, .int v_acts, .ref a3, .ref a4, .int v_keptActs, .ref a5, .int v_typed, .ref a6, .ref a7, .ref a8, .ref a9, .ref a10, .int v_isSet, .ref a11, .ref a12, .ref a13, .int v_arePages, .ref a14, .ref a15, .int v_place, .ref a16, .int v_readMany])), (a1, .inl (cI, 189, .inl (upd (upd v_now_16 (tn (((9 : Int32) + ((15 : Int32) * x3_7)) + (0 : Int32))) x1) (tn (((9 : Int32) + ((15 : Int32) * x3_7)) + (1 : Int32))) x2)))] H := hP
          have hD : va_D A [(a0, .inr (8, [.ref a1, .ref a2, .int v_acts, .ref a3, .ref a4, .int v_keptActs, .ref a5, .int v_typed, .ref a6, .ref a7, .ref a8, .ref a9, .ref a10, .int v_isSet, .ref a11, .ref a12, .ref a13, .int v_arePages, .ref a14, .ref a15, .int v_place, .ref a16, .int v_readMany])), (a1, .inl (cI, 189, .inl (upd (upd v_now_16 (tn (((9 : Int32) + ((15 : Int32) * x3_7)) + (0 : Int32))) x1) (tn (((9 : Int32) + ((15 : Int32) * x3_7)) + (1 : Int32))) x2)))] := hD
          refine lv_aload_n hx hb dX8_lineMore_102 rfl (lv_at hl 0 rfl) ?_
          refine va_get (D := (dC, dI)) (ci := 8) (v := .ref a1) (C := RX8) (T := TX8) (N := 23) hx hb hT in_X8 hown hK hP 0 rfl rfl 0 (by decide) (hT _ q_fl_X8_7) (fun _ h9 => h9) rfl dX8_lineMore_103 ?_
          refine lv_iconst (v := 0) hx hb dX8_lineMore_106 (by decide) ?_
          refine lv_dup2_11 hx hb dX8_lineMore_107 rfl rfl ?_
          refine ia_ld hx hb hK hP 1 0 rfl rfl (ib_in (by decide)) (j := 0) (by decide) dX8_lineMore_108 ?_
          refine lv_iconst (v := 1) hx hb dX8_lineMore_109 (by decide) ?_
          refine lv_iadd hx hb dX8_lineMore_110 ?_
          refine ia_st hx hb hK hP hD hS 1 0 rfl rfl (ib_in (by decide)) (j := 0) (by decide) dX8_lineMore_111 (fun H locs hP hD hS => ?_)
          have hP : va_P (dC, dI) vwCl [(a0, .inr (8, [.ref a1, .ref a2, .int v_acts, .ref a3, .ref a4, .int v_keptActs, .ref a5, .int v_typed, .ref a6, .ref a7, .ref a8, .ref a9, .ref a10, .int v_isSet, .ref a11, .ref a12, .ref a13, .int v_arePages, .ref a14, .ref a15, .int v_place, .ref a16, .int v_readMany])), (a1, .inl (cI, 189, .inl (upd (upd (upd v_now_16 (tn (((9 : Int32) + ((15 : Int32) * x3_7)) + (0 : Int32))) x1) (tn (((9 : Int32) + ((15 : Int32) * x3_7)) + (1 : Int32))) x2) 0 (((upd (upd v_now_16 (tn (((9 : Int32) + ((15 : Int32) * x3_7)) + (0 : Int32))) x1) (tn (((9 : Int32) + ((15 : Int32) * x3_7)) + (1 : Int32))) x2) 0) + (1 : Int32)))))] H := hP
          have hD : va_D A [(a0, .inr (8, [.ref a1, .ref a2, .int v_acts, .ref a3, .ref a4, .int v_keptActs, .ref a5, .int v_typed, .ref a6, .ref a7, .ref a8, .ref a9, .ref a10, .int v_isSet, .ref a11, .ref a12, .ref a13, .int v_arePages, .ref a14, .ref a15, .int v_place, .ref a16, .int v_readMany])), (a1, .inl (cI, 189, .inl (upd (upd (upd v_now_16 (tn (((9 : Int32) + ((15 : Int32) * x3_7)) + (0 : Int32))) x1) (tn (((9 : Int32) + ((15 : Int32) * x3_7)) + (1 : Int32))) x2) 0 (((upd (upd v_now_16 (tn (((9 : Int32) + ((15 : Int32) * x3_7)) + (0 : Int32))) x1) (tn (((9 : Int32) + ((15 : Int32) * x3_7)) + (1 : Int32))) x2) 0) + (1 : Int32)))))] := hD
          obtain ⟨v_now_19, ev_now_19, hf⟩ := nm_el hf
          rw [← ev_now_19] at hP hD
          refine lv_iload_n hx hb dX8_lineMore_112 rfl (lv_at hl 3 rfl) ?_
          replace hf := Option.some.inj hf
          simp only [Prod.mk.injEq] at hf
          obtain ⟨hf0, hf1⟩ := hf
          subst hf0; subst hf1
          exact hret H locs ls _ dX8_lineMore_113 hP hD hS
        · replace hf := it_t c8 hf
          refine lv_bipush (v := (-3)) hx hb dX8_lineMore_37 (by decide) ?_
          replace hf := Option.some.inj hf
          simp only [Prod.mk.injEq] at hf
          obtain ⟨hf0, hf1⟩ := hf
          subst hf0; subst hf1
          exact hret H locs ls _ dX8_lineMore_39 hP hD hS
      · replace hf := it_t c6 hf
        refine lv_iconst (v := (-1)) hx hb dX8_lineMore_22 (by decide) ?_
        replace hf := Option.some.inj hf
        simp only [Prod.mk.injEq] at hf
        obtain ⟨hf0, hf1⟩ := hf
        subst hf0; subst hf1
        exact hret H locs ls _ dX8_lineMore_23 hP hD hS
  refine key _ ?_ _ _ _ hP hD hS hl
  intro H locs ls pc d hP hD hS
  exact W.iret (v := rv) hx hb hr (fun t ht hW => ⟨⟨rfl, by rw [ht]; exact hP, hD⟩, hS.F ht⟩) hS.2.2 d
def p_X8_wordMore (v_now : (Nat → Int32)) (x1 : Int32) (x2 : Int32) : Option (Int32 × (Nat → Int32)) :=
  (bd1 (p_X8_in (Int32.toInt64 x1) (1 : Int64) (9 : Int64)) fun r_1 => (if r_1 = (0 : Int32) then (some ((-1 : Int32), v_now)) else (bd1 (p_X8_in (Int32.toInt64 x2) (0 : Int64) (3 : Int64)) fun r_4 => (if r_4 = (0 : Int32) then (some ((-1 : Int32), v_now)) else (nm ((v_now 0) - (1 : Int32)) fun x3_7 => (if (0 : Int32) ≤ x3_7 then (bd1 (p_X8_words v_now x3_7) fun r_9 => (if r_9 = (6 : Int32) then (some ((-3 : Int32), v_now)) else (gd (ib ((((9 : Int32) + ((15 : Int32) * x3_7)) + (3 : Int32)) + r_9) 189) (gd (ib ((((9 : Int32) + ((15 : Int32) * x3_7)) + (9 : Int32)) + r_9) 189) (gd (ib (((9 : Int32) + ((15 : Int32) * x3_7)) + (2 : Int32)) 189) (nm (upd (upd (upd v_now (tn ((((9 : Int32) + ((15 : Int32) * x3_7)) + (3 : Int32)) + r_9)) x1) (tn ((((9 : Int32) + ((15 : Int32) * x3_7)) + (9 : Int32)) + r_9)) x2) (tn (((9 : Int32) + ((15 : Int32) * x3_7)) + (2 : Int32))) (r_9 + (1 : Int32))) fun v_now_15 => (some ((r_9 + (1 : Int32)), v_now_15)))))))) else (some ((-4 : Int32), v_now))))))))
set_option maxHeartbeats 4000000 in
set_option maxRecDepth 100000 in
theorem c_X8_wordMore (l : Launch) (dC : Nat → ClassId) (dI : Nat → Nat → Nat) (cI cJ cP cS : ClassId) (a0 : Nat) (a1 : Nat) (a2 : Nat) (a3 : Nat) (a4 : Nat) (a5 : Nat) (a6 : Nat) (a7 : Nat) (a8 : Nat) (a9 : Nat) (a10 : Nat) (a11 : Nat) (a12 : Nat) (a13 : Nat) (a14 : Nat) (a15 : Nat) (a16 : Nat) (v_acts : Int32) (v_keptActs : Int32) (v_typed : Int32) (v_isSet : Int32) (v_arePages : Int32) (v_place : Int32) (v_readMany : Int32) (v_now : (Nat → Int32))  (x1 : Int32) (x2 : Int32) (rv : Int32) (v_now_o : (Nat → Int32)) (hf : p_X8_wordMore v_now x1 x2 = some (rv, v_now_o)) : MC l (dC, dI) (tyl cI cJ cP cS) yX8_wordMore (Cond.code yX8_wordMore cX8_wordMore 5 (some .int) :: TBG) ({ frames := 2, cells := 0, slots := 0, locals := 43 } : Room) [.ref a0, .int x1, .int x2] [(a0, .inr (8, [.ref a1, .ref a2, .int v_acts, .ref a3, .ref a4, .int v_keptActs, .ref a5, .int v_typed, .ref a6, .ref a7, .ref a8, .ref a9, .ref a10, .int v_isSet, .ref a11, .ref a12, .ref a13, .int v_arePages, .ref a14, .ref a15, .int v_place, .ref a16, .int v_readMany])), (a1, .inl (cI, 189, .inl v_now))] [(a0, .inr (8, [.ref a1, .ref a2, .int v_acts, .ref a3, .ref a4, .int v_keptActs, .ref a5, .int v_typed, .ref a6, .ref a7, .ref a8, .ref a9, .ref a10, .int v_isSet, .ref a11, .ref a12, .ref a13, .int v_arePages, .ref a14, .ref a15, .int v_place, .ref a16, .int v_readMany])), (a1, .inl (cI, 189, .inl v_now_o))] (some (.int rv)) := by
  intro sz
  unfold MPost
  refine Met.ofW (cc := cX8_wordMore) (maxL := 5) (ret := (some .int)) (by decide) rfl ?_
  intro p e s m args below meth c s₁ B hml hv
  obtain ⟨rfl, hsz, hP, hK, hD0, hF⟩ := hv
  have hx := B.exec
  have hb := B.bytes
  have hr := B.returns
  have hT : ∀ w ∈ TBG, w.before _ s = true := fun w h => atoms_spec B.pre w (List.mem_cons_of_mem _ h)
  have hown : s.vm.findClass RX8 = some m.cls := findClass_of_methodNamed B.named
  have hlocks := B.notSynchronized
  subst hsz
  have hD := hD0.self (sz := s.heap.size)
  generalize hAe : va_A [(a0, .inr (8, [.ref a1, .ref a2, .int v_acts, .ref a3, .ref a4, .int v_keptActs, .ref a5, .int v_typed, .ref a6, .ref a7, .ref a8, .ref a9, .ref a10, .int v_isSet, .ref a11, .ref a12, .ref a13, .int v_arePages, .ref a14, .ref a15, .int v_place, .ref a16, .int v_readMany])), (a1, .inl (cI, 189, .inl v_now))] s.heap.size = A at hD hF ⊢
  have hA : ∀ q : Nat, s.heap.size ≤ q → A q := fun q h => by rw [← hAe]; exact Or.inr h
  have hS : va_S A s.heap s.heap [] := va_S.rf
  have hl := lv_entry ([.ref a0, .int x1, .int x2]) (n := 5) (Nat.le_of_ble_eq_true rfl)
  rw [lg_entry_eq]
  generalize (lg_sl ([.ref a0, .int x1, .int x2]) ++ List.replicate (5 - (lg_sl ([.ref a0, .int x1, .int x2])).length) Slot.unset).toArray = ls at hl ⊢
  have hl : lv_has ls 5 [(0, .ref a0), (1, .int x1), (2, .int x2)] := hl
  generalize ([.ref a0, .int x1, .int x2] : List Value).toArray = args at hT ⊢
  have key : ∀ (Q : State → Prop), (∀ (H : Heap) (locs : List Loc) (ls : Array Slot) (pc : Nat), decode cX8_wordMore pc = .ok (.ireturn, 1) → va_P (dC, dI) vwCl [(a0, .inr (8, [.ref a1, .ref a2, .int v_acts, .ref a3, .ref a4, .int v_keptActs, .ref a5, .int v_typed, .ref a6, .ref a7, .ref a8, .ref a9, .ref a10, .int v_isSet, .ref a11, .ref a12, .ref a13, .int v_arePages, .ref a14, .ref a15, .int v_place, .ref a16, .int v_readMany])), (a1, .inl (cI, 189, .inl v_now_o))] H → va_D A [(a0, .inr (8, [.ref a1, .ref a2, .int v_acts, .ref a3, .ref a4, .int v_keptActs, .ref a5, .int v_typed, .ref a6, .ref a7, .ref a8, .ref a9, .ref a10, .int v_isSet, .ref a11, .ref a12, .ref a13, .int v_arePages, .ref a14, .ref a15, .int v_place, .ref a16, .int v_readMany])), (a1, .inl (cI, 189, .inl v_now_o))] → va_S A s.heap H locs → W p l e ({ frames := 2, cells := 0, slots := 0, locals := 43 } : Room) s m args below meth c H locs 0 0 Q (F0 m pc ls [.int rv])) → ∀ (H : Heap) (locs : List Loc) (ls : Array Slot), va_P (dC, dI) vwCl [(a0, .inr (8, [.ref a1, .ref a2, .int v_acts, .ref a3, .ref a4, .int v_keptActs, .ref a5, .int v_typed, .ref a6, .ref a7, .ref a8, .ref a9, .ref a10, .int v_isSet, .ref a11, .ref a12, .ref a13, .int v_arePages, .ref a14, .ref a15, .int v_place, .ref a16, .int v_readMany])), (a1, .inl (cI, 189, .inl v_now))] H → va_D A [(a0, .inr (8, [.ref a1, .ref a2, .int v_acts, .ref a3, .ref a4, .int v_keptActs, .ref a5, .int v_typed, .ref a6, .ref a7, .ref a8, .ref a9, .ref a10, .int v_isSet, .ref a11, .ref a12, .ref a13, .int v_arePages, .ref a14, .ref a15, .int v_place, .ref a16, .int v_readMany])), (a1, .inl (cI, 189, .inl v_now))] → va_S A s.heap H locs → lv_has ls 5 [(0, .ref a0), (1, .int x1), (2, .int x2)] → W p l e ({ frames := 2, cells := 0, slots := 0, locals := 43 } : Room) s m args below meth c H locs 0 0 Q (F0 m 0 ls []) := by
    intro Q hret H locs ls hP hD hS hl
    refine lv_iload_n hx hb dX8_wordMore_0 rfl (lv_at hl 1 rfl) ?_
    refine lv_i2l hx hb dX8_wordMore_1 rfl ?_
    refine lv_lconst (v := 1) hx hb dX8_wordMore_2 (by decide) ?_
    refine lv_ldc2 hx hb hown (hT _ q_kl_X8_194) dX8_wordMore_3 ?_
    obtain ⟨r_1, hq2, hf⟩ := bd1_el hf
    refine mc_S (As := [.long (Int32.toInt64 x1), .long (1 : Int64), .long (9 : Int64)]) (rest := []) (wr := [(a0, .inr (8, [.ref a1, .ref a2, .int v_acts, .ref a3, .ref a4, .int v_keptActs, .ref a5, .int v_typed, .ref a6, .ref a7, .ref a8, .ref a9, .ref a10, .int v_isSet, .ref a11, .ref a12, .ref a13, .int v_arePages, .ref a14, .ref a15, .int v_place, .ref a16, .int v_readMany])), (a1, .inl (cI, 189, .inl v_now))]) (wn := [(a0, .inr (8, [.ref a1, .ref a2, .int v_acts, .ref a3, .ref a4, .int v_keptActs, .ref a5, .int v_typed, .ref a6, .ref a7, .ref a8, .ref a9, .ref a10, .int v_isSet, .ref a11, .ref a12, .ref a13, .int v_arePages, .ref a14, .ref a15, .int v_place, .ref a16, .int v_readMany])), (a1, .inl (cI, 189, .inl v_now))]) ⟨hx, hb, hml, hown, hT⟩ (c_X8_in l dC dI cI cJ cP cS (Int32.toInt64 x1) (1 : Int64) (9 : Int64) r_1 hq2) (va_cwS 3 hT (gdS q_ml_X8_63 q_st_X8_in q_in_X8 q_co_X8_in) rfl rfl rfl hd_X8_in ⟨Nat.le_of_ble_eq_true rfl, Nat.le_of_ble_eq_true rfl⟩) hK hF hP hD hS hA [] [0, 1] [0, 1] rfl (by decide) rfl (by decide) (by decide) rfl (by decide) rfl hl.1 rfl (Nat.le_of_ble_eq_true rfl) dX8_wordMore_6 ⟨Nat.zero_le _, Nat.zero_le _⟩ (fun H locs hP hD hS => ?_)
    refine W.eq (g2 := F0 m 9 ls [.int r_1]) rfl ?_
    refine lv_if_eq (tgt := 24) hx hb dX8_wordMore_9 (by decide) (fun c3 => ?_) (fun c3 => ?_)
    · replace hf := it_t c3 hf
      refine lv_iconst (v := (-1)) hx hb dX8_wordMore_24 (by decide) ?_
      replace hf := Option.some.inj hf
      simp only [Prod.mk.injEq] at hf
      obtain ⟨hf0, hf1⟩ := hf
      subst hf0; subst hf1
      exact hret H locs ls _ dX8_wordMore_25 hP hD hS
    · replace hf := it_f c3 hf
      refine lv_iload_n hx hb dX8_wordMore_12 rfl (lv_at hl 2 rfl) ?_
      refine lv_i2l hx hb dX8_wordMore_13 rfl ?_
      refine lv_lconst (v := 0) hx hb dX8_wordMore_14 (by decide) ?_
      refine lv_ldc2 hx hb hown (hT _ q_kl_X8_150) dX8_wordMore_15 ?_
      obtain ⟨r_4, hq5, hf⟩ := bd1_el hf
      refine mc_S (As := [.long (Int32.toInt64 x2), .long (0 : Int64), .long (3 : Int64)]) (rest := []) (wr := [(a0, .inr (8, [.ref a1, .ref a2, .int v_acts, .ref a3, .ref a4, .int v_keptActs, .ref a5, .int v_typed, .ref a6, .ref a7, .ref a8, .ref a9, .ref a10, .int v_isSet, .ref a11, .ref a12, .ref a13, .int v_arePages, .ref a14, .ref a15, .int v_place, .ref a16, .int v_readMany])), (a1, .inl (cI, 189, .inl v_now))]) (wn := [(a0, .inr (8, [.ref a1, .ref a2, .int v_acts, .ref a3, .ref a4, .int v_keptActs, .ref a5, .int v_typed, .ref a6, .ref a7, .ref a8, .ref a9, .ref a10, .int v_isSet, .ref a11, .ref a12, .ref a13, .int v_arePages, .ref a14, .ref a15, .int v_place, .ref a16, .int v_readMany])), (a1, .inl (cI, 189, .inl v_now))]) ⟨hx, hb, hml, hown, hT⟩ (c_X8_in l dC dI cI cJ cP cS (Int32.toInt64 x2) (0 : Int64) (3 : Int64) r_4 hq5) (va_cwS 3 hT (gdS q_ml_X8_63 q_st_X8_in q_in_X8 q_co_X8_in) rfl rfl rfl hd_X8_in ⟨Nat.le_of_ble_eq_true rfl, Nat.le_of_ble_eq_true rfl⟩) hK hF hP hD hS hA [] [0, 1] [0, 1] rfl (by decide) rfl (by decide) (by decide) rfl (by decide) rfl hl.1 rfl (Nat.le_of_ble_eq_true rfl) dX8_wordMore_18 ⟨Nat.zero_le _, Nat.zero_le _⟩ (fun H locs hP hD hS => ?_)
      refine W.eq (g2 := F0 m 21 ls [.int r_4]) rfl ?_
      refine lv_if_ne (tgt := 26) hx hb dX8_wordMore_21 (by decide) (fun c6 => ?_) (fun c6 => ?_)
      · replace hf := it_f c6 hf
        refine lv_aload_n hx hb dX8_wordMore_26 rfl (lv_at hl 0 rfl) ?_
        refine va_get (D := (dC, dI)) (ci := 8) (v := .ref a1) (C := RX8) (T := TX8) (N := 23) hx hb hT in_X8 hown hK hP 0 rfl rfl 0 (by decide) (hT _ q_fl_X8_7) (fun _ h9 => h9) rfl dX8_wordMore_27 ?_
        refine lv_iconst (v := 0) hx hb dX8_wordMore_30 (by decide) ?_
        refine ia_ld hx hb hK hP 1 0 rfl rfl (ib_in (by decide)) (j := 0) (by decide) dX8_wordMore_31 ?_
        refine lv_iconst (v := 1) hx hb dX8_wordMore_32 (by decide) ?_
        refine lv_isub hx hb dX8_wordMore_33 ?_
        obtain ⟨x3_7, ex3_7, hf⟩ := nm_el hf
        refine lv_as (congrArg Value.int ex3_7) ?_
        refine lv_istore_n (lv' := [(3, .int x3_7), (0, .ref a0), (1, .int x1), (2, .int x2)]) hx hb dX8_wordMore_34 rfl hl (by decide) rfl (fun ls hl => ?_)
        refine lv_iload_n hx hb dX8_wordMore_35 rfl (lv_at hl 0 rfl) ?_
        refine lv_if_ge (tgt := 42) hx hb dX8_wordMore_36 (by decide) (fun c8 => ?_) (fun c8 => ?_)
        · replace hf := it_t c8 hf
          refine lv_aload_n hx hb dX8_wordMore_42 rfl (lv_at hl 1 rfl) ?_
          refine lv_iload_n hx hb dX8_wordMore_43 rfl (lv_at hl 0 rfl) ?_
          obtain ⟨r_9, hq10, hf⟩ := bd1_el hf
          refine mc_V (As := [.int x3_7]) (rest := []) (wr := []) (wn := [(a0, .inr (8, [.ref a1, .ref a2, .int v_acts, .ref a3, .ref a4, .int v_keptActs, .ref a5, .int v_typed, .ref a6, .ref a7, .ref a8, .ref a9, .ref a10, .int v_isSet, .ref a11, .ref a12, .ref a13, .int v_arePages, .ref a14, .ref a15, .int v_place, .ref a16, .int v_readMany])), (a1, .inl (cI, 189, .inl v_now))]) ⟨hx, hb, hml, hown, hT⟩ (c_X8_words l dC dI cI cJ cP cS a0 a1 a2 a3 a4 a5 a6 a7 a8 a9 a10 a11 a12 a13 a14 a15 a16 v_acts v_keptActs v_typed v_isSet v_arePages v_place v_readMany v_now x3_7 r_9 hq10) (cwV 1 hT (gdV q_ml_X8_85 q_im_X8_words q_se_X8_words q_in_X8 q_co_X8_words) rfl rfl rfl hd_X8_words ⟨Nat.le_of_ble_eq_true rfl, Nat.le_of_ble_eq_true rfl⟩) hK hF hP hD hS hA 0 rfl rfl rfl [0, 1] [] [0, 1] rfl (by decide) rfl (by decide) (by decide) rfl (by decide) rfl hl.1 rfl (Nat.le_of_ble_eq_true rfl) dX8_wordMore_44 ⟨Nat.zero_le _, Nat.zero_le _⟩ (fun H locs hP hD hS => ?_)
          refine W.eq (g2 := F0 m 47 ls [.int r_9]) rfl ?_
          refine lv_istore (lv' := [(4, .int r_9), (3, .int x3_7), (0, .ref a0), (1, .int x1), (2, .int x2)]) hx hb dX8_wordMore_47 hl (by decide) rfl (fun ls hl => ?_)
          refine lv_iload hx hb dX8_wordMore_49 (lv_at hl 0 rfl) ?_
          refine lv_bipush (v := 6) hx hb dX8_wordMore_51 (by decide) ?_
          refine lv_icmp_ne (tgt := 59) hx hb dX8_wordMore_53 (by decide) (fun c11 => ?_) (fun c11 => ?_)
          · replace hf := it_f c11 hf
            refine lv_aload_n hx hb dX8_wordMore_59 rfl (lv_at hl 2 rfl) ?_
            refine va_get (D := (dC, dI)) (ci := 8) (v := .ref a1) (C := RX8) (T := TX8) (N := 23) hx hb hT in_X8 hown hK hP 0 rfl rfl 0 (by decide) (hT _ q_fl_X8_7) (fun _ h9 => h9) rfl dX8_wordMore_60 ?_
            refine lv_bipush (v := 9) hx hb dX8_wordMore_63 (by decide) ?_
            refine lv_bipush (v := 15) hx hb dX8_wordMore_65 (by decide) ?_
            refine lv_iload_n hx hb dX8_wordMore_67 rfl (lv_at hl 1 rfl) ?_
            refine lv_imul hx hb dX8_wordMore_68 ?_
            refine lv_iadd hx hb dX8_wordMore_69 ?_
            refine lv_iconst (v := 3) hx hb dX8_wordMore_70 (by decide) ?_
            refine lv_iadd hx hb dX8_wordMore_71 ?_
            refine lv_iload hx hb dX8_wordMore_72 (lv_at hl 0 rfl) ?_
            refine lv_iadd hx hb dX8_wordMore_74 ?_
            refine lv_iload_n hx hb dX8_wordMore_75 rfl (lv_at hl 3 rfl) ?_
            obtain ⟨h12, hf⟩ := gd_el hf
            refine ia_st hx hb hK hP hD hS 1 0 rfl rfl (ib_in h12) (j := (tn ((((9 : Int32) + ((15 : Int32) * x3_7)) + (3 : Int32)) + r_9))) rfl dX8_wordMore_76 (fun H locs hP hD hS => ?_)
            have hP : va_P (dC, dI) vwCl [(a0, .inr (8, [.ref a1, .ref a2, .int v_acts, .ref a3, .ref a4, .int v_keptActs, .ref a5, .int v_typed, .ref a6, .ref a7, .ref a8, .ref a9, .ref a10, .int v_isSet, .ref a11, .ref a12, .ref a13, .int v_arePages, .ref a14, .ref a15, .int v_place, .ref a16, .int v_readMany])), (a1, .inl (cI, 189, .inl (upd v_now (tn ((((9 : Int32) + ((15 : Int32) * x3_7)) + (3 : Int32)) + r_9)) x1)))] H := hP
            have hD : va_D A [(a0, .inr (8, [.ref a1, .ref a2, .int v_acts, .ref a3, .ref a4, .int v_keptActs, .ref a5, .int v_typed, .ref a6, .ref a7, .ref a8, .ref a9, .ref a10, .int v_isSet, .ref a11, .ref a12, .ref a13, .int v_arePages, .ref a14, .ref a15, .int v_place, .ref a16, .int v_readMany])), (a1, .inl (cI, 189, .inl (upd v_now (tn ((((9 : Int32) + ((15 : Int32) * x3_7)) + (3 : Int32)) + r_9)) x1)))] := hD
            refine lv_aload_n hx hb dX8_wordMore_77 rfl (lv_at hl 2 rfl) ?_
            refine va_get (D := (dC, dI)) (ci := 8) (v := .ref a1) (C := RX8) (T := TX8) (N := 23) hx hb hT in_X8 hown hK hP 0 rfl rfl 0 (by decide) (hT _ q_fl_X8_7) (fun _ h9 => h9) rfl dX8_wordMore_78 ?_
            refine lv_bipush (v := 9) hx hb dX8_wordMore_81 (by decide) ?_
            refine lv_bipush (v := 15) hx hb dX8_wordMore_83 (by decide) ?_
            refine lv_iload_n hx hb dX8_wordMore_85 rfl (lv_at hl 1 rfl) ?_
            refine lv_imul hx hb dX8_wordMore_86 ?_
            refine lv_iadd hx hb dX8_wordMore_87 ?_
            refine lv_bipush (v := 9) hx hb dX8_wordMore_88 (by decide) ?_
            refine lv_iadd hx hb dX8_wordMore_90 ?_
            refine lv_iload hx hb dX8_wordMore_91 (lv_at hl 0 rfl) ?_
            refine lv_iadd hx hb dX8_wordMore_93 ?_
            refine lv_iload_n hx hb dX8_wordMore_94 rfl (lv_at hl 4 rfl) ?_
            obtain ⟨h13, hf⟩ := gd_el hf
            refine ia_st hx hb hK hP hD hS 1 0 rfl rfl (ib_in h13) (j := (tn ((((9 : Int32) + ((15 : Int32) * x3_7)) + (9 : Int32)) + r_9))) rfl dX8_wordMore_95 (fun H locs hP hD hS => ?_)
            have hP : va_P (dC, dI) vwCl [(a0, .inr (8, [.ref a1, .ref a2, .int v_acts, .ref a3, .ref a4, .int v_keptActs, .ref a5, .int v_typed, .ref a6, .ref a7, .ref a8, .ref a9, .ref a10, .int v_isSet, .ref a11, .ref a12, .ref a13, .int v_arePages, .ref a14, .ref a15, .int v_place, .ref a16, .int v_readMany])), (a1, .inl (cI, 189, .inl (upd (upd v_now (tn ((((9 : Int32) + ((15 : Int32) * x3_7)) + (3 : Int32)) + r_9)) x1) (tn ((((9 : Int32) + ((15 : Int32) * x3_7)) + (9 : Int32)) + r_9)) x2)))] H := hP
            have hD : va_D A [(a0, .inr (8, [.ref a1, .ref a2, .int v_acts, .ref a3, .ref a4, .int v_keptActs, .ref a5, .int v_typed, .ref a6, .ref a7, .ref a8, .ref a9, .ref a10, .int v_isSet, .ref a11, .ref a12, .ref a13, .int v_arePages, .ref a14, .ref a15, .int v_place, .ref a16, .int v_readMany])), (a1, .inl (cI, 189, .inl (upd (upd v_now (tn ((((9 : Int32) + ((15 : Int32) * x3_7)) + (3 : Int32)) + r_9)) x1) (tn ((((9 : Int32) + ((15 : Int32) * x3_7)) + (9 : Int32)) + r_9)) x2)))] := hD
            refine lv_aload_n hx hb dX8_wordMore_96 rfl (lv_at hl 2 rfl) ?_
            refine va_get (D := (dC, dI)) (ci := 8) (v := .ref a1) (C := RX8) (T := TX8) (N := 23) hx hb hT in_X8 hown hK hP 0 rfl rfl 0 (by decide) (hT _ q_fl_X8_7) (fun _ h9 => h9) rfl dX8_wordMore_97 ?_
            refine lv_bipush (v := 9) hx hb dX8_wordMore_100 (by decide) ?_
            refine lv_bipush (v := 15) hx hb dX8_wordMore_102 (by decide) ?_
            refine lv_iload_n hx hb dX8_wordMore_104 rfl (lv_at hl 1 rfl) ?_
            refine lv_imul hx hb dX8_wordMore_105 ?_
            refine lv_iadd hx hb dX8_wordMore_106 ?_
            refine lv_iconst (v := 2) hx hb dX8_wordMore_107 (by decide) ?_
            refine lv_iadd hx hb dX8_wordMore_108 ?_
            refine lv_iload hx hb dX8_wordMore_109 (lv_at hl 0 rfl) ?_
            refine lv_iconst (v := 1) hx hb dX8_wordMore_111 (by decide) ?_
            refine lv_iadd hx hb dX8_wordMore_112 ?_
            obtain ⟨h14, hf⟩ := gd_el hf
            refine ia_st hx hb hK hP hD hS 1 0 rfl rfl (ib_in h14) (j := (tn (((9 : Int32) + ((15 : Int32) * x3_7)) + (2 : Int32)))) rfl dX8_wordMore_113 (fun H locs hP hD hS => ?_)
            have hP : va_P (dC, dI) vwCl [(a0, .inr (8, [.ref a1, .ref a2, .int v_acts, .ref a3, .ref a4, .int v_keptActs, .ref a5, .int v_typed, .ref a6, .ref a7, .ref a8, .ref a9, .ref a10, .int v_isSet, .ref a11, .ref a12, .ref a13, .int v_arePages, .ref a14, .ref a15, .int v_place, .ref a16, .int v_readMany])), (a1, .inl (cI, 189, .inl (upd (upd (upd v_now (tn ((((9 : Int32) + ((15 : Int32) * x3_7)) + (3 : Int32)) + r_9)) x1) (tn ((((9 : Int32) + ((15 : Int32) * x3_7)) + (9 : Int32)) + r_9)) x2) (tn (((9 : Int32) + ((15 : Int32) * x3_7)) + (2 : Int32))) (r_9 + (1 : Int32)))))] H := hP
            have hD : va_D A [(a0, .inr (8, [.ref a1, .ref a2, .int v_acts, .ref a3, .ref a4, .int v_keptActs, .ref a5, .int v_typed, .ref a6, .ref a7, .ref a8, .ref a9, .ref a10, .int v_isSet, .ref a11, .ref a12, .ref a13, .int v_arePages, .ref a14, .ref a15, .int v_place, .ref a16, .int v_readMany])), (a1, .inl (cI, 189, .inl (upd (upd (upd v_now (tn ((((9 : Int32) + ((15 : Int32) * x3_7)) + (3 : Int32)) + r_9)) x1) (tn ((((9 : Int32) + ((15 : Int32) * x3_7)) + (9 : Int32)) + r_9)) x2) (tn (((9 : Int32) + ((15 : Int32) * x3_7)) + (2 : Int32))) (r_9 + (1 : Int32)))))] := hD
            obtain ⟨v_now_15, ev_now_15, hf⟩ := nm_el hf
            rw [← ev_now_15] at hP hD
            refine lv_iload hx hb dX8_wordMore_114 (lv_at hl 0 rfl) ?_
            refine lv_iconst (v := 1) hx hb dX8_wordMore_116 (by decide) ?_
            refine lv_iadd hx hb dX8_wordMore_117 ?_
            replace hf := Option.some.inj hf
            simp only [Prod.mk.injEq] at hf
            obtain ⟨hf0, hf1⟩ := hf
            subst hf0; subst hf1
            exact hret H locs ls _ dX8_wordMore_118 hP hD hS
          · replace hf := it_t c11 hf
            refine lv_bipush (v := (-3)) hx hb dX8_wordMore_56 (by decide) ?_
            replace hf := Option.some.inj hf
            simp only [Prod.mk.injEq] at hf
            obtain ⟨hf0, hf1⟩ := hf
            subst hf0; subst hf1
            exact hret H locs ls _ dX8_wordMore_58 hP hD hS
        · replace hf := it_f c8 hf
          refine lv_bipush (v := (-4)) hx hb dX8_wordMore_39 (by decide) ?_
          replace hf := Option.some.inj hf
          simp only [Prod.mk.injEq] at hf
          obtain ⟨hf0, hf1⟩ := hf
          subst hf0; subst hf1
          exact hret H locs ls _ dX8_wordMore_41 hP hD hS
      · replace hf := it_t c6 hf
        refine lv_iconst (v := (-1)) hx hb dX8_wordMore_24 (by decide) ?_
        replace hf := Option.some.inj hf
        simp only [Prod.mk.injEq] at hf
        obtain ⟨hf0, hf1⟩ := hf
        subst hf0; subst hf1
        exact hret H locs ls _ dX8_wordMore_25 hP hD hS
  refine key _ ?_ _ _ _ hP hD hS hl
  intro H locs ls pc d hP hD hS
  exact W.iret (v := rv) hx hb hr (fun t ht hW => ⟨⟨rfl, by rw [ht]; exact hP, hD⟩, hS.F ht⟩) hS.2.2 d
def p_X8_lineLess (v_now : (Nat → Int32)) : Option (Int32 × (Nat → Int32)) :=
  (if (v_now 0) = (0 : Int32) then (some ((-4 : Int32), v_now)) else (some (((upd v_now 0 ((v_now 0) - (1 : Int32))) 0), (upd v_now 0 ((v_now 0) - (1 : Int32))))))
set_option maxHeartbeats 4000000 in
set_option maxRecDepth 100000 in
theorem c_X8_lineLess (l : Launch) (dC : Nat → ClassId) (dI : Nat → Nat → Nat) (cI cJ cP cS : ClassId) (a0 : Nat) (a1 : Nat) (a2 : Nat) (a3 : Nat) (a4 : Nat) (a5 : Nat) (a6 : Nat) (a7 : Nat) (a8 : Nat) (a9 : Nat) (a10 : Nat) (a11 : Nat) (a12 : Nat) (a13 : Nat) (a14 : Nat) (a15 : Nat) (a16 : Nat) (v_acts : Int32) (v_keptActs : Int32) (v_typed : Int32) (v_isSet : Int32) (v_arePages : Int32) (v_place : Int32) (v_readMany : Int32) (v_now : (Nat → Int32))   (rv : Int32) (v_now_o : (Nat → Int32)) (hf : p_X8_lineLess v_now = some (rv, v_now_o)) : MC l (dC, dI) (tyl cI cJ cP cS) yX8_lineLess (Cond.code yX8_lineLess cX8_lineLess 1 (some .int) :: TBG) ({ frames := 0, cells := 0, slots := 0, locals := 0 } : Room) [.ref a0] [(a0, .inr (8, [.ref a1, .ref a2, .int v_acts, .ref a3, .ref a4, .int v_keptActs, .ref a5, .int v_typed, .ref a6, .ref a7, .ref a8, .ref a9, .ref a10, .int v_isSet, .ref a11, .ref a12, .ref a13, .int v_arePages, .ref a14, .ref a15, .int v_place, .ref a16, .int v_readMany])), (a1, .inl (cI, 189, .inl v_now))] [(a0, .inr (8, [.ref a1, .ref a2, .int v_acts, .ref a3, .ref a4, .int v_keptActs, .ref a5, .int v_typed, .ref a6, .ref a7, .ref a8, .ref a9, .ref a10, .int v_isSet, .ref a11, .ref a12, .ref a13, .int v_arePages, .ref a14, .ref a15, .int v_place, .ref a16, .int v_readMany])), (a1, .inl (cI, 189, .inl v_now_o))] (some (.int rv)) := by
  intro sz
  unfold MPost
  refine Met.ofW (cc := cX8_lineLess) (maxL := 1) (ret := (some .int)) (by decide) rfl ?_
  intro p e s m args below meth c s₁ B hml hv
  obtain ⟨rfl, hsz, hP, hK, hD0, hF⟩ := hv
  have hx := B.exec
  have hb := B.bytes
  have hr := B.returns
  have hT : ∀ w ∈ TBG, w.before _ s = true := fun w h => atoms_spec B.pre w (List.mem_cons_of_mem _ h)
  have hown : s.vm.findClass RX8 = some m.cls := findClass_of_methodNamed B.named
  have hlocks := B.notSynchronized
  subst hsz
  have hD := hD0.self (sz := s.heap.size)
  generalize hAe : va_A [(a0, .inr (8, [.ref a1, .ref a2, .int v_acts, .ref a3, .ref a4, .int v_keptActs, .ref a5, .int v_typed, .ref a6, .ref a7, .ref a8, .ref a9, .ref a10, .int v_isSet, .ref a11, .ref a12, .ref a13, .int v_arePages, .ref a14, .ref a15, .int v_place, .ref a16, .int v_readMany])), (a1, .inl (cI, 189, .inl v_now))] s.heap.size = A at hD hF ⊢
  have hA : ∀ q : Nat, s.heap.size ≤ q → A q := fun q h => by rw [← hAe]; exact Or.inr h
  have hS : va_S A s.heap s.heap [] := va_S.rf
  have hl := lv_entry ([.ref a0]) (n := 1) (Nat.le_of_ble_eq_true rfl)
  rw [lg_entry_eq]
  generalize (lg_sl ([.ref a0]) ++ List.replicate (1 - (lg_sl ([.ref a0])).length) Slot.unset).toArray = ls at hl ⊢
  have hl : lv_has ls 1 [(0, .ref a0)] := hl
  generalize ([.ref a0] : List Value).toArray = args at hT ⊢
  have key : ∀ (Q : State → Prop), (∀ (H : Heap) (locs : List Loc) (ls : Array Slot) (pc : Nat), decode cX8_lineLess pc = .ok (.ireturn, 1) → va_P (dC, dI) vwCl [(a0, .inr (8, [.ref a1, .ref a2, .int v_acts, .ref a3, .ref a4, .int v_keptActs, .ref a5, .int v_typed, .ref a6, .ref a7, .ref a8, .ref a9, .ref a10, .int v_isSet, .ref a11, .ref a12, .ref a13, .int v_arePages, .ref a14, .ref a15, .int v_place, .ref a16, .int v_readMany])), (a1, .inl (cI, 189, .inl v_now_o))] H → va_D A [(a0, .inr (8, [.ref a1, .ref a2, .int v_acts, .ref a3, .ref a4, .int v_keptActs, .ref a5, .int v_typed, .ref a6, .ref a7, .ref a8, .ref a9, .ref a10, .int v_isSet, .ref a11, .ref a12, .ref a13, .int v_arePages, .ref a14, .ref a15, .int v_place, .ref a16, .int v_readMany])), (a1, .inl (cI, 189, .inl v_now_o))] → va_S A s.heap H locs → W p l e ({ frames := 0, cells := 0, slots := 0, locals := 0 } : Room) s m args below meth c H locs 0 0 Q (F0 m pc ls [.int rv])) → ∀ (H : Heap) (locs : List Loc) (ls : Array Slot), va_P (dC, dI) vwCl [(a0, .inr (8, [.ref a1, .ref a2, .int v_acts, .ref a3, .ref a4, .int v_keptActs, .ref a5, .int v_typed, .ref a6, .ref a7, .ref a8, .ref a9, .ref a10, .int v_isSet, .ref a11, .ref a12, .ref a13, .int v_arePages, .ref a14, .ref a15, .int v_place, .ref a16, .int v_readMany])), (a1, .inl (cI, 189, .inl v_now))] H → va_D A [(a0, .inr (8, [.ref a1, .ref a2, .int v_acts, .ref a3, .ref a4, .int v_keptActs, .ref a5, .int v_typed, .ref a6, .ref a7, .ref a8, .ref a9, .ref a10, .int v_isSet, .ref a11, .ref a12, .ref a13, .int v_arePages, .ref a14, .ref a15, .int v_place, .ref a16, .int v_readMany])), (a1, .inl (cI, 189, .inl v_now))] → va_S A s.heap H locs → lv_has ls 1 [(0, .ref a0)] → W p l e ({ frames := 0, cells := 0, slots := 0, locals := 0 } : Room) s m args below meth c H locs 0 0 Q (F0 m 0 ls []) := by
    intro Q hret H locs ls hP hD hS hl
    refine lv_aload_n hx hb dX8_lineLess_0 rfl (lv_at hl 0 rfl) ?_
    refine va_get (D := (dC, dI)) (ci := 8) (v := .ref a1) (C := RX8) (T := TX8) (N := 23) hx hb hT in_X8 hown hK hP 0 rfl rfl 0 (by decide) (hT _ q_fl_X8_7) (fun _ h9 => h9) rfl dX8_lineLess_1 ?_
    refine lv_iconst (v := 0) hx hb dX8_lineLess_4 (by decide) ?_
    refine ia_ld hx hb hK hP 1 0 rfl rfl (ib_in (by decide)) (j := 0) (by decide) dX8_lineLess_5 ?_
    refine lv_if_ne (tgt := 12) hx hb dX8_lineLess_6 (by decide) (fun c1 => ?_) (fun c1 => ?_)
    · replace hf := it_f c1 hf
      refine lv_aload_n hx hb dX8_lineLess_12 rfl (lv_at hl 0 rfl) ?_
      refine va_get (D := (dC, dI)) (ci := 8) (v := .ref a1) (C := RX8) (T := TX8) (N := 23) hx hb hT in_X8 hown hK hP 0 rfl rfl 0 (by decide) (hT _ q_fl_X8_7) (fun _ h9 => h9) rfl dX8_lineLess_13 ?_
      refine lv_iconst (v := 0) hx hb dX8_lineLess_16 (by decide) ?_
      refine lv_dup2_11 hx hb dX8_lineLess_17 rfl rfl ?_
      refine ia_ld hx hb hK hP 1 0 rfl rfl (ib_in (by decide)) (j := 0) (by decide) dX8_lineLess_18 ?_
      refine lv_iconst (v := 1) hx hb dX8_lineLess_19 (by decide) ?_
      refine lv_isub hx hb dX8_lineLess_20 ?_
      refine ia_st hx hb hK hP hD hS 1 0 rfl rfl (ib_in (by decide)) (j := 0) (by decide) dX8_lineLess_21 (fun H locs hP hD hS => ?_)
      have hP : va_P (dC, dI) vwCl [(a0, .inr (8, [.ref a1, .ref a2, .int v_acts, .ref a3, .ref a4, .int v_keptActs, .ref a5, .int v_typed, .ref a6, .ref a7, .ref a8, .ref a9, .ref a10, .int v_isSet, .ref a11, .ref a12, .ref a13, .int v_arePages, .ref a14, .ref a15, .int v_place, .ref a16, .int v_readMany])), (a1, .inl (cI, 189, .inl (upd v_now 0 ((v_now 0) - (1 : Int32)))))] H := hP
      have hD : va_D A [(a0, .inr (8, [.ref a1, .ref a2, .int v_acts, .ref a3, .ref a4, .int v_keptActs, .ref a5, .int v_typed, .ref a6, .ref a7, .ref a8, .ref a9, .ref a10, .int v_isSet, .ref a11, .ref a12, .ref a13, .int v_arePages, .ref a14, .ref a15, .int v_place, .ref a16, .int v_readMany])), (a1, .inl (cI, 189, .inl (upd v_now 0 ((v_now 0) - (1 : Int32)))))] := hD
      refine lv_aload_n hx hb dX8_lineLess_22 rfl (lv_at hl 0 rfl) ?_
      refine va_get (D := (dC, dI)) (ci := 8) (v := .ref a1) (C := RX8) (T := TX8) (N := 23) hx hb hT in_X8 hown hK hP 0 rfl rfl 0 (by decide) (hT _ q_fl_X8_7) (fun _ h9 => h9) rfl dX8_lineLess_23 ?_
      refine lv_iconst (v := 0) hx hb dX8_lineLess_26 (by decide) ?_
      refine ia_ld hx hb hK hP 1 0 rfl rfl (ib_in (by decide)) (j := 0) (by decide) dX8_lineLess_27 ?_
      replace hf := Option.some.inj hf
      simp only [Prod.mk.injEq] at hf
      obtain ⟨hf0, hf1⟩ := hf
      subst hf0; subst hf1
      exact hret H locs ls _ dX8_lineLess_28 hP hD hS
    · replace hf := it_t c1 hf
      refine lv_bipush (v := (-4)) hx hb dX8_lineLess_9 (by decide) ?_
      replace hf := Option.some.inj hf
      simp only [Prod.mk.injEq] at hf
      obtain ⟨hf0, hf1⟩ := hf
      subst hf0; subst hf1
      exact hret H locs ls _ dX8_lineLess_11 hP hD hS
  refine key _ ?_ _ _ _ hP hD hS hl
  intro H locs ls pc d hP hD hS
  exact W.iret (v := rv) hx hb hr (fun t ht hW => ⟨⟨rfl, by rw [ht]; exact hP, hD⟩, hS.F ht⟩) hS.2.2 d
def p_X8_rhymes (v_now : (Nat → Int32)) (x1 : Int32) (x2 : Int32) : Option (Int32 × (Nat → Int32)) :=
  (bd1 (p_X8_isLine v_now x1) fun r_1 => (if r_1 = (0 : Int32) then (some ((-1 : Int32), v_now)) else (bd1 (p_X8_in (Int32.toInt64 x2) (0 : Int64) (3 : Int64)) fun r_4 => (if r_4 = (0 : Int32) then (some ((-1 : Int32), v_now)) else (bd1 (p_X8_at v_now x1 (0 : Int32)) fun r_7 => (gd (ib (((9 : Int32) + ((15 : Int32) * x1)) + (0 : Int32)) 189) (if r_7 = x2 then (some ((-2 : Int32), (upd v_now (tn (((9 : Int32) + ((15 : Int32) * x1)) + (0 : Int32))) x2))) else (some (r_7, (upd v_now (tn (((9 : Int32) + ((15 : Int32) * x1)) + (0 : Int32))) x2))))))))))
set_option maxHeartbeats 4000000 in
set_option maxRecDepth 100000 in
theorem c_X8_rhymes (l : Launch) (dC : Nat → ClassId) (dI : Nat → Nat → Nat) (cI cJ cP cS : ClassId) (a0 : Nat) (a1 : Nat) (a2 : Nat) (a3 : Nat) (a4 : Nat) (a5 : Nat) (a6 : Nat) (a7 : Nat) (a8 : Nat) (a9 : Nat) (a10 : Nat) (a11 : Nat) (a12 : Nat) (a13 : Nat) (a14 : Nat) (a15 : Nat) (a16 : Nat) (v_acts : Int32) (v_keptActs : Int32) (v_typed : Int32) (v_isSet : Int32) (v_arePages : Int32) (v_place : Int32) (v_readMany : Int32) (v_now : (Nat → Int32))  (x1 : Int32) (x2 : Int32) (rv : Int32) (v_now_o : (Nat → Int32)) (hf : p_X8_rhymes v_now x1 x2 = some (rv, v_now_o)) : MC l (dC, dI) (tyl cI cJ cP cS) yX8_rhymes (Cond.code yX8_rhymes cX8_rhymes 4 (some .int) :: TBG) ({ frames := 2, cells := 0, slots := 0, locals := 46 } : Room) [.ref a0, .int x1, .int x2] [(a0, .inr (8, [.ref a1, .ref a2, .int v_acts, .ref a3, .ref a4, .int v_keptActs, .ref a5, .int v_typed, .ref a6, .ref a7, .ref a8, .ref a9, .ref a10, .int v_isSet, .ref a11, .ref a12, .ref a13, .int v_arePages, .ref a14, .ref a15, .int v_place, .ref a16, .int v_readMany])), (a1, .inl (cI, 189, .inl v_now))] [(a0, .inr (8, [.ref a1, .ref a2, .int v_acts, .ref a3, .ref a4, .int v_keptActs, .ref a5, .int v_typed, .ref a6, .ref a7, .ref a8, .ref a9, .ref a10, .int v_isSet, .ref a11, .ref a12, .ref a13, .int v_arePages, .ref a14, .ref a15, .int v_place, .ref a16, .int v_readMany])), (a1, .inl (cI, 189, .inl v_now_o))] (some (.int rv)) := by
  intro sz
  unfold MPost
  refine Met.ofW (cc := cX8_rhymes) (maxL := 4) (ret := (some .int)) (by decide) rfl ?_
  intro p e s m args below meth c s₁ B hml hv
  obtain ⟨rfl, hsz, hP, hK, hD0, hF⟩ := hv
  have hx := B.exec
  have hb := B.bytes
  have hr := B.returns
  have hT : ∀ w ∈ TBG, w.before _ s = true := fun w h => atoms_spec B.pre w (List.mem_cons_of_mem _ h)
  have hown : s.vm.findClass RX8 = some m.cls := findClass_of_methodNamed B.named
  have hlocks := B.notSynchronized
  subst hsz
  have hD := hD0.self (sz := s.heap.size)
  generalize hAe : va_A [(a0, .inr (8, [.ref a1, .ref a2, .int v_acts, .ref a3, .ref a4, .int v_keptActs, .ref a5, .int v_typed, .ref a6, .ref a7, .ref a8, .ref a9, .ref a10, .int v_isSet, .ref a11, .ref a12, .ref a13, .int v_arePages, .ref a14, .ref a15, .int v_place, .ref a16, .int v_readMany])), (a1, .inl (cI, 189, .inl v_now))] s.heap.size = A at hD hF ⊢
  have hA : ∀ q : Nat, s.heap.size ≤ q → A q := fun q h => by rw [← hAe]; exact Or.inr h
  have hS : va_S A s.heap s.heap [] := va_S.rf
  have hl := lv_entry ([.ref a0, .int x1, .int x2]) (n := 4) (Nat.le_of_ble_eq_true rfl)
  rw [lg_entry_eq]
  generalize (lg_sl ([.ref a0, .int x1, .int x2]) ++ List.replicate (4 - (lg_sl ([.ref a0, .int x1, .int x2])).length) Slot.unset).toArray = ls at hl ⊢
  have hl : lv_has ls 4 [(0, .ref a0), (1, .int x1), (2, .int x2)] := hl
  generalize ([.ref a0, .int x1, .int x2] : List Value).toArray = args at hT ⊢
  have key : ∀ (Q : State → Prop), (∀ (H : Heap) (locs : List Loc) (ls : Array Slot) (pc : Nat), decode cX8_rhymes pc = .ok (.ireturn, 1) → va_P (dC, dI) vwCl [(a0, .inr (8, [.ref a1, .ref a2, .int v_acts, .ref a3, .ref a4, .int v_keptActs, .ref a5, .int v_typed, .ref a6, .ref a7, .ref a8, .ref a9, .ref a10, .int v_isSet, .ref a11, .ref a12, .ref a13, .int v_arePages, .ref a14, .ref a15, .int v_place, .ref a16, .int v_readMany])), (a1, .inl (cI, 189, .inl v_now_o))] H → va_D A [(a0, .inr (8, [.ref a1, .ref a2, .int v_acts, .ref a3, .ref a4, .int v_keptActs, .ref a5, .int v_typed, .ref a6, .ref a7, .ref a8, .ref a9, .ref a10, .int v_isSet, .ref a11, .ref a12, .ref a13, .int v_arePages, .ref a14, .ref a15, .int v_place, .ref a16, .int v_readMany])), (a1, .inl (cI, 189, .inl v_now_o))] → va_S A s.heap H locs → W p l e ({ frames := 2, cells := 0, slots := 0, locals := 46 } : Room) s m args below meth c H locs 0 0 Q (F0 m pc ls [.int rv])) → ∀ (H : Heap) (locs : List Loc) (ls : Array Slot), va_P (dC, dI) vwCl [(a0, .inr (8, [.ref a1, .ref a2, .int v_acts, .ref a3, .ref a4, .int v_keptActs, .ref a5, .int v_typed, .ref a6, .ref a7, .ref a8, .ref a9, .ref a10, .int v_isSet, .ref a11, .ref a12, .ref a13, .int v_arePages, .ref a14, .ref a15, .int v_place, .ref a16, .int v_readMany])), (a1, .inl (cI, 189, .inl v_now))] H → va_D A [(a0, .inr (8, [.ref a1, .ref a2, .int v_acts, .ref a3, .ref a4, .int v_keptActs, .ref a5, .int v_typed, .ref a6, .ref a7, .ref a8, .ref a9, .ref a10, .int v_isSet, .ref a11, .ref a12, .ref a13, .int v_arePages, .ref a14, .ref a15, .int v_place, .ref a16, .int v_readMany])), (a1, .inl (cI, 189, .inl v_now))] → va_S A s.heap H locs → lv_has ls 4 [(0, .ref a0), (1, .int x1), (2, .int x2)] → W p l e ({ frames := 2, cells := 0, slots := 0, locals := 46 } : Room) s m args below meth c H locs 0 0 Q (F0 m 0 ls []) := by
    intro Q hret H locs ls hP hD hS hl
    refine lv_aload_n hx hb dX8_rhymes_0 rfl (lv_at hl 0 rfl) ?_
    refine lv_iload_n hx hb dX8_rhymes_1 rfl (lv_at hl 1 rfl) ?_
    obtain ⟨r_1, hq2, hf⟩ := bd1_el hf
    refine mc_V (As := [.int x1]) (rest := []) (wr := []) (wn := [(a0, .inr (8, [.ref a1, .ref a2, .int v_acts, .ref a3, .ref a4, .int v_keptActs, .ref a5, .int v_typed, .ref a6, .ref a7, .ref a8, .ref a9, .ref a10, .int v_isSet, .ref a11, .ref a12, .ref a13, .int v_arePages, .ref a14, .ref a15, .int v_place, .ref a16, .int v_readMany])), (a1, .inl (cI, 189, .inl v_now))]) ⟨hx, hb, hml, hown, hT⟩ (c_X8_isLine l dC dI cI cJ cP cS a0 a1 a2 a3 a4 a5 a6 a7 a8 a9 a10 a11 a12 a13 a14 a15 a16 v_acts v_keptActs v_typed v_isSet v_arePages v_place v_readMany v_now x1 r_1 hq2) (cwV 1 hT (gdV q_ml_X8_144 q_im_X8_isLine q_se_X8_isLine q_in_X8 q_co_X8_isLine) rfl rfl rfl hd_X8_isLine ⟨Nat.le_of_ble_eq_true rfl, Nat.le_of_ble_eq_true rfl⟩) hK hF hP hD hS hA 0 rfl rfl rfl [0, 1] [] [0, 1] rfl (by decide) rfl (by decide) (by decide) rfl (by decide) rfl hl.1 rfl (Nat.le_of_ble_eq_true rfl) dX8_rhymes_2 ⟨Nat.zero_le _, Nat.zero_le _⟩ (fun H locs hP hD hS => ?_)
    refine W.eq (g2 := F0 m 5 ls [.int r_1]) rfl ?_
    refine lv_if_eq (tgt := 20) hx hb dX8_rhymes_5 (by decide) (fun c3 => ?_) (fun c3 => ?_)
    · replace hf := it_t c3 hf
      refine lv_iconst (v := (-1)) hx hb dX8_rhymes_20 (by decide) ?_
      replace hf := Option.some.inj hf
      simp only [Prod.mk.injEq] at hf
      obtain ⟨hf0, hf1⟩ := hf
      subst hf0; subst hf1
      exact hret H locs ls _ dX8_rhymes_21 hP hD hS
    · replace hf := it_f c3 hf
      refine lv_iload_n hx hb dX8_rhymes_8 rfl (lv_at hl 2 rfl) ?_
      refine lv_i2l hx hb dX8_rhymes_9 rfl ?_
      refine lv_lconst (v := 0) hx hb dX8_rhymes_10 (by decide) ?_
      refine lv_ldc2 hx hb hown (hT _ q_kl_X8_150) dX8_rhymes_11 ?_
      obtain ⟨r_4, hq5, hf⟩ := bd1_el hf
      refine mc_S (As := [.long (Int32.toInt64 x2), .long (0 : Int64), .long (3 : Int64)]) (rest := []) (wr := [(a0, .inr (8, [.ref a1, .ref a2, .int v_acts, .ref a3, .ref a4, .int v_keptActs, .ref a5, .int v_typed, .ref a6, .ref a7, .ref a8, .ref a9, .ref a10, .int v_isSet, .ref a11, .ref a12, .ref a13, .int v_arePages, .ref a14, .ref a15, .int v_place, .ref a16, .int v_readMany])), (a1, .inl (cI, 189, .inl v_now))]) (wn := [(a0, .inr (8, [.ref a1, .ref a2, .int v_acts, .ref a3, .ref a4, .int v_keptActs, .ref a5, .int v_typed, .ref a6, .ref a7, .ref a8, .ref a9, .ref a10, .int v_isSet, .ref a11, .ref a12, .ref a13, .int v_arePages, .ref a14, .ref a15, .int v_place, .ref a16, .int v_readMany])), (a1, .inl (cI, 189, .inl v_now))]) ⟨hx, hb, hml, hown, hT⟩ (c_X8_in l dC dI cI cJ cP cS (Int32.toInt64 x2) (0 : Int64) (3 : Int64) r_4 hq5) (va_cwS 3 hT (gdS q_ml_X8_63 q_st_X8_in q_in_X8 q_co_X8_in) rfl rfl rfl hd_X8_in ⟨Nat.le_of_ble_eq_true rfl, Nat.le_of_ble_eq_true rfl⟩) hK hF hP hD hS hA [] [0, 1] [0, 1] rfl (by decide) rfl (by decide) (by decide) rfl (by decide) rfl hl.1 rfl (Nat.le_of_ble_eq_true rfl) dX8_rhymes_14 ⟨Nat.zero_le _, Nat.zero_le _⟩ (fun H locs hP hD hS => ?_)
      refine W.eq (g2 := F0 m 17 ls [.int r_4]) rfl ?_
      refine lv_if_ne (tgt := 22) hx hb dX8_rhymes_17 (by decide) (fun c6 => ?_) (fun c6 => ?_)
      · replace hf := it_f c6 hf
        refine lv_aload_n hx hb dX8_rhymes_22 rfl (lv_at hl 0 rfl) ?_
        refine lv_iload_n hx hb dX8_rhymes_23 rfl (lv_at hl 1 rfl) ?_
        refine lv_iconst (v := 0) hx hb dX8_rhymes_24 (by decide) ?_
        obtain ⟨r_7, hq8, hf⟩ := bd1_el hf
        refine mc_V (As := [.int x1, .int (0 : Int32)]) (rest := []) (wr := []) (wn := [(a0, .inr (8, [.ref a1, .ref a2, .int v_acts, .ref a3, .ref a4, .int v_keptActs, .ref a5, .int v_typed, .ref a6, .ref a7, .ref a8, .ref a9, .ref a10, .int v_isSet, .ref a11, .ref a12, .ref a13, .int v_arePages, .ref a14, .ref a15, .int v_place, .ref a16, .int v_readMany])), (a1, .inl (cI, 189, .inl v_now))]) ⟨hx, hb, hml, hown, hT⟩ (c_X8_at l dC dI cI cJ cP cS a0 a1 a2 a3 a4 a5 a6 a7 a8 a9 a10 a11 a12 a13 a14 a15 a16 v_acts v_keptActs v_typed v_isSet v_arePages v_place v_readMany v_now x1 (0 : Int32) r_7 hq8) (cwV 2 hT (gdV q_ml_X8_67 q_im_X8_at q_se_X8_at q_in_X8 q_co_X8_at) rfl rfl rfl hd_X8_at ⟨Nat.le_of_ble_eq_true rfl, Nat.le_of_ble_eq_true rfl⟩) hK hF hP hD hS hA 0 rfl rfl rfl [0, 1] [] [0, 1] rfl (by decide) rfl (by decide) (by decide) rfl (by decide) rfl hl.1 rfl (Nat.le_of_ble_eq_true rfl) dX8_rhymes_25 ⟨Nat.zero_le _, Nat.zero_le _⟩ (fun H locs hP hD hS => ?_)
        refine W.eq (g2 := F0 m 28 ls [.int r_7]) rfl ?_
        refine lv_istore_n (lv' := [(3, .int r_7), (0, .ref a0), (1, .int x1), (2, .int x2)]) hx hb dX8_rhymes_28 rfl hl (by decide) rfl (fun ls hl => ?_)
        refine lv_aload_n hx hb dX8_rhymes_29 rfl (lv_at hl 1 rfl) ?_
        refine va_get (D := (dC, dI)) (ci := 8) (v := .ref a1) (C := RX8) (T := TX8) (N := 23) hx hb hT in_X8 hown hK hP 0 rfl rfl 0 (by decide) (hT _ q_fl_X8_7) (fun _ h9 => h9) rfl dX8_rhymes_30 ?_
        refine lv_bipush (v := 9) hx hb dX8_rhymes_33 (by decide) ?_
        refine lv_bipush (v := 15) hx hb dX8_rhymes_35 (by decide) ?_
        refine lv_iload_n hx hb dX8_rhymes_37 rfl (lv_at hl 2 rfl) ?_
        refine lv_imul hx hb dX8_rhymes_38 ?_
        refine lv_iadd hx hb dX8_rhymes_39 ?_
        refine lv_iconst (v := 0) hx hb dX8_rhymes_40 (by decide) ?_
        refine lv_iadd hx hb dX8_rhymes_41 ?_
        refine lv_iload_n hx hb dX8_rhymes_42 rfl (lv_at hl 3 rfl) ?_
        obtain ⟨h9, hf⟩ := gd_el hf
        refine ia_st hx hb hK hP hD hS 1 0 rfl rfl (ib_in h9) (j := (tn (((9 : Int32) + ((15 : Int32) * x1)) + (0 : Int32)))) rfl dX8_rhymes_43 (fun H locs hP hD hS => ?_)
        have hP : va_P (dC, dI) vwCl [(a0, .inr (8, [.ref a1, .ref a2, .int v_acts, .ref a3, .ref a4, .int v_keptActs, .ref a5, .int v_typed, .ref a6, .ref a7, .ref a8, .ref a9, .ref a10, .int v_isSet, .ref a11, .ref a12, .ref a13, .int v_arePages, .ref a14, .ref a15, .int v_place, .ref a16, .int v_readMany])), (a1, .inl (cI, 189, .inl (upd v_now (tn (((9 : Int32) + ((15 : Int32) * x1)) + (0 : Int32))) x2)))] H := hP
        have hD : va_D A [(a0, .inr (8, [.ref a1, .ref a2, .int v_acts, .ref a3, .ref a4, .int v_keptActs, .ref a5, .int v_typed, .ref a6, .ref a7, .ref a8, .ref a9, .ref a10, .int v_isSet, .ref a11, .ref a12, .ref a13, .int v_arePages, .ref a14, .ref a15, .int v_place, .ref a16, .int v_readMany])), (a1, .inl (cI, 189, .inl (upd v_now (tn (((9 : Int32) + ((15 : Int32) * x1)) + (0 : Int32))) x2)))] := hD
        refine lv_iload_n hx hb dX8_rhymes_44 rfl (lv_at hl 0 rfl) ?_
        refine lv_iload_n hx hb dX8_rhymes_45 rfl (lv_at hl 3 rfl) ?_
        refine lv_icmp_ne (tgt := 54) hx hb dX8_rhymes_46 (by decide) (fun c10 => ?_) (fun c10 => ?_)
        · replace hf := it_f c10 hf
          refine lv_iload_n hx hb dX8_rhymes_54 rfl (lv_at hl 0 rfl) ?_
          replace hf := Option.some.inj hf
          simp only [Prod.mk.injEq] at hf
          obtain ⟨hf0, hf1⟩ := hf
          subst hf0; subst hf1
          exact hret H locs ls _ dX8_rhymes_55 hP hD hS
        · replace hf := it_t c10 hf
          refine lv_bipush (v := (-2)) hx hb dX8_rhymes_49 (by decide) ?_
          refine lv_goto (tgt := 55) hx hb dX8_rhymes_51 (by decide) ?_
          replace hf := Option.some.inj hf
          simp only [Prod.mk.injEq] at hf
          obtain ⟨hf0, hf1⟩ := hf
          subst hf0; subst hf1
          exact hret H locs ls _ dX8_rhymes_55 hP hD hS
      · replace hf := it_t c6 hf
        refine lv_iconst (v := (-1)) hx hb dX8_rhymes_20 (by decide) ?_
        replace hf := Option.some.inj hf
        simp only [Prod.mk.injEq] at hf
        obtain ⟨hf0, hf1⟩ := hf
        subst hf0; subst hf1
        exact hret H locs ls _ dX8_rhymes_21 hP hD hS
  refine key _ ?_ _ _ _ hP hD hS hl
  intro H locs ls pc d hP hD hS
  exact W.iret (v := rv) hx hb hr (fun t ht hW => ⟨⟨rfl, by rw [ht]; exact hP, hD⟩, hS.F ht⟩) hS.2.2 d
def p_X8_isFit_B98_0 (x1 : Int32) : Option (Int32) :=
  (bd1 (p_X8_in (Int32.toInt64 x1) (0 : Int64) (2 : Int64)) fun r_1 => (gd (b01 r_1) (some r_1)))
def p_X8_isFit (x0 : Int32) (x1 : Int32) : Option (Int32) :=
  (if x0 = (0 : Int32) then (bd1 (p_X8_in (Int32.toInt64 x1) (6 : Int64) (40 : Int64)) fun r_5 => (gd (b01 r_5) (some r_5))) else (if x0 = (1 : Int32) then (bd1 (p_X8_in (Int32.toInt64 x1) (0 : Int64) (4 : Int64)) fun r_9 => (gd (b01 r_9) (some r_9))) else (if x0 = (2 : Int32) then (bd1 (p_X8_in (Int32.toInt64 x1) (0 : Int64) (9 : Int64)) fun r_13 => (gd (b01 r_13) (some r_13))) else (if x0 = (3 : Int32) then (bd1 (p_X8_in (Int32.toInt64 x1) (2 : Int64) (20 : Int64)) fun r_17 => (gd (b01 r_17) (some r_17))) else (if x0 = (4 : Int32) then (bd1 (p_X8_in (Int32.toInt64 x1) (1 : Int64) (3 : Int64)) fun r_21 => (gd (b01 r_21) (some r_21))) else (if x0 = (5 : Int32) then (p_X8_isFit_B98_0 x1) else (if x0 = (6 : Int32) then (p_X8_isFit_B98_0 x1) else (some (0 : Int32)))))))))
set_option maxHeartbeats 4000000 in
set_option maxRecDepth 100000 in
theorem c_X8_isFit (l : Launch) (dC : Nat → ClassId) (dI : Nat → Nat → Nat) (cI cJ cP cS : ClassId)    (x0 : Int32) (x1 : Int32) (rv : Int32)  (hf : p_X8_isFit x0 x1 = some rv) : MC l (dC, dI) (tyl cI cJ cP cS) yX8_isFit (Cond.code yX8_isFit cX8_isFit 2 (some .boolean) :: TBG) ({ frames := 1, cells := 0, slots := 0, locals := 25 } : Room) [.int x0, .int x1] [] [] (some (.int rv)) := by
  intro sz
  unfold MPost
  refine Met.ofW (cc := cX8_isFit) (maxL := 2) (ret := (some .boolean)) (by decide) rfl ?_
  intro p e s m args below meth c s₁ B hml hv
  obtain ⟨rfl, hsz, hP, hK, hD0, hF⟩ := hv
  have hx := B.exec
  have hb := B.bytes
  have hr := B.returns
  have hT : ∀ w ∈ TBG, w.before _ s = true := fun w h => atoms_spec B.pre w (List.mem_cons_of_mem _ h)
  have hown : s.vm.findClass RX8 = some m.cls := findClass_of_methodNamed B.named
  have hlocks := B.notSynchronized
  subst hsz
  have hD := hD0.self (sz := s.heap.size)
  generalize hAe : va_A [] s.heap.size = A at hD hF ⊢
  have hA : ∀ q : Nat, s.heap.size ≤ q → A q := fun q h => by rw [← hAe]; exact Or.inr h
  have hS : va_S A s.heap s.heap [] := va_S.rf
  have hl := lv_entry ([.int x0, .int x1]) (n := 2) (Nat.le_of_ble_eq_true rfl)
  rw [lg_entry_eq]
  generalize (lg_sl ([.int x0, .int x1]) ++ List.replicate (2 - (lg_sl ([.int x0, .int x1])).length) Slot.unset).toArray = ls at hl ⊢
  have hl : lv_has ls 2 [(0, .int x0), (1, .int x1)] := hl
  generalize ([.int x0, .int x1] : List Value).toArray = args at hT ⊢
  have key : ∀ (Q : State → Prop), (∀ (H : Heap) (locs : List Loc) (ls : Array Slot) (pc : Nat), decode cX8_isFit pc = .ok (.ireturn, 1) → narrow .boolean (.int rv) = .int rv → va_P (dC, dI) vwCl [] H → va_D A [] → va_S A s.heap H locs → W p l e ({ frames := 1, cells := 0, slots := 0, locals := 25 } : Room) s m args below meth c H locs 0 0 Q (F0 m pc ls [.int rv])) → ∀ (H : Heap) (locs : List Loc) (ls : Array Slot), va_P (dC, dI) vwCl [] H → va_D A [] → va_S A s.heap H locs → lv_has ls 2 [(0, .int x0), (1, .int x1)] → W p l e ({ frames := 1, cells := 0, slots := 0, locals := 25 } : Room) s m args below meth c H locs 0 0 Q (F0 m 0 ls []) := by
    intro Q hret H locs ls hP hD hS hl
    refine lv_iload_n hx hb dX8_isFit_0 rfl (lv_at hl 0 rfl) ?_
    have hB98_0 : ∀ (_ : Unit), p_X8_isFit_B98_0 x1 = some rv → ∀ (H : Heap) (locs : List Loc) (ls : Array Slot), va_P (dC, dI) vwCl [] H → va_D A [] → va_S A s.heap H locs → lv_has ls 2 [(1, .int x1)] → W p l e ({ frames := 1, cells := 0, slots := 0, locals := 25 } : Room) s m args below meth c H locs 0 0 Q (F0 m 98 ls []) := by
      intro _ hf H locs ls hP hD hS hl
      refine lv_iload_n hx hb dX8_isFit_98 rfl (lv_at hl 0 rfl) ?_
      refine lv_i2l hx hb dX8_isFit_99 rfl ?_
      refine lv_lconst (v := 0) hx hb dX8_isFit_100 (by decide) ?_
      refine lv_ldc2 hx hb hown (hT _ q_kl_X8_139) dX8_isFit_101 ?_
      obtain ⟨r_1, hq2, hf⟩ := bd1_el hf
      refine mc_S (As := [.long (Int32.toInt64 x1), .long (0 : Int64), .long (2 : Int64)]) (rest := []) (wr := []) (wn := []) ⟨hx, hb, hml, hown, hT⟩ (c_X8_in l dC dI cI cJ cP cS (Int32.toInt64 x1) (0 : Int64) (2 : Int64) r_1 hq2) (va_cwS 3 hT (gdS q_ml_X8_63 q_st_X8_in q_in_X8 q_co_X8_in) rfl rfl rfl hd_X8_in ⟨Nat.le_of_ble_eq_true rfl, Nat.le_of_ble_eq_true rfl⟩) hK hF hP hD hS hA [] [] [] rfl (by decide) rfl (by decide) (by decide) rfl (by decide) rfl hl.1 rfl (Nat.le_of_ble_eq_true rfl) dX8_isFit_104 ⟨Nat.zero_le _, Nat.zero_le _⟩ (fun H locs hP hD hS => ?_)
      refine W.eq (g2 := F0 m 107 ls [.int r_1]) rfl ?_
      obtain ⟨h3, hf⟩ := gd_el hf
      replace hf := Option.some.inj hf
      subst hf
      exact hret H locs ls _ dX8_isFit_107 (b01_nar h3) hP hD hS
    by_cases c4 : x0 = (0 : Int32)
    · replace hf := it_t c4 hf
      refine lv_tableIn (tgt := 44) (off := 43) hx hb dX8_isFit_1 (by rw [c4]; decide) (by rw [c4]; decide) (by rw [c4]; rfl) (by decide) ?_
      refine lv_iload_n hx hb dX8_isFit_44 rfl (lv_at hl 1 rfl) ?_
      refine lv_i2l hx hb dX8_isFit_45 rfl ?_
      refine lv_ldc2 hx hb hown (hT _ q_kl_X8_152) dX8_isFit_46 ?_
      refine lv_ldc2 hx hb hown (hT _ q_kl_X8_196) dX8_isFit_49 ?_
      obtain ⟨r_5, hq6, hf⟩ := bd1_el hf
      refine mc_S (As := [.long (Int32.toInt64 x1), .long (6 : Int64), .long (40 : Int64)]) (rest := []) (wr := []) (wn := []) ⟨hx, hb, hml, hown, hT⟩ (c_X8_in l dC dI cI cJ cP cS (Int32.toInt64 x1) (6 : Int64) (40 : Int64) r_5 hq6) (va_cwS 3 hT (gdS q_ml_X8_63 q_st_X8_in q_in_X8 q_co_X8_in) rfl rfl rfl hd_X8_in ⟨Nat.le_of_ble_eq_true rfl, Nat.le_of_ble_eq_true rfl⟩) hK hF hP hD hS hA [] [] [] rfl (by decide) rfl (by decide) (by decide) rfl (by decide) rfl hl.1 rfl (Nat.le_of_ble_eq_true rfl) dX8_isFit_52 ⟨Nat.zero_le _, Nat.zero_le _⟩ (fun H locs hP hD hS => ?_)
      refine W.eq (g2 := F0 m 55 ls [.int r_5]) rfl ?_
      obtain ⟨h7, hf⟩ := gd_el hf
      replace hf := Option.some.inj hf
      subst hf
      exact hret H locs ls _ dX8_isFit_55 (b01_nar h7) hP hD hS
    replace hf := it_f c4 hf
    by_cases c8 : x0 = (1 : Int32)
    · replace hf := it_t c8 hf
      refine lv_tableIn (tgt := 56) (off := 55) hx hb dX8_isFit_1 (by rw [c8]; decide) (by rw [c8]; decide) (by rw [c8]; rfl) (by decide) ?_
      refine lv_iload_n hx hb dX8_isFit_56 rfl (lv_at hl 1 rfl) ?_
      refine lv_i2l hx hb dX8_isFit_57 rfl ?_
      refine lv_lconst (v := 0) hx hb dX8_isFit_58 (by decide) ?_
      refine lv_ldc2 hx hb hown (hT _ q_kl_X8_198) dX8_isFit_59 ?_
      obtain ⟨r_9, hq10, hf⟩ := bd1_el hf
      refine mc_S (As := [.long (Int32.toInt64 x1), .long (0 : Int64), .long (4 : Int64)]) (rest := []) (wr := []) (wn := []) ⟨hx, hb, hml, hown, hT⟩ (c_X8_in l dC dI cI cJ cP cS (Int32.toInt64 x1) (0 : Int64) (4 : Int64) r_9 hq10) (va_cwS 3 hT (gdS q_ml_X8_63 q_st_X8_in q_in_X8 q_co_X8_in) rfl rfl rfl hd_X8_in ⟨Nat.le_of_ble_eq_true rfl, Nat.le_of_ble_eq_true rfl⟩) hK hF hP hD hS hA [] [] [] rfl (by decide) rfl (by decide) (by decide) rfl (by decide) rfl hl.1 rfl (Nat.le_of_ble_eq_true rfl) dX8_isFit_62 ⟨Nat.zero_le _, Nat.zero_le _⟩ (fun H locs hP hD hS => ?_)
      refine W.eq (g2 := F0 m 65 ls [.int r_9]) rfl ?_
      obtain ⟨h11, hf⟩ := gd_el hf
      replace hf := Option.some.inj hf
      subst hf
      exact hret H locs ls _ dX8_isFit_65 (b01_nar h11) hP hD hS
    replace hf := it_f c8 hf
    by_cases c12 : x0 = (2 : Int32)
    · replace hf := it_t c12 hf
      refine lv_tableIn (tgt := 66) (off := 65) hx hb dX8_isFit_1 (by rw [c12]; decide) (by rw [c12]; decide) (by rw [c12]; rfl) (by decide) ?_
      refine lv_iload_n hx hb dX8_isFit_66 rfl (lv_at hl 1 rfl) ?_
      refine lv_i2l hx hb dX8_isFit_67 rfl ?_
      refine lv_lconst (v := 0) hx hb dX8_isFit_68 (by decide) ?_
      refine lv_ldc2 hx hb hown (hT _ q_kl_X8_194) dX8_isFit_69 ?_
      obtain ⟨r_13, hq14, hf⟩ := bd1_el hf
      refine mc_S (As := [.long (Int32.toInt64 x1), .long (0 : Int64), .long (9 : Int64)]) (rest := []) (wr := []) (wn := []) ⟨hx, hb, hml, hown, hT⟩ (c_X8_in l dC dI cI cJ cP cS (Int32.toInt64 x1) (0 : Int64) (9 : Int64) r_13 hq14) (va_cwS 3 hT (gdS q_ml_X8_63 q_st_X8_in q_in_X8 q_co_X8_in) rfl rfl rfl hd_X8_in ⟨Nat.le_of_ble_eq_true rfl, Nat.le_of_ble_eq_true rfl⟩) hK hF hP hD hS hA [] [] [] rfl (by decide) rfl (by decide) (by decide) rfl (by decide) rfl hl.1 rfl (Nat.le_of_ble_eq_true rfl) dX8_isFit_72 ⟨Nat.zero_le _, Nat.zero_le _⟩ (fun H locs hP hD hS => ?_)
      refine W.eq (g2 := F0 m 75 ls [.int r_13]) rfl ?_
      obtain ⟨h15, hf⟩ := gd_el hf
      replace hf := Option.some.inj hf
      subst hf
      exact hret H locs ls _ dX8_isFit_75 (b01_nar h15) hP hD hS
    replace hf := it_f c12 hf
    by_cases c16 : x0 = (3 : Int32)
    · replace hf := it_t c16 hf
      refine lv_tableIn (tgt := 76) (off := 75) hx hb dX8_isFit_1 (by rw [c16]; decide) (by rw [c16]; decide) (by rw [c16]; rfl) (by decide) ?_
      refine lv_iload_n hx hb dX8_isFit_76 rfl (lv_at hl 1 rfl) ?_
      refine lv_i2l hx hb dX8_isFit_77 rfl ?_
      refine lv_ldc2 hx hb hown (hT _ q_kl_X8_139) dX8_isFit_78 ?_
      refine lv_ldc2 hx hb hown (hT _ q_kl_X8_200) dX8_isFit_81 ?_
      obtain ⟨r_17, hq18, hf⟩ := bd1_el hf
      refine mc_S (As := [.long (Int32.toInt64 x1), .long (2 : Int64), .long (20 : Int64)]) (rest := []) (wr := []) (wn := []) ⟨hx, hb, hml, hown, hT⟩ (c_X8_in l dC dI cI cJ cP cS (Int32.toInt64 x1) (2 : Int64) (20 : Int64) r_17 hq18) (va_cwS 3 hT (gdS q_ml_X8_63 q_st_X8_in q_in_X8 q_co_X8_in) rfl rfl rfl hd_X8_in ⟨Nat.le_of_ble_eq_true rfl, Nat.le_of_ble_eq_true rfl⟩) hK hF hP hD hS hA [] [] [] rfl (by decide) rfl (by decide) (by decide) rfl (by decide) rfl hl.1 rfl (Nat.le_of_ble_eq_true rfl) dX8_isFit_84 ⟨Nat.zero_le _, Nat.zero_le _⟩ (fun H locs hP hD hS => ?_)
      refine W.eq (g2 := F0 m 87 ls [.int r_17]) rfl ?_
      obtain ⟨h19, hf⟩ := gd_el hf
      replace hf := Option.some.inj hf
      subst hf
      exact hret H locs ls _ dX8_isFit_87 (b01_nar h19) hP hD hS
    replace hf := it_f c16 hf
    by_cases c20 : x0 = (4 : Int32)
    · replace hf := it_t c20 hf
      refine lv_tableIn (tgt := 88) (off := 87) hx hb dX8_isFit_1 (by rw [c20]; decide) (by rw [c20]; decide) (by rw [c20]; rfl) (by decide) ?_
      refine lv_iload_n hx hb dX8_isFit_88 rfl (lv_at hl 1 rfl) ?_
      refine lv_i2l hx hb dX8_isFit_89 rfl ?_
      refine lv_lconst (v := 1) hx hb dX8_isFit_90 (by decide) ?_
      refine lv_ldc2 hx hb hown (hT _ q_kl_X8_150) dX8_isFit_91 ?_
      obtain ⟨r_21, hq22, hf⟩ := bd1_el hf
      refine mc_S (As := [.long (Int32.toInt64 x1), .long (1 : Int64), .long (3 : Int64)]) (rest := []) (wr := []) (wn := []) ⟨hx, hb, hml, hown, hT⟩ (c_X8_in l dC dI cI cJ cP cS (Int32.toInt64 x1) (1 : Int64) (3 : Int64) r_21 hq22) (va_cwS 3 hT (gdS q_ml_X8_63 q_st_X8_in q_in_X8 q_co_X8_in) rfl rfl rfl hd_X8_in ⟨Nat.le_of_ble_eq_true rfl, Nat.le_of_ble_eq_true rfl⟩) hK hF hP hD hS hA [] [] [] rfl (by decide) rfl (by decide) (by decide) rfl (by decide) rfl hl.1 rfl (Nat.le_of_ble_eq_true rfl) dX8_isFit_94 ⟨Nat.zero_le _, Nat.zero_le _⟩ (fun H locs hP hD hS => ?_)
      refine W.eq (g2 := F0 m 97 ls [.int r_21]) rfl ?_
      obtain ⟨h23, hf⟩ := gd_el hf
      replace hf := Option.some.inj hf
      subst hf
      exact hret H locs ls _ dX8_isFit_97 (b01_nar h23) hP hD hS
    replace hf := it_f c20 hf
    by_cases c24 : x0 = (5 : Int32)
    · replace hf := it_t c24 hf
      refine lv_tableIn (tgt := 98) (off := 97) hx hb dX8_isFit_1 (by rw [c24]; decide) (by rw [c24]; decide) (by rw [c24]; rfl) (by decide) ?_
      exact hB98_0 () hf H locs ls hP hD hS (lv_sub hl [1] rfl)
    replace hf := it_f c24 hf
    by_cases c25 : x0 = (6 : Int32)
    · replace hf := it_t c25 hf
      refine lv_tableIn (tgt := 98) (off := 97) hx hb dX8_isFit_1 (by rw [c25]; decide) (by rw [c25]; decide) (by rw [c25]; rfl) (by decide) ?_
      exact hB98_0 () hf H locs ls hP hD hS (lv_sub hl [1] rfl)
    replace hf := it_f c25 hf
    refine lv_tableOut (tgt := 108) hx hb dX8_isFit_1 (by have ec4 := ne_ti (n := 0) (by decide) c4; have ec8 := ne_ti (n := 1) (by decide) c8; have ec12 := ne_ti (n := 2) (by decide) c12; have ec16 := ne_ti (n := 3) (by decide) c16; have ec20 := ne_ti (n := 4) (by decide) c20; have ec24 := ne_ti (n := 5) (by decide) c24; have ec25 := ne_ti (n := 6) (by decide) c25; omega) (by decide) ?_
    refine lv_iconst (v := 0) hx hb dX8_isFit_108 (by decide) ?_
    replace hf := Option.some.inj hf
    subst hf
    exact hret H locs ls _ dX8_isFit_109 rfl hP hD hS
  refine key _ ?_ _ _ _ hP hD hS hl
  intro H locs ls pc d hz hP hD hS
  exact W.zret (v := rv) hx hb hr hz (fun t ht hW => ⟨⟨rfl, by rw [ht]; exact hP, hD⟩, hS.F ht⟩) hS.2.2 d
def p_X8_tells (v_now : (Nat → Int32)) (x1 : Int32) (x2 : Int32) : Option (Int32 × (Nat → Int32)) :=
  (bd1 (p_X8_isFit x1 x2) fun r_1 => (if r_1 = (0 : Int32) then (some ((-1 : Int32), v_now)) else (gd (ib ((2 : Int32) + x1) 189) (nm (v_now (tn ((2 : Int32) + x1))) fun x3_5 => (gd (ib ((2 : Int32) + x1) 189) (if x3_5 = x2 then (some ((-2 : Int32), (upd v_now (tn ((2 : Int32) + x1)) x2))) else (some (x3_5, (upd v_now (tn ((2 : Int32) + x1)) x2)))))))))
set_option maxHeartbeats 4000000 in
set_option maxRecDepth 100000 in
theorem c_X8_tells (l : Launch) (dC : Nat → ClassId) (dI : Nat → Nat → Nat) (cI cJ cP cS : ClassId) (a0 : Nat) (a1 : Nat) (a2 : Nat) (a3 : Nat) (a4 : Nat) (a5 : Nat) (a6 : Nat) (a7 : Nat) (a8 : Nat) (a9 : Nat) (a10 : Nat) (a11 : Nat) (a12 : Nat) (a13 : Nat) (a14 : Nat) (a15 : Nat) (a16 : Nat) (v_acts : Int32) (v_keptActs : Int32) (v_typed : Int32) (v_isSet : Int32) (v_arePages : Int32) (v_place : Int32) (v_readMany : Int32) (v_now : (Nat → Int32))  (x1 : Int32) (x2 : Int32) (rv : Int32) (v_now_o : (Nat → Int32)) (hf : p_X8_tells v_now x1 x2 = some (rv, v_now_o)) : MC l (dC, dI) (tyl cI cJ cP cS) yX8_tells (Cond.code yX8_tells cX8_tells 4 (some .int) :: TBG) ({ frames := 2, cells := 0, slots := 0, locals := 46 } : Room) [.ref a0, .int x1, .int x2] [(a0, .inr (8, [.ref a1, .ref a2, .int v_acts, .ref a3, .ref a4, .int v_keptActs, .ref a5, .int v_typed, .ref a6, .ref a7, .ref a8, .ref a9, .ref a10, .int v_isSet, .ref a11, .ref a12, .ref a13, .int v_arePages, .ref a14, .ref a15, .int v_place, .ref a16, .int v_readMany])), (a1, .inl (cI, 189, .inl v_now))] [(a0, .inr (8, [.ref a1, .ref a2, .int v_acts, .ref a3, .ref a4, .int v_keptActs, .ref a5, .int v_typed, .ref a6, .ref a7, .ref a8, .ref a9, .ref a10, .int v_isSet, .ref a11, .ref a12, .ref a13, .int v_arePages, .ref a14, .ref a15, .int v_place, .ref a16, .int v_readMany])), (a1, .inl (cI, 189, .inl v_now_o))] (some (.int rv)) := by
  intro sz
  unfold MPost
  refine Met.ofW (cc := cX8_tells) (maxL := 4) (ret := (some .int)) (by decide) rfl ?_
  intro p e s m args below meth c s₁ B hml hv
  obtain ⟨rfl, hsz, hP, hK, hD0, hF⟩ := hv
  have hx := B.exec
  have hb := B.bytes
  have hr := B.returns
  have hT : ∀ w ∈ TBG, w.before _ s = true := fun w h => atoms_spec B.pre w (List.mem_cons_of_mem _ h)
  have hown : s.vm.findClass RX8 = some m.cls := findClass_of_methodNamed B.named
  have hlocks := B.notSynchronized
  subst hsz
  have hD := hD0.self (sz := s.heap.size)
  generalize hAe : va_A [(a0, .inr (8, [.ref a1, .ref a2, .int v_acts, .ref a3, .ref a4, .int v_keptActs, .ref a5, .int v_typed, .ref a6, .ref a7, .ref a8, .ref a9, .ref a10, .int v_isSet, .ref a11, .ref a12, .ref a13, .int v_arePages, .ref a14, .ref a15, .int v_place, .ref a16, .int v_readMany])), (a1, .inl (cI, 189, .inl v_now))] s.heap.size = A at hD hF ⊢
  have hA : ∀ q : Nat, s.heap.size ≤ q → A q := fun q h => by rw [← hAe]; exact Or.inr h
  have hS : va_S A s.heap s.heap [] := va_S.rf
  have hl := lv_entry ([.ref a0, .int x1, .int x2]) (n := 4) (Nat.le_of_ble_eq_true rfl)
  rw [lg_entry_eq]
  generalize (lg_sl ([.ref a0, .int x1, .int x2]) ++ List.replicate (4 - (lg_sl ([.ref a0, .int x1, .int x2])).length) Slot.unset).toArray = ls at hl ⊢
  have hl : lv_has ls 4 [(0, .ref a0), (1, .int x1), (2, .int x2)] := hl
  generalize ([.ref a0, .int x1, .int x2] : List Value).toArray = args at hT ⊢
  have key : ∀ (Q : State → Prop), (∀ (H : Heap) (locs : List Loc) (ls : Array Slot) (pc : Nat), decode cX8_tells pc = .ok (.ireturn, 1) → va_P (dC, dI) vwCl [(a0, .inr (8, [.ref a1, .ref a2, .int v_acts, .ref a3, .ref a4, .int v_keptActs, .ref a5, .int v_typed, .ref a6, .ref a7, .ref a8, .ref a9, .ref a10, .int v_isSet, .ref a11, .ref a12, .ref a13, .int v_arePages, .ref a14, .ref a15, .int v_place, .ref a16, .int v_readMany])), (a1, .inl (cI, 189, .inl v_now_o))] H → va_D A [(a0, .inr (8, [.ref a1, .ref a2, .int v_acts, .ref a3, .ref a4, .int v_keptActs, .ref a5, .int v_typed, .ref a6, .ref a7, .ref a8, .ref a9, .ref a10, .int v_isSet, .ref a11, .ref a12, .ref a13, .int v_arePages, .ref a14, .ref a15, .int v_place, .ref a16, .int v_readMany])), (a1, .inl (cI, 189, .inl v_now_o))] → va_S A s.heap H locs → W p l e ({ frames := 2, cells := 0, slots := 0, locals := 46 } : Room) s m args below meth c H locs 0 0 Q (F0 m pc ls [.int rv])) → ∀ (H : Heap) (locs : List Loc) (ls : Array Slot), va_P (dC, dI) vwCl [(a0, .inr (8, [.ref a1, .ref a2, .int v_acts, .ref a3, .ref a4, .int v_keptActs, .ref a5, .int v_typed, .ref a6, .ref a7, .ref a8, .ref a9, .ref a10, .int v_isSet, .ref a11, .ref a12, .ref a13, .int v_arePages, .ref a14, .ref a15, .int v_place, .ref a16, .int v_readMany])), (a1, .inl (cI, 189, .inl v_now))] H → va_D A [(a0, .inr (8, [.ref a1, .ref a2, .int v_acts, .ref a3, .ref a4, .int v_keptActs, .ref a5, .int v_typed, .ref a6, .ref a7, .ref a8, .ref a9, .ref a10, .int v_isSet, .ref a11, .ref a12, .ref a13, .int v_arePages, .ref a14, .ref a15, .int v_place, .ref a16, .int v_readMany])), (a1, .inl (cI, 189, .inl v_now))] → va_S A s.heap H locs → lv_has ls 4 [(0, .ref a0), (1, .int x1), (2, .int x2)] → W p l e ({ frames := 2, cells := 0, slots := 0, locals := 46 } : Room) s m args below meth c H locs 0 0 Q (F0 m 0 ls []) := by
    intro Q hret H locs ls hP hD hS hl
    refine lv_iload_n hx hb dX8_tells_0 rfl (lv_at hl 1 rfl) ?_
    refine lv_iload_n hx hb dX8_tells_1 rfl (lv_at hl 2 rfl) ?_
    obtain ⟨r_1, hq2, hf⟩ := bd1_el hf
    refine mc_S (As := [.int x1, .int x2]) (rest := []) (wr := [(a0, .inr (8, [.ref a1, .ref a2, .int v_acts, .ref a3, .ref a4, .int v_keptActs, .ref a5, .int v_typed, .ref a6, .ref a7, .ref a8, .ref a9, .ref a10, .int v_isSet, .ref a11, .ref a12, .ref a13, .int v_arePages, .ref a14, .ref a15, .int v_place, .ref a16, .int v_readMany])), (a1, .inl (cI, 189, .inl v_now))]) (wn := [(a0, .inr (8, [.ref a1, .ref a2, .int v_acts, .ref a3, .ref a4, .int v_keptActs, .ref a5, .int v_typed, .ref a6, .ref a7, .ref a8, .ref a9, .ref a10, .int v_isSet, .ref a11, .ref a12, .ref a13, .int v_arePages, .ref a14, .ref a15, .int v_place, .ref a16, .int v_readMany])), (a1, .inl (cI, 189, .inl v_now))]) ⟨hx, hb, hml, hown, hT⟩ (c_X8_isFit l dC dI cI cJ cP cS x1 x2 r_1 hq2) (va_cwS 2 hT (gdS q_ml_X8_202 q_st_X8_isFit q_in_X8 q_co_X8_isFit) rfl rfl rfl hd_X8_isFit ⟨Nat.le_of_ble_eq_true rfl, Nat.le_of_ble_eq_true rfl⟩) hK hF hP hD hS hA [] [0, 1] [0, 1] rfl (by decide) rfl (by decide) (by decide) rfl (by decide) rfl hl.1 rfl (Nat.le_of_ble_eq_true rfl) dX8_tells_2 ⟨Nat.zero_le _, Nat.zero_le _⟩ (fun H locs hP hD hS => ?_)
    refine W.eq (g2 := F0 m 5 ls [.int r_1]) rfl ?_
    refine lv_if_ne (tgt := 10) hx hb dX8_tells_5 (by decide) (fun c3 => ?_) (fun c3 => ?_)
    · replace hf := it_f c3 hf
      refine lv_aload_n hx hb dX8_tells_10 rfl (lv_at hl 0 rfl) ?_
      refine va_get (D := (dC, dI)) (ci := 8) (v := .ref a1) (C := RX8) (T := TX8) (N := 23) hx hb hT in_X8 hown hK hP 0 rfl rfl 0 (by decide) (hT _ q_fl_X8_7) (fun _ h9 => h9) rfl dX8_tells_11 ?_
      refine lv_iconst (v := 2) hx hb dX8_tells_14 (by decide) ?_
      refine lv_iload_n hx hb dX8_tells_15 rfl (lv_at hl 1 rfl) ?_
      refine lv_iadd hx hb dX8_tells_16 ?_
      obtain ⟨h4, hf⟩ := gd_el hf
      refine ia_ld hx hb hK hP 1 0 rfl rfl (ib_in h4) (j := (tn ((2 : Int32) + x1))) rfl dX8_tells_17 ?_
      obtain ⟨x3_5, ex3_5, hf⟩ := nm_el hf
      refine lv_as (congrArg Value.int ex3_5) ?_
      refine lv_istore_n (lv' := [(3, .int x3_5), (0, .ref a0), (1, .int x1), (2, .int x2)]) hx hb dX8_tells_18 rfl hl (by decide) rfl (fun ls hl => ?_)
      refine lv_aload_n hx hb dX8_tells_19 rfl (lv_at hl 1 rfl) ?_
      refine va_get (D := (dC, dI)) (ci := 8) (v := .ref a1) (C := RX8) (T := TX8) (N := 23) hx hb hT in_X8 hown hK hP 0 rfl rfl 0 (by decide) (hT _ q_fl_X8_7) (fun _ h9 => h9) rfl dX8_tells_20 ?_
      refine lv_iconst (v := 2) hx hb dX8_tells_23 (by decide) ?_
      refine lv_iload_n hx hb dX8_tells_24 rfl (lv_at hl 2 rfl) ?_
      refine lv_iadd hx hb dX8_tells_25 ?_
      refine lv_iload_n hx hb dX8_tells_26 rfl (lv_at hl 3 rfl) ?_
      obtain ⟨h6, hf⟩ := gd_el hf
      refine ia_st hx hb hK hP hD hS 1 0 rfl rfl (ib_in h6) (j := (tn ((2 : Int32) + x1))) rfl dX8_tells_27 (fun H locs hP hD hS => ?_)
      have hP : va_P (dC, dI) vwCl [(a0, .inr (8, [.ref a1, .ref a2, .int v_acts, .ref a3, .ref a4, .int v_keptActs, .ref a5, .int v_typed, .ref a6, .ref a7, .ref a8, .ref a9, .ref a10, .int v_isSet, .ref a11, .ref a12, .ref a13, .int v_arePages, .ref a14, .ref a15, .int v_place, .ref a16, .int v_readMany])), (a1, .inl (cI, 189, .inl (upd v_now (tn ((2 : Int32) + x1)) x2)))] H := hP
      have hD : va_D A [(a0, .inr (8, [.ref a1, .ref a2, .int v_acts, .ref a3, .ref a4, .int v_keptActs, .ref a5, .int v_typed, .ref a6, .ref a7, .ref a8, .ref a9, .ref a10, .int v_isSet, .ref a11, .ref a12, .ref a13, .int v_arePages, .ref a14, .ref a15, .int v_place, .ref a16, .int v_readMany])), (a1, .inl (cI, 189, .inl (upd v_now (tn ((2 : Int32) + x1)) x2)))] := hD
      refine lv_iload_n hx hb dX8_tells_28 rfl (lv_at hl 0 rfl) ?_
      refine lv_iload_n hx hb dX8_tells_29 rfl (lv_at hl 3 rfl) ?_
      refine lv_icmp_ne (tgt := 38) hx hb dX8_tells_30 (by decide) (fun c7 => ?_) (fun c7 => ?_)
      · replace hf := it_f c7 hf
        refine lv_iload_n hx hb dX8_tells_38 rfl (lv_at hl 0 rfl) ?_
        replace hf := Option.some.inj hf
        simp only [Prod.mk.injEq] at hf
        obtain ⟨hf0, hf1⟩ := hf
        subst hf0; subst hf1
        exact hret H locs ls _ dX8_tells_39 hP hD hS
      · replace hf := it_t c7 hf
        refine lv_bipush (v := (-2)) hx hb dX8_tells_33 (by decide) ?_
        refine lv_goto (tgt := 39) hx hb dX8_tells_35 (by decide) ?_
        replace hf := Option.some.inj hf
        simp only [Prod.mk.injEq] at hf
        obtain ⟨hf0, hf1⟩ := hf
        subst hf0; subst hf1
        exact hret H locs ls _ dX8_tells_39 hP hD hS
    · replace hf := it_t c3 hf
      refine lv_iconst (v := (-1)) hx hb dX8_tells_8 (by decide) ?_
      replace hf := Option.some.inj hf
      simp only [Prod.mk.injEq] at hf
      obtain ⟨hf0, hf1⟩ := hf
      subst hf0; subst hf1
      exact hret H locs ls _ dX8_tells_9 hP hD hS
  refine key _ ?_ _ _ _ hP hD hS hl
  intro H locs ls pc d hP hD hS
  exact W.iret (v := rv) hx hb hr (fun t ht hW => ⟨⟨rfl, by rw [ht]; exact hP, hD⟩, hS.F ht⟩) hS.2.2 d
def p_X8_line (v_acts : Int32) (v_now : (Nat → Int32)) (v_past : (Nat → Int32)) (v_first : (Nat → Int32)) (x1 : Int32) (x2 : Int32) : Option (Int32 × Int32 × (Nat → Int32) × (Nat → Int32) × (Nat → Int32)) :=
  (bd1 (p_X8_starts v_now v_first) fun v_first_1 => (bd2 (p_X8_lineMore v_now x1 x2) fun r_3 v_now_4 => (bd3 (p_X8_done v_acts v_past v_first_1 r_3) fun r_6 v_acts_7 v_past_8 => (some (r_6, v_acts_7, v_now_4, v_past_8, v_first_1)))))
set_option maxHeartbeats 4000000 in
set_option maxRecDepth 100000 in
theorem c_X8_line (l : Launch) (dC : Nat → ClassId) (dI : Nat → Nat → Nat) (cI cJ cP cS : ClassId) (a0 : Nat) (a1 : Nat) (a2 : Nat) (a3 : Nat) (a4 : Nat) (a5 : Nat) (a6 : Nat) (a7 : Nat) (a8 : Nat) (a9 : Nat) (a10 : Nat) (a11 : Nat) (a12 : Nat) (a13 : Nat) (a14 : Nat) (a15 : Nat) (a16 : Nat) (v_acts : Int32) (v_keptActs : Int32) (v_typed : Int32) (v_isSet : Int32) (v_arePages : Int32) (v_place : Int32) (v_readMany : Int32) (v_now : (Nat → Int32)) (v_past : (Nat → Int32)) (v_first : (Nat → Int32))  (x1 : Int32) (x2 : Int32) (rv : Int32) (v_acts_o : Int32) (v_now_o : (Nat → Int32)) (v_past_o : (Nat → Int32)) (v_first_o : (Nat → Int32)) (hf : p_X8_line v_acts v_now v_past v_first x1 x2 = some (rv, v_acts_o, v_now_o, v_past_o, v_first_o)) : MC l (dC, dI) (tyl cI cJ cP cS) yX8_line (Cond.code yX8_line cX8_line 3 (some .int) :: TBG) ({ frames := 2, cells := 0, slots := 0, locals := 49 } : Room) [.ref a0, .int x1, .int x2] [(a0, .inr (8, [.ref a1, .ref a2, .int v_acts, .ref a3, .ref a4, .int v_keptActs, .ref a5, .int v_typed, .ref a6, .ref a7, .ref a8, .ref a9, .ref a10, .int v_isSet, .ref a11, .ref a12, .ref a13, .int v_arePages, .ref a14, .ref a15, .int v_place, .ref a16, .int v_readMany])), (a1, .inl (cI, 189, .inl v_now)), (a2, .inl (cI, 1134, .inl v_past)), (a15, .inl (cI, 189, .inl v_first))] [(a0, .inr (8, [.ref a1, .ref a2, .int v_acts_o, .ref a3, .ref a4, .int v_keptActs, .ref a5, .int v_typed, .ref a6, .ref a7, .ref a8, .ref a9, .ref a10, .int v_isSet, .ref a11, .ref a12, .ref a13, .int v_arePages, .ref a14, .ref a15, .int v_place, .ref a16, .int v_readMany])), (a1, .inl (cI, 189, .inl v_now_o)), (a2, .inl (cI, 1134, .inl v_past_o)), (a15, .inl (cI, 189, .inl v_first_o))] (some (.int rv)) := by
  intro sz
  unfold MPost
  refine Met.ofW (cc := cX8_line) (maxL := 3) (ret := (some .int)) (by decide) rfl ?_
  intro p e s m args below meth c s₁ B hml hv
  obtain ⟨rfl, hsz, hP, hK, hD0, hF⟩ := hv
  have hx := B.exec
  have hb := B.bytes
  have hr := B.returns
  have hT : ∀ w ∈ TBG, w.before _ s = true := fun w h => atoms_spec B.pre w (List.mem_cons_of_mem _ h)
  have hown : s.vm.findClass RX8 = some m.cls := findClass_of_methodNamed B.named
  have hlocks := B.notSynchronized
  subst hsz
  have hD := hD0.self (sz := s.heap.size)
  generalize hAe : va_A [(a0, .inr (8, [.ref a1, .ref a2, .int v_acts, .ref a3, .ref a4, .int v_keptActs, .ref a5, .int v_typed, .ref a6, .ref a7, .ref a8, .ref a9, .ref a10, .int v_isSet, .ref a11, .ref a12, .ref a13, .int v_arePages, .ref a14, .ref a15, .int v_place, .ref a16, .int v_readMany])), (a1, .inl (cI, 189, .inl v_now)), (a2, .inl (cI, 1134, .inl v_past)), (a15, .inl (cI, 189, .inl v_first))] s.heap.size = A at hD hF ⊢
  have hA : ∀ q : Nat, s.heap.size ≤ q → A q := fun q h => by rw [← hAe]; exact Or.inr h
  have hS : va_S A s.heap s.heap [] := va_S.rf
  have hl := lv_entry ([.ref a0, .int x1, .int x2]) (n := 3) (Nat.le_of_ble_eq_true rfl)
  rw [lg_entry_eq]
  generalize (lg_sl ([.ref a0, .int x1, .int x2]) ++ List.replicate (3 - (lg_sl ([.ref a0, .int x1, .int x2])).length) Slot.unset).toArray = ls at hl ⊢
  have hl : lv_has ls 3 [(0, .ref a0), (1, .int x1), (2, .int x2)] := hl
  generalize ([.ref a0, .int x1, .int x2] : List Value).toArray = args at hT ⊢
  have key : ∀ (Q : State → Prop), (∀ (H : Heap) (locs : List Loc) (ls : Array Slot) (pc : Nat), decode cX8_line pc = .ok (.ireturn, 1) → va_P (dC, dI) vwCl [(a0, .inr (8, [.ref a1, .ref a2, .int v_acts_o, .ref a3, .ref a4, .int v_keptActs, .ref a5, .int v_typed, .ref a6, .ref a7, .ref a8, .ref a9, .ref a10, .int v_isSet, .ref a11, .ref a12, .ref a13, .int v_arePages, .ref a14, .ref a15, .int v_place, .ref a16, .int v_readMany])), (a1, .inl (cI, 189, .inl v_now_o)), (a2, .inl (cI, 1134, .inl v_past_o)), (a15, .inl (cI, 189, .inl v_first_o))] H → va_D A [(a0, .inr (8, [.ref a1, .ref a2, .int v_acts_o, .ref a3, .ref a4, .int v_keptActs, .ref a5, .int v_typed, .ref a6, .ref a7, .ref a8, .ref a9, .ref a10, .int v_isSet, .ref a11, .ref a12, .ref a13, .int v_arePages, .ref a14, .ref a15, .int v_place, .ref a16, .int v_readMany])), (a1, .inl (cI, 189, .inl v_now_o)), (a2, .inl (cI, 1134, .inl v_past_o)), (a15, .inl (cI, 189, .inl v_first_o))] → va_S A s.heap H locs → W p l e ({ frames := 2, cells := 0, slots := 0, locals := 49 } : Room) s m args below meth c H locs 0 0 Q (F0 m pc ls [.int rv])) → ∀ (H : Heap) (locs : List Loc) (ls : Array Slot), va_P (dC, dI) vwCl [(a0, .inr (8, [.ref a1, .ref a2, .int v_acts, .ref a3, .ref a4, .int v_keptActs, .ref a5, .int v_typed, .ref a6, .ref a7, .ref a8, .ref a9, .ref a10, .int v_isSet, .ref a11, .ref a12, .ref a13, .int v_arePages, .ref a14, .ref a15, .int v_place, .ref a16, .int v_readMany])), (a1, .inl (cI, 189, .inl v_now)), (a2, .inl (cI, 1134, .inl v_past)), (a15, .inl (cI, 189, .inl v_first))] H → va_D A [(a0, .inr (8, [.ref a1, .ref a2, .int v_acts, .ref a3, .ref a4, .int v_keptActs, .ref a5, .int v_typed, .ref a6, .ref a7, .ref a8, .ref a9, .ref a10, .int v_isSet, .ref a11, .ref a12, .ref a13, .int v_arePages, .ref a14, .ref a15, .int v_place, .ref a16, .int v_readMany])), (a1, .inl (cI, 189, .inl v_now)), (a2, .inl (cI, 1134, .inl v_past)), (a15, .inl (cI, 189, .inl v_first))] → va_S A s.heap H locs → lv_has ls 3 [(0, .ref a0), (1, .int x1), (2, .int x2)] → W p l e ({ frames := 2, cells := 0, slots := 0, locals := 49 } : Room) s m args below meth c H locs 0 0 Q (F0 m 0 ls []) := by
    intro Q hret H locs ls hP hD hS hl
    refine lv_aload_n hx hb dX8_line_0 rfl (lv_at hl 0 rfl) ?_
    obtain ⟨v_first_1, hq2, hf⟩ := bd1_el hf
    refine mc_V (As := []) (rest := []) (wr := [(a2, .inl (cI, 1134, .inl v_past))]) (wn := [(a0, .inr (8, [.ref a1, .ref a2, .int v_acts, .ref a3, .ref a4, .int v_keptActs, .ref a5, .int v_typed, .ref a6, .ref a7, .ref a8, .ref a9, .ref a10, .int v_isSet, .ref a11, .ref a12, .ref a13, .int v_arePages, .ref a14, .ref a15, .int v_place, .ref a16, .int v_readMany])), (a1, .inl (cI, 189, .inl v_now)), (a2, .inl (cI, 1134, .inl v_past)), (a15, .inl (cI, 189, .inl v_first_1))]) ⟨hx, hb, hml, hown, hT⟩ (c_X8_starts l dC dI cI cJ cP cS a0 a1 a2 a3 a4 a5 a6 a7 a8 a9 a10 a11 a12 a13 a14 a15 a16 v_acts v_keptActs v_typed v_isSet v_arePages v_place v_readMany v_now v_first v_first_1 hq2) (cwV 0 hT (gdV q_ml_X8_206 q_im_X8_starts q_se_X8_starts q_in_X8 q_co_X8_starts) rfl rfl rfl hd_X8_starts ⟨Nat.le_of_ble_eq_true rfl, Nat.le_of_ble_eq_true rfl⟩) hK hF hP hD hS hA 0 rfl rfl rfl [0, 1, 3] [2] [1, 2, 0, 3] rfl (by decide) rfl (by decide) (by decide) rfl (by decide) rfl hl.1 rfl (Nat.le_of_ble_eq_true rfl) dX8_line_1 ⟨Nat.zero_le _, Nat.zero_le _⟩ (fun H locs hP hD hS => ?_)
    refine W.eq (g2 := F0 m 4 ls []) rfl ?_
    refine lv_aload_n hx hb dX8_line_4 rfl (lv_at hl 0 rfl) ?_
    refine lv_aload_n hx hb dX8_line_5 rfl (lv_at hl 0 rfl) ?_
    refine lv_iload_n hx hb dX8_line_6 rfl (lv_at hl 1 rfl) ?_
    refine lv_iload_n hx hb dX8_line_7 rfl (lv_at hl 2 rfl) ?_
    obtain ⟨r_3, v_now_4, hq5, hf⟩ := bd2_el hf
    refine mc_V (As := [.int x1, .int x2]) (rest := [.ref a0]) (wr := [(a2, .inl (cI, 1134, .inl v_past)), (a15, .inl (cI, 189, .inl v_first_1))]) (wn := [(a0, .inr (8, [.ref a1, .ref a2, .int v_acts, .ref a3, .ref a4, .int v_keptActs, .ref a5, .int v_typed, .ref a6, .ref a7, .ref a8, .ref a9, .ref a10, .int v_isSet, .ref a11, .ref a12, .ref a13, .int v_arePages, .ref a14, .ref a15, .int v_place, .ref a16, .int v_readMany])), (a1, .inl (cI, 189, .inl v_now_4)), (a2, .inl (cI, 1134, .inl v_past)), (a15, .inl (cI, 189, .inl v_first_1))]) ⟨hx, hb, hml, hown, hT⟩ (c_X8_lineMore l dC dI cI cJ cP cS a0 a1 a2 a3 a4 a5 a6 a7 a8 a9 a10 a11 a12 a13 a14 a15 a16 v_acts v_keptActs v_typed v_isSet v_arePages v_place v_readMany v_now x1 x2 r_3 v_now_4 hq5) (cwV 2 hT (gdV q_ml_X8_209 q_im_X8_lineMore q_se_X8_lineMore q_in_X8 q_co_X8_lineMore) rfl rfl rfl hd_X8_lineMore ⟨Nat.le_of_ble_eq_true rfl, Nat.le_of_ble_eq_true rfl⟩) hK hF hP hD hS hA 0 rfl rfl rfl [0, 1] [2, 3] [2, 3, 0, 1] rfl (by decide) rfl (by decide) (by decide) rfl (by decide) rfl hl.1 rfl (Nat.le_of_ble_eq_true rfl) dX8_line_8 ⟨Nat.zero_le _, Nat.zero_le _⟩ (fun H locs hP hD hS => ?_)
    refine W.eq (g2 := F0 m 11 ls [.int r_3, .ref a0]) rfl ?_
    obtain ⟨r_6, v_acts_7, v_past_8, hq9, hf⟩ := bd3_el hf
    refine mc_V (As := [.int r_3]) (rest := []) (wr := [(a1, .inl (cI, 189, .inl v_now_4))]) (wn := [(a0, .inr (8, [.ref a1, .ref a2, .int v_acts_7, .ref a3, .ref a4, .int v_keptActs, .ref a5, .int v_typed, .ref a6, .ref a7, .ref a8, .ref a9, .ref a10, .int v_isSet, .ref a11, .ref a12, .ref a13, .int v_arePages, .ref a14, .ref a15, .int v_place, .ref a16, .int v_readMany])), (a1, .inl (cI, 189, .inl v_now_4)), (a2, .inl (cI, 1134, .inl v_past_8)), (a15, .inl (cI, 189, .inl v_first_1))]) ⟨hx, hb, hml, hown, hT⟩ (c_X8_done l dC dI cI cJ cP cS a0 a1 a2 a3 a4 a5 a6 a7 a8 a9 a10 a11 a12 a13 a14 a15 a16 v_acts v_keptActs v_typed v_isSet v_arePages v_place v_readMany v_past v_first_1 r_3 r_6 v_acts_7 v_past_8 hq9) (cwV 1 hT (gdV q_ml_X8_212 q_im_X8_done q_se_X8_done q_in_X8 q_co_X8_done) rfl rfl rfl hd_X8_done ⟨Nat.le_of_ble_eq_true rfl, Nat.le_of_ble_eq_true rfl⟩) hK hF hP hD hS hA 0 rfl rfl rfl [0, 2, 3] [1] [1, 0, 2, 3] rfl (by decide) rfl (by decide) (by decide) rfl (by decide) rfl hl.1 rfl (Nat.le_of_ble_eq_true rfl) dX8_line_11 ⟨Nat.zero_le _, Nat.zero_le _⟩ (fun H locs hP hD hS => ?_)
    refine W.eq (g2 := F0 m 14 ls [.int r_6]) rfl ?_
    replace hf := Option.some.inj hf
    simp only [Prod.mk.injEq] at hf
    obtain ⟨hf0, hf1, hf2, hf3, hf4⟩ := hf
    subst hf0; subst hf1; subst hf2; subst hf3; subst hf4
    exact hret H locs ls _ dX8_line_14 hP hD hS
  refine key _ ?_ _ _ _ hP hD hS hl
  intro H locs ls pc d hP hD hS
  exact W.iret (v := rv) hx hb hr (fun t ht hW => ⟨⟨rfl, by rw [ht]; exact hP, hD⟩, hS.F ht⟩) hS.2.2 d
def p_X8_word (v_acts : Int32) (v_now : (Nat → Int32)) (v_past : (Nat → Int32)) (v_first : (Nat → Int32)) (x1 : Int32) (x2 : Int32) : Option (Int32 × Int32 × (Nat → Int32) × (Nat → Int32) × (Nat → Int32)) :=
  (bd1 (p_X8_starts v_now v_first) fun v_first_1 => (bd2 (p_X8_wordMore v_now x1 x2) fun r_3 v_now_4 => (bd3 (p_X8_done v_acts v_past v_first_1 r_3) fun r_6 v_acts_7 v_past_8 => (some (r_6, v_acts_7, v_now_4, v_past_8, v_first_1)))))
set_option maxHeartbeats 4000000 in
set_option maxRecDepth 100000 in
theorem c_X8_word (l : Launch) (dC : Nat → ClassId) (dI : Nat → Nat → Nat) (cI cJ cP cS : ClassId) (a0 : Nat) (a1 : Nat) (a2 : Nat) (a3 : Nat) (a4 : Nat) (a5 : Nat) (a6 : Nat) (a7 : Nat) (a8 : Nat) (a9 : Nat) (a10 : Nat) (a11 : Nat) (a12 : Nat) (a13 : Nat) (a14 : Nat) (a15 : Nat) (a16 : Nat) (v_acts : Int32) (v_keptActs : Int32) (v_typed : Int32) (v_isSet : Int32) (v_arePages : Int32) (v_place : Int32) (v_readMany : Int32) (v_now : (Nat → Int32)) (v_past : (Nat → Int32)) (v_first : (Nat → Int32))  (x1 : Int32) (x2 : Int32) (rv : Int32) (v_acts_o : Int32) (v_now_o : (Nat → Int32)) (v_past_o : (Nat → Int32)) (v_first_o : (Nat → Int32)) (hf : p_X8_word v_acts v_now v_past v_first x1 x2 = some (rv, v_acts_o, v_now_o, v_past_o, v_first_o)) : MC l (dC, dI) (tyl cI cJ cP cS) yX8_word (Cond.code yX8_word cX8_word 3 (some .int) :: TBG) ({ frames := 3, cells := 0, slots := 0, locals := 67 } : Room) [.ref a0, .int x1, .int x2] [(a0, .inr (8, [.ref a1, .ref a2, .int v_acts, .ref a3, .ref a4, .int v_keptActs, .ref a5, .int v_typed, .ref a6, .ref a7, .ref a8, .ref a9, .ref a10, .int v_isSet, .ref a11, .ref a12, .ref a13, .int v_arePages, .ref a14, .ref a15, .int v_place, .ref a16, .int v_readMany])), (a1, .inl (cI, 189, .inl v_now)), (a2, .inl (cI, 1134, .inl v_past)), (a15, .inl (cI, 189, .inl v_first))] [(a0, .inr (8, [.ref a1, .ref a2, .int v_acts_o, .ref a3, .ref a4, .int v_keptActs, .ref a5, .int v_typed, .ref a6, .ref a7, .ref a8, .ref a9, .ref a10, .int v_isSet, .ref a11, .ref a12, .ref a13, .int v_arePages, .ref a14, .ref a15, .int v_place, .ref a16, .int v_readMany])), (a1, .inl (cI, 189, .inl v_now_o)), (a2, .inl (cI, 1134, .inl v_past_o)), (a15, .inl (cI, 189, .inl v_first_o))] (some (.int rv)) := by
  intro sz
  unfold MPost
  refine Met.ofW (cc := cX8_word) (maxL := 3) (ret := (some .int)) (by decide) rfl ?_
  intro p e s m args below meth c s₁ B hml hv
  obtain ⟨rfl, hsz, hP, hK, hD0, hF⟩ := hv
  have hx := B.exec
  have hb := B.bytes
  have hr := B.returns
  have hT : ∀ w ∈ TBG, w.before _ s = true := fun w h => atoms_spec B.pre w (List.mem_cons_of_mem _ h)
  have hown : s.vm.findClass RX8 = some m.cls := findClass_of_methodNamed B.named
  have hlocks := B.notSynchronized
  subst hsz
  have hD := hD0.self (sz := s.heap.size)
  generalize hAe : va_A [(a0, .inr (8, [.ref a1, .ref a2, .int v_acts, .ref a3, .ref a4, .int v_keptActs, .ref a5, .int v_typed, .ref a6, .ref a7, .ref a8, .ref a9, .ref a10, .int v_isSet, .ref a11, .ref a12, .ref a13, .int v_arePages, .ref a14, .ref a15, .int v_place, .ref a16, .int v_readMany])), (a1, .inl (cI, 189, .inl v_now)), (a2, .inl (cI, 1134, .inl v_past)), (a15, .inl (cI, 189, .inl v_first))] s.heap.size = A at hD hF ⊢
  have hA : ∀ q : Nat, s.heap.size ≤ q → A q := fun q h => by rw [← hAe]; exact Or.inr h
  have hS : va_S A s.heap s.heap [] := va_S.rf
  have hl := lv_entry ([.ref a0, .int x1, .int x2]) (n := 3) (Nat.le_of_ble_eq_true rfl)
  rw [lg_entry_eq]
  generalize (lg_sl ([.ref a0, .int x1, .int x2]) ++ List.replicate (3 - (lg_sl ([.ref a0, .int x1, .int x2])).length) Slot.unset).toArray = ls at hl ⊢
  have hl : lv_has ls 3 [(0, .ref a0), (1, .int x1), (2, .int x2)] := hl
  generalize ([.ref a0, .int x1, .int x2] : List Value).toArray = args at hT ⊢
  have key : ∀ (Q : State → Prop), (∀ (H : Heap) (locs : List Loc) (ls : Array Slot) (pc : Nat), decode cX8_word pc = .ok (.ireturn, 1) → va_P (dC, dI) vwCl [(a0, .inr (8, [.ref a1, .ref a2, .int v_acts_o, .ref a3, .ref a4, .int v_keptActs, .ref a5, .int v_typed, .ref a6, .ref a7, .ref a8, .ref a9, .ref a10, .int v_isSet, .ref a11, .ref a12, .ref a13, .int v_arePages, .ref a14, .ref a15, .int v_place, .ref a16, .int v_readMany])), (a1, .inl (cI, 189, .inl v_now_o)), (a2, .inl (cI, 1134, .inl v_past_o)), (a15, .inl (cI, 189, .inl v_first_o))] H → va_D A [(a0, .inr (8, [.ref a1, .ref a2, .int v_acts_o, .ref a3, .ref a4, .int v_keptActs, .ref a5, .int v_typed, .ref a6, .ref a7, .ref a8, .ref a9, .ref a10, .int v_isSet, .ref a11, .ref a12, .ref a13, .int v_arePages, .ref a14, .ref a15, .int v_place, .ref a16, .int v_readMany])), (a1, .inl (cI, 189, .inl v_now_o)), (a2, .inl (cI, 1134, .inl v_past_o)), (a15, .inl (cI, 189, .inl v_first_o))] → va_S A s.heap H locs → W p l e ({ frames := 3, cells := 0, slots := 0, locals := 67 } : Room) s m args below meth c H locs 0 0 Q (F0 m pc ls [.int rv])) → ∀ (H : Heap) (locs : List Loc) (ls : Array Slot), va_P (dC, dI) vwCl [(a0, .inr (8, [.ref a1, .ref a2, .int v_acts, .ref a3, .ref a4, .int v_keptActs, .ref a5, .int v_typed, .ref a6, .ref a7, .ref a8, .ref a9, .ref a10, .int v_isSet, .ref a11, .ref a12, .ref a13, .int v_arePages, .ref a14, .ref a15, .int v_place, .ref a16, .int v_readMany])), (a1, .inl (cI, 189, .inl v_now)), (a2, .inl (cI, 1134, .inl v_past)), (a15, .inl (cI, 189, .inl v_first))] H → va_D A [(a0, .inr (8, [.ref a1, .ref a2, .int v_acts, .ref a3, .ref a4, .int v_keptActs, .ref a5, .int v_typed, .ref a6, .ref a7, .ref a8, .ref a9, .ref a10, .int v_isSet, .ref a11, .ref a12, .ref a13, .int v_arePages, .ref a14, .ref a15, .int v_place, .ref a16, .int v_readMany])), (a1, .inl (cI, 189, .inl v_now)), (a2, .inl (cI, 1134, .inl v_past)), (a15, .inl (cI, 189, .inl v_first))] → va_S A s.heap H locs → lv_has ls 3 [(0, .ref a0), (1, .int x1), (2, .int x2)] → W p l e ({ frames := 3, cells := 0, slots := 0, locals := 67 } : Room) s m args below meth c H locs 0 0 Q (F0 m 0 ls []) := by
    intro Q hret H locs ls hP hD hS hl
    refine lv_aload_n hx hb dX8_word_0 rfl (lv_at hl 0 rfl) ?_
    obtain ⟨v_first_1, hq2, hf⟩ := bd1_el hf
    refine mc_V (As := []) (rest := []) (wr := [(a2, .inl (cI, 1134, .inl v_past))]) (wn := [(a0, .inr (8, [.ref a1, .ref a2, .int v_acts, .ref a3, .ref a4, .int v_keptActs, .ref a5, .int v_typed, .ref a6, .ref a7, .ref a8, .ref a9, .ref a10, .int v_isSet, .ref a11, .ref a12, .ref a13, .int v_arePages, .ref a14, .ref a15, .int v_place, .ref a16, .int v_readMany])), (a1, .inl (cI, 189, .inl v_now)), (a2, .inl (cI, 1134, .inl v_past)), (a15, .inl (cI, 189, .inl v_first_1))]) ⟨hx, hb, hml, hown, hT⟩ (c_X8_starts l dC dI cI cJ cP cS a0 a1 a2 a3 a4 a5 a6 a7 a8 a9 a10 a11 a12 a13 a14 a15 a16 v_acts v_keptActs v_typed v_isSet v_arePages v_place v_readMany v_now v_first v_first_1 hq2) (cwV 0 hT (gdV q_ml_X8_206 q_im_X8_starts q_se_X8_starts q_in_X8 q_co_X8_starts) rfl rfl rfl hd_X8_starts ⟨Nat.le_of_ble_eq_true rfl, Nat.le_of_ble_eq_true rfl⟩) hK hF hP hD hS hA 0 rfl rfl rfl [0, 1, 3] [2] [1, 2, 0, 3] rfl (by decide) rfl (by decide) (by decide) rfl (by decide) rfl hl.1 rfl (Nat.le_of_ble_eq_true rfl) dX8_word_1 ⟨Nat.zero_le _, Nat.zero_le _⟩ (fun H locs hP hD hS => ?_)
    refine W.eq (g2 := F0 m 4 ls []) rfl ?_
    refine lv_aload_n hx hb dX8_word_4 rfl (lv_at hl 0 rfl) ?_
    refine lv_aload_n hx hb dX8_word_5 rfl (lv_at hl 0 rfl) ?_
    refine lv_iload_n hx hb dX8_word_6 rfl (lv_at hl 1 rfl) ?_
    refine lv_iload_n hx hb dX8_word_7 rfl (lv_at hl 2 rfl) ?_
    obtain ⟨r_3, v_now_4, hq5, hf⟩ := bd2_el hf
    refine mc_V (As := [.int x1, .int x2]) (rest := [.ref a0]) (wr := [(a2, .inl (cI, 1134, .inl v_past)), (a15, .inl (cI, 189, .inl v_first_1))]) (wn := [(a0, .inr (8, [.ref a1, .ref a2, .int v_acts, .ref a3, .ref a4, .int v_keptActs, .ref a5, .int v_typed, .ref a6, .ref a7, .ref a8, .ref a9, .ref a10, .int v_isSet, .ref a11, .ref a12, .ref a13, .int v_arePages, .ref a14, .ref a15, .int v_place, .ref a16, .int v_readMany])), (a1, .inl (cI, 189, .inl v_now_4)), (a2, .inl (cI, 1134, .inl v_past)), (a15, .inl (cI, 189, .inl v_first_1))]) ⟨hx, hb, hml, hown, hT⟩ (c_X8_wordMore l dC dI cI cJ cP cS a0 a1 a2 a3 a4 a5 a6 a7 a8 a9 a10 a11 a12 a13 a14 a15 a16 v_acts v_keptActs v_typed v_isSet v_arePages v_place v_readMany v_now x1 x2 r_3 v_now_4 hq5) (cwV 2 hT (gdV q_ml_X8_215 q_im_X8_wordMore q_se_X8_wordMore q_in_X8 q_co_X8_wordMore) rfl rfl rfl hd_X8_wordMore ⟨Nat.le_of_ble_eq_true rfl, Nat.le_of_ble_eq_true rfl⟩) hK hF hP hD hS hA 0 rfl rfl rfl [0, 1] [2, 3] [2, 3, 0, 1] rfl (by decide) rfl (by decide) (by decide) rfl (by decide) rfl hl.1 rfl (Nat.le_of_ble_eq_true rfl) dX8_word_8 ⟨Nat.zero_le _, Nat.zero_le _⟩ (fun H locs hP hD hS => ?_)
    refine W.eq (g2 := F0 m 11 ls [.int r_3, .ref a0]) rfl ?_
    obtain ⟨r_6, v_acts_7, v_past_8, hq9, hf⟩ := bd3_el hf
    refine mc_V (As := [.int r_3]) (rest := []) (wr := [(a1, .inl (cI, 189, .inl v_now_4))]) (wn := [(a0, .inr (8, [.ref a1, .ref a2, .int v_acts_7, .ref a3, .ref a4, .int v_keptActs, .ref a5, .int v_typed, .ref a6, .ref a7, .ref a8, .ref a9, .ref a10, .int v_isSet, .ref a11, .ref a12, .ref a13, .int v_arePages, .ref a14, .ref a15, .int v_place, .ref a16, .int v_readMany])), (a1, .inl (cI, 189, .inl v_now_4)), (a2, .inl (cI, 1134, .inl v_past_8)), (a15, .inl (cI, 189, .inl v_first_1))]) ⟨hx, hb, hml, hown, hT⟩ (c_X8_done l dC dI cI cJ cP cS a0 a1 a2 a3 a4 a5 a6 a7 a8 a9 a10 a11 a12 a13 a14 a15 a16 v_acts v_keptActs v_typed v_isSet v_arePages v_place v_readMany v_past v_first_1 r_3 r_6 v_acts_7 v_past_8 hq9) (cwV 1 hT (gdV q_ml_X8_212 q_im_X8_done q_se_X8_done q_in_X8 q_co_X8_done) rfl rfl rfl hd_X8_done ⟨Nat.le_of_ble_eq_true rfl, Nat.le_of_ble_eq_true rfl⟩) hK hF hP hD hS hA 0 rfl rfl rfl [0, 2, 3] [1] [1, 0, 2, 3] rfl (by decide) rfl (by decide) (by decide) rfl (by decide) rfl hl.1 rfl (Nat.le_of_ble_eq_true rfl) dX8_word_11 ⟨Nat.zero_le _, Nat.zero_le _⟩ (fun H locs hP hD hS => ?_)
    refine W.eq (g2 := F0 m 14 ls [.int r_6]) rfl ?_
    replace hf := Option.some.inj hf
    simp only [Prod.mk.injEq] at hf
    obtain ⟨hf0, hf1, hf2, hf3, hf4⟩ := hf
    subst hf0; subst hf1; subst hf2; subst hf3; subst hf4
    exact hret H locs ls _ dX8_word_14 hP hD hS
  refine key _ ?_ _ _ _ hP hD hS hl
  intro H locs ls pc d hP hD hS
  exact W.iret (v := rv) hx hb hr (fun t ht hW => ⟨⟨rfl, by rw [ht]; exact hP, hD⟩, hS.F ht⟩) hS.2.2 d
def p_X8_drop (v_acts : Int32) (v_now : (Nat → Int32)) (v_past : (Nat → Int32)) (v_first : (Nat → Int32)) : Option (Int32 × Int32 × (Nat → Int32) × (Nat → Int32) × (Nat → Int32)) :=
  (bd1 (p_X8_starts v_now v_first) fun v_first_1 => (bd2 (p_X8_lineLess v_now) fun r_3 v_now_4 => (bd3 (p_X8_done v_acts v_past v_first_1 r_3) fun r_6 v_acts_7 v_past_8 => (some (r_6, v_acts_7, v_now_4, v_past_8, v_first_1)))))
set_option maxHeartbeats 4000000 in
set_option maxRecDepth 100000 in
theorem c_X8_drop (l : Launch) (dC : Nat → ClassId) (dI : Nat → Nat → Nat) (cI cJ cP cS : ClassId) (a0 : Nat) (a1 : Nat) (a2 : Nat) (a3 : Nat) (a4 : Nat) (a5 : Nat) (a6 : Nat) (a7 : Nat) (a8 : Nat) (a9 : Nat) (a10 : Nat) (a11 : Nat) (a12 : Nat) (a13 : Nat) (a14 : Nat) (a15 : Nat) (a16 : Nat) (v_acts : Int32) (v_keptActs : Int32) (v_typed : Int32) (v_isSet : Int32) (v_arePages : Int32) (v_place : Int32) (v_readMany : Int32) (v_now : (Nat → Int32)) (v_past : (Nat → Int32)) (v_first : (Nat → Int32))   (rv : Int32) (v_acts_o : Int32) (v_now_o : (Nat → Int32)) (v_past_o : (Nat → Int32)) (v_first_o : (Nat → Int32)) (hf : p_X8_drop v_acts v_now v_past v_first = some (rv, v_acts_o, v_now_o, v_past_o, v_first_o)) : MC l (dC, dI) (tyl cI cJ cP cS) yX8_drop (Cond.code yX8_drop cX8_drop 1 (some .int) :: TBG) ({ frames := 2, cells := 0, slots := 0, locals := 42 } : Room) [.ref a0] [(a0, .inr (8, [.ref a1, .ref a2, .int v_acts, .ref a3, .ref a4, .int v_keptActs, .ref a5, .int v_typed, .ref a6, .ref a7, .ref a8, .ref a9, .ref a10, .int v_isSet, .ref a11, .ref a12, .ref a13, .int v_arePages, .ref a14, .ref a15, .int v_place, .ref a16, .int v_readMany])), (a1, .inl (cI, 189, .inl v_now)), (a2, .inl (cI, 1134, .inl v_past)), (a15, .inl (cI, 189, .inl v_first))] [(a0, .inr (8, [.ref a1, .ref a2, .int v_acts_o, .ref a3, .ref a4, .int v_keptActs, .ref a5, .int v_typed, .ref a6, .ref a7, .ref a8, .ref a9, .ref a10, .int v_isSet, .ref a11, .ref a12, .ref a13, .int v_arePages, .ref a14, .ref a15, .int v_place, .ref a16, .int v_readMany])), (a1, .inl (cI, 189, .inl v_now_o)), (a2, .inl (cI, 1134, .inl v_past_o)), (a15, .inl (cI, 189, .inl v_first_o))] (some (.int rv)) := by
  intro sz
  unfold MPost
  refine Met.ofW (cc := cX8_drop) (maxL := 1) (ret := (some .int)) (by decide) rfl ?_
  intro p e s m args below meth c s₁ B hml hv
  obtain ⟨rfl, hsz, hP, hK, hD0, hF⟩ := hv
  have hx := B.exec
  have hb := B.bytes
  have hr := B.returns
  have hT : ∀ w ∈ TBG, w.before _ s = true := fun w h => atoms_spec B.pre w (List.mem_cons_of_mem _ h)
  have hown : s.vm.findClass RX8 = some m.cls := findClass_of_methodNamed B.named
  have hlocks := B.notSynchronized
  subst hsz
  have hD := hD0.self (sz := s.heap.size)
  generalize hAe : va_A [(a0, .inr (8, [.ref a1, .ref a2, .int v_acts, .ref a3, .ref a4, .int v_keptActs, .ref a5, .int v_typed, .ref a6, .ref a7, .ref a8, .ref a9, .ref a10, .int v_isSet, .ref a11, .ref a12, .ref a13, .int v_arePages, .ref a14, .ref a15, .int v_place, .ref a16, .int v_readMany])), (a1, .inl (cI, 189, .inl v_now)), (a2, .inl (cI, 1134, .inl v_past)), (a15, .inl (cI, 189, .inl v_first))] s.heap.size = A at hD hF ⊢
  have hA : ∀ q : Nat, s.heap.size ≤ q → A q := fun q h => by rw [← hAe]; exact Or.inr h
  have hS : va_S A s.heap s.heap [] := va_S.rf
  have hl := lv_entry ([.ref a0]) (n := 1) (Nat.le_of_ble_eq_true rfl)
  rw [lg_entry_eq]
  generalize (lg_sl ([.ref a0]) ++ List.replicate (1 - (lg_sl ([.ref a0])).length) Slot.unset).toArray = ls at hl ⊢
  have hl : lv_has ls 1 [(0, .ref a0)] := hl
  generalize ([.ref a0] : List Value).toArray = args at hT ⊢
  have key : ∀ (Q : State → Prop), (∀ (H : Heap) (locs : List Loc) (ls : Array Slot) (pc : Nat), decode cX8_drop pc = .ok (.ireturn, 1) → va_P (dC, dI) vwCl [(a0, .inr (8, [.ref a1, .ref a2, .int v_acts_o, .ref a3, .ref a4, .int v_keptActs, .ref a5, .int v_typed, .ref a6, .ref a7, .ref a8, .ref a9, .ref a10, .int v_isSet, .ref a11, .ref a12, .ref a13, .int v_arePages, .ref a14, .ref a15, .int v_place, .ref a16, .int v_readMany])), (a1, .inl (cI, 189, .inl v_now_o)), (a2, .inl (cI, 1134, .inl v_past_o)), (a15, .inl (cI, 189, .inl v_first_o))] H → va_D A [(a0, .inr (8, [.ref a1, .ref a2, .int v_acts_o, .ref a3, .ref a4, .int v_keptActs, .ref a5, .int v_typed, .ref a6, .ref a7, .ref a8, .ref a9, .ref a10, .int v_isSet, .ref a11, .ref a12, .ref a13, .int v_arePages, .ref a14, .ref a15, .int v_place, .ref a16, .int v_readMany])), (a1, .inl (cI, 189, .inl v_now_o)), (a2, .inl (cI, 1134, .inl v_past_o)), (a15, .inl (cI, 189, .inl v_first_o))] → va_S A s.heap H locs → W p l e ({ frames := 2, cells := 0, slots := 0, locals := 42 } : Room) s m args below meth c H locs 0 0 Q (F0 m pc ls [.int rv])) → ∀ (H : Heap) (locs : List Loc) (ls : Array Slot), va_P (dC, dI) vwCl [(a0, .inr (8, [.ref a1, .ref a2, .int v_acts, .ref a3, .ref a4, .int v_keptActs, .ref a5, .int v_typed, .ref a6, .ref a7, .ref a8, .ref a9, .ref a10, .int v_isSet, .ref a11, .ref a12, .ref a13, .int v_arePages, .ref a14, .ref a15, .int v_place, .ref a16, .int v_readMany])), (a1, .inl (cI, 189, .inl v_now)), (a2, .inl (cI, 1134, .inl v_past)), (a15, .inl (cI, 189, .inl v_first))] H → va_D A [(a0, .inr (8, [.ref a1, .ref a2, .int v_acts, .ref a3, .ref a4, .int v_keptActs, .ref a5, .int v_typed, .ref a6, .ref a7, .ref a8, .ref a9, .ref a10, .int v_isSet, .ref a11, .ref a12, .ref a13, .int v_arePages, .ref a14, .ref a15, .int v_place, .ref a16, .int v_readMany])), (a1, .inl (cI, 189, .inl v_now)), (a2, .inl (cI, 1134, .inl v_past)), (a15, .inl (cI, 189, .inl v_first))] → va_S A s.heap H locs → lv_has ls 1 [(0, .ref a0)] → W p l e ({ frames := 2, cells := 0, slots := 0, locals := 42 } : Room) s m args below meth c H locs 0 0 Q (F0 m 0 ls []) := by
    intro Q hret H locs ls hP hD hS hl
    refine lv_aload_n hx hb dX8_drop_0 rfl (lv_at hl 0 rfl) ?_
    obtain ⟨v_first_1, hq2, hf⟩ := bd1_el hf
    refine mc_V (As := []) (rest := []) (wr := [(a2, .inl (cI, 1134, .inl v_past))]) (wn := [(a0, .inr (8, [.ref a1, .ref a2, .int v_acts, .ref a3, .ref a4, .int v_keptActs, .ref a5, .int v_typed, .ref a6, .ref a7, .ref a8, .ref a9, .ref a10, .int v_isSet, .ref a11, .ref a12, .ref a13, .int v_arePages, .ref a14, .ref a15, .int v_place, .ref a16, .int v_readMany])), (a1, .inl (cI, 189, .inl v_now)), (a2, .inl (cI, 1134, .inl v_past)), (a15, .inl (cI, 189, .inl v_first_1))]) ⟨hx, hb, hml, hown, hT⟩ (c_X8_starts l dC dI cI cJ cP cS a0 a1 a2 a3 a4 a5 a6 a7 a8 a9 a10 a11 a12 a13 a14 a15 a16 v_acts v_keptActs v_typed v_isSet v_arePages v_place v_readMany v_now v_first v_first_1 hq2) (cwV 0 hT (gdV q_ml_X8_206 q_im_X8_starts q_se_X8_starts q_in_X8 q_co_X8_starts) rfl rfl rfl hd_X8_starts ⟨Nat.le_of_ble_eq_true rfl, Nat.le_of_ble_eq_true rfl⟩) hK hF hP hD hS hA 0 rfl rfl rfl [0, 1, 3] [2] [1, 2, 0, 3] rfl (by decide) rfl (by decide) (by decide) rfl (by decide) rfl hl.1 rfl (Nat.le_of_ble_eq_true rfl) dX8_drop_1 ⟨Nat.zero_le _, Nat.zero_le _⟩ (fun H locs hP hD hS => ?_)
    refine W.eq (g2 := F0 m 4 ls []) rfl ?_
    refine lv_aload_n hx hb dX8_drop_4 rfl (lv_at hl 0 rfl) ?_
    refine lv_aload_n hx hb dX8_drop_5 rfl (lv_at hl 0 rfl) ?_
    obtain ⟨r_3, v_now_4, hq5, hf⟩ := bd2_el hf
    refine mc_V (As := []) (rest := [.ref a0]) (wr := [(a2, .inl (cI, 1134, .inl v_past)), (a15, .inl (cI, 189, .inl v_first_1))]) (wn := [(a0, .inr (8, [.ref a1, .ref a2, .int v_acts, .ref a3, .ref a4, .int v_keptActs, .ref a5, .int v_typed, .ref a6, .ref a7, .ref a8, .ref a9, .ref a10, .int v_isSet, .ref a11, .ref a12, .ref a13, .int v_arePages, .ref a14, .ref a15, .int v_place, .ref a16, .int v_readMany])), (a1, .inl (cI, 189, .inl v_now_4)), (a2, .inl (cI, 1134, .inl v_past)), (a15, .inl (cI, 189, .inl v_first_1))]) ⟨hx, hb, hml, hown, hT⟩ (c_X8_lineLess l dC dI cI cJ cP cS a0 a1 a2 a3 a4 a5 a6 a7 a8 a9 a10 a11 a12 a13 a14 a15 a16 v_acts v_keptActs v_typed v_isSet v_arePages v_place v_readMany v_now r_3 v_now_4 hq5) (cwV 0 hT (gdV q_ml_X8_218 q_im_X8_lineLess q_se_X8_lineLess q_in_X8 q_co_X8_lineLess) rfl rfl rfl hd_X8_lineLess ⟨Nat.le_of_ble_eq_true rfl, Nat.le_of_ble_eq_true rfl⟩) hK hF hP hD hS hA 0 rfl rfl rfl [0, 1] [2, 3] [2, 3, 0, 1] rfl (by decide) rfl (by decide) (by decide) rfl (by decide) rfl hl.1 rfl (Nat.le_of_ble_eq_true rfl) dX8_drop_6 ⟨Nat.zero_le _, Nat.zero_le _⟩ (fun H locs hP hD hS => ?_)
    refine W.eq (g2 := F0 m 9 ls [.int r_3, .ref a0]) rfl ?_
    obtain ⟨r_6, v_acts_7, v_past_8, hq9, hf⟩ := bd3_el hf
    refine mc_V (As := [.int r_3]) (rest := []) (wr := [(a1, .inl (cI, 189, .inl v_now_4))]) (wn := [(a0, .inr (8, [.ref a1, .ref a2, .int v_acts_7, .ref a3, .ref a4, .int v_keptActs, .ref a5, .int v_typed, .ref a6, .ref a7, .ref a8, .ref a9, .ref a10, .int v_isSet, .ref a11, .ref a12, .ref a13, .int v_arePages, .ref a14, .ref a15, .int v_place, .ref a16, .int v_readMany])), (a1, .inl (cI, 189, .inl v_now_4)), (a2, .inl (cI, 1134, .inl v_past_8)), (a15, .inl (cI, 189, .inl v_first_1))]) ⟨hx, hb, hml, hown, hT⟩ (c_X8_done l dC dI cI cJ cP cS a0 a1 a2 a3 a4 a5 a6 a7 a8 a9 a10 a11 a12 a13 a14 a15 a16 v_acts v_keptActs v_typed v_isSet v_arePages v_place v_readMany v_past v_first_1 r_3 r_6 v_acts_7 v_past_8 hq9) (cwV 1 hT (gdV q_ml_X8_212 q_im_X8_done q_se_X8_done q_in_X8 q_co_X8_done) rfl rfl rfl hd_X8_done ⟨Nat.le_of_ble_eq_true rfl, Nat.le_of_ble_eq_true rfl⟩) hK hF hP hD hS hA 0 rfl rfl rfl [0, 2, 3] [1] [1, 0, 2, 3] rfl (by decide) rfl (by decide) (by decide) rfl (by decide) rfl hl.1 rfl (Nat.le_of_ble_eq_true rfl) dX8_drop_9 ⟨Nat.zero_le _, Nat.zero_le _⟩ (fun H locs hP hD hS => ?_)
    refine W.eq (g2 := F0 m 12 ls [.int r_6]) rfl ?_
    replace hf := Option.some.inj hf
    simp only [Prod.mk.injEq] at hf
    obtain ⟨hf0, hf1, hf2, hf3, hf4⟩ := hf
    subst hf0; subst hf1; subst hf2; subst hf3; subst hf4
    exact hret H locs ls _ dX8_drop_12 hP hD hS
  refine key _ ?_ _ _ _ hP hD hS hl
  intro H locs ls pc d hP hD hS
  exact W.iret (v := rv) hx hb hr (fun t ht hW => ⟨⟨rfl, by rw [ht]; exact hP, hD⟩, hS.F ht⟩) hS.2.2 d
def p_X8_rhyme (v_acts : Int32) (v_now : (Nat → Int32)) (v_past : (Nat → Int32)) (v_first : (Nat → Int32)) (x1 : Int32) (x2 : Int32) : Option (Int32 × Int32 × (Nat → Int32) × (Nat → Int32) × (Nat → Int32)) :=
  (bd1 (p_X8_starts v_now v_first) fun v_first_1 => (bd2 (p_X8_rhymes v_now x1 x2) fun r_3 v_now_4 => (bd3 (p_X8_done v_acts v_past v_first_1 r_3) fun r_6 v_acts_7 v_past_8 => (some (r_6, v_acts_7, v_now_4, v_past_8, v_first_1)))))
set_option maxHeartbeats 4000000 in
set_option maxRecDepth 100000 in
theorem c_X8_rhyme (l : Launch) (dC : Nat → ClassId) (dI : Nat → Nat → Nat) (cI cJ cP cS : ClassId) (a0 : Nat) (a1 : Nat) (a2 : Nat) (a3 : Nat) (a4 : Nat) (a5 : Nat) (a6 : Nat) (a7 : Nat) (a8 : Nat) (a9 : Nat) (a10 : Nat) (a11 : Nat) (a12 : Nat) (a13 : Nat) (a14 : Nat) (a15 : Nat) (a16 : Nat) (v_acts : Int32) (v_keptActs : Int32) (v_typed : Int32) (v_isSet : Int32) (v_arePages : Int32) (v_place : Int32) (v_readMany : Int32) (v_now : (Nat → Int32)) (v_past : (Nat → Int32)) (v_first : (Nat → Int32))  (x1 : Int32) (x2 : Int32) (rv : Int32) (v_acts_o : Int32) (v_now_o : (Nat → Int32)) (v_past_o : (Nat → Int32)) (v_first_o : (Nat → Int32)) (hf : p_X8_rhyme v_acts v_now v_past v_first x1 x2 = some (rv, v_acts_o, v_now_o, v_past_o, v_first_o)) : MC l (dC, dI) (tyl cI cJ cP cS) yX8_rhyme (Cond.code yX8_rhyme cX8_rhyme 3 (some .int) :: TBG) ({ frames := 3, cells := 0, slots := 0, locals := 69 } : Room) [.ref a0, .int x1, .int x2] [(a0, .inr (8, [.ref a1, .ref a2, .int v_acts, .ref a3, .ref a4, .int v_keptActs, .ref a5, .int v_typed, .ref a6, .ref a7, .ref a8, .ref a9, .ref a10, .int v_isSet, .ref a11, .ref a12, .ref a13, .int v_arePages, .ref a14, .ref a15, .int v_place, .ref a16, .int v_readMany])), (a1, .inl (cI, 189, .inl v_now)), (a2, .inl (cI, 1134, .inl v_past)), (a15, .inl (cI, 189, .inl v_first))] [(a0, .inr (8, [.ref a1, .ref a2, .int v_acts_o, .ref a3, .ref a4, .int v_keptActs, .ref a5, .int v_typed, .ref a6, .ref a7, .ref a8, .ref a9, .ref a10, .int v_isSet, .ref a11, .ref a12, .ref a13, .int v_arePages, .ref a14, .ref a15, .int v_place, .ref a16, .int v_readMany])), (a1, .inl (cI, 189, .inl v_now_o)), (a2, .inl (cI, 1134, .inl v_past_o)), (a15, .inl (cI, 189, .inl v_first_o))] (some (.int rv)) := by
  intro sz
  unfold MPost
  refine Met.ofW (cc := cX8_rhyme) (maxL := 3) (ret := (some .int)) (by decide) rfl ?_
  intro p e s m args below meth c s₁ B hml hv
  obtain ⟨rfl, hsz, hP, hK, hD0, hF⟩ := hv
  have hx := B.exec
  have hb := B.bytes
  have hr := B.returns
  have hT : ∀ w ∈ TBG, w.before _ s = true := fun w h => atoms_spec B.pre w (List.mem_cons_of_mem _ h)
  have hown : s.vm.findClass RX8 = some m.cls := findClass_of_methodNamed B.named
  have hlocks := B.notSynchronized
  subst hsz
  have hD := hD0.self (sz := s.heap.size)
  generalize hAe : va_A [(a0, .inr (8, [.ref a1, .ref a2, .int v_acts, .ref a3, .ref a4, .int v_keptActs, .ref a5, .int v_typed, .ref a6, .ref a7, .ref a8, .ref a9, .ref a10, .int v_isSet, .ref a11, .ref a12, .ref a13, .int v_arePages, .ref a14, .ref a15, .int v_place, .ref a16, .int v_readMany])), (a1, .inl (cI, 189, .inl v_now)), (a2, .inl (cI, 1134, .inl v_past)), (a15, .inl (cI, 189, .inl v_first))] s.heap.size = A at hD hF ⊢
  have hA : ∀ q : Nat, s.heap.size ≤ q → A q := fun q h => by rw [← hAe]; exact Or.inr h
  have hS : va_S A s.heap s.heap [] := va_S.rf
  have hl := lv_entry ([.ref a0, .int x1, .int x2]) (n := 3) (Nat.le_of_ble_eq_true rfl)
  rw [lg_entry_eq]
  generalize (lg_sl ([.ref a0, .int x1, .int x2]) ++ List.replicate (3 - (lg_sl ([.ref a0, .int x1, .int x2])).length) Slot.unset).toArray = ls at hl ⊢
  have hl : lv_has ls 3 [(0, .ref a0), (1, .int x1), (2, .int x2)] := hl
  generalize ([.ref a0, .int x1, .int x2] : List Value).toArray = args at hT ⊢
  have key : ∀ (Q : State → Prop), (∀ (H : Heap) (locs : List Loc) (ls : Array Slot) (pc : Nat), decode cX8_rhyme pc = .ok (.ireturn, 1) → va_P (dC, dI) vwCl [(a0, .inr (8, [.ref a1, .ref a2, .int v_acts_o, .ref a3, .ref a4, .int v_keptActs, .ref a5, .int v_typed, .ref a6, .ref a7, .ref a8, .ref a9, .ref a10, .int v_isSet, .ref a11, .ref a12, .ref a13, .int v_arePages, .ref a14, .ref a15, .int v_place, .ref a16, .int v_readMany])), (a1, .inl (cI, 189, .inl v_now_o)), (a2, .inl (cI, 1134, .inl v_past_o)), (a15, .inl (cI, 189, .inl v_first_o))] H → va_D A [(a0, .inr (8, [.ref a1, .ref a2, .int v_acts_o, .ref a3, .ref a4, .int v_keptActs, .ref a5, .int v_typed, .ref a6, .ref a7, .ref a8, .ref a9, .ref a10, .int v_isSet, .ref a11, .ref a12, .ref a13, .int v_arePages, .ref a14, .ref a15, .int v_place, .ref a16, .int v_readMany])), (a1, .inl (cI, 189, .inl v_now_o)), (a2, .inl (cI, 1134, .inl v_past_o)), (a15, .inl (cI, 189, .inl v_first_o))] → va_S A s.heap H locs → W p l e ({ frames := 3, cells := 0, slots := 0, locals := 69 } : Room) s m args below meth c H locs 0 0 Q (F0 m pc ls [.int rv])) → ∀ (H : Heap) (locs : List Loc) (ls : Array Slot), va_P (dC, dI) vwCl [(a0, .inr (8, [.ref a1, .ref a2, .int v_acts, .ref a3, .ref a4, .int v_keptActs, .ref a5, .int v_typed, .ref a6, .ref a7, .ref a8, .ref a9, .ref a10, .int v_isSet, .ref a11, .ref a12, .ref a13, .int v_arePages, .ref a14, .ref a15, .int v_place, .ref a16, .int v_readMany])), (a1, .inl (cI, 189, .inl v_now)), (a2, .inl (cI, 1134, .inl v_past)), (a15, .inl (cI, 189, .inl v_first))] H → va_D A [(a0, .inr (8, [.ref a1, .ref a2, .int v_acts, .ref a3, .ref a4, .int v_keptActs, .ref a5, .int v_typed, .ref a6, .ref a7, .ref a8, .ref a9, .ref a10, .int v_isSet, .ref a11, .ref a12, .ref a13, .int v_arePages, .ref a14, .ref a15, .int v_place, .ref a16, .int v_readMany])), (a1, .inl (cI, 189, .inl v_now)), (a2, .inl (cI, 1134, .inl v_past)), (a15, .inl (cI, 189, .inl v_first))] → va_S A s.heap H locs → lv_has ls 3 [(0, .ref a0), (1, .int x1), (2, .int x2)] → W p l e ({ frames := 3, cells := 0, slots := 0, locals := 69 } : Room) s m args below meth c H locs 0 0 Q (F0 m 0 ls []) := by
    intro Q hret H locs ls hP hD hS hl
    refine lv_aload_n hx hb dX8_rhyme_0 rfl (lv_at hl 0 rfl) ?_
    obtain ⟨v_first_1, hq2, hf⟩ := bd1_el hf
    refine mc_V (As := []) (rest := []) (wr := [(a2, .inl (cI, 1134, .inl v_past))]) (wn := [(a0, .inr (8, [.ref a1, .ref a2, .int v_acts, .ref a3, .ref a4, .int v_keptActs, .ref a5, .int v_typed, .ref a6, .ref a7, .ref a8, .ref a9, .ref a10, .int v_isSet, .ref a11, .ref a12, .ref a13, .int v_arePages, .ref a14, .ref a15, .int v_place, .ref a16, .int v_readMany])), (a1, .inl (cI, 189, .inl v_now)), (a2, .inl (cI, 1134, .inl v_past)), (a15, .inl (cI, 189, .inl v_first_1))]) ⟨hx, hb, hml, hown, hT⟩ (c_X8_starts l dC dI cI cJ cP cS a0 a1 a2 a3 a4 a5 a6 a7 a8 a9 a10 a11 a12 a13 a14 a15 a16 v_acts v_keptActs v_typed v_isSet v_arePages v_place v_readMany v_now v_first v_first_1 hq2) (cwV 0 hT (gdV q_ml_X8_206 q_im_X8_starts q_se_X8_starts q_in_X8 q_co_X8_starts) rfl rfl rfl hd_X8_starts ⟨Nat.le_of_ble_eq_true rfl, Nat.le_of_ble_eq_true rfl⟩) hK hF hP hD hS hA 0 rfl rfl rfl [0, 1, 3] [2] [1, 2, 0, 3] rfl (by decide) rfl (by decide) (by decide) rfl (by decide) rfl hl.1 rfl (Nat.le_of_ble_eq_true rfl) dX8_rhyme_1 ⟨Nat.zero_le _, Nat.zero_le _⟩ (fun H locs hP hD hS => ?_)
    refine W.eq (g2 := F0 m 4 ls []) rfl ?_
    refine lv_aload_n hx hb dX8_rhyme_4 rfl (lv_at hl 0 rfl) ?_
    refine lv_aload_n hx hb dX8_rhyme_5 rfl (lv_at hl 0 rfl) ?_
    refine lv_iload_n hx hb dX8_rhyme_6 rfl (lv_at hl 1 rfl) ?_
    refine lv_iload_n hx hb dX8_rhyme_7 rfl (lv_at hl 2 rfl) ?_
    obtain ⟨r_3, v_now_4, hq5, hf⟩ := bd2_el hf
    refine mc_V (As := [.int x1, .int x2]) (rest := [.ref a0]) (wr := [(a2, .inl (cI, 1134, .inl v_past)), (a15, .inl (cI, 189, .inl v_first_1))]) (wn := [(a0, .inr (8, [.ref a1, .ref a2, .int v_acts, .ref a3, .ref a4, .int v_keptActs, .ref a5, .int v_typed, .ref a6, .ref a7, .ref a8, .ref a9, .ref a10, .int v_isSet, .ref a11, .ref a12, .ref a13, .int v_arePages, .ref a14, .ref a15, .int v_place, .ref a16, .int v_readMany])), (a1, .inl (cI, 189, .inl v_now_4)), (a2, .inl (cI, 1134, .inl v_past)), (a15, .inl (cI, 189, .inl v_first_1))]) ⟨hx, hb, hml, hown, hT⟩ (c_X8_rhymes l dC dI cI cJ cP cS a0 a1 a2 a3 a4 a5 a6 a7 a8 a9 a10 a11 a12 a13 a14 a15 a16 v_acts v_keptActs v_typed v_isSet v_arePages v_place v_readMany v_now x1 x2 r_3 v_now_4 hq5) (cwV 2 hT (gdV q_ml_X8_221 q_im_X8_rhymes q_se_X8_rhymes q_in_X8 q_co_X8_rhymes) rfl rfl rfl hd_X8_rhymes ⟨Nat.le_of_ble_eq_true rfl, Nat.le_of_ble_eq_true rfl⟩) hK hF hP hD hS hA 0 rfl rfl rfl [0, 1] [2, 3] [2, 3, 0, 1] rfl (by decide) rfl (by decide) (by decide) rfl (by decide) rfl hl.1 rfl (Nat.le_of_ble_eq_true rfl) dX8_rhyme_8 ⟨Nat.zero_le _, Nat.zero_le _⟩ (fun H locs hP hD hS => ?_)
    refine W.eq (g2 := F0 m 11 ls [.int r_3, .ref a0]) rfl ?_
    obtain ⟨r_6, v_acts_7, v_past_8, hq9, hf⟩ := bd3_el hf
    refine mc_V (As := [.int r_3]) (rest := []) (wr := [(a1, .inl (cI, 189, .inl v_now_4))]) (wn := [(a0, .inr (8, [.ref a1, .ref a2, .int v_acts_7, .ref a3, .ref a4, .int v_keptActs, .ref a5, .int v_typed, .ref a6, .ref a7, .ref a8, .ref a9, .ref a10, .int v_isSet, .ref a11, .ref a12, .ref a13, .int v_arePages, .ref a14, .ref a15, .int v_place, .ref a16, .int v_readMany])), (a1, .inl (cI, 189, .inl v_now_4)), (a2, .inl (cI, 1134, .inl v_past_8)), (a15, .inl (cI, 189, .inl v_first_1))]) ⟨hx, hb, hml, hown, hT⟩ (c_X8_done l dC dI cI cJ cP cS a0 a1 a2 a3 a4 a5 a6 a7 a8 a9 a10 a11 a12 a13 a14 a15 a16 v_acts v_keptActs v_typed v_isSet v_arePages v_place v_readMany v_past v_first_1 r_3 r_6 v_acts_7 v_past_8 hq9) (cwV 1 hT (gdV q_ml_X8_212 q_im_X8_done q_se_X8_done q_in_X8 q_co_X8_done) rfl rfl rfl hd_X8_done ⟨Nat.le_of_ble_eq_true rfl, Nat.le_of_ble_eq_true rfl⟩) hK hF hP hD hS hA 0 rfl rfl rfl [0, 2, 3] [1] [1, 0, 2, 3] rfl (by decide) rfl (by decide) (by decide) rfl (by decide) rfl hl.1 rfl (Nat.le_of_ble_eq_true rfl) dX8_rhyme_11 ⟨Nat.zero_le _, Nat.zero_le _⟩ (fun H locs hP hD hS => ?_)
    refine W.eq (g2 := F0 m 14 ls [.int r_6]) rfl ?_
    replace hf := Option.some.inj hf
    simp only [Prod.mk.injEq] at hf
    obtain ⟨hf0, hf1, hf2, hf3, hf4⟩ := hf
    subst hf0; subst hf1; subst hf2; subst hf3; subst hf4
    exact hret H locs ls _ dX8_rhyme_14 hP hD hS
  refine key _ ?_ _ _ _ hP hD hS hl
  intro H locs ls pc d hP hD hS
  exact W.iret (v := rv) hx hb hr (fun t ht hW => ⟨⟨rfl, by rw [ht]; exact hP, hD⟩, hS.F ht⟩) hS.2.2 d
def p_X8_tell (v_acts : Int32) (v_now : (Nat → Int32)) (v_past : (Nat → Int32)) (v_first : (Nat → Int32)) (x1 : Int32) (x2 : Int32) : Option (Int32 × Int32 × (Nat → Int32) × (Nat → Int32) × (Nat → Int32)) :=
  (bd1 (p_X8_starts v_now v_first) fun v_first_1 => (bd2 (p_X8_tells v_now x1 x2) fun r_3 v_now_4 => (bd3 (p_X8_done v_acts v_past v_first_1 r_3) fun r_6 v_acts_7 v_past_8 => (some (r_6, v_acts_7, v_now_4, v_past_8, v_first_1)))))
set_option maxHeartbeats 4000000 in
set_option maxRecDepth 100000 in
theorem c_X8_tell (l : Launch) (dC : Nat → ClassId) (dI : Nat → Nat → Nat) (cI cJ cP cS : ClassId) (a0 : Nat) (a1 : Nat) (a2 : Nat) (a3 : Nat) (a4 : Nat) (a5 : Nat) (a6 : Nat) (a7 : Nat) (a8 : Nat) (a9 : Nat) (a10 : Nat) (a11 : Nat) (a12 : Nat) (a13 : Nat) (a14 : Nat) (a15 : Nat) (a16 : Nat) (v_acts : Int32) (v_keptActs : Int32) (v_typed : Int32) (v_isSet : Int32) (v_arePages : Int32) (v_place : Int32) (v_readMany : Int32) (v_now : (Nat → Int32)) (v_past : (Nat → Int32)) (v_first : (Nat → Int32))  (x1 : Int32) (x2 : Int32) (rv : Int32) (v_acts_o : Int32) (v_now_o : (Nat → Int32)) (v_past_o : (Nat → Int32)) (v_first_o : (Nat → Int32)) (hf : p_X8_tell v_acts v_now v_past v_first x1 x2 = some (rv, v_acts_o, v_now_o, v_past_o, v_first_o)) : MC l (dC, dI) (tyl cI cJ cP cS) yX8_tell (Cond.code yX8_tell cX8_tell 3 (some .int) :: TBG) ({ frames := 3, cells := 0, slots := 0, locals := 69 } : Room) [.ref a0, .int x1, .int x2] [(a0, .inr (8, [.ref a1, .ref a2, .int v_acts, .ref a3, .ref a4, .int v_keptActs, .ref a5, .int v_typed, .ref a6, .ref a7, .ref a8, .ref a9, .ref a10, .int v_isSet, .ref a11, .ref a12, .ref a13, .int v_arePages, .ref a14, .ref a15, .int v_place, .ref a16, .int v_readMany])), (a1, .inl (cI, 189, .inl v_now)), (a2, .inl (cI, 1134, .inl v_past)), (a15, .inl (cI, 189, .inl v_first))] [(a0, .inr (8, [.ref a1, .ref a2, .int v_acts_o, .ref a3, .ref a4, .int v_keptActs, .ref a5, .int v_typed, .ref a6, .ref a7, .ref a8, .ref a9, .ref a10, .int v_isSet, .ref a11, .ref a12, .ref a13, .int v_arePages, .ref a14, .ref a15, .int v_place, .ref a16, .int v_readMany])), (a1, .inl (cI, 189, .inl v_now_o)), (a2, .inl (cI, 1134, .inl v_past_o)), (a15, .inl (cI, 189, .inl v_first_o))] (some (.int rv)) := by
  intro sz
  unfold MPost
  refine Met.ofW (cc := cX8_tell) (maxL := 3) (ret := (some .int)) (by decide) rfl ?_
  intro p e s m args below meth c s₁ B hml hv
  obtain ⟨rfl, hsz, hP, hK, hD0, hF⟩ := hv
  have hx := B.exec
  have hb := B.bytes
  have hr := B.returns
  have hT : ∀ w ∈ TBG, w.before _ s = true := fun w h => atoms_spec B.pre w (List.mem_cons_of_mem _ h)
  have hown : s.vm.findClass RX8 = some m.cls := findClass_of_methodNamed B.named
  have hlocks := B.notSynchronized
  subst hsz
  have hD := hD0.self (sz := s.heap.size)
  generalize hAe : va_A [(a0, .inr (8, [.ref a1, .ref a2, .int v_acts, .ref a3, .ref a4, .int v_keptActs, .ref a5, .int v_typed, .ref a6, .ref a7, .ref a8, .ref a9, .ref a10, .int v_isSet, .ref a11, .ref a12, .ref a13, .int v_arePages, .ref a14, .ref a15, .int v_place, .ref a16, .int v_readMany])), (a1, .inl (cI, 189, .inl v_now)), (a2, .inl (cI, 1134, .inl v_past)), (a15, .inl (cI, 189, .inl v_first))] s.heap.size = A at hD hF ⊢
  have hA : ∀ q : Nat, s.heap.size ≤ q → A q := fun q h => by rw [← hAe]; exact Or.inr h
  have hS : va_S A s.heap s.heap [] := va_S.rf
  have hl := lv_entry ([.ref a0, .int x1, .int x2]) (n := 3) (Nat.le_of_ble_eq_true rfl)
  rw [lg_entry_eq]
  generalize (lg_sl ([.ref a0, .int x1, .int x2]) ++ List.replicate (3 - (lg_sl ([.ref a0, .int x1, .int x2])).length) Slot.unset).toArray = ls at hl ⊢
  have hl : lv_has ls 3 [(0, .ref a0), (1, .int x1), (2, .int x2)] := hl
  generalize ([.ref a0, .int x1, .int x2] : List Value).toArray = args at hT ⊢
  have key : ∀ (Q : State → Prop), (∀ (H : Heap) (locs : List Loc) (ls : Array Slot) (pc : Nat), decode cX8_tell pc = .ok (.ireturn, 1) → va_P (dC, dI) vwCl [(a0, .inr (8, [.ref a1, .ref a2, .int v_acts_o, .ref a3, .ref a4, .int v_keptActs, .ref a5, .int v_typed, .ref a6, .ref a7, .ref a8, .ref a9, .ref a10, .int v_isSet, .ref a11, .ref a12, .ref a13, .int v_arePages, .ref a14, .ref a15, .int v_place, .ref a16, .int v_readMany])), (a1, .inl (cI, 189, .inl v_now_o)), (a2, .inl (cI, 1134, .inl v_past_o)), (a15, .inl (cI, 189, .inl v_first_o))] H → va_D A [(a0, .inr (8, [.ref a1, .ref a2, .int v_acts_o, .ref a3, .ref a4, .int v_keptActs, .ref a5, .int v_typed, .ref a6, .ref a7, .ref a8, .ref a9, .ref a10, .int v_isSet, .ref a11, .ref a12, .ref a13, .int v_arePages, .ref a14, .ref a15, .int v_place, .ref a16, .int v_readMany])), (a1, .inl (cI, 189, .inl v_now_o)), (a2, .inl (cI, 1134, .inl v_past_o)), (a15, .inl (cI, 189, .inl v_first_o))] → va_S A s.heap H locs → W p l e ({ frames := 3, cells := 0, slots := 0, locals := 69 } : Room) s m args below meth c H locs 0 0 Q (F0 m pc ls [.int rv])) → ∀ (H : Heap) (locs : List Loc) (ls : Array Slot), va_P (dC, dI) vwCl [(a0, .inr (8, [.ref a1, .ref a2, .int v_acts, .ref a3, .ref a4, .int v_keptActs, .ref a5, .int v_typed, .ref a6, .ref a7, .ref a8, .ref a9, .ref a10, .int v_isSet, .ref a11, .ref a12, .ref a13, .int v_arePages, .ref a14, .ref a15, .int v_place, .ref a16, .int v_readMany])), (a1, .inl (cI, 189, .inl v_now)), (a2, .inl (cI, 1134, .inl v_past)), (a15, .inl (cI, 189, .inl v_first))] H → va_D A [(a0, .inr (8, [.ref a1, .ref a2, .int v_acts, .ref a3, .ref a4, .int v_keptActs, .ref a5, .int v_typed, .ref a6, .ref a7, .ref a8, .ref a9, .ref a10, .int v_isSet, .ref a11, .ref a12, .ref a13, .int v_arePages, .ref a14, .ref a15, .int v_place, .ref a16, .int v_readMany])), (a1, .inl (cI, 189, .inl v_now)), (a2, .inl (cI, 1134, .inl v_past)), (a15, .inl (cI, 189, .inl v_first))] → va_S A s.heap H locs → lv_has ls 3 [(0, .ref a0), (1, .int x1), (2, .int x2)] → W p l e ({ frames := 3, cells := 0, slots := 0, locals := 69 } : Room) s m args below meth c H locs 0 0 Q (F0 m 0 ls []) := by
    intro Q hret H locs ls hP hD hS hl
    refine lv_aload_n hx hb dX8_tell_0 rfl (lv_at hl 0 rfl) ?_
    obtain ⟨v_first_1, hq2, hf⟩ := bd1_el hf
    refine mc_V (As := []) (rest := []) (wr := [(a2, .inl (cI, 1134, .inl v_past))]) (wn := [(a0, .inr (8, [.ref a1, .ref a2, .int v_acts, .ref a3, .ref a4, .int v_keptActs, .ref a5, .int v_typed, .ref a6, .ref a7, .ref a8, .ref a9, .ref a10, .int v_isSet, .ref a11, .ref a12, .ref a13, .int v_arePages, .ref a14, .ref a15, .int v_place, .ref a16, .int v_readMany])), (a1, .inl (cI, 189, .inl v_now)), (a2, .inl (cI, 1134, .inl v_past)), (a15, .inl (cI, 189, .inl v_first_1))]) ⟨hx, hb, hml, hown, hT⟩ (c_X8_starts l dC dI cI cJ cP cS a0 a1 a2 a3 a4 a5 a6 a7 a8 a9 a10 a11 a12 a13 a14 a15 a16 v_acts v_keptActs v_typed v_isSet v_arePages v_place v_readMany v_now v_first v_first_1 hq2) (cwV 0 hT (gdV q_ml_X8_206 q_im_X8_starts q_se_X8_starts q_in_X8 q_co_X8_starts) rfl rfl rfl hd_X8_starts ⟨Nat.le_of_ble_eq_true rfl, Nat.le_of_ble_eq_true rfl⟩) hK hF hP hD hS hA 0 rfl rfl rfl [0, 1, 3] [2] [1, 2, 0, 3] rfl (by decide) rfl (by decide) (by decide) rfl (by decide) rfl hl.1 rfl (Nat.le_of_ble_eq_true rfl) dX8_tell_1 ⟨Nat.zero_le _, Nat.zero_le _⟩ (fun H locs hP hD hS => ?_)
    refine W.eq (g2 := F0 m 4 ls []) rfl ?_
    refine lv_aload_n hx hb dX8_tell_4 rfl (lv_at hl 0 rfl) ?_
    refine lv_aload_n hx hb dX8_tell_5 rfl (lv_at hl 0 rfl) ?_
    refine lv_iload_n hx hb dX8_tell_6 rfl (lv_at hl 1 rfl) ?_
    refine lv_iload_n hx hb dX8_tell_7 rfl (lv_at hl 2 rfl) ?_
    obtain ⟨r_3, v_now_4, hq5, hf⟩ := bd2_el hf
    refine mc_V (As := [.int x1, .int x2]) (rest := [.ref a0]) (wr := [(a2, .inl (cI, 1134, .inl v_past)), (a15, .inl (cI, 189, .inl v_first_1))]) (wn := [(a0, .inr (8, [.ref a1, .ref a2, .int v_acts, .ref a3, .ref a4, .int v_keptActs, .ref a5, .int v_typed, .ref a6, .ref a7, .ref a8, .ref a9, .ref a10, .int v_isSet, .ref a11, .ref a12, .ref a13, .int v_arePages, .ref a14, .ref a15, .int v_place, .ref a16, .int v_readMany])), (a1, .inl (cI, 189, .inl v_now_4)), (a2, .inl (cI, 1134, .inl v_past)), (a15, .inl (cI, 189, .inl v_first_1))]) ⟨hx, hb, hml, hown, hT⟩ (c_X8_tells l dC dI cI cJ cP cS a0 a1 a2 a3 a4 a5 a6 a7 a8 a9 a10 a11 a12 a13 a14 a15 a16 v_acts v_keptActs v_typed v_isSet v_arePages v_place v_readMany v_now x1 x2 r_3 v_now_4 hq5) (cwV 2 hT (gdV q_ml_X8_224 q_im_X8_tells q_se_X8_tells q_in_X8 q_co_X8_tells) rfl rfl rfl hd_X8_tells ⟨Nat.le_of_ble_eq_true rfl, Nat.le_of_ble_eq_true rfl⟩) hK hF hP hD hS hA 0 rfl rfl rfl [0, 1] [2, 3] [2, 3, 0, 1] rfl (by decide) rfl (by decide) (by decide) rfl (by decide) rfl hl.1 rfl (Nat.le_of_ble_eq_true rfl) dX8_tell_8 ⟨Nat.zero_le _, Nat.zero_le _⟩ (fun H locs hP hD hS => ?_)
    refine W.eq (g2 := F0 m 11 ls [.int r_3, .ref a0]) rfl ?_
    obtain ⟨r_6, v_acts_7, v_past_8, hq9, hf⟩ := bd3_el hf
    refine mc_V (As := [.int r_3]) (rest := []) (wr := [(a1, .inl (cI, 189, .inl v_now_4))]) (wn := [(a0, .inr (8, [.ref a1, .ref a2, .int v_acts_7, .ref a3, .ref a4, .int v_keptActs, .ref a5, .int v_typed, .ref a6, .ref a7, .ref a8, .ref a9, .ref a10, .int v_isSet, .ref a11, .ref a12, .ref a13, .int v_arePages, .ref a14, .ref a15, .int v_place, .ref a16, .int v_readMany])), (a1, .inl (cI, 189, .inl v_now_4)), (a2, .inl (cI, 1134, .inl v_past_8)), (a15, .inl (cI, 189, .inl v_first_1))]) ⟨hx, hb, hml, hown, hT⟩ (c_X8_done l dC dI cI cJ cP cS a0 a1 a2 a3 a4 a5 a6 a7 a8 a9 a10 a11 a12 a13 a14 a15 a16 v_acts v_keptActs v_typed v_isSet v_arePages v_place v_readMany v_past v_first_1 r_3 r_6 v_acts_7 v_past_8 hq9) (cwV 1 hT (gdV q_ml_X8_212 q_im_X8_done q_se_X8_done q_in_X8 q_co_X8_done) rfl rfl rfl hd_X8_done ⟨Nat.le_of_ble_eq_true rfl, Nat.le_of_ble_eq_true rfl⟩) hK hF hP hD hS hA 0 rfl rfl rfl [0, 2, 3] [1] [1, 0, 2, 3] rfl (by decide) rfl (by decide) (by decide) rfl (by decide) rfl hl.1 rfl (Nat.le_of_ble_eq_true rfl) dX8_tell_11 ⟨Nat.zero_le _, Nat.zero_le _⟩ (fun H locs hP hD hS => ?_)
    refine W.eq (g2 := F0 m 14 ls [.int r_6]) rfl ?_
    replace hf := Option.some.inj hf
    simp only [Prod.mk.injEq] at hf
    obtain ⟨hf0, hf1, hf2, hf3, hf4⟩ := hf
    subst hf0; subst hf1; subst hf2; subst hf3; subst hf4
    exact hret H locs ls _ dX8_tell_14 hP hD hS
  refine key _ ?_ _ _ _ hP hD hS hl
  intro H locs ls pc d hP hD hS
  exact W.iret (v := rv) hx hb hr (fun t ht hW => ⟨⟨rfl, by rw [ht]; exact hP, hD⟩, hS.F ht⟩) hS.2.2 d
def p_X8_type (v_typed : Int32) (v_tape : (Nat → Int32)) (x1 : Int32) : Option (Int32 × Int32 × (Nat → Int32)) :=
  (bd1 (p_X8_in (Int32.toInt64 x1) (32 : Int64) (126 : Int64)) fun r_1 => (if r_1 = (0 : Int32) then (some ((-1 : Int32), v_typed, v_tape)) else (if v_typed = (90 : Int32) then (some ((-3 : Int32), v_typed, v_tape)) else (gd (ib v_typed 90) (some ((v_typed + (1 : Int32)), (v_typed + (1 : Int32)), (upd v_tape (tn v_typed) x1)))))))
set_option maxHeartbeats 4000000 in
set_option maxRecDepth 100000 in
theorem c_X8_type (l : Launch) (dC : Nat → ClassId) (dI : Nat → Nat → Nat) (cI cJ cP cS : ClassId) (a0 : Nat) (a1 : Nat) (a2 : Nat) (a3 : Nat) (a4 : Nat) (a5 : Nat) (a6 : Nat) (a7 : Nat) (a8 : Nat) (a9 : Nat) (a10 : Nat) (a11 : Nat) (a12 : Nat) (a13 : Nat) (a14 : Nat) (a15 : Nat) (a16 : Nat) (v_acts : Int32) (v_keptActs : Int32) (v_typed : Int32) (v_isSet : Int32) (v_arePages : Int32) (v_place : Int32) (v_readMany : Int32) (v_tape : (Nat → Int32))  (x1 : Int32) (rv : Int32) (v_typed_o : Int32) (v_tape_o : (Nat → Int32)) (hf : p_X8_type v_typed v_tape x1 = some (rv, v_typed_o, v_tape_o)) : MC l (dC, dI) (tyl cI cJ cP cS) yX8_type (Cond.code yX8_type cX8_type 2 (some .int) :: TBG) ({ frames := 1, cells := 0, slots := 0, locals := 25 } : Room) [.ref a0, .int x1] [(a0, .inr (8, [.ref a1, .ref a2, .int v_acts, .ref a3, .ref a4, .int v_keptActs, .ref a5, .int v_typed, .ref a6, .ref a7, .ref a8, .ref a9, .ref a10, .int v_isSet, .ref a11, .ref a12, .ref a13, .int v_arePages, .ref a14, .ref a15, .int v_place, .ref a16, .int v_readMany])), (a5, .inl (cI, 90, .inl v_tape))] [(a0, .inr (8, [.ref a1, .ref a2, .int v_acts, .ref a3, .ref a4, .int v_keptActs, .ref a5, .int v_typed_o, .ref a6, .ref a7, .ref a8, .ref a9, .ref a10, .int v_isSet, .ref a11, .ref a12, .ref a13, .int v_arePages, .ref a14, .ref a15, .int v_place, .ref a16, .int v_readMany])), (a5, .inl (cI, 90, .inl v_tape_o))] (some (.int rv)) := by
  intro sz
  unfold MPost
  refine Met.ofW (cc := cX8_type) (maxL := 2) (ret := (some .int)) (by decide) rfl ?_
  intro p e s m args below meth c s₁ B hml hv
  obtain ⟨rfl, hsz, hP, hK, hD0, hF⟩ := hv
  have hx := B.exec
  have hb := B.bytes
  have hr := B.returns
  have hT : ∀ w ∈ TBG, w.before _ s = true := fun w h => atoms_spec B.pre w (List.mem_cons_of_mem _ h)
  have hown : s.vm.findClass RX8 = some m.cls := findClass_of_methodNamed B.named
  have hlocks := B.notSynchronized
  subst hsz
  have hD := hD0.self (sz := s.heap.size)
  generalize hAe : va_A [(a0, .inr (8, [.ref a1, .ref a2, .int v_acts, .ref a3, .ref a4, .int v_keptActs, .ref a5, .int v_typed, .ref a6, .ref a7, .ref a8, .ref a9, .ref a10, .int v_isSet, .ref a11, .ref a12, .ref a13, .int v_arePages, .ref a14, .ref a15, .int v_place, .ref a16, .int v_readMany])), (a5, .inl (cI, 90, .inl v_tape))] s.heap.size = A at hD hF ⊢
  have hA : ∀ q : Nat, s.heap.size ≤ q → A q := fun q h => by rw [← hAe]; exact Or.inr h
  have hS : va_S A s.heap s.heap [] := va_S.rf
  have hl := lv_entry ([.ref a0, .int x1]) (n := 2) (Nat.le_of_ble_eq_true rfl)
  rw [lg_entry_eq]
  generalize (lg_sl ([.ref a0, .int x1]) ++ List.replicate (2 - (lg_sl ([.ref a0, .int x1])).length) Slot.unset).toArray = ls at hl ⊢
  have hl : lv_has ls 2 [(0, .ref a0), (1, .int x1)] := hl
  generalize ([.ref a0, .int x1] : List Value).toArray = args at hT ⊢
  have key : ∀ (Q : State → Prop), (∀ (H : Heap) (locs : List Loc) (ls : Array Slot) (pc : Nat), decode cX8_type pc = .ok (.ireturn, 1) → va_P (dC, dI) vwCl [(a0, .inr (8, [.ref a1, .ref a2, .int v_acts, .ref a3, .ref a4, .int v_keptActs, .ref a5, .int v_typed_o, .ref a6, .ref a7, .ref a8, .ref a9, .ref a10, .int v_isSet, .ref a11, .ref a12, .ref a13, .int v_arePages, .ref a14, .ref a15, .int v_place, .ref a16, .int v_readMany])), (a5, .inl (cI, 90, .inl v_tape_o))] H → va_D A [(a0, .inr (8, [.ref a1, .ref a2, .int v_acts, .ref a3, .ref a4, .int v_keptActs, .ref a5, .int v_typed_o, .ref a6, .ref a7, .ref a8, .ref a9, .ref a10, .int v_isSet, .ref a11, .ref a12, .ref a13, .int v_arePages, .ref a14, .ref a15, .int v_place, .ref a16, .int v_readMany])), (a5, .inl (cI, 90, .inl v_tape_o))] → va_S A s.heap H locs → W p l e ({ frames := 1, cells := 0, slots := 0, locals := 25 } : Room) s m args below meth c H locs 0 0 Q (F0 m pc ls [.int rv])) → ∀ (H : Heap) (locs : List Loc) (ls : Array Slot), va_P (dC, dI) vwCl [(a0, .inr (8, [.ref a1, .ref a2, .int v_acts, .ref a3, .ref a4, .int v_keptActs, .ref a5, .int v_typed, .ref a6, .ref a7, .ref a8, .ref a9, .ref a10, .int v_isSet, .ref a11, .ref a12, .ref a13, .int v_arePages, .ref a14, .ref a15, .int v_place, .ref a16, .int v_readMany])), (a5, .inl (cI, 90, .inl v_tape))] H → va_D A [(a0, .inr (8, [.ref a1, .ref a2, .int v_acts, .ref a3, .ref a4, .int v_keptActs, .ref a5, .int v_typed, .ref a6, .ref a7, .ref a8, .ref a9, .ref a10, .int v_isSet, .ref a11, .ref a12, .ref a13, .int v_arePages, .ref a14, .ref a15, .int v_place, .ref a16, .int v_readMany])), (a5, .inl (cI, 90, .inl v_tape))] → va_S A s.heap H locs → lv_has ls 2 [(0, .ref a0), (1, .int x1)] → W p l e ({ frames := 1, cells := 0, slots := 0, locals := 25 } : Room) s m args below meth c H locs 0 0 Q (F0 m 0 ls []) := by
    intro Q hret H locs ls hP hD hS hl
    refine lv_iload_n hx hb dX8_type_0 rfl (lv_at hl 1 rfl) ?_
    refine lv_i2l hx hb dX8_type_1 rfl ?_
    refine lv_ldc2 hx hb hown (hT _ q_kl_X8_227) dX8_type_2 ?_
    refine lv_ldc2 hx hb hown (hT _ q_kl_X8_229) dX8_type_5 ?_
    obtain ⟨r_1, hq2, hf⟩ := bd1_el hf
    refine mc_S (As := [.long (Int32.toInt64 x1), .long (32 : Int64), .long (126 : Int64)]) (rest := []) (wr := [(a0, .inr (8, [.ref a1, .ref a2, .int v_acts, .ref a3, .ref a4, .int v_keptActs, .ref a5, .int v_typed, .ref a6, .ref a7, .ref a8, .ref a9, .ref a10, .int v_isSet, .ref a11, .ref a12, .ref a13, .int v_arePages, .ref a14, .ref a15, .int v_place, .ref a16, .int v_readMany])), (a5, .inl (cI, 90, .inl v_tape))]) (wn := [(a0, .inr (8, [.ref a1, .ref a2, .int v_acts, .ref a3, .ref a4, .int v_keptActs, .ref a5, .int v_typed, .ref a6, .ref a7, .ref a8, .ref a9, .ref a10, .int v_isSet, .ref a11, .ref a12, .ref a13, .int v_arePages, .ref a14, .ref a15, .int v_place, .ref a16, .int v_readMany])), (a5, .inl (cI, 90, .inl v_tape))]) ⟨hx, hb, hml, hown, hT⟩ (c_X8_in l dC dI cI cJ cP cS (Int32.toInt64 x1) (32 : Int64) (126 : Int64) r_1 hq2) (va_cwS 3 hT (gdS q_ml_X8_63 q_st_X8_in q_in_X8 q_co_X8_in) rfl rfl rfl hd_X8_in ⟨Nat.le_of_ble_eq_true rfl, Nat.le_of_ble_eq_true rfl⟩) hK hF hP hD hS hA [] [0, 1] [0, 1] rfl (by decide) rfl (by decide) (by decide) rfl (by decide) rfl hl.1 rfl (Nat.le_of_ble_eq_true rfl) dX8_type_8 ⟨Nat.zero_le _, Nat.zero_le _⟩ (fun H locs hP hD hS => ?_)
    refine W.eq (g2 := F0 m 11 ls [.int r_1]) rfl ?_
    refine lv_if_ne (tgt := 16) hx hb dX8_type_11 (by decide) (fun c3 => ?_) (fun c3 => ?_)
    · replace hf := it_f c3 hf
      refine lv_aload_n hx hb dX8_type_16 rfl (lv_at hl 0 rfl) ?_
      refine va_get (D := (dC, dI)) (ci := 8) (v := .int v_typed) (C := RX8) (T := TX8) (N := 23) hx hb hT in_X8 hown hK hP 0 rfl rfl 7 (by decide) (hT _ q_fl_X8_231) (fun _ h9 => h9) rfl dX8_type_17 ?_
      refine lv_bipush (v := 90) hx hb dX8_type_20 (by decide) ?_
      refine lv_icmp_ne (tgt := 28) hx hb dX8_type_22 (by decide) (fun c4 => ?_) (fun c4 => ?_)
      · replace hf := it_f c4 hf
        refine lv_aload_n hx hb dX8_type_28 rfl (lv_at hl 0 rfl) ?_
        refine va_get (D := (dC, dI)) (ci := 8) (v := .ref a5) (C := RX8) (T := TX8) (N := 23) hx hb hT in_X8 hown hK hP 0 rfl rfl 6 (by decide) (hT _ q_fl_X8_26) (fun _ h9 => h9) rfl dX8_type_29 ?_
        refine lv_aload_n hx hb dX8_type_32 rfl (lv_at hl 0 rfl) ?_
        refine va_get (D := (dC, dI)) (ci := 8) (v := .int v_typed) (C := RX8) (T := TX8) (N := 23) hx hb hT in_X8 hown hK hP 0 rfl rfl 7 (by decide) (hT _ q_fl_X8_231) (fun _ h9 => h9) rfl dX8_type_33 ?_
        refine lv_iload_n hx hb dX8_type_36 rfl (lv_at hl 1 rfl) ?_
        obtain ⟨h5, hf⟩ := gd_el hf
        refine ia_st hx hb hK hP hD hS 1 0 rfl rfl (ib_in h5) (j := (tn v_typed)) rfl dX8_type_37 (fun H locs hP hD hS => ?_)
        have hP : va_P (dC, dI) vwCl [(a0, .inr (8, [.ref a1, .ref a2, .int v_acts, .ref a3, .ref a4, .int v_keptActs, .ref a5, .int v_typed, .ref a6, .ref a7, .ref a8, .ref a9, .ref a10, .int v_isSet, .ref a11, .ref a12, .ref a13, .int v_arePages, .ref a14, .ref a15, .int v_place, .ref a16, .int v_readMany])), (a5, .inl (cI, 90, .inl (upd v_tape (tn v_typed) x1)))] H := hP
        have hD : va_D A [(a0, .inr (8, [.ref a1, .ref a2, .int v_acts, .ref a3, .ref a4, .int v_keptActs, .ref a5, .int v_typed, .ref a6, .ref a7, .ref a8, .ref a9, .ref a10, .int v_isSet, .ref a11, .ref a12, .ref a13, .int v_arePages, .ref a14, .ref a15, .int v_place, .ref a16, .int v_readMany])), (a5, .inl (cI, 90, .inl (upd v_tape (tn v_typed) x1)))] := hD
        refine lv_aload_n hx hb dX8_type_38 rfl (lv_at hl 0 rfl) ?_
        refine lv_dup hx hb dX8_type_39 rfl ?_
        refine va_get (D := (dC, dI)) (ci := 8) (v := .int v_typed) (C := RX8) (T := TX8) (N := 23) hx hb hT in_X8 hown hK hP 0 rfl rfl 7 (by decide) (hT _ q_fl_X8_231) (fun _ h9 => h9) rfl dX8_type_40 ?_
        refine lv_iconst (v := 1) hx hb dX8_type_43 (by decide) ?_
        refine lv_iadd hx hb dX8_type_44 ?_
        refine va_put (D := (dC, dI)) (ci := 8) (v := .int (v_typed + (1 : Int32))) (ty := .int) (C := RX8) (T := TX8) (N := 23) hx hb hT in_X8 tyX8 tyX8_ok nmX8 hown hK hP hD hS 0 rfl rfl 7 (by decide) (hT _ q_fl_X8_231) (fun _ h9 => h9) rfl (tyX8_ok 7 (by decide)) rfl rfl (Nat.le_of_ble_eq_true rfl) dX8_type_45 (fun H locs hP hD hS => ?_)
        have hP : va_P (dC, dI) vwCl [(a0, .inr (8, [.ref a1, .ref a2, .int v_acts, .ref a3, .ref a4, .int v_keptActs, .ref a5, .int (v_typed + (1 : Int32)), .ref a6, .ref a7, .ref a8, .ref a9, .ref a10, .int v_isSet, .ref a11, .ref a12, .ref a13, .int v_arePages, .ref a14, .ref a15, .int v_place, .ref a16, .int v_readMany])), (a5, .inl (cI, 90, .inl (upd v_tape (tn v_typed) x1)))] H := hP
        have hD : va_D A [(a0, .inr (8, [.ref a1, .ref a2, .int v_acts, .ref a3, .ref a4, .int v_keptActs, .ref a5, .int (v_typed + (1 : Int32)), .ref a6, .ref a7, .ref a8, .ref a9, .ref a10, .int v_isSet, .ref a11, .ref a12, .ref a13, .int v_arePages, .ref a14, .ref a15, .int v_place, .ref a16, .int v_readMany])), (a5, .inl (cI, 90, .inl (upd v_tape (tn v_typed) x1)))] := hD
        refine lv_aload_n hx hb dX8_type_48 rfl (lv_at hl 0 rfl) ?_
        refine va_get (D := (dC, dI)) (ci := 8) (v := .int (v_typed + (1 : Int32))) (C := RX8) (T := TX8) (N := 23) hx hb hT in_X8 hown hK hP 0 rfl rfl 7 (by decide) (hT _ q_fl_X8_231) (fun _ h9 => h9) rfl dX8_type_49 ?_
        replace hf := Option.some.inj hf
        simp only [Prod.mk.injEq] at hf
        obtain ⟨hf0, hf1, hf2⟩ := hf
        subst hf0; subst hf1; subst hf2
        exact hret H locs ls _ dX8_type_52 hP hD hS
      · replace hf := it_t c4 hf
        refine lv_bipush (v := (-3)) hx hb dX8_type_25 (by decide) ?_
        replace hf := Option.some.inj hf
        simp only [Prod.mk.injEq] at hf
        obtain ⟨hf0, hf1, hf2⟩ := hf
        subst hf0; subst hf1; subst hf2
        exact hret H locs ls _ dX8_type_27 hP hD hS
    · replace hf := it_t c3 hf
      refine lv_iconst (v := (-1)) hx hb dX8_type_14 (by decide) ?_
      replace hf := Option.some.inj hf
      simp only [Prod.mk.injEq] at hf
      obtain ⟨hf0, hf1, hf2⟩ := hf
      subst hf0; subst hf1; subst hf2
      exact hret H locs ls _ dX8_type_15 hP hD hS
  refine key _ ?_ _ _ _ hP hD hS hl
  intro H locs ls pc d hP hD hS
  exact W.iret (v := rv) hx hb hr (fun t ht hW => ⟨⟨rfl, by rw [ht]; exact hP, hD⟩, hS.F ht⟩) hS.2.2 d
def p_X8_here_L0 (v_typed : Int32) (v_tape : (Nat → Int32)) (v_place_1 : Int32) : Option ((Int32) ⊕ (Int32)) :=
  (if v_typed ≤ v_place_1 then (some (.inr v_place_1)) else (gd (ib v_place_1 90) (if (v_tape (tn v_place_1)) = (32 : Int32) then (some (.inl (v_place_1 + (1 : Int32)))) else (some (.inr v_place_1)))))
def p_X8_here (v_typed : Int32) (v_place : Int32) (v_tape : (Nat → Int32)) : Option (Int32 × Int32) :=
  (bd1 (loopN (p_X8_here_L0 v_typed v_tape) fuel v_place) fun v_place_6 => (if v_typed ≤ v_place_6 then (some ((0 : Int32), v_place_6)) else (gd (ib v_place_6 90) (some ((v_tape (tn v_place_6)), v_place_6)))))
set_option maxHeartbeats 4000000 in
set_option maxRecDepth 100000 in
theorem c_X8_here (l : Launch) (dC : Nat → ClassId) (dI : Nat → Nat → Nat) (cI cJ cP cS : ClassId) (a0 : Nat) (a1 : Nat) (a2 : Nat) (a3 : Nat) (a4 : Nat) (a5 : Nat) (a6 : Nat) (a7 : Nat) (a8 : Nat) (a9 : Nat) (a10 : Nat) (a11 : Nat) (a12 : Nat) (a13 : Nat) (a14 : Nat) (a15 : Nat) (a16 : Nat) (v_acts : Int32) (v_keptActs : Int32) (v_typed : Int32) (v_isSet : Int32) (v_arePages : Int32) (v_place : Int32) (v_readMany : Int32) (v_tape : (Nat → Int32))   (rv : Int32) (v_place_o : Int32) (hf : p_X8_here v_typed v_place v_tape = some (rv, v_place_o)) : MC l (dC, dI) (tyl cI cJ cP cS) yX8_here (Cond.code yX8_here cX8_here 1 (some .int) :: TBG) ({ frames := 0, cells := 0, slots := 0, locals := 0 } : Room) [.ref a0] [(a0, .inr (8, [.ref a1, .ref a2, .int v_acts, .ref a3, .ref a4, .int v_keptActs, .ref a5, .int v_typed, .ref a6, .ref a7, .ref a8, .ref a9, .ref a10, .int v_isSet, .ref a11, .ref a12, .ref a13, .int v_arePages, .ref a14, .ref a15, .int v_place, .ref a16, .int v_readMany])), (a5, .inl (cI, 90, .inl v_tape))] [(a0, .inr (8, [.ref a1, .ref a2, .int v_acts, .ref a3, .ref a4, .int v_keptActs, .ref a5, .int v_typed, .ref a6, .ref a7, .ref a8, .ref a9, .ref a10, .int v_isSet, .ref a11, .ref a12, .ref a13, .int v_arePages, .ref a14, .ref a15, .int v_place_o, .ref a16, .int v_readMany])), (a5, .inl (cI, 90, .inl v_tape))] (some (.int rv)) := by
  intro sz
  unfold MPost
  refine Met.ofW (cc := cX8_here) (maxL := 1) (ret := (some .int)) (by decide) rfl ?_
  intro p e s m args below meth c s₁ B hml hv
  obtain ⟨rfl, hsz, hP, hK, hD0, hF⟩ := hv
  have hx := B.exec
  have hb := B.bytes
  have hr := B.returns
  have hT : ∀ w ∈ TBG, w.before _ s = true := fun w h => atoms_spec B.pre w (List.mem_cons_of_mem _ h)
  have hown : s.vm.findClass RX8 = some m.cls := findClass_of_methodNamed B.named
  have hlocks := B.notSynchronized
  subst hsz
  have hD := hD0.self (sz := s.heap.size)
  generalize hAe : va_A [(a0, .inr (8, [.ref a1, .ref a2, .int v_acts, .ref a3, .ref a4, .int v_keptActs, .ref a5, .int v_typed, .ref a6, .ref a7, .ref a8, .ref a9, .ref a10, .int v_isSet, .ref a11, .ref a12, .ref a13, .int v_arePages, .ref a14, .ref a15, .int v_place, .ref a16, .int v_readMany])), (a5, .inl (cI, 90, .inl v_tape))] s.heap.size = A at hD hF ⊢
  have hA : ∀ q : Nat, s.heap.size ≤ q → A q := fun q h => by rw [← hAe]; exact Or.inr h
  have hS : va_S A s.heap s.heap [] := va_S.rf
  have hl := lv_entry ([.ref a0]) (n := 1) (Nat.le_of_ble_eq_true rfl)
  rw [lg_entry_eq]
  generalize (lg_sl ([.ref a0]) ++ List.replicate (1 - (lg_sl ([.ref a0])).length) Slot.unset).toArray = ls at hl ⊢
  have hl : lv_has ls 1 [(0, .ref a0)] := hl
  generalize ([.ref a0] : List Value).toArray = args at hT ⊢
  have key : ∀ (Q : State → Prop), (∀ (H : Heap) (locs : List Loc) (ls : Array Slot) (pc : Nat), decode cX8_here pc = .ok (.ireturn, 1) → va_P (dC, dI) vwCl [(a0, .inr (8, [.ref a1, .ref a2, .int v_acts, .ref a3, .ref a4, .int v_keptActs, .ref a5, .int v_typed, .ref a6, .ref a7, .ref a8, .ref a9, .ref a10, .int v_isSet, .ref a11, .ref a12, .ref a13, .int v_arePages, .ref a14, .ref a15, .int v_place_o, .ref a16, .int v_readMany])), (a5, .inl (cI, 90, .inl v_tape))] H → va_D A [(a0, .inr (8, [.ref a1, .ref a2, .int v_acts, .ref a3, .ref a4, .int v_keptActs, .ref a5, .int v_typed, .ref a6, .ref a7, .ref a8, .ref a9, .ref a10, .int v_isSet, .ref a11, .ref a12, .ref a13, .int v_arePages, .ref a14, .ref a15, .int v_place_o, .ref a16, .int v_readMany])), (a5, .inl (cI, 90, .inl v_tape))] → va_S A s.heap H locs → W p l e ({ frames := 0, cells := 0, slots := 0, locals := 0 } : Room) s m args below meth c H locs 0 0 Q (F0 m pc ls [.int rv])) → ∀ (H : Heap) (locs : List Loc) (ls : Array Slot), va_P (dC, dI) vwCl [(a0, .inr (8, [.ref a1, .ref a2, .int v_acts, .ref a3, .ref a4, .int v_keptActs, .ref a5, .int v_typed, .ref a6, .ref a7, .ref a8, .ref a9, .ref a10, .int v_isSet, .ref a11, .ref a12, .ref a13, .int v_arePages, .ref a14, .ref a15, .int v_place, .ref a16, .int v_readMany])), (a5, .inl (cI, 90, .inl v_tape))] H → va_D A [(a0, .inr (8, [.ref a1, .ref a2, .int v_acts, .ref a3, .ref a4, .int v_keptActs, .ref a5, .int v_typed, .ref a6, .ref a7, .ref a8, .ref a9, .ref a10, .int v_isSet, .ref a11, .ref a12, .ref a13, .int v_arePages, .ref a14, .ref a15, .int v_place, .ref a16, .int v_readMany])), (a5, .inl (cI, 90, .inl v_tape))] → va_S A s.heap H locs → lv_has ls 1 [(0, .ref a0)] → W p l e ({ frames := 0, cells := 0, slots := 0, locals := 0 } : Room) s m args below meth c H locs 0 0 Q (F0 m 0 ls []) := by
    intro Q hret H locs ls hP hD hS hl
    have hL0 : ∀ (rr : Int32), (∀ (z_5 : Int32), rr = z_5 → ∀ (H : Heap) (locs : List Loc) (ls : Array Slot), va_P (dC, dI) vwCl [(a0, .inr (8, [.ref a1, .ref a2, .int v_acts, .ref a3, .ref a4, .int v_keptActs, .ref a5, .int v_typed, .ref a6, .ref a7, .ref a8, .ref a9, .ref a10, .int v_isSet, .ref a11, .ref a12, .ref a13, .int v_arePages, .ref a14, .ref a15, .int z_5, .ref a16, .int v_readMany])), (a5, .inl (cI, 90, .inl v_tape))] H → va_D A [(a0, .inr (8, [.ref a1, .ref a2, .int v_acts, .ref a3, .ref a4, .int v_keptActs, .ref a5, .int v_typed, .ref a6, .ref a7, .ref a8, .ref a9, .ref a10, .int v_isSet, .ref a11, .ref a12, .ref a13, .int v_arePages, .ref a14, .ref a15, .int z_5, .ref a16, .int v_readMany])), (a5, .inl (cI, 90, .inl v_tape))] → va_S A s.heap H locs → lv_has ls 1 [(0, .ref a0)] → W p l e ({ frames := 0, cells := 0, slots := 0, locals := 0 } : Room) s m args below meth c H locs 0 0 Q (F0 m 38 ls [])) → ∀ (n : Nat) (v_place_1 : Int32), loopN (p_X8_here_L0 v_typed v_tape) n v_place_1 = some rr → ∀ (H : Heap) (locs : List Loc) (ls : Array Slot), va_P (dC, dI) vwCl [(a0, .inr (8, [.ref a1, .ref a2, .int v_acts, .ref a3, .ref a4, .int v_keptActs, .ref a5, .int v_typed, .ref a6, .ref a7, .ref a8, .ref a9, .ref a10, .int v_isSet, .ref a11, .ref a12, .ref a13, .int v_arePages, .ref a14, .ref a15, .int v_place_1, .ref a16, .int v_readMany])), (a5, .inl (cI, 90, .inl v_tape))] H → va_D A [(a0, .inr (8, [.ref a1, .ref a2, .int v_acts, .ref a3, .ref a4, .int v_keptActs, .ref a5, .int v_typed, .ref a6, .ref a7, .ref a8, .ref a9, .ref a10, .int v_isSet, .ref a11, .ref a12, .ref a13, .int v_arePages, .ref a14, .ref a15, .int v_place_1, .ref a16, .int v_readMany])), (a5, .inl (cI, 90, .inl v_tape))] → va_S A s.heap H locs → lv_has ls 1 [(0, .ref a0)] → W p l e ({ frames := 0, cells := 0, slots := 0, locals := 0 } : Room) s m args below meth c H locs 0 0 Q (F0 m 0 ls []) := by
      intro rr hk0 n
      induction n with
      | zero => intro v_place_1 hf; cases hf
      | succ n ih0 =>
        intro v_place_1 hf H locs ls hP hD hS hl
        obtain ⟨o0, hf, hi, he⟩ := loopN_el hf
        refine lv_aload_n hx hb dX8_here_0 rfl (lv_at hl 0 rfl) ?_
        refine va_get (D := (dC, dI)) (ci := 8) (v := .int v_place_1) (C := RX8) (T := TX8) (N := 23) hx hb hT in_X8 hown hK hP 0 rfl rfl 20 (by decide) (hT _ q_fl_X8_234) (fun _ h9 => h9) rfl dX8_here_1 ?_
        refine lv_aload_n hx hb dX8_here_4 rfl (lv_at hl 0 rfl) ?_
        refine va_get (D := (dC, dI)) (ci := 8) (v := .int v_typed) (C := RX8) (T := TX8) (N := 23) hx hb hT in_X8 hown hK hP 0 rfl rfl 7 (by decide) (hT _ q_fl_X8_231) (fun _ h9 => h9) rfl dX8_here_5 ?_
        refine lv_icmp_ge (tgt := 38) hx hb dX8_here_8 (by decide) (fun c2 => ?_) (fun c2 => ?_)
        · replace hf := it_t c2 hf
          exact hk0 _ (he _ (Option.some.inj hf).symm).symm H locs ls hP hD hS (lv_sub hl [0] rfl)
        · replace hf := it_f c2 hf
          refine lv_aload_n hx hb dX8_here_11 rfl (lv_at hl 0 rfl) ?_
          refine va_get (D := (dC, dI)) (ci := 8) (v := .ref a5) (C := RX8) (T := TX8) (N := 23) hx hb hT in_X8 hown hK hP 0 rfl rfl 6 (by decide) (hT _ q_fl_X8_26) (fun _ h9 => h9) rfl dX8_here_12 ?_
          refine lv_aload_n hx hb dX8_here_15 rfl (lv_at hl 0 rfl) ?_
          refine va_get (D := (dC, dI)) (ci := 8) (v := .int v_place_1) (C := RX8) (T := TX8) (N := 23) hx hb hT in_X8 hown hK hP 0 rfl rfl 20 (by decide) (hT _ q_fl_X8_234) (fun _ h9 => h9) rfl dX8_here_16 ?_
          obtain ⟨h3, hf⟩ := gd_el hf
          refine ia_ld hx hb hK hP 1 0 rfl rfl (ib_in h3) (j := (tn v_place_1)) rfl dX8_here_19 ?_
          refine lv_bipush (v := 32) hx hb dX8_here_20 (by decide) ?_
          refine lv_icmp_ne (tgt := 38) hx hb dX8_here_22 (by decide) (fun c4 => ?_) (fun c4 => ?_)
          · replace hf := it_f c4 hf
            exact hk0 _ (he _ (Option.some.inj hf).symm).symm H locs ls hP hD hS (lv_sub hl [0] rfl)
          · replace hf := it_t c4 hf
            refine lv_aload_n hx hb dX8_here_25 rfl (lv_at hl 0 rfl) ?_
            refine lv_dup hx hb dX8_here_26 rfl ?_
            refine va_get (D := (dC, dI)) (ci := 8) (v := .int v_place_1) (C := RX8) (T := TX8) (N := 23) hx hb hT in_X8 hown hK hP 0 rfl rfl 20 (by decide) (hT _ q_fl_X8_234) (fun _ h9 => h9) rfl dX8_here_27 ?_
            refine lv_iconst (v := 1) hx hb dX8_here_30 (by decide) ?_
            refine lv_iadd hx hb dX8_here_31 ?_
            refine va_put (D := (dC, dI)) (ci := 8) (v := .int (v_place_1 + (1 : Int32))) (ty := .int) (C := RX8) (T := TX8) (N := 23) hx hb hT in_X8 tyX8 tyX8_ok nmX8 hown hK hP hD hS 0 rfl rfl 20 (by decide) (hT _ q_fl_X8_234) (fun _ h9 => h9) rfl (tyX8_ok 20 (by decide)) rfl rfl (Nat.le_of_ble_eq_true rfl) dX8_here_32 (fun H locs hP hD hS => ?_)
            have hP : va_P (dC, dI) vwCl [(a0, .inr (8, [.ref a1, .ref a2, .int v_acts, .ref a3, .ref a4, .int v_keptActs, .ref a5, .int v_typed, .ref a6, .ref a7, .ref a8, .ref a9, .ref a10, .int v_isSet, .ref a11, .ref a12, .ref a13, .int v_arePages, .ref a14, .ref a15, .int (v_place_1 + (1 : Int32)), .ref a16, .int v_readMany])), (a5, .inl (cI, 90, .inl v_tape))] H := hP
            have hD : va_D A [(a0, .inr (8, [.ref a1, .ref a2, .int v_acts, .ref a3, .ref a4, .int v_keptActs, .ref a5, .int v_typed, .ref a6, .ref a7, .ref a8, .ref a9, .ref a10, .int v_isSet, .ref a11, .ref a12, .ref a13, .int v_arePages, .ref a14, .ref a15, .int (v_place_1 + (1 : Int32)), .ref a16, .int v_readMany])), (a5, .inl (cI, 90, .inl v_tape))] := hD
            refine lv_goto (tgt := 0) hx hb dX8_here_35 (by decide) ?_
            exact ih0 (v_place_1 + (1 : Int32)) (hi _ (Option.some.inj hf).symm) H locs ls hP hD hS (lv_sub hl [0] rfl)
    obtain ⟨v_place_6, hq, hf⟩ := bd1_el hf
    refine hL0 v_place_6 (fun z_5 h9 H locs ls hP hD hS hl => ?_) fuel v_place hq H locs ls hP hD hS (lv_sub hl [0] rfl)
    subst h9
    refine lv_aload_n hx hb dX8_here_38 rfl (lv_at hl 0 rfl) ?_
    refine va_get (D := (dC, dI)) (ci := 8) (v := .int v_place_6) (C := RX8) (T := TX8) (N := 23) hx hb hT in_X8 hown hK hP 0 rfl rfl 20 (by decide) (hT _ q_fl_X8_234) (fun _ h9 => h9) rfl dX8_here_39 ?_
    refine lv_aload_n hx hb dX8_here_42 rfl (lv_at hl 0 rfl) ?_
    refine va_get (D := (dC, dI)) (ci := 8) (v := .int v_typed) (C := RX8) (T := TX8) (N := 23) hx hb hT in_X8 hown hK hP 0 rfl rfl 7 (by decide) (hT _ q_fl_X8_231) (fun _ h9 => h9) rfl dX8_here_43 ?_
    refine lv_icmp_ge (tgt := 61) hx hb dX8_here_46 (by decide) (fun c7 => ?_) (fun c7 => ?_)
    · replace hf := it_t c7 hf
      refine lv_iconst (v := 0) hx hb dX8_here_61 (by decide) ?_
      replace hf := Option.some.inj hf
      simp only [Prod.mk.injEq] at hf
      obtain ⟨hf0, hf1⟩ := hf
      subst hf0; subst hf1
      exact hret H locs ls _ dX8_here_62 hP hD hS
    · replace hf := it_f c7 hf
      refine lv_aload_n hx hb dX8_here_49 rfl (lv_at hl 0 rfl) ?_
      refine va_get (D := (dC, dI)) (ci := 8) (v := .ref a5) (C := RX8) (T := TX8) (N := 23) hx hb hT in_X8 hown hK hP 0 rfl rfl 6 (by decide) (hT _ q_fl_X8_26) (fun _ h9 => h9) rfl dX8_here_50 ?_
      refine lv_aload_n hx hb dX8_here_53 rfl (lv_at hl 0 rfl) ?_
      refine va_get (D := (dC, dI)) (ci := 8) (v := .int v_place_6) (C := RX8) (T := TX8) (N := 23) hx hb hT in_X8 hown hK hP 0 rfl rfl 20 (by decide) (hT _ q_fl_X8_234) (fun _ h9 => h9) rfl dX8_here_54 ?_
      obtain ⟨h8, hf⟩ := gd_el hf
      refine ia_ld hx hb hK hP 1 0 rfl rfl (ib_in h8) (j := (tn v_place_6)) rfl dX8_here_57 ?_
      refine lv_goto (tgt := 62) hx hb dX8_here_58 (by decide) ?_
      replace hf := Option.some.inj hf
      simp only [Prod.mk.injEq] at hf
      obtain ⟨hf0, hf1⟩ := hf
      subst hf0; subst hf1
      exact hret H locs ls _ dX8_here_62 hP hD hS
  refine key _ ?_ _ _ _ hP hD hS hl
  intro H locs ls pc d hP hD hS
  exact W.iret (v := rv) hx hb hr (fun t ht hW => ⟨⟨rfl, by rw [ht]; exact hP, hD⟩, hS.F ht⟩) hS.2.2 d
def p_X8_pauseOf (x0 : Int32) : Option (Int32) :=
  (if x0 = (44 : Int32) then (some (1 : Int32)) else (if x0 = (46 : Int32) then (some (2 : Int32)) else (if x0 = (33 : Int32) then (some (3 : Int32)) else (some (0 : Int32)))))
set_option maxHeartbeats 4000000 in
set_option maxRecDepth 100000 in
theorem c_X8_pauseOf (l : Launch) (dC : Nat → ClassId) (dI : Nat → Nat → Nat) (cI cJ cP cS : ClassId)    (x0 : Int32) (rv : Int32)  (hf : p_X8_pauseOf x0 = some rv) : MC l (dC, dI) (tyl cI cJ cP cS) yX8_pauseOf (Cond.code yX8_pauseOf cX8_pauseOf 1 (some .int) :: TBG) ({ frames := 0, cells := 0, slots := 0, locals := 0 } : Room) [.int x0] [] [] (some (.int rv)) := by
  intro sz
  unfold MPost
  refine Met.ofW (cc := cX8_pauseOf) (maxL := 1) (ret := (some .int)) (by decide) rfl ?_
  intro p e s m args below meth c s₁ B hml hv
  obtain ⟨rfl, hsz, hP, hK, hD0, hF⟩ := hv
  have hx := B.exec
  have hb := B.bytes
  have hr := B.returns
  have hT : ∀ w ∈ TBG, w.before _ s = true := fun w h => atoms_spec B.pre w (List.mem_cons_of_mem _ h)
  have hown : s.vm.findClass RX8 = some m.cls := findClass_of_methodNamed B.named
  have hlocks := B.notSynchronized
  subst hsz
  have hD := hD0.self (sz := s.heap.size)
  generalize hAe : va_A [] s.heap.size = A at hD hF ⊢
  have hA : ∀ q : Nat, s.heap.size ≤ q → A q := fun q h => by rw [← hAe]; exact Or.inr h
  have hS : va_S A s.heap s.heap [] := va_S.rf
  have hl := lv_entry ([.int x0]) (n := 1) (Nat.le_of_ble_eq_true rfl)
  rw [lg_entry_eq]
  generalize (lg_sl ([.int x0]) ++ List.replicate (1 - (lg_sl ([.int x0])).length) Slot.unset).toArray = ls at hl ⊢
  have hl : lv_has ls 1 [(0, .int x0)] := hl
  generalize ([.int x0] : List Value).toArray = args at hT ⊢
  have key : ∀ (Q : State → Prop), (∀ (H : Heap) (locs : List Loc) (ls : Array Slot) (pc : Nat), decode cX8_pauseOf pc = .ok (.ireturn, 1) → va_P (dC, dI) vwCl [] H → va_D A [] → va_S A s.heap H locs → W p l e ({ frames := 0, cells := 0, slots := 0, locals := 0 } : Room) s m args below meth c H locs 0 0 Q (F0 m pc ls [.int rv])) → ∀ (H : Heap) (locs : List Loc) (ls : Array Slot), va_P (dC, dI) vwCl [] H → va_D A [] → va_S A s.heap H locs → lv_has ls 1 [(0, .int x0)] → W p l e ({ frames := 0, cells := 0, slots := 0, locals := 0 } : Room) s m args below meth c H locs 0 0 Q (F0 m 0 ls []) := by
    intro Q hret H locs ls hP hD hS hl
    refine lv_iload_n hx hb dX8_pauseOf_0 rfl (lv_at hl 0 rfl) ?_
    refine lv_bipush (v := 44) hx hb dX8_pauseOf_1 (by decide) ?_
    refine lv_icmp_ne (tgt := 10) hx hb dX8_pauseOf_3 (by decide) (fun c1 => ?_) (fun c1 => ?_)
    · replace hf := it_f c1 hf
      refine lv_iload_n hx hb dX8_pauseOf_10 rfl (lv_at hl 0 rfl) ?_
      refine lv_bipush (v := 46) hx hb dX8_pauseOf_11 (by decide) ?_
      refine lv_icmp_ne (tgt := 20) hx hb dX8_pauseOf_13 (by decide) (fun c2 => ?_) (fun c2 => ?_)
      · replace hf := it_f c2 hf
        refine lv_iload_n hx hb dX8_pauseOf_20 rfl (lv_at hl 0 rfl) ?_
        refine lv_bipush (v := 33) hx hb dX8_pauseOf_21 (by decide) ?_
        refine lv_icmp_ne (tgt := 30) hx hb dX8_pauseOf_23 (by decide) (fun c3 => ?_) (fun c3 => ?_)
        · replace hf := it_f c3 hf
          refine lv_iconst (v := 0) hx hb dX8_pauseOf_30 (by decide) ?_
          replace hf := Option.some.inj hf
          subst hf
          exact hret H locs ls _ dX8_pauseOf_31 hP hD hS
        · replace hf := it_t c3 hf
          refine lv_iconst (v := 3) hx hb dX8_pauseOf_26 (by decide) ?_
          refine lv_goto (tgt := 31) hx hb dX8_pauseOf_27 (by decide) ?_
          replace hf := Option.some.inj hf
          subst hf
          exact hret H locs ls _ dX8_pauseOf_31 hP hD hS
      · replace hf := it_t c2 hf
        refine lv_iconst (v := 2) hx hb dX8_pauseOf_16 (by decide) ?_
        refine lv_goto (tgt := 31) hx hb dX8_pauseOf_17 (by decide) ?_
        replace hf := Option.some.inj hf
        subst hf
        exact hret H locs ls _ dX8_pauseOf_31 hP hD hS
    · replace hf := it_t c1 hf
      refine lv_iconst (v := 1) hx hb dX8_pauseOf_6 (by decide) ?_
      refine lv_goto (tgt := 31) hx hb dX8_pauseOf_7 (by decide) ?_
      replace hf := Option.some.inj hf
      subst hf
      exact hret H locs ls _ dX8_pauseOf_31 hP hD hS
  refine key _ ?_ _ _ _ hP hD hS hl
  intro H locs ls pc d hP hD hS
  exact W.iret (v := rv) hx hb hr (fun t ht hW => ⟨⟨rfl, by rw [ht]; exact hP, hD⟩, hS.F ht⟩) hS.2.2 d
def p_X8_readWords_L2 (v_typed : Int32) (v_tape : (Nat → Int32)) (x1 : Int32) (s : Int32 × Int32 × (Nat → Int32)) : Option ((Int32 × Int32 × (Nat → Int32)) ⊕ (Int32 × Int32 × (Nat → Int32))) := match s with
  | (i2_1, v_place_2, v_read_3) => (bd2 (p_X8_here v_typed v_place_2 v_tape) fun r_4 v_place_5 => (bd1 (p_X8_in (Int32.toInt64 r_4) (49 : Int64) (57 : Int64)) fun r_7 => (if r_7 = (0 : Int32) then (some (.inr (i2_1, v_place_5, v_read_3))) else (if (6 : Int32) ≤ i2_1 then (some (.inr (i2_1, v_place_5, v_read_3))) else (bd2 (p_X8_here v_typed v_place_5 v_tape) fun r_11 v_place_12 => (gd (ib ((x1 + (3 : Int32)) + i2_1) 180) (bd2 (p_X8_here v_typed (v_place_12 + (1 : Int32)) v_tape) fun r_15 v_place_16 => (bd1 (p_X8_pauseOf r_15) fun r_18 => (gd (ib ((x1 + (9 : Int32)) + i2_1) 180) (if r_18 ≤ (0 : Int32) then (some (.inl ((i2_1 + (1 : Int32)), (v_place_16 + (0 : Int32)), (upd (upd v_read_3 (tn ((x1 + (3 : Int32)) + i2_1)) (r_11 - (48 : Int32))) (tn ((x1 + (9 : Int32)) + i2_1)) r_18)))) else (some (.inl ((i2_1 + (1 : Int32)), (v_place_16 + (1 : Int32)), (upd (upd v_read_3 (tn ((x1 + (3 : Int32)) + i2_1)) (r_11 - (48 : Int32))) (tn ((x1 + (9 : Int32)) + i2_1)) r_18))))))))))))))
def p_X8_readWords (v_typed : Int32) (v_place : Int32) (v_tape : (Nat → Int32)) (v_read : (Nat → Int32)) (x1 : Int32) : Option (Int32 × (Nat → Int32)) :=
  (bd3 (loopN (p_X8_readWords_L2 v_typed v_tape x1) fuel ((0 : Int32), v_place, v_read)) fun f2_25 v_place_26 v_read_27 => (gd (ib (x1 + (2 : Int32)) 180) (some (v_place_26, (upd v_read_27 (tn (x1 + (2 : Int32))) f2_25)))))
set_option maxHeartbeats 4000000 in
set_option maxRecDepth 100000 in
theorem c_X8_readWords (l : Launch) (dC : Nat → ClassId) (dI : Nat → Nat → Nat) (cI cJ cP cS : ClassId) (a0 : Nat) (a1 : Nat) (a2 : Nat) (a3 : Nat) (a4 : Nat) (a5 : Nat) (a6 : Nat) (a7 : Nat) (a8 : Nat) (a9 : Nat) (a10 : Nat) (a11 : Nat) (a12 : Nat) (a13 : Nat) (a14 : Nat) (a15 : Nat) (a16 : Nat) (v_acts : Int32) (v_keptActs : Int32) (v_typed : Int32) (v_isSet : Int32) (v_arePages : Int32) (v_place : Int32) (v_readMany : Int32) (v_tape : (Nat → Int32)) (v_read : (Nat → Int32))  (x1 : Int32)  (v_place_o : Int32) (v_read_o : (Nat → Int32)) (hf : p_X8_readWords v_typed v_place v_tape v_read x1 = some (v_place_o, v_read_o)) : MC l (dC, dI) (tyl cI cJ cP cS) yX8_readWords (Cond.code yX8_readWords cX8_readWords 4 none :: TBG) ({ frames := 1, cells := 0, slots := 0, locals := 25 } : Room) [.ref a0, .int x1] [(a0, .inr (8, [.ref a1, .ref a2, .int v_acts, .ref a3, .ref a4, .int v_keptActs, .ref a5, .int v_typed, .ref a6, .ref a7, .ref a8, .ref a9, .ref a10, .int v_isSet, .ref a11, .ref a12, .ref a13, .int v_arePages, .ref a14, .ref a15, .int v_place, .ref a16, .int v_readMany])), (a5, .inl (cI, 90, .inl v_tape)), (a16, .inl (cI, 180, .inl v_read))] [(a0, .inr (8, [.ref a1, .ref a2, .int v_acts, .ref a3, .ref a4, .int v_keptActs, .ref a5, .int v_typed, .ref a6, .ref a7, .ref a8, .ref a9, .ref a10, .int v_isSet, .ref a11, .ref a12, .ref a13, .int v_arePages, .ref a14, .ref a15, .int v_place_o, .ref a16, .int v_readMany])), (a5, .inl (cI, 90, .inl v_tape)), (a16, .inl (cI, 180, .inl v_read_o))] none := by
  intro sz
  unfold MPost
  refine Met.ofW (cc := cX8_readWords) (maxL := 4) (ret := none) (by decide) rfl ?_
  intro p e s m args below meth c s₁ B hml hv
  obtain ⟨rfl, hsz, hP, hK, hD0, hF⟩ := hv
  have hx := B.exec
  have hb := B.bytes
  have hr := B.returns
  have hT : ∀ w ∈ TBG, w.before _ s = true := fun w h => atoms_spec B.pre w (List.mem_cons_of_mem _ h)
  have hown : s.vm.findClass RX8 = some m.cls := findClass_of_methodNamed B.named
  have hlocks := B.notSynchronized
  subst hsz
  have hD := hD0.self (sz := s.heap.size)
  generalize hAe : va_A [(a0, .inr (8, [.ref a1, .ref a2, .int v_acts, .ref a3, .ref a4, .int v_keptActs, .ref a5, .int v_typed, .ref a6, .ref a7, .ref a8, .ref a9, .ref a10, .int v_isSet, .ref a11, .ref a12, .ref a13, .int v_arePages, .ref a14, .ref a15, .int v_place, .ref a16, .int v_readMany])), (a5, .inl (cI, 90, .inl v_tape)), (a16, .inl (cI, 180, .inl v_read))] s.heap.size = A at hD hF ⊢
  have hA : ∀ q : Nat, s.heap.size ≤ q → A q := fun q h => by rw [← hAe]; exact Or.inr h
  have hS : va_S A s.heap s.heap [] := va_S.rf
  have hl := lv_entry ([.ref a0, .int x1]) (n := 4) (Nat.le_of_ble_eq_true rfl)
  rw [lg_entry_eq]
  generalize (lg_sl ([.ref a0, .int x1]) ++ List.replicate (4 - (lg_sl ([.ref a0, .int x1])).length) Slot.unset).toArray = ls at hl ⊢
  have hl : lv_has ls 4 [(0, .ref a0), (1, .int x1)] := hl
  generalize ([.ref a0, .int x1] : List Value).toArray = args at hT ⊢
  have key : ∀ (Q : State → Prop), (∀ (H : Heap) (locs : List Loc) (ls : Array Slot) (pc : Nat), decode cX8_readWords pc = .ok (.return_, 1) → va_P (dC, dI) vwCl [(a0, .inr (8, [.ref a1, .ref a2, .int v_acts, .ref a3, .ref a4, .int v_keptActs, .ref a5, .int v_typed, .ref a6, .ref a7, .ref a8, .ref a9, .ref a10, .int v_isSet, .ref a11, .ref a12, .ref a13, .int v_arePages, .ref a14, .ref a15, .int v_place_o, .ref a16, .int v_readMany])), (a5, .inl (cI, 90, .inl v_tape)), (a16, .inl (cI, 180, .inl v_read_o))] H → va_D A [(a0, .inr (8, [.ref a1, .ref a2, .int v_acts, .ref a3, .ref a4, .int v_keptActs, .ref a5, .int v_typed, .ref a6, .ref a7, .ref a8, .ref a9, .ref a10, .int v_isSet, .ref a11, .ref a12, .ref a13, .int v_arePages, .ref a14, .ref a15, .int v_place_o, .ref a16, .int v_readMany])), (a5, .inl (cI, 90, .inl v_tape)), (a16, .inl (cI, 180, .inl v_read_o))] → va_S A s.heap H locs → W p l e ({ frames := 1, cells := 0, slots := 0, locals := 25 } : Room) s m args below meth c H locs 0 0 Q (F0 m pc ls [])) → ∀ (H : Heap) (locs : List Loc) (ls : Array Slot), va_P (dC, dI) vwCl [(a0, .inr (8, [.ref a1, .ref a2, .int v_acts, .ref a3, .ref a4, .int v_keptActs, .ref a5, .int v_typed, .ref a6, .ref a7, .ref a8, .ref a9, .ref a10, .int v_isSet, .ref a11, .ref a12, .ref a13, .int v_arePages, .ref a14, .ref a15, .int v_place, .ref a16, .int v_readMany])), (a5, .inl (cI, 90, .inl v_tape)), (a16, .inl (cI, 180, .inl v_read))] H → va_D A [(a0, .inr (8, [.ref a1, .ref a2, .int v_acts, .ref a3, .ref a4, .int v_keptActs, .ref a5, .int v_typed, .ref a6, .ref a7, .ref a8, .ref a9, .ref a10, .int v_isSet, .ref a11, .ref a12, .ref a13, .int v_arePages, .ref a14, .ref a15, .int v_place, .ref a16, .int v_readMany])), (a5, .inl (cI, 90, .inl v_tape)), (a16, .inl (cI, 180, .inl v_read))] → va_S A s.heap H locs → lv_has ls 4 [(0, .ref a0), (1, .int x1)] → W p l e ({ frames := 1, cells := 0, slots := 0, locals := 25 } : Room) s m args below meth c H locs 0 0 Q (F0 m 0 ls []) := by
    intro Q hret H locs ls hP hD hS hl
    refine lv_iconst (v := 0) hx hb dX8_readWords_0 (by decide) ?_
    refine lv_istore_n (lv' := [(2, .int (0 : Int32)), (0, .ref a0), (1, .int x1)]) hx hb dX8_readWords_1 rfl hl (by decide) rfl (fun ls hl => ?_)
    have hL2 : ∀ (rr : Int32 × Int32 × (Nat → Int32)), (∀ (z_22 : Int32) (z_23 : Int32) (z_24 : (Nat → Int32)), rr = (z_22, z_23, z_24) → ∀ (H : Heap) (locs : List Loc) (ls : Array Slot), va_P (dC, dI) vwCl [(a0, .inr (8, [.ref a1, .ref a2, .int v_acts, .ref a3, .ref a4, .int v_keptActs, .ref a5, .int v_typed, .ref a6, .ref a7, .ref a8, .ref a9, .ref a10, .int v_isSet, .ref a11, .ref a12, .ref a13, .int v_arePages, .ref a14, .ref a15, .int z_23, .ref a16, .int v_readMany])), (a5, .inl (cI, 90, .inl v_tape)), (a16, .inl (cI, 180, .inl z_24))] H → va_D A [(a0, .inr (8, [.ref a1, .ref a2, .int v_acts, .ref a3, .ref a4, .int v_keptActs, .ref a5, .int v_typed, .ref a6, .ref a7, .ref a8, .ref a9, .ref a10, .int v_isSet, .ref a11, .ref a12, .ref a13, .int v_arePages, .ref a14, .ref a15, .int z_23, .ref a16, .int v_readMany])), (a5, .inl (cI, 90, .inl v_tape)), (a16, .inl (cI, 180, .inl z_24))] → va_S A s.heap H locs → lv_has ls 4 [(0, .ref a0), (1, .int x1), (2, .int z_22)] → W p l e ({ frames := 1, cells := 0, slots := 0, locals := 25 } : Room) s m args below meth c H locs 0 0 Q (F0 m 96 ls [])) → ∀ (n : Nat) (i2_1 : Int32) (v_place_2 : Int32) (v_read_3 : (Nat → Int32)), loopN (p_X8_readWords_L2 v_typed v_tape x1) n (i2_1, v_place_2, v_read_3) = some rr → ∀ (H : Heap) (locs : List Loc) (ls : Array Slot), va_P (dC, dI) vwCl [(a0, .inr (8, [.ref a1, .ref a2, .int v_acts, .ref a3, .ref a4, .int v_keptActs, .ref a5, .int v_typed, .ref a6, .ref a7, .ref a8, .ref a9, .ref a10, .int v_isSet, .ref a11, .ref a12, .ref a13, .int v_arePages, .ref a14, .ref a15, .int v_place_2, .ref a16, .int v_readMany])), (a5, .inl (cI, 90, .inl v_tape)), (a16, .inl (cI, 180, .inl v_read_3))] H → va_D A [(a0, .inr (8, [.ref a1, .ref a2, .int v_acts, .ref a3, .ref a4, .int v_keptActs, .ref a5, .int v_typed, .ref a6, .ref a7, .ref a8, .ref a9, .ref a10, .int v_isSet, .ref a11, .ref a12, .ref a13, .int v_arePages, .ref a14, .ref a15, .int v_place_2, .ref a16, .int v_readMany])), (a5, .inl (cI, 90, .inl v_tape)), (a16, .inl (cI, 180, .inl v_read_3))] → va_S A s.heap H locs → lv_has ls 4 [(0, .ref a0), (1, .int x1), (2, .int i2_1)] → W p l e ({ frames := 1, cells := 0, slots := 0, locals := 25 } : Room) s m args below meth c H locs 0 0 Q (F0 m 2 ls []) := by
      intro rr hk2 n
      induction n with
      | zero => intro i2_1 v_place_2 v_read_3 hf; cases hf
      | succ n ih2 =>
        intro i2_1 v_place_2 v_read_3 hf H locs ls hP hD hS hl
        obtain ⟨o2, hf, hi, he⟩ := loopN_el hf
        rw [p_X8_readWords_L2] at hf
        refine lv_aload_n hx hb dX8_readWords_2 rfl (lv_at hl 0 rfl) ?_
        obtain ⟨r_4, v_place_5, hq6, hf⟩ := bd2_el hf
        refine mc_V (As := []) (rest := []) (wr := [(a16, .inl (cI, 180, .inl v_read_3))]) (wn := [(a0, .inr (8, [.ref a1, .ref a2, .int v_acts, .ref a3, .ref a4, .int v_keptActs, .ref a5, .int v_typed, .ref a6, .ref a7, .ref a8, .ref a9, .ref a10, .int v_isSet, .ref a11, .ref a12, .ref a13, .int v_arePages, .ref a14, .ref a15, .int v_place_5, .ref a16, .int v_readMany])), (a5, .inl (cI, 90, .inl v_tape)), (a16, .inl (cI, 180, .inl v_read_3))]) ⟨hx, hb, hml, hown, hT⟩ (c_X8_here l dC dI cI cJ cP cS a0 a1 a2 a3 a4 a5 a6 a7 a8 a9 a10 a11 a12 a13 a14 a15 a16 v_acts v_keptActs v_typed v_isSet v_arePages v_place_2 v_readMany v_tape r_4 v_place_5 hq6) (cwV 0 hT (gdV q_ml_X8_237 q_im_X8_here q_se_X8_here q_in_X8 q_co_X8_here) rfl rfl rfl hd_X8_here ⟨Nat.le_of_ble_eq_true rfl, Nat.le_of_ble_eq_true rfl⟩) hK hF hP hD hS hA 0 rfl rfl rfl [0, 1] [2] [1, 2, 0] rfl (by decide) rfl (by decide) (by decide) rfl (by decide) rfl hl.1 rfl (Nat.le_of_ble_eq_true rfl) dX8_readWords_3 ⟨Nat.zero_le _, Nat.zero_le _⟩ (fun H locs hP hD hS => ?_)
        refine W.eq (g2 := F0 m 6 ls [.int r_4]) rfl ?_
        refine lv_i2l hx hb dX8_readWords_6 rfl ?_
        refine lv_ldc2 hx hb hown (hT _ q_kl_X8_240) dX8_readWords_7 ?_
        refine lv_ldc2 hx hb hown (hT _ q_kl_X8_242) dX8_readWords_10 ?_
        obtain ⟨r_7, hq8, hf⟩ := bd1_el hf
        refine mc_S (As := [.long (Int32.toInt64 r_4), .long (49 : Int64), .long (57 : Int64)]) (rest := []) (wr := [(a0, .inr (8, [.ref a1, .ref a2, .int v_acts, .ref a3, .ref a4, .int v_keptActs, .ref a5, .int v_typed, .ref a6, .ref a7, .ref a8, .ref a9, .ref a10, .int v_isSet, .ref a11, .ref a12, .ref a13, .int v_arePages, .ref a14, .ref a15, .int v_place_5, .ref a16, .int v_readMany])), (a5, .inl (cI, 90, .inl v_tape)), (a16, .inl (cI, 180, .inl v_read_3))]) (wn := [(a0, .inr (8, [.ref a1, .ref a2, .int v_acts, .ref a3, .ref a4, .int v_keptActs, .ref a5, .int v_typed, .ref a6, .ref a7, .ref a8, .ref a9, .ref a10, .int v_isSet, .ref a11, .ref a12, .ref a13, .int v_arePages, .ref a14, .ref a15, .int v_place_5, .ref a16, .int v_readMany])), (a5, .inl (cI, 90, .inl v_tape)), (a16, .inl (cI, 180, .inl v_read_3))]) ⟨hx, hb, hml, hown, hT⟩ (c_X8_in l dC dI cI cJ cP cS (Int32.toInt64 r_4) (49 : Int64) (57 : Int64) r_7 hq8) (va_cwS 3 hT (gdS q_ml_X8_63 q_st_X8_in q_in_X8 q_co_X8_in) rfl rfl rfl hd_X8_in ⟨Nat.le_of_ble_eq_true rfl, Nat.le_of_ble_eq_true rfl⟩) hK hF hP hD hS hA [] [0, 1, 2] [0, 1, 2] rfl (by decide) rfl (by decide) (by decide) rfl (by decide) rfl hl.1 rfl (Nat.le_of_ble_eq_true rfl) dX8_readWords_13 ⟨Nat.zero_le _, Nat.zero_le _⟩ (fun H locs hP hD hS => ?_)
        refine W.eq (g2 := F0 m 16 ls [.int r_7]) rfl ?_
        refine lv_if_eq (tgt := 96) hx hb dX8_readWords_16 (by decide) (fun c9 => ?_) (fun c9 => ?_)
        · replace hf := it_t c9 hf
          exact hk2 _ _ _ (he _ (Option.some.inj hf).symm).symm H locs ls hP hD hS (lv_sub hl [0, 1, 2] rfl)
        · replace hf := it_f c9 hf
          refine lv_iload_n hx hb dX8_readWords_19 rfl (lv_at hl 2 rfl) ?_
          refine lv_bipush (v := 6) hx hb dX8_readWords_20 (by decide) ?_
          refine lv_icmp_ge (tgt := 96) hx hb dX8_readWords_22 (by decide) (fun c10 => ?_) (fun c10 => ?_)
          · replace hf := it_t c10 hf
            exact hk2 _ _ _ (he _ (Option.some.inj hf).symm).symm H locs ls hP hD hS (lv_sub hl [0, 1, 2] rfl)
          · replace hf := it_f c10 hf
            refine lv_aload_n hx hb dX8_readWords_25 rfl (lv_at hl 0 rfl) ?_
            refine va_get (D := (dC, dI)) (ci := 8) (v := .ref a16) (C := RX8) (T := TX8) (N := 23) hx hb hT in_X8 hown hK hP 0 rfl rfl 21 (by decide) (hT _ q_fl_X8_60) (fun _ h9 => h9) rfl dX8_readWords_26 ?_
            refine lv_iload_n hx hb dX8_readWords_29 rfl (lv_at hl 1 rfl) ?_
            refine lv_iconst (v := 3) hx hb dX8_readWords_30 (by decide) ?_
            refine lv_iadd hx hb dX8_readWords_31 ?_
            refine lv_iload_n hx hb dX8_readWords_32 rfl (lv_at hl 2 rfl) ?_
            refine lv_iadd hx hb dX8_readWords_33 ?_
            refine lv_aload_n hx hb dX8_readWords_34 rfl (lv_at hl 0 rfl) ?_
            obtain ⟨r_11, v_place_12, hq13, hf⟩ := bd2_el hf
            refine mc_V (As := []) (rest := [.int ((x1 + (3 : Int32)) + i2_1), .ref a16]) (wr := [(a16, .inl (cI, 180, .inl v_read_3))]) (wn := [(a0, .inr (8, [.ref a1, .ref a2, .int v_acts, .ref a3, .ref a4, .int v_keptActs, .ref a5, .int v_typed, .ref a6, .ref a7, .ref a8, .ref a9, .ref a10, .int v_isSet, .ref a11, .ref a12, .ref a13, .int v_arePages, .ref a14, .ref a15, .int v_place_12, .ref a16, .int v_readMany])), (a5, .inl (cI, 90, .inl v_tape)), (a16, .inl (cI, 180, .inl v_read_3))]) ⟨hx, hb, hml, hown, hT⟩ (c_X8_here l dC dI cI cJ cP cS a0 a1 a2 a3 a4 a5 a6 a7 a8 a9 a10 a11 a12 a13 a14 a15 a16 v_acts v_keptActs v_typed v_isSet v_arePages v_place_5 v_readMany v_tape r_11 v_place_12 hq13) (cwV 0 hT (gdV q_ml_X8_237 q_im_X8_here q_se_X8_here q_in_X8 q_co_X8_here) rfl rfl rfl hd_X8_here ⟨Nat.le_of_ble_eq_true rfl, Nat.le_of_ble_eq_true rfl⟩) hK hF hP hD hS hA 0 rfl rfl rfl [0, 1] [2] [1, 2, 0] rfl (by decide) rfl (by decide) (by decide) rfl (by decide) rfl hl.1 rfl (Nat.le_of_ble_eq_true rfl) dX8_readWords_35 ⟨Nat.zero_le _, Nat.zero_le _⟩ (fun H locs hP hD hS => ?_)
            refine W.eq (g2 := F0 m 38 ls [.int r_11, .int ((x1 + (3 : Int32)) + i2_1), .ref a16]) rfl ?_
            refine lv_bipush (v := 48) hx hb dX8_readWords_38 (by decide) ?_
            refine lv_isub hx hb dX8_readWords_40 ?_
            obtain ⟨h14, hf⟩ := gd_el hf
            refine ia_st hx hb hK hP hD hS 2 0 rfl rfl (ib_in h14) (j := (tn ((x1 + (3 : Int32)) + i2_1))) rfl dX8_readWords_41 (fun H locs hP hD hS => ?_)
            have hP : va_P (dC, dI) vwCl [(a0, .inr (8, [.ref a1, .ref a2, .int v_acts, .ref a3, .ref a4, .int v_keptActs, .ref a5, .int v_typed, .ref a6, .ref a7, .ref a8, .ref a9, .ref a10, .int v_isSet, .ref a11, .ref a12, .ref a13, .int v_arePages, .ref a14, .ref a15, .int v_place_12, .ref a16, .int v_readMany])), (a5, .inl (cI, 90, .inl v_tape)), (a16, .inl (cI, 180, .inl (upd v_read_3 (tn ((x1 + (3 : Int32)) + i2_1)) (r_11 - (48 : Int32)))))] H := hP
            have hD : va_D A [(a0, .inr (8, [.ref a1, .ref a2, .int v_acts, .ref a3, .ref a4, .int v_keptActs, .ref a5, .int v_typed, .ref a6, .ref a7, .ref a8, .ref a9, .ref a10, .int v_isSet, .ref a11, .ref a12, .ref a13, .int v_arePages, .ref a14, .ref a15, .int v_place_12, .ref a16, .int v_readMany])), (a5, .inl (cI, 90, .inl v_tape)), (a16, .inl (cI, 180, .inl (upd v_read_3 (tn ((x1 + (3 : Int32)) + i2_1)) (r_11 - (48 : Int32)))))] := hD
            refine lv_aload_n hx hb dX8_readWords_42 rfl (lv_at hl 0 rfl) ?_
            refine lv_dup hx hb dX8_readWords_43 rfl ?_
            refine va_get (D := (dC, dI)) (ci := 8) (v := .int v_place_12) (C := RX8) (T := TX8) (N := 23) hx hb hT in_X8 hown hK hP 0 rfl rfl 20 (by decide) (hT _ q_fl_X8_234) (fun _ h9 => h9) rfl dX8_readWords_44 ?_
            refine lv_iconst (v := 1) hx hb dX8_readWords_47 (by decide) ?_
            refine lv_iadd hx hb dX8_readWords_48 ?_
            refine va_put (D := (dC, dI)) (ci := 8) (v := .int (v_place_12 + (1 : Int32))) (ty := .int) (C := RX8) (T := TX8) (N := 23) hx hb hT in_X8 tyX8 tyX8_ok nmX8 hown hK hP hD hS 0 rfl rfl 20 (by decide) (hT _ q_fl_X8_234) (fun _ h9 => h9) rfl (tyX8_ok 20 (by decide)) rfl rfl (Nat.le_of_ble_eq_true rfl) dX8_readWords_49 (fun H locs hP hD hS => ?_)
            have hP : va_P (dC, dI) vwCl [(a0, .inr (8, [.ref a1, .ref a2, .int v_acts, .ref a3, .ref a4, .int v_keptActs, .ref a5, .int v_typed, .ref a6, .ref a7, .ref a8, .ref a9, .ref a10, .int v_isSet, .ref a11, .ref a12, .ref a13, .int v_arePages, .ref a14, .ref a15, .int (v_place_12 + (1 : Int32)), .ref a16, .int v_readMany])), (a5, .inl (cI, 90, .inl v_tape)), (a16, .inl (cI, 180, .inl (upd v_read_3 (tn ((x1 + (3 : Int32)) + i2_1)) (r_11 - (48 : Int32)))))] H := hP
            have hD : va_D A [(a0, .inr (8, [.ref a1, .ref a2, .int v_acts, .ref a3, .ref a4, .int v_keptActs, .ref a5, .int v_typed, .ref a6, .ref a7, .ref a8, .ref a9, .ref a10, .int v_isSet, .ref a11, .ref a12, .ref a13, .int v_arePages, .ref a14, .ref a15, .int (v_place_12 + (1 : Int32)), .ref a16, .int v_readMany])), (a5, .inl (cI, 90, .inl v_tape)), (a16, .inl (cI, 180, .inl (upd v_read_3 (tn ((x1 + (3 : Int32)) + i2_1)) (r_11 - (48 : Int32)))))] := hD
            refine lv_aload_n hx hb dX8_readWords_52 rfl (lv_at hl 0 rfl) ?_
            obtain ⟨r_15, v_place_16, hq17, hf⟩ := bd2_el hf
            refine mc_V (As := []) (rest := []) (wr := [(a16, .inl (cI, 180, .inl (upd v_read_3 (tn ((x1 + (3 : Int32)) + i2_1)) (r_11 - (48 : Int32)))))]) (wn := [(a0, .inr (8, [.ref a1, .ref a2, .int v_acts, .ref a3, .ref a4, .int v_keptActs, .ref a5, .int v_typed, .ref a6, .ref a7, .ref a8, .ref a9, .ref a10, .int v_isSet, .ref a11, .ref a12, .ref a13, .int v_arePages, .ref a14, .ref a15, .int v_place_16, .ref a16, .int v_readMany])), (a5, .inl (cI, 90, .inl v_tape)), (a16, .inl (cI, 180, .inl (upd v_read_3 (tn ((x1 + (3 : Int32)) + i2_1)) (r_11 - (48 : Int32)))))]) ⟨hx, hb, hml, hown, hT⟩ (c_X8_here l dC dI cI cJ cP cS a0 a1 a2 a3 a4 a5 a6 a7 a8 a9 a10 a11 a12 a13 a14 a15 a16 v_acts v_keptActs v_typed v_isSet v_arePages (v_place_12 + (1 : Int32)) v_readMany v_tape r_15 v_place_16 hq17) (cwV 0 hT (gdV q_ml_X8_237 q_im_X8_here q_se_X8_here q_in_X8 q_co_X8_here) rfl rfl rfl hd_X8_here ⟨Nat.le_of_ble_eq_true rfl, Nat.le_of_ble_eq_true rfl⟩) hK hF hP hD hS hA 0 rfl rfl rfl [0, 1] [2] [1, 2, 0] rfl (by decide) rfl (by decide) (by decide) rfl (by decide) rfl hl.1 rfl (Nat.le_of_ble_eq_true rfl) dX8_readWords_53 ⟨Nat.zero_le _, Nat.zero_le _⟩ (fun H locs hP hD hS => ?_)
            refine W.eq (g2 := F0 m 56 ls [.int r_15]) rfl ?_
            obtain ⟨r_18, hq19, hf⟩ := bd1_el hf
            refine mc_S (As := [.int r_15]) (rest := []) (wr := [(a0, .inr (8, [.ref a1, .ref a2, .int v_acts, .ref a3, .ref a4, .int v_keptActs, .ref a5, .int v_typed, .ref a6, .ref a7, .ref a8, .ref a9, .ref a10, .int v_isSet, .ref a11, .ref a12, .ref a13, .int v_arePages, .ref a14, .ref a15, .int v_place_16, .ref a16, .int v_readMany])), (a5, .inl (cI, 90, .inl v_tape)), (a16, .inl (cI, 180, .inl (upd v_read_3 (tn ((x1 + (3 : Int32)) + i2_1)) (r_11 - (48 : Int32)))))]) (wn := [(a0, .inr (8, [.ref a1, .ref a2, .int v_acts, .ref a3, .ref a4, .int v_keptActs, .ref a5, .int v_typed, .ref a6, .ref a7, .ref a8, .ref a9, .ref a10, .int v_isSet, .ref a11, .ref a12, .ref a13, .int v_arePages, .ref a14, .ref a15, .int v_place_16, .ref a16, .int v_readMany])), (a5, .inl (cI, 90, .inl v_tape)), (a16, .inl (cI, 180, .inl (upd v_read_3 (tn ((x1 + (3 : Int32)) + i2_1)) (r_11 - (48 : Int32)))))]) ⟨hx, hb, hml, hown, hT⟩ (c_X8_pauseOf l dC dI cI cJ cP cS r_15 r_18 hq19) (va_cwS 1 hT (gdS q_ml_X8_244 q_st_X8_pauseOf q_in_X8 q_co_X8_pauseOf) rfl rfl rfl hd_X8_pauseOf ⟨Nat.le_of_ble_eq_true rfl, Nat.le_of_ble_eq_true rfl⟩) hK hF hP hD hS hA [] [0, 1, 2] [0, 1, 2] rfl (by decide) rfl (by decide) (by decide) rfl (by decide) rfl hl.1 rfl (Nat.le_of_ble_eq_true rfl) dX8_readWords_56 ⟨Nat.zero_le _, Nat.zero_le _⟩ (fun H locs hP hD hS => ?_)
            refine W.eq (g2 := F0 m 59 ls [.int r_18]) rfl ?_
            refine lv_istore_n (lv' := [(3, .int r_18), (0, .ref a0), (1, .int x1), (2, .int i2_1)]) hx hb dX8_readWords_59 rfl hl (by decide) rfl (fun ls hl => ?_)
            refine lv_aload_n hx hb dX8_readWords_60 rfl (lv_at hl 1 rfl) ?_
            refine va_get (D := (dC, dI)) (ci := 8) (v := .ref a16) (C := RX8) (T := TX8) (N := 23) hx hb hT in_X8 hown hK hP 0 rfl rfl 21 (by decide) (hT _ q_fl_X8_60) (fun _ h9 => h9) rfl dX8_readWords_61 ?_
            refine lv_iload_n hx hb dX8_readWords_64 rfl (lv_at hl 2 rfl) ?_
            refine lv_bipush (v := 9) hx hb dX8_readWords_65 (by decide) ?_
            refine lv_iadd hx hb dX8_readWords_67 ?_
            refine lv_iload_n hx hb dX8_readWords_68 rfl (lv_at hl 3 rfl) ?_
            refine lv_iadd hx hb dX8_readWords_69 ?_
            refine lv_iload_n hx hb dX8_readWords_70 rfl (lv_at hl 0 rfl) ?_
            obtain ⟨h20, hf⟩ := gd_el hf
            refine ia_st hx hb hK hP hD hS 2 0 rfl rfl (ib_in h20) (j := (tn ((x1 + (9 : Int32)) + i2_1))) rfl dX8_readWords_71 (fun H locs hP hD hS => ?_)
            have hP : va_P (dC, dI) vwCl [(a0, .inr (8, [.ref a1, .ref a2, .int v_acts, .ref a3, .ref a4, .int v_keptActs, .ref a5, .int v_typed, .ref a6, .ref a7, .ref a8, .ref a9, .ref a10, .int v_isSet, .ref a11, .ref a12, .ref a13, .int v_arePages, .ref a14, .ref a15, .int v_place_16, .ref a16, .int v_readMany])), (a5, .inl (cI, 90, .inl v_tape)), (a16, .inl (cI, 180, .inl (upd (upd v_read_3 (tn ((x1 + (3 : Int32)) + i2_1)) (r_11 - (48 : Int32))) (tn ((x1 + (9 : Int32)) + i2_1)) r_18)))] H := hP
            have hD : va_D A [(a0, .inr (8, [.ref a1, .ref a2, .int v_acts, .ref a3, .ref a4, .int v_keptActs, .ref a5, .int v_typed, .ref a6, .ref a7, .ref a8, .ref a9, .ref a10, .int v_isSet, .ref a11, .ref a12, .ref a13, .int v_arePages, .ref a14, .ref a15, .int v_place_16, .ref a16, .int v_readMany])), (a5, .inl (cI, 90, .inl v_tape)), (a16, .inl (cI, 180, .inl (upd (upd v_read_3 (tn ((x1 + (3 : Int32)) + i2_1)) (r_11 - (48 : Int32))) (tn ((x1 + (9 : Int32)) + i2_1)) r_18)))] := hD
            refine lv_aload_n hx hb dX8_readWords_72 rfl (lv_at hl 1 rfl) ?_
            refine lv_dup hx hb dX8_readWords_73 rfl ?_
            refine va_get (D := (dC, dI)) (ci := 8) (v := .int v_place_16) (C := RX8) (T := TX8) (N := 23) hx hb hT in_X8 hown hK hP 0 rfl rfl 20 (by decide) (hT _ q_fl_X8_234) (fun _ h9 => h9) rfl dX8_readWords_74 ?_
            refine lv_iload_n hx hb dX8_readWords_77 rfl (lv_at hl 0 rfl) ?_
            refine lv_if_le (tgt := 85) hx hb dX8_readWords_78 (by decide) (fun c21 => ?_) (fun c21 => ?_)
            · replace hf := it_t c21 hf
              refine lv_iconst (v := 0) hx hb dX8_readWords_85 (by decide) ?_
              refine lv_iadd hx hb dX8_readWords_86 ?_
              refine va_put (D := (dC, dI)) (ci := 8) (v := .int (v_place_16 + (0 : Int32))) (ty := .int) (C := RX8) (T := TX8) (N := 23) hx hb hT in_X8 tyX8 tyX8_ok nmX8 hown hK hP hD hS 0 rfl rfl 20 (by decide) (hT _ q_fl_X8_234) (fun _ h9 => h9) rfl (tyX8_ok 20 (by decide)) rfl rfl (Nat.le_of_ble_eq_true rfl) dX8_readWords_87 (fun H locs hP hD hS => ?_)
              have hP : va_P (dC, dI) vwCl [(a0, .inr (8, [.ref a1, .ref a2, .int v_acts, .ref a3, .ref a4, .int v_keptActs, .ref a5, .int v_typed, .ref a6, .ref a7, .ref a8, .ref a9, .ref a10, .int v_isSet, .ref a11, .ref a12, .ref a13, .int v_arePages, .ref a14, .ref a15, .int (v_place_16 + (0 : Int32)), .ref a16, .int v_readMany])), (a5, .inl (cI, 90, .inl v_tape)), (a16, .inl (cI, 180, .inl (upd (upd v_read_3 (tn ((x1 + (3 : Int32)) + i2_1)) (r_11 - (48 : Int32))) (tn ((x1 + (9 : Int32)) + i2_1)) r_18)))] H := hP
              have hD : va_D A [(a0, .inr (8, [.ref a1, .ref a2, .int v_acts, .ref a3, .ref a4, .int v_keptActs, .ref a5, .int v_typed, .ref a6, .ref a7, .ref a8, .ref a9, .ref a10, .int v_isSet, .ref a11, .ref a12, .ref a13, .int v_arePages, .ref a14, .ref a15, .int (v_place_16 + (0 : Int32)), .ref a16, .int v_readMany])), (a5, .inl (cI, 90, .inl v_tape)), (a16, .inl (cI, 180, .inl (upd (upd v_read_3 (tn ((x1 + (3 : Int32)) + i2_1)) (r_11 - (48 : Int32))) (tn ((x1 + (9 : Int32)) + i2_1)) r_18)))] := hD
              refine lv_iinc (v := (i2_1 + (1 : Int32))) (lv' := [(2, .int (i2_1 + (1 : Int32))), (3, .int r_18), (0, .ref a0), (1, .int x1)]) hx hb dX8_readWords_90 hl (k := 3) rfl rfl (by decide) rfl (fun ls hl => ?_)
              refine lv_goto (tgt := 2) hx hb dX8_readWords_93 (by decide) ?_
              exact ih2 (i2_1 + (1 : Int32)) (v_place_16 + (0 : Int32)) (upd (upd v_read_3 (tn ((x1 + (3 : Int32)) + i2_1)) (r_11 - (48 : Int32))) (tn ((x1 + (9 : Int32)) + i2_1)) r_18) (hi _ (Option.some.inj hf).symm) H locs ls hP hD hS (lv_sub hl [2, 3, 0] rfl)
            · replace hf := it_f c21 hf
              refine lv_iconst (v := 1) hx hb dX8_readWords_81 (by decide) ?_
              refine lv_goto (tgt := 86) hx hb dX8_readWords_82 (by decide) ?_
              refine lv_iadd hx hb dX8_readWords_86 ?_
              refine va_put (D := (dC, dI)) (ci := 8) (v := .int (v_place_16 + (1 : Int32))) (ty := .int) (C := RX8) (T := TX8) (N := 23) hx hb hT in_X8 tyX8 tyX8_ok nmX8 hown hK hP hD hS 0 rfl rfl 20 (by decide) (hT _ q_fl_X8_234) (fun _ h9 => h9) rfl (tyX8_ok 20 (by decide)) rfl rfl (Nat.le_of_ble_eq_true rfl) dX8_readWords_87 (fun H locs hP hD hS => ?_)
              have hP : va_P (dC, dI) vwCl [(a0, .inr (8, [.ref a1, .ref a2, .int v_acts, .ref a3, .ref a4, .int v_keptActs, .ref a5, .int v_typed, .ref a6, .ref a7, .ref a8, .ref a9, .ref a10, .int v_isSet, .ref a11, .ref a12, .ref a13, .int v_arePages, .ref a14, .ref a15, .int (v_place_16 + (1 : Int32)), .ref a16, .int v_readMany])), (a5, .inl (cI, 90, .inl v_tape)), (a16, .inl (cI, 180, .inl (upd (upd v_read_3 (tn ((x1 + (3 : Int32)) + i2_1)) (r_11 - (48 : Int32))) (tn ((x1 + (9 : Int32)) + i2_1)) r_18)))] H := hP
              have hD : va_D A [(a0, .inr (8, [.ref a1, .ref a2, .int v_acts, .ref a3, .ref a4, .int v_keptActs, .ref a5, .int v_typed, .ref a6, .ref a7, .ref a8, .ref a9, .ref a10, .int v_isSet, .ref a11, .ref a12, .ref a13, .int v_arePages, .ref a14, .ref a15, .int (v_place_16 + (1 : Int32)), .ref a16, .int v_readMany])), (a5, .inl (cI, 90, .inl v_tape)), (a16, .inl (cI, 180, .inl (upd (upd v_read_3 (tn ((x1 + (3 : Int32)) + i2_1)) (r_11 - (48 : Int32))) (tn ((x1 + (9 : Int32)) + i2_1)) r_18)))] := hD
              refine lv_iinc (v := (i2_1 + (1 : Int32))) (lv' := [(2, .int (i2_1 + (1 : Int32))), (3, .int r_18), (0, .ref a0), (1, .int x1)]) hx hb dX8_readWords_90 hl (k := 3) rfl rfl (by decide) rfl (fun ls hl => ?_)
              refine lv_goto (tgt := 2) hx hb dX8_readWords_93 (by decide) ?_
              exact ih2 (i2_1 + (1 : Int32)) (v_place_16 + (1 : Int32)) (upd (upd v_read_3 (tn ((x1 + (3 : Int32)) + i2_1)) (r_11 - (48 : Int32))) (tn ((x1 + (9 : Int32)) + i2_1)) r_18) (hi _ (Option.some.inj hf).symm) H locs ls hP hD hS (lv_sub hl [2, 3, 0] rfl)
    obtain ⟨f2_25, v_place_26, v_read_27, hq, hf⟩ := bd3_el hf
    refine hL2 (f2_25, v_place_26, v_read_27) (fun z_22 z_23 z_24 h9 H locs ls hP hD hS hl => ?_) fuel (0 : Int32) v_place v_read hq H locs ls hP hD hS (lv_sub hl [1, 2, 0] rfl)
    simp only [Prod.mk.injEq] at h9
    obtain ⟨h9_0, h9_1, h9_2⟩ := h9
    subst h9_0; subst h9_1; subst h9_2
    refine lv_aload_n hx hb dX8_readWords_96 rfl (lv_at hl 0 rfl) ?_
    refine va_get (D := (dC, dI)) (ci := 8) (v := .ref a16) (C := RX8) (T := TX8) (N := 23) hx hb hT in_X8 hown hK hP 0 rfl rfl 21 (by decide) (hT _ q_fl_X8_60) (fun _ h9 => h9) rfl dX8_readWords_97 ?_
    refine lv_iload_n hx hb dX8_readWords_100 rfl (lv_at hl 1 rfl) ?_
    refine lv_iconst (v := 2) hx hb dX8_readWords_101 (by decide) ?_
    refine lv_iadd hx hb dX8_readWords_102 ?_
    refine lv_iload_n hx hb dX8_readWords_103 rfl (lv_at hl 2 rfl) ?_
    obtain ⟨h28, hf⟩ := gd_el hf
    refine ia_st hx hb hK hP hD hS 2 0 rfl rfl (ib_in h28) (j := (tn (x1 + (2 : Int32)))) rfl dX8_readWords_104 (fun H locs hP hD hS => ?_)
    have hP : va_P (dC, dI) vwCl [(a0, .inr (8, [.ref a1, .ref a2, .int v_acts, .ref a3, .ref a4, .int v_keptActs, .ref a5, .int v_typed, .ref a6, .ref a7, .ref a8, .ref a9, .ref a10, .int v_isSet, .ref a11, .ref a12, .ref a13, .int v_arePages, .ref a14, .ref a15, .int v_place_26, .ref a16, .int v_readMany])), (a5, .inl (cI, 90, .inl v_tape)), (a16, .inl (cI, 180, .inl (upd v_read_27 (tn (x1 + (2 : Int32))) f2_25)))] H := hP
    have hD : va_D A [(a0, .inr (8, [.ref a1, .ref a2, .int v_acts, .ref a3, .ref a4, .int v_keptActs, .ref a5, .int v_typed, .ref a6, .ref a7, .ref a8, .ref a9, .ref a10, .int v_isSet, .ref a11, .ref a12, .ref a13, .int v_arePages, .ref a14, .ref a15, .int v_place_26, .ref a16, .int v_readMany])), (a5, .inl (cI, 90, .inl v_tape)), (a16, .inl (cI, 180, .inl (upd v_read_27 (tn (x1 + (2 : Int32))) f2_25)))] := hD
    replace hf := Option.some.inj hf
    simp only [Prod.mk.injEq] at hf
    obtain ⟨hf0, hf1⟩ := hf
    subst hf0; subst hf1
    exact hret H locs ls _ dX8_readWords_105 hP hD hS
  refine key _ ?_ _ _ _ hP hD hS hl
  intro H locs ls pc d hP hD hS
  exact W.vret hx hb hr (fun t ht hW => ⟨⟨rfl, by rw [ht]; exact hP, hD⟩, hS.F ht⟩) hS.2.2 d
def p_X8_readLines_L94 (x3_15 : Int32) (s : Int32 × (Nat → Int32)) : Option ((Int32 × (Nat → Int32)) ⊕ (Int32 × (Nat → Int32))) := match s with
  | (i4_16, v_read_17) => (if (15 : Int32) ≤ i4_16 then (some (.inr (i4_16, v_read_17))) else (gd (ib (x3_15 + i4_16) 180) (some (.inl ((i4_16 + (1 : Int32)), (upd v_read_17 (tn (x3_15 + i4_16)) (0 : Int32)))))))
def p_X8_readLines_B145_25 (v_typed : Int32) (v_tape : (Nat → Int32)) (v_readMany_3 : Int32) (r_8 : Int32) (v_place_9 : Int32) (x3_15 : Int32) (v_read_23 : (Nat → Int32)) (w2_25 : Int32) : Option ((Int32 × Int32 × Int32 × (Nat → Int32)) ⊕ ((Int32 × Int32 × Int32 × (Nat → Int32)) ⊕ (Int32 × Int32 × Int32 × (Nat → Int32)))) :=
  (gd (ib (x3_15 + (1 : Int32)) 180) (bd2 (p_X8_readWords v_typed (v_place_9 + (1 : Int32)) v_tape (upd (upd v_read_23 (tn (x3_15 + (0 : Int32))) (r_8 - (65 : Int32))) (tn (x3_15 + (1 : Int32))) w2_25) x3_15) fun v_place_27 v_read_28 => (some (.inl ((0 : Int32), v_place_27, (v_readMany_3 + (1 : Int32)), v_read_28)))))
def p_X8_readLines_B60_10 (v_typed : Int32) (v_tape : (Nat → Int32)) (i1_1 : Int32) (v_readMany_3 : Int32) (v_read_4 : (Nat → Int32)) (r_8 : Int32) (v_place_9 : Int32) : Option ((Int32 × Int32 × Int32 × (Nat → Int32)) ⊕ ((Int32 × Int32 × Int32 × (Nat → Int32)) ⊕ (Int32 × Int32 × Int32 × (Nat → Int32)))) :=
  (bd1 (p_X8_in (Int32.toInt64 r_8) (65 : Int64) (68 : Int64)) fun r_11 => (if r_11 = (0 : Int32) then (some (.inr (.inr ((0 : Int32), v_place_9, v_readMany_3, v_read_4)))) else (if (12 : Int32) ≤ v_readMany_3 then (some (.inr (.inr ((0 : Int32), v_place_9, v_readMany_3, v_read_4)))) else (nm ((15 : Int32) * v_readMany_3) fun x3_15 => (bd2 (loopN (p_X8_readLines_L94 x3_15) fuel ((0 : Int32), v_read_4)) fun f4_22 v_read_23 => (gd (ib (x3_15 + (0 : Int32)) 180) (if i1_1 = (0 : Int32) then (p_X8_readLines_B145_25 v_typed v_tape v_readMany_3 r_8 v_place_9 x3_15 v_read_23 (0 : Int32)) else (p_X8_readLines_B145_25 v_typed v_tape v_readMany_3 r_8 v_place_9 x3_15 v_read_23 (1 : Int32)))))))))
def p_X8_readLines_B23_7 (v_typed : Int32) (v_tape : (Nat → Int32)) (i1_1 : Int32) (v_readMany_3 : Int32) (v_read_4 : (Nat → Int32)) (v_place_6 : Int32) : Option ((Int32 × Int32 × Int32 × (Nat → Int32)) ⊕ ((Int32 × Int32 × Int32 × (Nat → Int32)) ⊕ (Int32 × Int32 × Int32 × (Nat → Int32)))) :=
  (bd2 (p_X8_here v_typed v_place_6 v_tape) fun r_8 v_place_9 => (if r_8 = (124 : Int32) then (if i1_1 = (0 : Int32) then (if v_readMany_3 ≤ (0 : Int32) then (p_X8_readLines_B60_10 v_typed v_tape i1_1 v_readMany_3 v_read_4 r_8 v_place_9) else (some (.inl ((1 : Int32), (v_place_9 + (1 : Int32)), v_readMany_3, v_read_4)))) else (p_X8_readLines_B60_10 v_typed v_tape i1_1 v_readMany_3 v_read_4 r_8 v_place_9)) else (p_X8_readLines_B60_10 v_typed v_tape i1_1 v_readMany_3 v_read_4 r_8 v_place_9)))
def p_X8_readLines_L12 (v_typed : Int32) (v_tape : (Nat → Int32)) (s : Int32 × Int32 × Int32 × (Nat → Int32)) : Option ((Int32 × Int32 × Int32 × (Nat → Int32)) ⊕ ((Int32 × Int32 × Int32 × (Nat → Int32)) ⊕ (Int32 × Int32 × Int32 × (Nat → Int32)))) := match s with
  | (i1_1, v_place_2, v_readMany_3, v_read_4) => (bd2 (p_X8_here v_typed v_place_2 v_tape) fun r_5 v_place_6 => (if r_5 = (0 : Int32) then (if i1_1 = (0 : Int32) then (some (.inr (.inl (i1_1, v_place_6, v_readMany_3, v_read_4)))) else (p_X8_readLines_B23_7 v_typed v_tape i1_1 v_readMany_3 v_read_4 v_place_6)) else (p_X8_readLines_B23_7 v_typed v_tape i1_1 v_readMany_3 v_read_4 v_place_6)))
def p_X8_readLines (v_typed : Int32) (v_place : Int32) (v_readMany : Int32) (v_tape : (Nat → Int32)) (v_read : (Nat → Int32)) : Option (Int32 × Int32 × Int32 × (Nat → Int32)) :=
  (bdS (loopN (p_X8_readLines_L12 v_typed v_tape) fuel ((0 : Int32), (0 : Int32), (0 : Int32), v_read)) (fun q => bd4 (some q) fun f1_44 v_place_45 v_readMany_46 v_read_47 => (some ((1 : Int32), v_place_45, v_readMany_46, v_read_47))) (fun q => some q))
set_option maxHeartbeats 4000000 in
set_option maxRecDepth 100000 in
theorem c_X8_readLines (l : Launch) (dC : Nat → ClassId) (dI : Nat → Nat → Nat) (cI cJ cP cS : ClassId) (a0 : Nat) (a1 : Nat) (a2 : Nat) (a3 : Nat) (a4 : Nat) (a5 : Nat) (a6 : Nat) (a7 : Nat) (a8 : Nat) (a9 : Nat) (a10 : Nat) (a11 : Nat) (a12 : Nat) (a13 : Nat) (a14 : Nat) (a15 : Nat) (a16 : Nat) (v_acts : Int32) (v_keptActs : Int32) (v_typed : Int32) (v_isSet : Int32) (v_arePages : Int32) (v_place : Int32) (v_readMany : Int32) (v_tape : (Nat → Int32)) (v_read : (Nat → Int32))   (rv : Int32) (v_place_o : Int32) (v_readMany_o : Int32) (v_read_o : (Nat → Int32)) (hf : p_X8_readLines v_typed v_place v_readMany v_tape v_read = some (rv, v_place_o, v_readMany_o, v_read_o)) : MC l (dC, dI) (tyl cI cJ cP cS) yX8_readLines (Cond.code yX8_readLines cX8_readLines 5 (some .boolean) :: TBG) ({ frames := 2, cells := 0, slots := 0, locals := 48 } : Room) [.ref a0] [(a0, .inr (8, [.ref a1, .ref a2, .int v_acts, .ref a3, .ref a4, .int v_keptActs, .ref a5, .int v_typed, .ref a6, .ref a7, .ref a8, .ref a9, .ref a10, .int v_isSet, .ref a11, .ref a12, .ref a13, .int v_arePages, .ref a14, .ref a15, .int v_place, .ref a16, .int v_readMany])), (a5, .inl (cI, 90, .inl v_tape)), (a16, .inl (cI, 180, .inl v_read))] [(a0, .inr (8, [.ref a1, .ref a2, .int v_acts, .ref a3, .ref a4, .int v_keptActs, .ref a5, .int v_typed, .ref a6, .ref a7, .ref a8, .ref a9, .ref a10, .int v_isSet, .ref a11, .ref a12, .ref a13, .int v_arePages, .ref a14, .ref a15, .int v_place_o, .ref a16, .int v_readMany_o])), (a5, .inl (cI, 90, .inl v_tape)), (a16, .inl (cI, 180, .inl v_read_o))] (some (.int rv)) := by
  intro sz
  unfold MPost
  refine Met.ofW (cc := cX8_readLines) (maxL := 5) (ret := (some .boolean)) (by decide) rfl ?_
  intro p e s m args below meth c s₁ B hml hv
  obtain ⟨rfl, hsz, hP, hK, hD0, hF⟩ := hv
  have hx := B.exec
  have hb := B.bytes
  have hr := B.returns
  have hT : ∀ w ∈ TBG, w.before _ s = true := fun w h => atoms_spec B.pre w (List.mem_cons_of_mem _ h)
  have hown : s.vm.findClass RX8 = some m.cls := findClass_of_methodNamed B.named
  have hlocks := B.notSynchronized
  subst hsz
  have hD := hD0.self (sz := s.heap.size)
  generalize hAe : va_A [(a0, .inr (8, [.ref a1, .ref a2, .int v_acts, .ref a3, .ref a4, .int v_keptActs, .ref a5, .int v_typed, .ref a6, .ref a7, .ref a8, .ref a9, .ref a10, .int v_isSet, .ref a11, .ref a12, .ref a13, .int v_arePages, .ref a14, .ref a15, .int v_place, .ref a16, .int v_readMany])), (a5, .inl (cI, 90, .inl v_tape)), (a16, .inl (cI, 180, .inl v_read))] s.heap.size = A at hD hF ⊢
  have hA : ∀ q : Nat, s.heap.size ≤ q → A q := fun q h => by rw [← hAe]; exact Or.inr h
  have hS : va_S A s.heap s.heap [] := va_S.rf
  have hl := lv_entry ([.ref a0]) (n := 5) (Nat.le_of_ble_eq_true rfl)
  rw [lg_entry_eq]
  generalize (lg_sl ([.ref a0]) ++ List.replicate (5 - (lg_sl ([.ref a0])).length) Slot.unset).toArray = ls at hl ⊢
  have hl : lv_has ls 5 [(0, .ref a0)] := hl
  generalize ([.ref a0] : List Value).toArray = args at hT ⊢
  have key : ∀ (Q : State → Prop), (∀ (H : Heap) (locs : List Loc) (ls : Array Slot) (pc : Nat), decode cX8_readLines pc = .ok (.ireturn, 1) → narrow .boolean (.int rv) = .int rv → va_P (dC, dI) vwCl [(a0, .inr (8, [.ref a1, .ref a2, .int v_acts, .ref a3, .ref a4, .int v_keptActs, .ref a5, .int v_typed, .ref a6, .ref a7, .ref a8, .ref a9, .ref a10, .int v_isSet, .ref a11, .ref a12, .ref a13, .int v_arePages, .ref a14, .ref a15, .int v_place_o, .ref a16, .int v_readMany_o])), (a5, .inl (cI, 90, .inl v_tape)), (a16, .inl (cI, 180, .inl v_read_o))] H → va_D A [(a0, .inr (8, [.ref a1, .ref a2, .int v_acts, .ref a3, .ref a4, .int v_keptActs, .ref a5, .int v_typed, .ref a6, .ref a7, .ref a8, .ref a9, .ref a10, .int v_isSet, .ref a11, .ref a12, .ref a13, .int v_arePages, .ref a14, .ref a15, .int v_place_o, .ref a16, .int v_readMany_o])), (a5, .inl (cI, 90, .inl v_tape)), (a16, .inl (cI, 180, .inl v_read_o))] → va_S A s.heap H locs → W p l e ({ frames := 2, cells := 0, slots := 0, locals := 48 } : Room) s m args below meth c H locs 0 0 Q (F0 m pc ls [.int rv])) → ∀ (H : Heap) (locs : List Loc) (ls : Array Slot), va_P (dC, dI) vwCl [(a0, .inr (8, [.ref a1, .ref a2, .int v_acts, .ref a3, .ref a4, .int v_keptActs, .ref a5, .int v_typed, .ref a6, .ref a7, .ref a8, .ref a9, .ref a10, .int v_isSet, .ref a11, .ref a12, .ref a13, .int v_arePages, .ref a14, .ref a15, .int v_place, .ref a16, .int v_readMany])), (a5, .inl (cI, 90, .inl v_tape)), (a16, .inl (cI, 180, .inl v_read))] H → va_D A [(a0, .inr (8, [.ref a1, .ref a2, .int v_acts, .ref a3, .ref a4, .int v_keptActs, .ref a5, .int v_typed, .ref a6, .ref a7, .ref a8, .ref a9, .ref a10, .int v_isSet, .ref a11, .ref a12, .ref a13, .int v_arePages, .ref a14, .ref a15, .int v_place, .ref a16, .int v_readMany])), (a5, .inl (cI, 90, .inl v_tape)), (a16, .inl (cI, 180, .inl v_read))] → va_S A s.heap H locs → lv_has ls 5 [(0, .ref a0)] → W p l e ({ frames := 2, cells := 0, slots := 0, locals := 48 } : Room) s m args below meth c H locs 0 0 Q (F0 m 0 ls []) := by
    intro Q hret H locs ls hP hD hS hl
    refine lv_aload_n hx hb dX8_readLines_0 rfl (lv_at hl 0 rfl) ?_
    refine lv_iconst (v := 0) hx hb dX8_readLines_1 (by decide) ?_
    refine va_put (D := (dC, dI)) (ci := 8) (v := .int (0 : Int32)) (ty := .int) (C := RX8) (T := TX8) (N := 23) hx hb hT in_X8 tyX8 tyX8_ok nmX8 hown hK hP hD hS 0 rfl rfl 20 (by decide) (hT _ q_fl_X8_234) (fun _ h9 => h9) rfl (tyX8_ok 20 (by decide)) rfl rfl (Nat.le_of_ble_eq_true rfl) dX8_readLines_2 (fun H locs hP hD hS => ?_)
    have hP : va_P (dC, dI) vwCl [(a0, .inr (8, [.ref a1, .ref a2, .int v_acts, .ref a3, .ref a4, .int v_keptActs, .ref a5, .int v_typed, .ref a6, .ref a7, .ref a8, .ref a9, .ref a10, .int v_isSet, .ref a11, .ref a12, .ref a13, .int v_arePages, .ref a14, .ref a15, .int (0 : Int32), .ref a16, .int v_readMany])), (a5, .inl (cI, 90, .inl v_tape)), (a16, .inl (cI, 180, .inl v_read))] H := hP
    have hD : va_D A [(a0, .inr (8, [.ref a1, .ref a2, .int v_acts, .ref a3, .ref a4, .int v_keptActs, .ref a5, .int v_typed, .ref a6, .ref a7, .ref a8, .ref a9, .ref a10, .int v_isSet, .ref a11, .ref a12, .ref a13, .int v_arePages, .ref a14, .ref a15, .int (0 : Int32), .ref a16, .int v_readMany])), (a5, .inl (cI, 90, .inl v_tape)), (a16, .inl (cI, 180, .inl v_read))] := hD
    refine lv_aload_n hx hb dX8_readLines_5 rfl (lv_at hl 0 rfl) ?_
    refine lv_iconst (v := 0) hx hb dX8_readLines_6 (by decide) ?_
    refine va_put (D := (dC, dI)) (ci := 8) (v := .int (0 : Int32)) (ty := .int) (C := RX8) (T := TX8) (N := 23) hx hb hT in_X8 tyX8 tyX8_ok nmX8 hown hK hP hD hS 0 rfl rfl 22 (by decide) (hT _ q_fl_X8_247) (fun _ h9 => h9) rfl (tyX8_ok 22 (by decide)) rfl rfl (Nat.le_of_ble_eq_true rfl) dX8_readLines_7 (fun H locs hP hD hS => ?_)
    have hP : va_P (dC, dI) vwCl [(a0, .inr (8, [.ref a1, .ref a2, .int v_acts, .ref a3, .ref a4, .int v_keptActs, .ref a5, .int v_typed, .ref a6, .ref a7, .ref a8, .ref a9, .ref a10, .int v_isSet, .ref a11, .ref a12, .ref a13, .int v_arePages, .ref a14, .ref a15, .int (0 : Int32), .ref a16, .int (0 : Int32)])), (a5, .inl (cI, 90, .inl v_tape)), (a16, .inl (cI, 180, .inl v_read))] H := hP
    have hD : va_D A [(a0, .inr (8, [.ref a1, .ref a2, .int v_acts, .ref a3, .ref a4, .int v_keptActs, .ref a5, .int v_typed, .ref a6, .ref a7, .ref a8, .ref a9, .ref a10, .int v_isSet, .ref a11, .ref a12, .ref a13, .int v_arePages, .ref a14, .ref a15, .int (0 : Int32), .ref a16, .int (0 : Int32)])), (a5, .inl (cI, 90, .inl v_tape)), (a16, .inl (cI, 180, .inl v_read))] := hD
    refine lv_iconst (v := 0) hx hb dX8_readLines_10 (by decide) ?_
    refine lv_istore_n (lv' := [(1, .int (0 : Int32)), (0, .ref a0)]) hx hb dX8_readLines_11 rfl hl (by decide) rfl (fun ls hl => ?_)
    have hL12 : ∀ (rr : (Int32 × Int32 × Int32 × (Nat → Int32)) ⊕ (Int32 × Int32 × Int32 × (Nat → Int32))), (∀ (z_36 : Int32) (z_37 : Int32) (z_38 : Int32) (z_39 : (Nat → Int32)), rr = .inl (z_36, z_37, z_38, z_39) → ∀ (H : Heap) (locs : List Loc) (ls : Array Slot), va_P (dC, dI) vwCl [(a0, .inr (8, [.ref a1, .ref a2, .int v_acts, .ref a3, .ref a4, .int v_keptActs, .ref a5, .int v_typed, .ref a6, .ref a7, .ref a8, .ref a9, .ref a10, .int v_isSet, .ref a11, .ref a12, .ref a13, .int v_arePages, .ref a14, .ref a15, .int z_37, .ref a16, .int z_38])), (a5, .inl (cI, 90, .inl v_tape)), (a16, .inl (cI, 180, .inl z_39))] H → va_D A [(a0, .inr (8, [.ref a1, .ref a2, .int v_acts, .ref a3, .ref a4, .int v_keptActs, .ref a5, .int v_typed, .ref a6, .ref a7, .ref a8, .ref a9, .ref a10, .int v_isSet, .ref a11, .ref a12, .ref a13, .int v_arePages, .ref a14, .ref a15, .int z_37, .ref a16, .int z_38])), (a5, .inl (cI, 90, .inl v_tape)), (a16, .inl (cI, 180, .inl z_39))] → va_S A s.heap H locs → lv_has ls 5 [] → W p l e ({ frames := 2, cells := 0, slots := 0, locals := 48 } : Room) s m args below meth c H locs 0 0 Q (F0 m 181 ls [])) → (∀ (u_40 : Int32) (u_41 : Int32) (u_42 : Int32) (u_43 : (Nat → Int32)), rr = .inr (u_40, u_41, u_42, u_43) → ∀ (H : Heap) (locs : List Loc) (ls : Array Slot) (pc : Nat), decode cX8_readLines pc = .ok (.ireturn, 1) → narrow .boolean (.int u_40) = .int u_40 → va_P (dC, dI) vwCl [(a0, .inr (8, [.ref a1, .ref a2, .int v_acts, .ref a3, .ref a4, .int v_keptActs, .ref a5, .int v_typed, .ref a6, .ref a7, .ref a8, .ref a9, .ref a10, .int v_isSet, .ref a11, .ref a12, .ref a13, .int v_arePages, .ref a14, .ref a15, .int u_41, .ref a16, .int u_42])), (a5, .inl (cI, 90, .inl v_tape)), (a16, .inl (cI, 180, .inl u_43))] H → va_D A [(a0, .inr (8, [.ref a1, .ref a2, .int v_acts, .ref a3, .ref a4, .int v_keptActs, .ref a5, .int v_typed, .ref a6, .ref a7, .ref a8, .ref a9, .ref a10, .int v_isSet, .ref a11, .ref a12, .ref a13, .int v_arePages, .ref a14, .ref a15, .int u_41, .ref a16, .int u_42])), (a5, .inl (cI, 90, .inl v_tape)), (a16, .inl (cI, 180, .inl u_43))] → va_S A s.heap H locs → W p l e ({ frames := 2, cells := 0, slots := 0, locals := 48 } : Room) s m args below meth c H locs 0 0 Q (F0 m pc ls [.int u_40])) → ∀ (n : Nat) (i1_1 : Int32) (v_place_2 : Int32) (v_readMany_3 : Int32) (v_read_4 : (Nat → Int32)), loopN (p_X8_readLines_L12 v_typed v_tape) n (i1_1, v_place_2, v_readMany_3, v_read_4) = some rr → ∀ (H : Heap) (locs : List Loc) (ls : Array Slot), va_P (dC, dI) vwCl [(a0, .inr (8, [.ref a1, .ref a2, .int v_acts, .ref a3, .ref a4, .int v_keptActs, .ref a5, .int v_typed, .ref a6, .ref a7, .ref a8, .ref a9, .ref a10, .int v_isSet, .ref a11, .ref a12, .ref a13, .int v_arePages, .ref a14, .ref a15, .int v_place_2, .ref a16, .int v_readMany_3])), (a5, .inl (cI, 90, .inl v_tape)), (a16, .inl (cI, 180, .inl v_read_4))] H → va_D A [(a0, .inr (8, [.ref a1, .ref a2, .int v_acts, .ref a3, .ref a4, .int v_keptActs, .ref a5, .int v_typed, .ref a6, .ref a7, .ref a8, .ref a9, .ref a10, .int v_isSet, .ref a11, .ref a12, .ref a13, .int v_arePages, .ref a14, .ref a15, .int v_place_2, .ref a16, .int v_readMany_3])), (a5, .inl (cI, 90, .inl v_tape)), (a16, .inl (cI, 180, .inl v_read_4))] → va_S A s.heap H locs → lv_has ls 5 [(0, .ref a0), (1, .int i1_1)] → W p l e ({ frames := 2, cells := 0, slots := 0, locals := 48 } : Room) s m args below meth c H locs 0 0 Q (F0 m 12 ls []) := by
      intro rr hk12 hkr12 n
      induction n with
      | zero => intro i1_1 v_place_2 v_readMany_3 v_read_4 hf; cases hf
      | succ n ih12 =>
        intro i1_1 v_place_2 v_readMany_3 v_read_4 hf H locs ls hP hD hS hl
        obtain ⟨o12, hf, hi, he⟩ := loopN_el hf
        rw [p_X8_readLines_L12] at hf
        refine lv_aload_n hx hb dX8_readLines_12 rfl (lv_at hl 0 rfl) ?_
        obtain ⟨r_5, v_place_6, hq7, hf⟩ := bd2_el hf
        refine mc_V (As := []) (rest := []) (wr := [(a16, .inl (cI, 180, .inl v_read_4))]) (wn := [(a0, .inr (8, [.ref a1, .ref a2, .int v_acts, .ref a3, .ref a4, .int v_keptActs, .ref a5, .int v_typed, .ref a6, .ref a7, .ref a8, .ref a9, .ref a10, .int v_isSet, .ref a11, .ref a12, .ref a13, .int v_arePages, .ref a14, .ref a15, .int v_place_6, .ref a16, .int v_readMany_3])), (a5, .inl (cI, 90, .inl v_tape)), (a16, .inl (cI, 180, .inl v_read_4))]) ⟨hx, hb, hml, hown, hT⟩ (c_X8_here l dC dI cI cJ cP cS a0 a1 a2 a3 a4 a5 a6 a7 a8 a9 a10 a11 a12 a13 a14 a15 a16 v_acts v_keptActs v_typed v_isSet v_arePages v_place_2 v_readMany_3 v_tape r_5 v_place_6 hq7) (cwV 0 hT (gdV q_ml_X8_237 q_im_X8_here q_se_X8_here q_in_X8 q_co_X8_here) rfl rfl rfl hd_X8_here ⟨Nat.le_of_ble_eq_true rfl, Nat.le_of_ble_eq_true rfl⟩) hK hF hP hD hS hA 0 rfl rfl rfl [0, 1] [2] [1, 2, 0] rfl (by decide) rfl (by decide) (by decide) rfl (by decide) rfl hl.1 rfl (Nat.le_of_ble_eq_true rfl) dX8_readLines_13 ⟨Nat.zero_le _, Nat.zero_le _⟩ (fun H locs hP hD hS => ?_)
        refine W.eq (g2 := F0 m 16 ls [.int r_5]) rfl ?_
        have hB23_7 : ∀ (_ : Unit), p_X8_readLines_B23_7 v_typed v_tape i1_1 v_readMany_3 v_read_4 v_place_6 = some o12 → ∀ (H : Heap) (locs : List Loc) (ls : Array Slot), va_P (dC, dI) vwCl [(a0, .inr (8, [.ref a1, .ref a2, .int v_acts, .ref a3, .ref a4, .int v_keptActs, .ref a5, .int v_typed, .ref a6, .ref a7, .ref a8, .ref a9, .ref a10, .int v_isSet, .ref a11, .ref a12, .ref a13, .int v_arePages, .ref a14, .ref a15, .int v_place_6, .ref a16, .int v_readMany_3])), (a5, .inl (cI, 90, .inl v_tape)), (a16, .inl (cI, 180, .inl v_read_4))] H → va_D A [(a0, .inr (8, [.ref a1, .ref a2, .int v_acts, .ref a3, .ref a4, .int v_keptActs, .ref a5, .int v_typed, .ref a6, .ref a7, .ref a8, .ref a9, .ref a10, .int v_isSet, .ref a11, .ref a12, .ref a13, .int v_arePages, .ref a14, .ref a15, .int v_place_6, .ref a16, .int v_readMany_3])), (a5, .inl (cI, 90, .inl v_tape)), (a16, .inl (cI, 180, .inl v_read_4))] → va_S A s.heap H locs → lv_has ls 5 [(0, .ref a0), (1, .int i1_1)] → W p l e ({ frames := 2, cells := 0, slots := 0, locals := 48 } : Room) s m args below meth c H locs 0 0 Q (F0 m 23 ls []) := by
          intro _ hf H locs ls hP hD hS hl
          refine lv_aload_n hx hb dX8_readLines_23 rfl (lv_at hl 0 rfl) ?_
          obtain ⟨r_8, v_place_9, hq10, hf⟩ := bd2_el hf
          refine mc_V (As := []) (rest := []) (wr := [(a16, .inl (cI, 180, .inl v_read_4))]) (wn := [(a0, .inr (8, [.ref a1, .ref a2, .int v_acts, .ref a3, .ref a4, .int v_keptActs, .ref a5, .int v_typed, .ref a6, .ref a7, .ref a8, .ref a9, .ref a10, .int v_isSet, .ref a11, .ref a12, .ref a13, .int v_arePages, .ref a14, .ref a15, .int v_place_9, .ref a16, .int v_readMany_3])), (a5, .inl (cI, 90, .inl v_tape)), (a16, .inl (cI, 180, .inl v_read_4))]) ⟨hx, hb, hml, hown, hT⟩ (c_X8_here l dC dI cI cJ cP cS a0 a1 a2 a3 a4 a5 a6 a7 a8 a9 a10 a11 a12 a13 a14 a15 a16 v_acts v_keptActs v_typed v_isSet v_arePages v_place_6 v_readMany_3 v_tape r_8 v_place_9 hq10) (cwV 0 hT (gdV q_ml_X8_237 q_im_X8_here q_se_X8_here q_in_X8 q_co_X8_here) rfl rfl rfl hd_X8_here ⟨Nat.le_of_ble_eq_true rfl, Nat.le_of_ble_eq_true rfl⟩) hK hF hP hD hS hA 0 rfl rfl rfl [0, 1] [2] [1, 2, 0] rfl (by decide) rfl (by decide) (by decide) rfl (by decide) rfl hl.1 rfl (Nat.le_of_ble_eq_true rfl) dX8_readLines_24 ⟨Nat.zero_le _, Nat.zero_le _⟩ (fun H locs hP hD hS => ?_)
          refine W.eq (g2 := F0 m 27 ls [.int r_8]) rfl ?_
          refine lv_istore_n (lv' := [(2, .int r_8), (0, .ref a0), (1, .int i1_1)]) hx hb dX8_readLines_27 rfl hl (by decide) rfl (fun ls hl => ?_)
          refine lv_iload_n hx hb dX8_readLines_28 rfl (lv_at hl 0 rfl) ?_
          refine lv_bipush (v := 124) hx hb dX8_readLines_29 (by decide) ?_
          have hB60_10 : ∀ (_ : Unit), p_X8_readLines_B60_10 v_typed v_tape i1_1 v_readMany_3 v_read_4 r_8 v_place_9 = some o12 → ∀ (H : Heap) (locs : List Loc) (ls : Array Slot), va_P (dC, dI) vwCl [(a0, .inr (8, [.ref a1, .ref a2, .int v_acts, .ref a3, .ref a4, .int v_keptActs, .ref a5, .int v_typed, .ref a6, .ref a7, .ref a8, .ref a9, .ref a10, .int v_isSet, .ref a11, .ref a12, .ref a13, .int v_arePages, .ref a14, .ref a15, .int v_place_9, .ref a16, .int v_readMany_3])), (a5, .inl (cI, 90, .inl v_tape)), (a16, .inl (cI, 180, .inl v_read_4))] H → va_D A [(a0, .inr (8, [.ref a1, .ref a2, .int v_acts, .ref a3, .ref a4, .int v_keptActs, .ref a5, .int v_typed, .ref a6, .ref a7, .ref a8, .ref a9, .ref a10, .int v_isSet, .ref a11, .ref a12, .ref a13, .int v_arePages, .ref a14, .ref a15, .int v_place_9, .ref a16, .int v_readMany_3])), (a5, .inl (cI, 90, .inl v_tape)), (a16, .inl (cI, 180, .inl v_read_4))] → va_S A s.heap H locs → lv_has ls 5 [(0, .ref a0), (1, .int i1_1), (2, .int r_8)] → W p l e ({ frames := 2, cells := 0, slots := 0, locals := 48 } : Room) s m args below meth c H locs 0 0 Q (F0 m 60 ls []) := by
            intro _ hf H locs ls hP hD hS hl
            refine lv_iload_n hx hb dX8_readLines_60 rfl (lv_at hl 2 rfl) ?_
            refine lv_i2l hx hb dX8_readLines_61 rfl ?_
            refine lv_ldc2 hx hb hown (hT _ q_kl_X8_250) dX8_readLines_62 ?_
            refine lv_ldc2 hx hb hown (hT _ q_kl_X8_252) dX8_readLines_65 ?_
            obtain ⟨r_11, hq12, hf⟩ := bd1_el hf
            refine mc_S (As := [.long (Int32.toInt64 r_8), .long (65 : Int64), .long (68 : Int64)]) (rest := []) (wr := [(a0, .inr (8, [.ref a1, .ref a2, .int v_acts, .ref a3, .ref a4, .int v_keptActs, .ref a5, .int v_typed, .ref a6, .ref a7, .ref a8, .ref a9, .ref a10, .int v_isSet, .ref a11, .ref a12, .ref a13, .int v_arePages, .ref a14, .ref a15, .int v_place_9, .ref a16, .int v_readMany_3])), (a5, .inl (cI, 90, .inl v_tape)), (a16, .inl (cI, 180, .inl v_read_4))]) (wn := [(a0, .inr (8, [.ref a1, .ref a2, .int v_acts, .ref a3, .ref a4, .int v_keptActs, .ref a5, .int v_typed, .ref a6, .ref a7, .ref a8, .ref a9, .ref a10, .int v_isSet, .ref a11, .ref a12, .ref a13, .int v_arePages, .ref a14, .ref a15, .int v_place_9, .ref a16, .int v_readMany_3])), (a5, .inl (cI, 90, .inl v_tape)), (a16, .inl (cI, 180, .inl v_read_4))]) ⟨hx, hb, hml, hown, hT⟩ (c_X8_in l dC dI cI cJ cP cS (Int32.toInt64 r_8) (65 : Int64) (68 : Int64) r_11 hq12) (va_cwS 3 hT (gdS q_ml_X8_63 q_st_X8_in q_in_X8 q_co_X8_in) rfl rfl rfl hd_X8_in ⟨Nat.le_of_ble_eq_true rfl, Nat.le_of_ble_eq_true rfl⟩) hK hF hP hD hS hA [] [0, 1, 2] [0, 1, 2] rfl (by decide) rfl (by decide) (by decide) rfl (by decide) rfl hl.1 rfl (Nat.le_of_ble_eq_true rfl) dX8_readLines_68 ⟨Nat.zero_le _, Nat.zero_le _⟩ (fun H locs hP hD hS => ?_)
            refine W.eq (g2 := F0 m 71 ls [.int r_11]) rfl ?_
            refine lv_if_eq (tgt := 176) hx hb dX8_readLines_71 (by decide) (fun c13 => ?_) (fun c13 => ?_)
            · replace hf := it_t c13 hf
              refine lv_iconst (v := 0) hx hb dX8_readLines_176 (by decide) ?_
              exact hkr12 _ _ _ _ (he _ (Option.some.inj hf).symm).symm H locs ls _ dX8_readLines_177 rfl hP hD hS
            · replace hf := it_f c13 hf
              refine lv_aload_n hx hb dX8_readLines_74 rfl (lv_at hl 0 rfl) ?_
              refine va_get (D := (dC, dI)) (ci := 8) (v := .int v_readMany_3) (C := RX8) (T := TX8) (N := 23) hx hb hT in_X8 hown hK hP 0 rfl rfl 22 (by decide) (hT _ q_fl_X8_247) (fun _ h9 => h9) rfl dX8_readLines_75 ?_
              refine lv_bipush (v := 12) hx hb dX8_readLines_78 (by decide) ?_
              refine lv_icmp_ge (tgt := 176) hx hb dX8_readLines_80 (by decide) (fun c14 => ?_) (fun c14 => ?_)
              · replace hf := it_t c14 hf
                refine lv_iconst (v := 0) hx hb dX8_readLines_176 (by decide) ?_
                exact hkr12 _ _ _ _ (he _ (Option.some.inj hf).symm).symm H locs ls _ dX8_readLines_177 rfl hP hD hS
              · replace hf := it_f c14 hf
                refine lv_bipush (v := 15) hx hb dX8_readLines_83 (by decide) ?_
                refine lv_aload_n hx hb dX8_readLines_85 rfl (lv_at hl 0 rfl) ?_
                refine va_get (D := (dC, dI)) (ci := 8) (v := .int v_readMany_3) (C := RX8) (T := TX8) (N := 23) hx hb hT in_X8 hown hK hP 0 rfl rfl 22 (by decide) (hT _ q_fl_X8_247) (fun _ h9 => h9) rfl dX8_readLines_86 ?_
                refine lv_imul hx hb dX8_readLines_89 ?_
                obtain ⟨x3_15, ex3_15, hf⟩ := nm_el hf
                refine lv_as (congrArg Value.int ex3_15) ?_
                refine lv_istore_n (lv' := [(3, .int x3_15), (0, .ref a0), (1, .int i1_1), (2, .int r_8)]) hx hb dX8_readLines_90 rfl hl (by decide) rfl (fun ls hl => ?_)
                refine lv_iconst (v := 0) hx hb dX8_readLines_91 (by decide) ?_
                refine lv_istore (lv' := [(4, .int (0 : Int32)), (3, .int x3_15), (0, .ref a0), (1, .int i1_1), (2, .int r_8)]) hx hb dX8_readLines_92 hl (by decide) rfl (fun ls hl => ?_)
                have hL94 : ∀ (rr : Int32 × (Nat → Int32)), (∀ (z_20 : Int32) (z_21 : (Nat → Int32)), rr = (z_20, z_21) → ∀ (H : Heap) (locs : List Loc) (ls : Array Slot), va_P (dC, dI) vwCl [(a0, .inr (8, [.ref a1, .ref a2, .int v_acts, .ref a3, .ref a4, .int v_keptActs, .ref a5, .int v_typed, .ref a6, .ref a7, .ref a8, .ref a9, .ref a10, .int v_isSet, .ref a11, .ref a12, .ref a13, .int v_arePages, .ref a14, .ref a15, .int v_place_9, .ref a16, .int v_readMany_3])), (a5, .inl (cI, 90, .inl v_tape)), (a16, .inl (cI, 180, .inl z_21))] H → va_D A [(a0, .inr (8, [.ref a1, .ref a2, .int v_acts, .ref a3, .ref a4, .int v_keptActs, .ref a5, .int v_typed, .ref a6, .ref a7, .ref a8, .ref a9, .ref a10, .int v_isSet, .ref a11, .ref a12, .ref a13, .int v_arePages, .ref a14, .ref a15, .int v_place_9, .ref a16, .int v_readMany_3])), (a5, .inl (cI, 90, .inl v_tape)), (a16, .inl (cI, 180, .inl z_21))] → va_S A s.heap H locs → lv_has ls 5 [(0, .ref a0), (1, .int i1_1), (2, .int r_8), (3, .int x3_15)] → W p l e ({ frames := 2, cells := 0, slots := 0, locals := 48 } : Room) s m args below meth c H locs 0 0 Q (F0 m 117 ls [])) → ∀ (n : Nat) (i4_16 : Int32) (v_read_17 : (Nat → Int32)), loopN (p_X8_readLines_L94 x3_15) n (i4_16, v_read_17) = some rr → ∀ (H : Heap) (locs : List Loc) (ls : Array Slot), va_P (dC, dI) vwCl [(a0, .inr (8, [.ref a1, .ref a2, .int v_acts, .ref a3, .ref a4, .int v_keptActs, .ref a5, .int v_typed, .ref a6, .ref a7, .ref a8, .ref a9, .ref a10, .int v_isSet, .ref a11, .ref a12, .ref a13, .int v_arePages, .ref a14, .ref a15, .int v_place_9, .ref a16, .int v_readMany_3])), (a5, .inl (cI, 90, .inl v_tape)), (a16, .inl (cI, 180, .inl v_read_17))] H → va_D A [(a0, .inr (8, [.ref a1, .ref a2, .int v_acts, .ref a3, .ref a4, .int v_keptActs, .ref a5, .int v_typed, .ref a6, .ref a7, .ref a8, .ref a9, .ref a10, .int v_isSet, .ref a11, .ref a12, .ref a13, .int v_arePages, .ref a14, .ref a15, .int v_place_9, .ref a16, .int v_readMany_3])), (a5, .inl (cI, 90, .inl v_tape)), (a16, .inl (cI, 180, .inl v_read_17))] → va_S A s.heap H locs → lv_has ls 5 [(0, .ref a0), (1, .int i1_1), (2, .int r_8), (3, .int x3_15), (4, .int i4_16)] → W p l e ({ frames := 2, cells := 0, slots := 0, locals := 48 } : Room) s m args below meth c H locs 0 0 Q (F0 m 94 ls []) := by
                  intro rr hk94 n
                  induction n with
                  | zero => intro i4_16 v_read_17 hf; cases hf
                  | succ n ih94 =>
                    intro i4_16 v_read_17 hf H locs ls hP hD hS hl
                    obtain ⟨o94, hf, hi, he⟩ := loopN_el hf
                    refine lv_iload hx hb dX8_readLines_94 (lv_at hl 4 rfl) ?_
                    refine lv_bipush (v := 15) hx hb dX8_readLines_96 (by decide) ?_
                    refine lv_icmp_ge (tgt := 117) hx hb dX8_readLines_98 (by decide) (fun c18 => ?_) (fun c18 => ?_)
                    · replace hf := it_t c18 hf
                      exact hk94 _ _ (he _ (Option.some.inj hf).symm).symm H locs ls hP hD hS (lv_sub hl [0, 1, 2, 3] rfl)
                    · replace hf := it_f c18 hf
                      refine lv_aload_n hx hb dX8_readLines_101 rfl (lv_at hl 0 rfl) ?_
                      refine va_get (D := (dC, dI)) (ci := 8) (v := .ref a16) (C := RX8) (T := TX8) (N := 23) hx hb hT in_X8 hown hK hP 0 rfl rfl 21 (by decide) (hT _ q_fl_X8_60) (fun _ h9 => h9) rfl dX8_readLines_102 ?_
                      refine lv_iload_n hx hb dX8_readLines_105 rfl (lv_at hl 3 rfl) ?_
                      refine lv_iload hx hb dX8_readLines_106 (lv_at hl 4 rfl) ?_
                      refine lv_iadd hx hb dX8_readLines_108 ?_
                      refine lv_iconst (v := 0) hx hb dX8_readLines_109 (by decide) ?_
                      obtain ⟨h19, hf⟩ := gd_el hf
                      refine ia_st hx hb hK hP hD hS 2 0 rfl rfl (ib_in h19) (j := (tn (x3_15 + i4_16))) rfl dX8_readLines_110 (fun H locs hP hD hS => ?_)
                      have hP : va_P (dC, dI) vwCl [(a0, .inr (8, [.ref a1, .ref a2, .int v_acts, .ref a3, .ref a4, .int v_keptActs, .ref a5, .int v_typed, .ref a6, .ref a7, .ref a8, .ref a9, .ref a10, .int v_isSet, .ref a11, .ref a12, .ref a13, .int v_arePages, .ref a14, .ref a15, .int v_place_9, .ref a16, .int v_readMany_3])), (a5, .inl (cI, 90, .inl v_tape)), (a16, .inl (cI, 180, .inl (upd v_read_17 (tn (x3_15 + i4_16)) (0 : Int32))))] H := hP
                      have hD : va_D A [(a0, .inr (8, [.ref a1, .ref a2, .int v_acts, .ref a3, .ref a4, .int v_keptActs, .ref a5, .int v_typed, .ref a6, .ref a7, .ref a8, .ref a9, .ref a10, .int v_isSet, .ref a11, .ref a12, .ref a13, .int v_arePages, .ref a14, .ref a15, .int v_place_9, .ref a16, .int v_readMany_3])), (a5, .inl (cI, 90, .inl v_tape)), (a16, .inl (cI, 180, .inl (upd v_read_17 (tn (x3_15 + i4_16)) (0 : Int32))))] := hD
                      refine lv_iinc (v := (i4_16 + (1 : Int32))) (lv' := [(4, .int (i4_16 + (1 : Int32))), (0, .ref a0), (1, .int i1_1), (2, .int r_8), (3, .int x3_15)]) hx hb dX8_readLines_111 hl (k := 4) rfl rfl (by decide) rfl (fun ls hl => ?_)
                      refine lv_goto (tgt := 94) hx hb dX8_readLines_114 (by decide) ?_
                      exact ih94 (i4_16 + (1 : Int32)) (upd v_read_17 (tn (x3_15 + i4_16)) (0 : Int32)) (hi _ (Option.some.inj hf).symm) H locs ls hP hD hS (lv_sub hl [1, 2, 3, 4, 0] rfl)
                obtain ⟨f4_22, v_read_23, hq, hf⟩ := bd2_el hf
                refine hL94 (f4_22, v_read_23) (fun z_20 z_21 h9 H locs ls hP hD hS hl => ?_) fuel (0 : Int32) v_read_4 hq H locs ls hP hD hS (lv_sub hl [2, 3, 4, 1, 0] rfl)
                simp only [Prod.mk.injEq] at h9
                obtain ⟨h9_0, h9_1⟩ := h9
                subst h9_0; subst h9_1
                refine lv_aload_n hx hb dX8_readLines_117 rfl (lv_at hl 0 rfl) ?_
                refine va_get (D := (dC, dI)) (ci := 8) (v := .ref a16) (C := RX8) (T := TX8) (N := 23) hx hb hT in_X8 hown hK hP 0 rfl rfl 21 (by decide) (hT _ q_fl_X8_60) (fun _ h9 => h9) rfl dX8_readLines_118 ?_
                refine lv_iload_n hx hb dX8_readLines_121 rfl (lv_at hl 3 rfl) ?_
                refine lv_iconst (v := 0) hx hb dX8_readLines_122 (by decide) ?_
                refine lv_iadd hx hb dX8_readLines_123 ?_
                refine lv_iload_n hx hb dX8_readLines_124 rfl (lv_at hl 2 rfl) ?_
                refine lv_bipush (v := 65) hx hb dX8_readLines_125 (by decide) ?_
                refine lv_isub hx hb dX8_readLines_127 ?_
                obtain ⟨h24, hf⟩ := gd_el hf
                refine ia_st hx hb hK hP hD hS 2 0 rfl rfl (ib_in h24) (j := (tn (x3_15 + (0 : Int32)))) rfl dX8_readLines_128 (fun H locs hP hD hS => ?_)
                have hP : va_P (dC, dI) vwCl [(a0, .inr (8, [.ref a1, .ref a2, .int v_acts, .ref a3, .ref a4, .int v_keptActs, .ref a5, .int v_typed, .ref a6, .ref a7, .ref a8, .ref a9, .ref a10, .int v_isSet, .ref a11, .ref a12, .ref a13, .int v_arePages, .ref a14, .ref a15, .int v_place_9, .ref a16, .int v_readMany_3])), (a5, .inl (cI, 90, .inl v_tape)), (a16, .inl (cI, 180, .inl (upd v_read_23 (tn (x3_15 + (0 : Int32))) (r_8 - (65 : Int32)))))] H := hP
                have hD : va_D A [(a0, .inr (8, [.ref a1, .ref a2, .int v_acts, .ref a3, .ref a4, .int v_keptActs, .ref a5, .int v_typed, .ref a6, .ref a7, .ref a8, .ref a9, .ref a10, .int v_isSet, .ref a11, .ref a12, .ref a13, .int v_arePages, .ref a14, .ref a15, .int v_place_9, .ref a16, .int v_readMany_3])), (a5, .inl (cI, 90, .inl v_tape)), (a16, .inl (cI, 180, .inl (upd v_read_23 (tn (x3_15 + (0 : Int32))) (r_8 - (65 : Int32)))))] := hD
                refine lv_aload_n hx hb dX8_readLines_129 rfl (lv_at hl 0 rfl) ?_
                refine va_get (D := (dC, dI)) (ci := 8) (v := .ref a16) (C := RX8) (T := TX8) (N := 23) hx hb hT in_X8 hown hK hP 0 rfl rfl 21 (by decide) (hT _ q_fl_X8_60) (fun _ h9 => h9) rfl dX8_readLines_130 ?_
                refine lv_iload_n hx hb dX8_readLines_133 rfl (lv_at hl 3 rfl) ?_
                refine lv_iconst (v := 1) hx hb dX8_readLines_134 (by decide) ?_
                refine lv_iadd hx hb dX8_readLines_135 ?_
                refine lv_iload_n hx hb dX8_readLines_136 rfl (lv_at hl 1 rfl) ?_
                have hB145_25 : ∀ (w2_25 : Int32), p_X8_readLines_B145_25 v_typed v_tape v_readMany_3 r_8 v_place_9 x3_15 v_read_23 w2_25 = some o12 → ∀ (H : Heap) (locs : List Loc) (ls : Array Slot), va_P (dC, dI) vwCl [(a0, .inr (8, [.ref a1, .ref a2, .int v_acts, .ref a3, .ref a4, .int v_keptActs, .ref a5, .int v_typed, .ref a6, .ref a7, .ref a8, .ref a9, .ref a10, .int v_isSet, .ref a11, .ref a12, .ref a13, .int v_arePages, .ref a14, .ref a15, .int v_place_9, .ref a16, .int v_readMany_3])), (a5, .inl (cI, 90, .inl v_tape)), (a16, .inl (cI, 180, .inl (upd v_read_23 (tn (x3_15 + (0 : Int32))) (r_8 - (65 : Int32)))))] H → va_D A [(a0, .inr (8, [.ref a1, .ref a2, .int v_acts, .ref a3, .ref a4, .int v_keptActs, .ref a5, .int v_typed, .ref a6, .ref a7, .ref a8, .ref a9, .ref a10, .int v_isSet, .ref a11, .ref a12, .ref a13, .int v_arePages, .ref a14, .ref a15, .int v_place_9, .ref a16, .int v_readMany_3])), (a5, .inl (cI, 90, .inl v_tape)), (a16, .inl (cI, 180, .inl (upd v_read_23 (tn (x3_15 + (0 : Int32))) (r_8 - (65 : Int32)))))] → va_S A s.heap H locs → lv_has ls 5 [(0, .ref a0), (3, .int x3_15)] → W p l e ({ frames := 2, cells := 0, slots := 0, locals := 48 } : Room) s m args below meth c H locs 0 0 Q (F0 m 145 ls [.int w2_25, .int (x3_15 + (1 : Int32)), .ref a16]) := by
                  intro w2_25 hf H locs ls hP hD hS hl
                  obtain ⟨h26, hf⟩ := gd_el hf
                  refine ia_st hx hb hK hP hD hS 2 0 rfl rfl (ib_in h26) (j := (tn (x3_15 + (1 : Int32)))) rfl dX8_readLines_145 (fun H locs hP hD hS => ?_)
                  have hP : va_P (dC, dI) vwCl [(a0, .inr (8, [.ref a1, .ref a2, .int v_acts, .ref a3, .ref a4, .int v_keptActs, .ref a5, .int v_typed, .ref a6, .ref a7, .ref a8, .ref a9, .ref a10, .int v_isSet, .ref a11, .ref a12, .ref a13, .int v_arePages, .ref a14, .ref a15, .int v_place_9, .ref a16, .int v_readMany_3])), (a5, .inl (cI, 90, .inl v_tape)), (a16, .inl (cI, 180, .inl (upd (upd v_read_23 (tn (x3_15 + (0 : Int32))) (r_8 - (65 : Int32))) (tn (x3_15 + (1 : Int32))) w2_25)))] H := hP
                  have hD : va_D A [(a0, .inr (8, [.ref a1, .ref a2, .int v_acts, .ref a3, .ref a4, .int v_keptActs, .ref a5, .int v_typed, .ref a6, .ref a7, .ref a8, .ref a9, .ref a10, .int v_isSet, .ref a11, .ref a12, .ref a13, .int v_arePages, .ref a14, .ref a15, .int v_place_9, .ref a16, .int v_readMany_3])), (a5, .inl (cI, 90, .inl v_tape)), (a16, .inl (cI, 180, .inl (upd (upd v_read_23 (tn (x3_15 + (0 : Int32))) (r_8 - (65 : Int32))) (tn (x3_15 + (1 : Int32))) w2_25)))] := hD
                  refine lv_aload_n hx hb dX8_readLines_146 rfl (lv_at hl 0 rfl) ?_
                  refine lv_dup hx hb dX8_readLines_147 rfl ?_
                  refine va_get (D := (dC, dI)) (ci := 8) (v := .int v_place_9) (C := RX8) (T := TX8) (N := 23) hx hb hT in_X8 hown hK hP 0 rfl rfl 20 (by decide) (hT _ q_fl_X8_234) (fun _ h9 => h9) rfl dX8_readLines_148 ?_
                  refine lv_iconst (v := 1) hx hb dX8_readLines_151 (by decide) ?_
                  refine lv_iadd hx hb dX8_readLines_152 ?_
                  refine va_put (D := (dC, dI)) (ci := 8) (v := .int (v_place_9 + (1 : Int32))) (ty := .int) (C := RX8) (T := TX8) (N := 23) hx hb hT in_X8 tyX8 tyX8_ok nmX8 hown hK hP hD hS 0 rfl rfl 20 (by decide) (hT _ q_fl_X8_234) (fun _ h9 => h9) rfl (tyX8_ok 20 (by decide)) rfl rfl (Nat.le_of_ble_eq_true rfl) dX8_readLines_153 (fun H locs hP hD hS => ?_)
                  have hP : va_P (dC, dI) vwCl [(a0, .inr (8, [.ref a1, .ref a2, .int v_acts, .ref a3, .ref a4, .int v_keptActs, .ref a5, .int v_typed, .ref a6, .ref a7, .ref a8, .ref a9, .ref a10, .int v_isSet, .ref a11, .ref a12, .ref a13, .int v_arePages, .ref a14, .ref a15, .int (v_place_9 + (1 : Int32)), .ref a16, .int v_readMany_3])), (a5, .inl (cI, 90, .inl v_tape)), (a16, .inl (cI, 180, .inl (upd (upd v_read_23 (tn (x3_15 + (0 : Int32))) (r_8 - (65 : Int32))) (tn (x3_15 + (1 : Int32))) w2_25)))] H := hP
                  have hD : va_D A [(a0, .inr (8, [.ref a1, .ref a2, .int v_acts, .ref a3, .ref a4, .int v_keptActs, .ref a5, .int v_typed, .ref a6, .ref a7, .ref a8, .ref a9, .ref a10, .int v_isSet, .ref a11, .ref a12, .ref a13, .int v_arePages, .ref a14, .ref a15, .int (v_place_9 + (1 : Int32)), .ref a16, .int v_readMany_3])), (a5, .inl (cI, 90, .inl v_tape)), (a16, .inl (cI, 180, .inl (upd (upd v_read_23 (tn (x3_15 + (0 : Int32))) (r_8 - (65 : Int32))) (tn (x3_15 + (1 : Int32))) w2_25)))] := hD
                  refine lv_aload_n hx hb dX8_readLines_156 rfl (lv_at hl 0 rfl) ?_
                  refine lv_iload_n hx hb dX8_readLines_157 rfl (lv_at hl 1 rfl) ?_
                  obtain ⟨v_place_27, v_read_28, hq29, hf⟩ := bd2_el hf
                  refine mc_V (As := [.int x3_15]) (rest := []) (wr := []) (wn := [(a0, .inr (8, [.ref a1, .ref a2, .int v_acts, .ref a3, .ref a4, .int v_keptActs, .ref a5, .int v_typed, .ref a6, .ref a7, .ref a8, .ref a9, .ref a10, .int v_isSet, .ref a11, .ref a12, .ref a13, .int v_arePages, .ref a14, .ref a15, .int v_place_27, .ref a16, .int v_readMany_3])), (a5, .inl (cI, 90, .inl v_tape)), (a16, .inl (cI, 180, .inl v_read_28))]) ⟨hx, hb, hml, hown, hT⟩ (c_X8_readWords l dC dI cI cJ cP cS a0 a1 a2 a3 a4 a5 a6 a7 a8 a9 a10 a11 a12 a13 a14 a15 a16 v_acts v_keptActs v_typed v_isSet v_arePages (v_place_9 + (1 : Int32)) v_readMany_3 v_tape (upd (upd v_read_23 (tn (x3_15 + (0 : Int32))) (r_8 - (65 : Int32))) (tn (x3_15 + (1 : Int32))) w2_25) x3_15 v_place_27 v_read_28 hq29) (cwV 1 hT (gdV q_ml_X8_254 q_im_X8_readWords q_se_X8_readWords q_in_X8 q_co_X8_readWords) rfl rfl rfl hd_X8_readWords ⟨Nat.le_of_ble_eq_true rfl, Nat.le_of_ble_eq_true rfl⟩) hK hF hP hD hS hA 0 rfl rfl rfl [0, 1, 2] [] [0, 1, 2] rfl (by decide) rfl (by decide) (by decide) rfl (by decide) rfl hl.1 rfl (Nat.le_of_ble_eq_true rfl) dX8_readLines_158 ⟨Nat.zero_le _, Nat.zero_le _⟩ (fun H locs hP hD hS => ?_)
                  refine W.eq (g2 := F0 m 161 ls []) rfl ?_
                  refine lv_aload_n hx hb dX8_readLines_161 rfl (lv_at hl 0 rfl) ?_
                  refine lv_dup hx hb dX8_readLines_162 rfl ?_
                  refine va_get (D := (dC, dI)) (ci := 8) (v := .int v_readMany_3) (C := RX8) (T := TX8) (N := 23) hx hb hT in_X8 hown hK hP 0 rfl rfl 22 (by decide) (hT _ q_fl_X8_247) (fun _ h9 => h9) rfl dX8_readLines_163 ?_
                  refine lv_iconst (v := 1) hx hb dX8_readLines_166 (by decide) ?_
                  refine lv_iadd hx hb dX8_readLines_167 ?_
                  refine va_put (D := (dC, dI)) (ci := 8) (v := .int (v_readMany_3 + (1 : Int32))) (ty := .int) (C := RX8) (T := TX8) (N := 23) hx hb hT in_X8 tyX8 tyX8_ok nmX8 hown hK hP hD hS 0 rfl rfl 22 (by decide) (hT _ q_fl_X8_247) (fun _ h9 => h9) rfl (tyX8_ok 22 (by decide)) rfl rfl (Nat.le_of_ble_eq_true rfl) dX8_readLines_168 (fun H locs hP hD hS => ?_)
                  have hP : va_P (dC, dI) vwCl [(a0, .inr (8, [.ref a1, .ref a2, .int v_acts, .ref a3, .ref a4, .int v_keptActs, .ref a5, .int v_typed, .ref a6, .ref a7, .ref a8, .ref a9, .ref a10, .int v_isSet, .ref a11, .ref a12, .ref a13, .int v_arePages, .ref a14, .ref a15, .int v_place_27, .ref a16, .int (v_readMany_3 + (1 : Int32))])), (a5, .inl (cI, 90, .inl v_tape)), (a16, .inl (cI, 180, .inl v_read_28))] H := hP
                  have hD : va_D A [(a0, .inr (8, [.ref a1, .ref a2, .int v_acts, .ref a3, .ref a4, .int v_keptActs, .ref a5, .int v_typed, .ref a6, .ref a7, .ref a8, .ref a9, .ref a10, .int v_isSet, .ref a11, .ref a12, .ref a13, .int v_arePages, .ref a14, .ref a15, .int v_place_27, .ref a16, .int (v_readMany_3 + (1 : Int32))])), (a5, .inl (cI, 90, .inl v_tape)), (a16, .inl (cI, 180, .inl v_read_28))] := hD
                  refine lv_iconst (v := 0) hx hb dX8_readLines_171 (by decide) ?_
                  refine lv_istore_n (lv' := [(1, .int (0 : Int32)), (0, .ref a0), (3, .int x3_15)]) hx hb dX8_readLines_172 rfl hl (by decide) rfl (fun ls hl => ?_)
                  refine lv_goto (tgt := 178) hx hb dX8_readLines_173 (by decide) ?_
                  refine lv_goto (tgt := 12) hx hb dX8_readLines_178 (by decide) ?_
                  exact ih12 (0 : Int32) v_place_27 (v_readMany_3 + (1 : Int32)) v_read_28 (hi _ (Option.some.inj hf).symm) H locs ls hP hD hS (lv_sub hl [1, 0] rfl)
                refine lv_if_eq (tgt := 144) hx hb dX8_readLines_137 (by decide) (fun c30 => ?_) (fun c30 => ?_)
                · replace hf := it_t c30 hf
                  refine lv_iconst (v := 0) hx hb dX8_readLines_144 (by decide) ?_
                  exact hB145_25 (0 : Int32) hf H locs ls hP hD hS (lv_sub hl [0, 3] rfl)
                · replace hf := it_f c30 hf
                  refine lv_iconst (v := 1) hx hb dX8_readLines_140 (by decide) ?_
                  refine lv_goto (tgt := 145) hx hb dX8_readLines_141 (by decide) ?_
                  exact hB145_25 (1 : Int32) hf H locs ls hP hD hS (lv_sub hl [0, 3] rfl)
          refine lv_icmp_ne (tgt := 60) hx hb dX8_readLines_31 (by decide) (fun c31 => ?_) (fun c31 => ?_)
          · replace hf := it_f c31 hf
            exact hB60_10 () hf H locs ls hP hD hS (lv_sub hl [1, 2, 0] rfl)
          · replace hf := it_t c31 hf
            refine lv_iload_n hx hb dX8_readLines_34 rfl (lv_at hl 2 rfl) ?_
            refine lv_if_ne (tgt := 60) hx hb dX8_readLines_35 (by decide) (fun c32 => ?_) (fun c32 => ?_)
            · replace hf := it_f c32 hf
              exact hB60_10 () hf H locs ls hP hD hS (lv_sub hl [1, 2, 0] rfl)
            · replace hf := it_t c32 hf
              refine lv_aload_n hx hb dX8_readLines_38 rfl (lv_at hl 1 rfl) ?_
              refine va_get (D := (dC, dI)) (ci := 8) (v := .int v_readMany_3) (C := RX8) (T := TX8) (N := 23) hx hb hT in_X8 hown hK hP 0 rfl rfl 22 (by decide) (hT _ q_fl_X8_247) (fun _ h9 => h9) rfl dX8_readLines_39 ?_
              refine lv_if_le (tgt := 60) hx hb dX8_readLines_42 (by decide) (fun c33 => ?_) (fun c33 => ?_)
              · replace hf := it_t c33 hf
                exact hB60_10 () hf H locs ls hP hD hS (lv_sub hl [1, 2, 0] rfl)
              · replace hf := it_f c33 hf
                refine lv_iconst (v := 1) hx hb dX8_readLines_45 (by decide) ?_
                refine lv_istore_n (lv' := [(1, .int (1 : Int32)), (2, .int r_8), (0, .ref a0)]) hx hb dX8_readLines_46 rfl hl (by decide) rfl (fun ls hl => ?_)
                refine lv_aload_n hx hb dX8_readLines_47 rfl (lv_at hl 2 rfl) ?_
                refine lv_dup hx hb dX8_readLines_48 rfl ?_
                refine va_get (D := (dC, dI)) (ci := 8) (v := .int v_place_9) (C := RX8) (T := TX8) (N := 23) hx hb hT in_X8 hown hK hP 0 rfl rfl 20 (by decide) (hT _ q_fl_X8_234) (fun _ h9 => h9) rfl dX8_readLines_49 ?_
                refine lv_iconst (v := 1) hx hb dX8_readLines_52 (by decide) ?_
                refine lv_iadd hx hb dX8_readLines_53 ?_
                refine va_put (D := (dC, dI)) (ci := 8) (v := .int (v_place_9 + (1 : Int32))) (ty := .int) (C := RX8) (T := TX8) (N := 23) hx hb hT in_X8 tyX8 tyX8_ok nmX8 hown hK hP hD hS 0 rfl rfl 20 (by decide) (hT _ q_fl_X8_234) (fun _ h9 => h9) rfl (tyX8_ok 20 (by decide)) rfl rfl (Nat.le_of_ble_eq_true rfl) dX8_readLines_54 (fun H locs hP hD hS => ?_)
                have hP : va_P (dC, dI) vwCl [(a0, .inr (8, [.ref a1, .ref a2, .int v_acts, .ref a3, .ref a4, .int v_keptActs, .ref a5, .int v_typed, .ref a6, .ref a7, .ref a8, .ref a9, .ref a10, .int v_isSet, .ref a11, .ref a12, .ref a13, .int v_arePages, .ref a14, .ref a15, .int (v_place_9 + (1 : Int32)), .ref a16, .int v_readMany_3])), (a5, .inl (cI, 90, .inl v_tape)), (a16, .inl (cI, 180, .inl v_read_4))] H := hP
                have hD : va_D A [(a0, .inr (8, [.ref a1, .ref a2, .int v_acts, .ref a3, .ref a4, .int v_keptActs, .ref a5, .int v_typed, .ref a6, .ref a7, .ref a8, .ref a9, .ref a10, .int v_isSet, .ref a11, .ref a12, .ref a13, .int v_arePages, .ref a14, .ref a15, .int (v_place_9 + (1 : Int32)), .ref a16, .int v_readMany_3])), (a5, .inl (cI, 90, .inl v_tape)), (a16, .inl (cI, 180, .inl v_read_4))] := hD
                refine lv_goto (tgt := 178) hx hb dX8_readLines_57 (by decide) ?_
                refine lv_goto (tgt := 12) hx hb dX8_readLines_178 (by decide) ?_
                exact ih12 (1 : Int32) (v_place_9 + (1 : Int32)) v_readMany_3 v_read_4 (hi _ (Option.some.inj hf).symm) H locs ls hP hD hS (lv_sub hl [2, 0] rfl)
        refine lv_if_ne (tgt := 23) hx hb dX8_readLines_16 (by decide) (fun c34 => ?_) (fun c34 => ?_)
        · replace hf := it_f c34 hf
          exact hB23_7 () hf H locs ls hP hD hS (lv_sub hl [0, 1] rfl)
        · replace hf := it_t c34 hf
          refine lv_iload_n hx hb dX8_readLines_19 rfl (lv_at hl 1 rfl) ?_
          refine lv_if_eq (tgt := 181) hx hb dX8_readLines_20 (by decide) (fun c35 => ?_) (fun c35 => ?_)
          · replace hf := it_t c35 hf
            exact hk12 _ _ _ _ (he _ (Option.some.inj hf).symm).symm H locs ls hP hD hS (lv_sub hl [] rfl)
          · replace hf := it_f c35 hf
            exact hB23_7 () hf H locs ls hP hD hS (lv_sub hl [0, 1] rfl)
    rcases bdS_el hf with ⟨q, hq, hf⟩ | ⟨q, hq, hf⟩
    · obtain ⟨f1_44, v_place_45, v_readMany_46, v_read_47, eq9, hf⟩ := bd4_el hf
      cases eq9
      refine hL12 (.inl (f1_44, v_place_45, v_readMany_46, v_read_47)) (fun z_36 z_37 z_38 z_39 h9 H locs ls hP hD hS hl => ?_) (fun _ _ _ _ h9 => by cases h9) fuel (0 : Int32) (0 : Int32) (0 : Int32) v_read hq H locs ls hP hD hS (lv_sub hl [1, 0] rfl)
      replace h9 := Sum.inl.inj h9
      simp only [Prod.mk.injEq] at h9
      obtain ⟨h9_0, h9_1, h9_2, h9_3⟩ := h9
      subst h9_0; subst h9_1; subst h9_2; subst h9_3
      refine lv_iconst (v := 1) hx hb dX8_readLines_181 (by decide) ?_
      replace hf := Option.some.inj hf
      simp only [Prod.mk.injEq] at hf
      obtain ⟨hf0, hf1, hf2, hf3⟩ := hf
      subst hf0; subst hf1; subst hf2; subst hf3
      exact hret H locs ls _ dX8_readLines_182 rfl hP hD hS
    · refine hL12 (.inr q) (fun _ _ _ _ h9 => by cases h9) ?_ fuel (0 : Int32) (0 : Int32) (0 : Int32) v_read hq H locs ls hP hD hS (lv_sub hl [1, 0] rfl)
      intro z0 z1 z2 z3 h9
      replace h9 := Sum.inr.inj h9
      subst h9
      cases hf
      exact hret
  refine key _ ?_ _ _ _ hP hD hS hl
  intro H locs ls pc d hz hP hD hS
  exact W.zret (v := rv) hx hb hr hz (fun t ht hW => ⟨⟨rfl, by rw [ht]; exact hP, hD⟩, hS.F ht⟩) hS.2.2 d
def p_X8_read_L42 (v_readMany_3 : Int32) (v_read_4 : (Nat → Int32)) (s : Int32 × (Nat → Int32)) : Option ((Int32 × (Nat → Int32)) ⊕ (Int32 × (Nat → Int32))) := match s with
  | (i2_12, v_now_13) => (if ((15 : Int32) * v_readMany_3) ≤ i2_12 then (some (.inr (i2_12, v_now_13))) else (gd (ib i2_12 180) (gd (ib ((9 : Int32) + i2_12) 189) (some (.inl ((i2_12 + (1 : Int32)), (upd v_now_13 (tn ((9 : Int32) + i2_12)) (v_read_4 (tn i2_12)))))))))
def p_X8_read (v_acts : Int32) (v_typed : Int32) (v_place : Int32) (v_readMany : Int32) (v_now : (Nat → Int32)) (v_past : (Nat → Int32)) (v_tape : (Nat → Int32)) (v_first : (Nat → Int32)) (v_read : (Nat → Int32)) : Option (Int32 × Int32 × Int32 × Int32 × Int32 × (Nat → Int32) × (Nat → Int32) × (Nat → Int32) × (Nat → Int32)) :=
  (bd4 (p_X8_readLines v_typed v_place v_readMany v_tape v_read) fun r_1 v_place_2 v_readMany_3 v_read_4 => (if r_1 = (0 : Int32) then (some (((-20 : Int32) - v_place_2), v_acts, (0 : Int32), v_place_2, v_readMany_3, v_now, v_past, v_first, v_read_4)) else (bd1 (p_X8_starts v_now v_first) fun v_first_7 => (bd2 (p_X8_notes v_acts v_past v_first_7) fun v_acts_9 v_past_10 => (bd2 (loopN (p_X8_read_L42 v_readMany_3 v_read_4) fuel ((0 : Int32), (upd v_now 0 v_readMany_3))) fun f2_19 v_now_20 => (some (v_readMany_3, v_acts_9, (0 : Int32), v_place_2, v_readMany_3, v_now_20, v_past_10, v_first_7, v_read_4)))))))
set_option maxHeartbeats 4000000 in
set_option maxRecDepth 100000 in
theorem c_X8_read (l : Launch) (dC : Nat → ClassId) (dI : Nat → Nat → Nat) (cI cJ cP cS : ClassId) (a0 : Nat) (a1 : Nat) (a2 : Nat) (a3 : Nat) (a4 : Nat) (a5 : Nat) (a6 : Nat) (a7 : Nat) (a8 : Nat) (a9 : Nat) (a10 : Nat) (a11 : Nat) (a12 : Nat) (a13 : Nat) (a14 : Nat) (a15 : Nat) (a16 : Nat) (v_acts : Int32) (v_keptActs : Int32) (v_typed : Int32) (v_isSet : Int32) (v_arePages : Int32) (v_place : Int32) (v_readMany : Int32) (v_now : (Nat → Int32)) (v_past : (Nat → Int32)) (v_tape : (Nat → Int32)) (v_first : (Nat → Int32)) (v_read : (Nat → Int32))   (rv : Int32) (v_acts_o : Int32) (v_typed_o : Int32) (v_place_o : Int32) (v_readMany_o : Int32) (v_now_o : (Nat → Int32)) (v_past_o : (Nat → Int32)) (v_first_o : (Nat → Int32)) (v_read_o : (Nat → Int32)) (hf : p_X8_read v_acts v_typed v_place v_readMany v_now v_past v_tape v_first v_read = some (rv, v_acts_o, v_typed_o, v_place_o, v_readMany_o, v_now_o, v_past_o, v_first_o, v_read_o)) : MC l (dC, dI) (tyl cI cJ cP cS) yX8_read (Cond.code yX8_read cX8_read 3 (some .int) :: TBG) ({ frames := 3, cells := 0, slots := 0, locals := 72 } : Room) [.ref a0] [(a0, .inr (8, [.ref a1, .ref a2, .int v_acts, .ref a3, .ref a4, .int v_keptActs, .ref a5, .int v_typed, .ref a6, .ref a7, .ref a8, .ref a9, .ref a10, .int v_isSet, .ref a11, .ref a12, .ref a13, .int v_arePages, .ref a14, .ref a15, .int v_place, .ref a16, .int v_readMany])), (a1, .inl (cI, 189, .inl v_now)), (a2, .inl (cI, 1134, .inl v_past)), (a5, .inl (cI, 90, .inl v_tape)), (a15, .inl (cI, 189, .inl v_first)), (a16, .inl (cI, 180, .inl v_read))] [(a0, .inr (8, [.ref a1, .ref a2, .int v_acts_o, .ref a3, .ref a4, .int v_keptActs, .ref a5, .int v_typed_o, .ref a6, .ref a7, .ref a8, .ref a9, .ref a10, .int v_isSet, .ref a11, .ref a12, .ref a13, .int v_arePages, .ref a14, .ref a15, .int v_place_o, .ref a16, .int v_readMany_o])), (a1, .inl (cI, 189, .inl v_now_o)), (a2, .inl (cI, 1134, .inl v_past_o)), (a5, .inl (cI, 90, .inl v_tape)), (a15, .inl (cI, 189, .inl v_first_o)), (a16, .inl (cI, 180, .inl v_read_o))] (some (.int rv)) := by
  intro sz
  unfold MPost
  refine Met.ofW (cc := cX8_read) (maxL := 3) (ret := (some .int)) (by decide) rfl ?_
  intro p e s m args below meth c s₁ B hml hv
  obtain ⟨rfl, hsz, hP, hK, hD0, hF⟩ := hv
  have hx := B.exec
  have hb := B.bytes
  have hr := B.returns
  have hT : ∀ w ∈ TBG, w.before _ s = true := fun w h => atoms_spec B.pre w (List.mem_cons_of_mem _ h)
  have hown : s.vm.findClass RX8 = some m.cls := findClass_of_methodNamed B.named
  have hlocks := B.notSynchronized
  subst hsz
  have hD := hD0.self (sz := s.heap.size)
  generalize hAe : va_A [(a0, .inr (8, [.ref a1, .ref a2, .int v_acts, .ref a3, .ref a4, .int v_keptActs, .ref a5, .int v_typed, .ref a6, .ref a7, .ref a8, .ref a9, .ref a10, .int v_isSet, .ref a11, .ref a12, .ref a13, .int v_arePages, .ref a14, .ref a15, .int v_place, .ref a16, .int v_readMany])), (a1, .inl (cI, 189, .inl v_now)), (a2, .inl (cI, 1134, .inl v_past)), (a5, .inl (cI, 90, .inl v_tape)), (a15, .inl (cI, 189, .inl v_first)), (a16, .inl (cI, 180, .inl v_read))] s.heap.size = A at hD hF ⊢
  have hA : ∀ q : Nat, s.heap.size ≤ q → A q := fun q h => by rw [← hAe]; exact Or.inr h
  have hS : va_S A s.heap s.heap [] := va_S.rf
  have hl := lv_entry ([.ref a0]) (n := 3) (Nat.le_of_ble_eq_true rfl)
  rw [lg_entry_eq]
  generalize (lg_sl ([.ref a0]) ++ List.replicate (3 - (lg_sl ([.ref a0])).length) Slot.unset).toArray = ls at hl ⊢
  have hl : lv_has ls 3 [(0, .ref a0)] := hl
  generalize ([.ref a0] : List Value).toArray = args at hT ⊢
  have key : ∀ (Q : State → Prop), (∀ (H : Heap) (locs : List Loc) (ls : Array Slot) (pc : Nat), decode cX8_read pc = .ok (.ireturn, 1) → va_P (dC, dI) vwCl [(a0, .inr (8, [.ref a1, .ref a2, .int v_acts_o, .ref a3, .ref a4, .int v_keptActs, .ref a5, .int v_typed_o, .ref a6, .ref a7, .ref a8, .ref a9, .ref a10, .int v_isSet, .ref a11, .ref a12, .ref a13, .int v_arePages, .ref a14, .ref a15, .int v_place_o, .ref a16, .int v_readMany_o])), (a1, .inl (cI, 189, .inl v_now_o)), (a2, .inl (cI, 1134, .inl v_past_o)), (a5, .inl (cI, 90, .inl v_tape)), (a15, .inl (cI, 189, .inl v_first_o)), (a16, .inl (cI, 180, .inl v_read_o))] H → va_D A [(a0, .inr (8, [.ref a1, .ref a2, .int v_acts_o, .ref a3, .ref a4, .int v_keptActs, .ref a5, .int v_typed_o, .ref a6, .ref a7, .ref a8, .ref a9, .ref a10, .int v_isSet, .ref a11, .ref a12, .ref a13, .int v_arePages, .ref a14, .ref a15, .int v_place_o, .ref a16, .int v_readMany_o])), (a1, .inl (cI, 189, .inl v_now_o)), (a2, .inl (cI, 1134, .inl v_past_o)), (a5, .inl (cI, 90, .inl v_tape)), (a15, .inl (cI, 189, .inl v_first_o)), (a16, .inl (cI, 180, .inl v_read_o))] → va_S A s.heap H locs → W p l e ({ frames := 3, cells := 0, slots := 0, locals := 72 } : Room) s m args below meth c H locs 0 0 Q (F0 m pc ls [.int rv])) → ∀ (H : Heap) (locs : List Loc) (ls : Array Slot), va_P (dC, dI) vwCl [(a0, .inr (8, [.ref a1, .ref a2, .int v_acts, .ref a3, .ref a4, .int v_keptActs, .ref a5, .int v_typed, .ref a6, .ref a7, .ref a8, .ref a9, .ref a10, .int v_isSet, .ref a11, .ref a12, .ref a13, .int v_arePages, .ref a14, .ref a15, .int v_place, .ref a16, .int v_readMany])), (a1, .inl (cI, 189, .inl v_now)), (a2, .inl (cI, 1134, .inl v_past)), (a5, .inl (cI, 90, .inl v_tape)), (a15, .inl (cI, 189, .inl v_first)), (a16, .inl (cI, 180, .inl v_read))] H → va_D A [(a0, .inr (8, [.ref a1, .ref a2, .int v_acts, .ref a3, .ref a4, .int v_keptActs, .ref a5, .int v_typed, .ref a6, .ref a7, .ref a8, .ref a9, .ref a10, .int v_isSet, .ref a11, .ref a12, .ref a13, .int v_arePages, .ref a14, .ref a15, .int v_place, .ref a16, .int v_readMany])), (a1, .inl (cI, 189, .inl v_now)), (a2, .inl (cI, 1134, .inl v_past)), (a5, .inl (cI, 90, .inl v_tape)), (a15, .inl (cI, 189, .inl v_first)), (a16, .inl (cI, 180, .inl v_read))] → va_S A s.heap H locs → lv_has ls 3 [(0, .ref a0)] → W p l e ({ frames := 3, cells := 0, slots := 0, locals := 72 } : Room) s m args below meth c H locs 0 0 Q (F0 m 0 ls []) := by
    intro Q hret H locs ls hP hD hS hl
    refine lv_aload_n hx hb dX8_read_0 rfl (lv_at hl 0 rfl) ?_
    obtain ⟨r_1, v_place_2, v_readMany_3, v_read_4, hq5, hf⟩ := bd4_el hf
    refine mc_V (As := []) (rest := []) (wr := [(a1, .inl (cI, 189, .inl v_now)), (a2, .inl (cI, 1134, .inl v_past)), (a15, .inl (cI, 189, .inl v_first))]) (wn := [(a0, .inr (8, [.ref a1, .ref a2, .int v_acts, .ref a3, .ref a4, .int v_keptActs, .ref a5, .int v_typed, .ref a6, .ref a7, .ref a8, .ref a9, .ref a10, .int v_isSet, .ref a11, .ref a12, .ref a13, .int v_arePages, .ref a14, .ref a15, .int v_place_2, .ref a16, .int v_readMany_3])), (a1, .inl (cI, 189, .inl v_now)), (a2, .inl (cI, 1134, .inl v_past)), (a5, .inl (cI, 90, .inl v_tape)), (a15, .inl (cI, 189, .inl v_first)), (a16, .inl (cI, 180, .inl v_read_4))]) ⟨hx, hb, hml, hown, hT⟩ (c_X8_readLines l dC dI cI cJ cP cS a0 a1 a2 a3 a4 a5 a6 a7 a8 a9 a10 a11 a12 a13 a14 a15 a16 v_acts v_keptActs v_typed v_isSet v_arePages v_place v_readMany v_tape v_read r_1 v_place_2 v_readMany_3 v_read_4 hq5) (cwV 0 hT (gdV q_ml_X8_258 q_im_X8_readLines q_se_X8_readLines q_in_X8 q_co_X8_readLines) rfl rfl rfl hd_X8_readLines ⟨Nat.le_of_ble_eq_true rfl, Nat.le_of_ble_eq_true rfl⟩) hK hF hP hD hS hA 0 rfl rfl rfl [0, 3, 5] [1, 2, 4] [3, 0, 1, 4, 2, 5] rfl (by decide) rfl (by decide) (by decide) rfl (by decide) rfl hl.1 rfl (Nat.le_of_ble_eq_true rfl) dX8_read_1 ⟨Nat.zero_le _, Nat.zero_le _⟩ (fun H locs hP hD hS => ?_)
    refine W.eq (g2 := F0 m 4 ls [.int r_1]) rfl ?_
    refine lv_istore_n (lv' := [(1, .int r_1), (0, .ref a0)]) hx hb dX8_read_4 rfl hl (by decide) rfl (fun ls hl => ?_)
    refine lv_aload_n hx hb dX8_read_5 rfl (lv_at hl 1 rfl) ?_
    refine lv_iconst (v := 0) hx hb dX8_read_6 (by decide) ?_
    refine va_put (D := (dC, dI)) (ci := 8) (v := .int (0 : Int32)) (ty := .int) (C := RX8) (T := TX8) (N := 23) hx hb hT in_X8 tyX8 tyX8_ok nmX8 hown hK hP hD hS 0 rfl rfl 7 (by decide) (hT _ q_fl_X8_231) (fun _ h9 => h9) rfl (tyX8_ok 7 (by decide)) rfl rfl (Nat.le_of_ble_eq_true rfl) dX8_read_7 (fun H locs hP hD hS => ?_)
    have hP : va_P (dC, dI) vwCl [(a0, .inr (8, [.ref a1, .ref a2, .int v_acts, .ref a3, .ref a4, .int v_keptActs, .ref a5, .int (0 : Int32), .ref a6, .ref a7, .ref a8, .ref a9, .ref a10, .int v_isSet, .ref a11, .ref a12, .ref a13, .int v_arePages, .ref a14, .ref a15, .int v_place_2, .ref a16, .int v_readMany_3])), (a1, .inl (cI, 189, .inl v_now)), (a2, .inl (cI, 1134, .inl v_past)), (a5, .inl (cI, 90, .inl v_tape)), (a15, .inl (cI, 189, .inl v_first)), (a16, .inl (cI, 180, .inl v_read_4))] H := hP
    have hD : va_D A [(a0, .inr (8, [.ref a1, .ref a2, .int v_acts, .ref a3, .ref a4, .int v_keptActs, .ref a5, .int (0 : Int32), .ref a6, .ref a7, .ref a8, .ref a9, .ref a10, .int v_isSet, .ref a11, .ref a12, .ref a13, .int v_arePages, .ref a14, .ref a15, .int v_place_2, .ref a16, .int v_readMany_3])), (a1, .inl (cI, 189, .inl v_now)), (a2, .inl (cI, 1134, .inl v_past)), (a5, .inl (cI, 90, .inl v_tape)), (a15, .inl (cI, 189, .inl v_first)), (a16, .inl (cI, 180, .inl v_read_4))] := hD
    refine lv_iload_n hx hb dX8_read_10 rfl (lv_at hl 0 rfl) ?_
    refine lv_if_ne (tgt := 22) hx hb dX8_read_11 (by decide) (fun c6 => ?_) (fun c6 => ?_)
    · replace hf := it_f c6 hf
      refine lv_aload_n hx hb dX8_read_22 rfl (lv_at hl 1 rfl) ?_
      obtain ⟨v_first_7, hq8, hf⟩ := bd1_el hf
      refine mc_V (As := []) (rest := []) (wr := [(a2, .inl (cI, 1134, .inl v_past)), (a5, .inl (cI, 90, .inl v_tape)), (a16, .inl (cI, 180, .inl v_read_4))]) (wn := [(a0, .inr (8, [.ref a1, .ref a2, .int v_acts, .ref a3, .ref a4, .int v_keptActs, .ref a5, .int (0 : Int32), .ref a6, .ref a7, .ref a8, .ref a9, .ref a10, .int v_isSet, .ref a11, .ref a12, .ref a13, .int v_arePages, .ref a14, .ref a15, .int v_place_2, .ref a16, .int v_readMany_3])), (a1, .inl (cI, 189, .inl v_now)), (a2, .inl (cI, 1134, .inl v_past)), (a5, .inl (cI, 90, .inl v_tape)), (a15, .inl (cI, 189, .inl v_first_7)), (a16, .inl (cI, 180, .inl v_read_4))]) ⟨hx, hb, hml, hown, hT⟩ (c_X8_starts l dC dI cI cJ cP cS a0 a1 a2 a3 a4 a5 a6 a7 a8 a9 a10 a11 a12 a13 a14 a15 a16 v_acts v_keptActs (0 : Int32) v_isSet v_arePages v_place_2 v_readMany_3 v_now v_first v_first_7 hq8) (cwV 0 hT (gdV q_ml_X8_206 q_im_X8_starts q_se_X8_starts q_in_X8 q_co_X8_starts) rfl rfl rfl hd_X8_starts ⟨Nat.le_of_ble_eq_true rfl, Nat.le_of_ble_eq_true rfl⟩) hK hF hP hD hS hA 0 rfl rfl rfl [0, 1, 4] [2, 3, 5] [3, 4, 0, 1, 5, 2] rfl (by decide) rfl (by decide) (by decide) rfl (by decide) rfl hl.1 rfl (Nat.le_of_ble_eq_true rfl) dX8_read_23 ⟨Nat.zero_le _, Nat.zero_le _⟩ (fun H locs hP hD hS => ?_)
      refine W.eq (g2 := F0 m 26 ls []) rfl ?_
      refine lv_aload_n hx hb dX8_read_26 rfl (lv_at hl 1 rfl) ?_
      obtain ⟨v_acts_9, v_past_10, hq11, hf⟩ := bd2_el hf
      refine mc_V (As := []) (rest := []) (wr := [(a1, .inl (cI, 189, .inl v_now)), (a5, .inl (cI, 90, .inl v_tape)), (a16, .inl (cI, 180, .inl v_read_4))]) (wn := [(a0, .inr (8, [.ref a1, .ref a2, .int v_acts_9, .ref a3, .ref a4, .int v_keptActs, .ref a5, .int (0 : Int32), .ref a6, .ref a7, .ref a8, .ref a9, .ref a10, .int v_isSet, .ref a11, .ref a12, .ref a13, .int v_arePages, .ref a14, .ref a15, .int v_place_2, .ref a16, .int v_readMany_3])), (a1, .inl (cI, 189, .inl v_now)), (a2, .inl (cI, 1134, .inl v_past_10)), (a5, .inl (cI, 90, .inl v_tape)), (a15, .inl (cI, 189, .inl v_first_7)), (a16, .inl (cI, 180, .inl v_read_4))]) ⟨hx, hb, hml, hown, hT⟩ (c_X8_notes l dC dI cI cJ cP cS a0 a1 a2 a3 a4 a5 a6 a7 a8 a9 a10 a11 a12 a13 a14 a15 a16 v_acts v_keptActs (0 : Int32) v_isSet v_arePages v_place_2 v_readMany_3 v_past v_first_7 v_acts_9 v_past_10 hq11) (cwV 0 hT (gdV q_ml_X8_191 q_im_X8_notes q_se_X8_notes q_in_X8 q_co_X8_notes) rfl rfl rfl hd_X8_notes ⟨Nat.le_of_ble_eq_true rfl, Nat.le_of_ble_eq_true rfl⟩) hK hF hP hD hS hA 0 rfl rfl rfl [0, 2, 4] [1, 3, 5] [3, 0, 4, 1, 5, 2] rfl (by decide) rfl (by decide) (by decide) rfl (by decide) rfl hl.1 rfl (Nat.le_of_ble_eq_true rfl) dX8_read_27 ⟨Nat.zero_le _, Nat.zero_le _⟩ (fun H locs hP hD hS => ?_)
      refine W.eq (g2 := F0 m 30 ls []) rfl ?_
      refine lv_aload_n hx hb dX8_read_30 rfl (lv_at hl 1 rfl) ?_
      refine va_get (D := (dC, dI)) (ci := 8) (v := .ref a1) (C := RX8) (T := TX8) (N := 23) hx hb hT in_X8 hown hK hP 0 rfl rfl 0 (by decide) (hT _ q_fl_X8_7) (fun _ h9 => h9) rfl dX8_read_31 ?_
      refine lv_iconst (v := 0) hx hb dX8_read_34 (by decide) ?_
      refine lv_aload_n hx hb dX8_read_35 rfl (lv_at hl 1 rfl) ?_
      refine va_get (D := (dC, dI)) (ci := 8) (v := .int v_readMany_3) (C := RX8) (T := TX8) (N := 23) hx hb hT in_X8 hown hK hP 0 rfl rfl 22 (by decide) (hT _ q_fl_X8_247) (fun _ h9 => h9) rfl dX8_read_36 ?_
      refine ia_st hx hb hK hP hD hS 1 0 rfl rfl (ib_in (by decide)) (j := 0) (by decide) dX8_read_39 (fun H locs hP hD hS => ?_)
      have hP : va_P (dC, dI) vwCl [(a0, .inr (8, [.ref a1, .ref a2, .int v_acts_9, .ref a3, .ref a4, .int v_keptActs, .ref a5, .int (0 : Int32), .ref a6, .ref a7, .ref a8, .ref a9, .ref a10, .int v_isSet, .ref a11, .ref a12, .ref a13, .int v_arePages, .ref a14, .ref a15, .int v_place_2, .ref a16, .int v_readMany_3])), (a1, .inl (cI, 189, .inl (upd v_now 0 v_readMany_3))), (a2, .inl (cI, 1134, .inl v_past_10)), (a5, .inl (cI, 90, .inl v_tape)), (a15, .inl (cI, 189, .inl v_first_7)), (a16, .inl (cI, 180, .inl v_read_4))] H := hP
      have hD : va_D A [(a0, .inr (8, [.ref a1, .ref a2, .int v_acts_9, .ref a3, .ref a4, .int v_keptActs, .ref a5, .int (0 : Int32), .ref a6, .ref a7, .ref a8, .ref a9, .ref a10, .int v_isSet, .ref a11, .ref a12, .ref a13, .int v_arePages, .ref a14, .ref a15, .int v_place_2, .ref a16, .int v_readMany_3])), (a1, .inl (cI, 189, .inl (upd v_now 0 v_readMany_3))), (a2, .inl (cI, 1134, .inl v_past_10)), (a5, .inl (cI, 90, .inl v_tape)), (a15, .inl (cI, 189, .inl v_first_7)), (a16, .inl (cI, 180, .inl v_read_4))] := hD
      refine lv_iconst (v := 0) hx hb dX8_read_40 (by decide) ?_
      refine lv_istore_n (lv' := [(2, .int (0 : Int32)), (1, .int r_1), (0, .ref a0)]) hx hb dX8_read_41 rfl hl (by decide) rfl (fun ls hl => ?_)
      have hL42 : ∀ (rr : Int32 × (Nat → Int32)), (∀ (z_17 : Int32) (z_18 : (Nat → Int32)), rr = (z_17, z_18) → ∀ (H : Heap) (locs : List Loc) (ls : Array Slot), va_P (dC, dI) vwCl [(a0, .inr (8, [.ref a1, .ref a2, .int v_acts_9, .ref a3, .ref a4, .int v_keptActs, .ref a5, .int (0 : Int32), .ref a6, .ref a7, .ref a8, .ref a9, .ref a10, .int v_isSet, .ref a11, .ref a12, .ref a13, .int v_arePages, .ref a14, .ref a15, .int v_place_2, .ref a16, .int v_readMany_3])), (a1, .inl (cI, 189, .inl z_18)), (a2, .inl (cI, 1134, .inl v_past_10)), (a5, .inl (cI, 90, .inl v_tape)), (a15, .inl (cI, 189, .inl v_first_7)), (a16, .inl (cI, 180, .inl v_read_4))] H → va_D A [(a0, .inr (8, [.ref a1, .ref a2, .int v_acts_9, .ref a3, .ref a4, .int v_keptActs, .ref a5, .int (0 : Int32), .ref a6, .ref a7, .ref a8, .ref a9, .ref a10, .int v_isSet, .ref a11, .ref a12, .ref a13, .int v_arePages, .ref a14, .ref a15, .int v_place_2, .ref a16, .int v_readMany_3])), (a1, .inl (cI, 189, .inl z_18)), (a2, .inl (cI, 1134, .inl v_past_10)), (a5, .inl (cI, 90, .inl v_tape)), (a15, .inl (cI, 189, .inl v_first_7)), (a16, .inl (cI, 180, .inl v_read_4))] → va_S A s.heap H locs → lv_has ls 3 [(0, .ref a0)] → W p l e ({ frames := 3, cells := 0, slots := 0, locals := 72 } : Room) s m args below meth c H locs 0 0 Q (F0 m 74 ls [])) → ∀ (n : Nat) (i2_12 : Int32) (v_now_13 : (Nat → Int32)), loopN (p_X8_read_L42 v_readMany_3 v_read_4) n (i2_12, v_now_13) = some rr → ∀ (H : Heap) (locs : List Loc) (ls : Array Slot), va_P (dC, dI) vwCl [(a0, .inr (8, [.ref a1, .ref a2, .int v_acts_9, .ref a3, .ref a4, .int v_keptActs, .ref a5, .int (0 : Int32), .ref a6, .ref a7, .ref a8, .ref a9, .ref a10, .int v_isSet, .ref a11, .ref a12, .ref a13, .int v_arePages, .ref a14, .ref a15, .int v_place_2, .ref a16, .int v_readMany_3])), (a1, .inl (cI, 189, .inl v_now_13)), (a2, .inl (cI, 1134, .inl v_past_10)), (a5, .inl (cI, 90, .inl v_tape)), (a15, .inl (cI, 189, .inl v_first_7)), (a16, .inl (cI, 180, .inl v_read_4))] H → va_D A [(a0, .inr (8, [.ref a1, .ref a2, .int v_acts_9, .ref a3, .ref a4, .int v_keptActs, .ref a5, .int (0 : Int32), .ref a6, .ref a7, .ref a8, .ref a9, .ref a10, .int v_isSet, .ref a11, .ref a12, .ref a13, .int v_arePages, .ref a14, .ref a15, .int v_place_2, .ref a16, .int v_readMany_3])), (a1, .inl (cI, 189, .inl v_now_13)), (a2, .inl (cI, 1134, .inl v_past_10)), (a5, .inl (cI, 90, .inl v_tape)), (a15, .inl (cI, 189, .inl v_first_7)), (a16, .inl (cI, 180, .inl v_read_4))] → va_S A s.heap H locs → lv_has ls 3 [(0, .ref a0), (2, .int i2_12)] → W p l e ({ frames := 3, cells := 0, slots := 0, locals := 72 } : Room) s m args below meth c H locs 0 0 Q (F0 m 42 ls []) := by
        intro rr hk42 n
        induction n with
        | zero => intro i2_12 v_now_13 hf; cases hf
        | succ n ih42 =>
          intro i2_12 v_now_13 hf H locs ls hP hD hS hl
          obtain ⟨o42, hf, hi, he⟩ := loopN_el hf
          refine lv_iload_n hx hb dX8_read_42 rfl (lv_at hl 1 rfl) ?_
          refine lv_bipush (v := 15) hx hb dX8_read_43 (by decide) ?_
          refine lv_aload_n hx hb dX8_read_45 rfl (lv_at hl 0 rfl) ?_
          refine va_get (D := (dC, dI)) (ci := 8) (v := .int v_readMany_3) (C := RX8) (T := TX8) (N := 23) hx hb hT in_X8 hown hK hP 0 rfl rfl 22 (by decide) (hT _ q_fl_X8_247) (fun _ h9 => h9) rfl dX8_read_46 ?_
          refine lv_imul hx hb dX8_read_49 ?_
          refine lv_icmp_ge (tgt := 74) hx hb dX8_read_50 (by decide) (fun c14 => ?_) (fun c14 => ?_)
          · replace hf := it_t c14 hf
            exact hk42 _ _ (he _ (Option.some.inj hf).symm).symm H locs ls hP hD hS (lv_sub hl [0] rfl)
          · replace hf := it_f c14 hf
            refine lv_aload_n hx hb dX8_read_53 rfl (lv_at hl 0 rfl) ?_
            refine va_get (D := (dC, dI)) (ci := 8) (v := .ref a1) (C := RX8) (T := TX8) (N := 23) hx hb hT in_X8 hown hK hP 0 rfl rfl 0 (by decide) (hT _ q_fl_X8_7) (fun _ h9 => h9) rfl dX8_read_54 ?_
            refine lv_bipush (v := 9) hx hb dX8_read_57 (by decide) ?_
            refine lv_iload_n hx hb dX8_read_59 rfl (lv_at hl 1 rfl) ?_
            refine lv_iadd hx hb dX8_read_60 ?_
            refine lv_aload_n hx hb dX8_read_61 rfl (lv_at hl 0 rfl) ?_
            refine va_get (D := (dC, dI)) (ci := 8) (v := .ref a16) (C := RX8) (T := TX8) (N := 23) hx hb hT in_X8 hown hK hP 0 rfl rfl 21 (by decide) (hT _ q_fl_X8_60) (fun _ h9 => h9) rfl dX8_read_62 ?_
            refine lv_iload_n hx hb dX8_read_65 rfl (lv_at hl 1 rfl) ?_
            obtain ⟨h15, hf⟩ := gd_el hf
            refine ia_ld hx hb hK hP 5 0 rfl rfl (ib_in h15) (j := (tn i2_12)) rfl dX8_read_66 ?_
            obtain ⟨h16, hf⟩ := gd_el hf
            refine ia_st hx hb hK hP hD hS 1 0 rfl rfl (ib_in h16) (j := (tn ((9 : Int32) + i2_12))) rfl dX8_read_67 (fun H locs hP hD hS => ?_)
            have hP : va_P (dC, dI) vwCl [(a0, .inr (8, [.ref a1, .ref a2, .int v_acts_9, .ref a3, .ref a4, .int v_keptActs, .ref a5, .int (0 : Int32), .ref a6, .ref a7, .ref a8, .ref a9, .ref a10, .int v_isSet, .ref a11, .ref a12, .ref a13, .int v_arePages, .ref a14, .ref a15, .int v_place_2, .ref a16, .int v_readMany_3])), (a1, .inl (cI, 189, .inl (upd v_now_13 (tn ((9 : Int32) + i2_12)) (v_read_4 (tn i2_12))))), (a2, .inl (cI, 1134, .inl v_past_10)), (a5, .inl (cI, 90, .inl v_tape)), (a15, .inl (cI, 189, .inl v_first_7)), (a16, .inl (cI, 180, .inl v_read_4))] H := hP
            have hD : va_D A [(a0, .inr (8, [.ref a1, .ref a2, .int v_acts_9, .ref a3, .ref a4, .int v_keptActs, .ref a5, .int (0 : Int32), .ref a6, .ref a7, .ref a8, .ref a9, .ref a10, .int v_isSet, .ref a11, .ref a12, .ref a13, .int v_arePages, .ref a14, .ref a15, .int v_place_2, .ref a16, .int v_readMany_3])), (a1, .inl (cI, 189, .inl (upd v_now_13 (tn ((9 : Int32) + i2_12)) (v_read_4 (tn i2_12))))), (a2, .inl (cI, 1134, .inl v_past_10)), (a5, .inl (cI, 90, .inl v_tape)), (a15, .inl (cI, 189, .inl v_first_7)), (a16, .inl (cI, 180, .inl v_read_4))] := hD
            refine lv_iinc (v := (i2_12 + (1 : Int32))) (lv' := [(2, .int (i2_12 + (1 : Int32))), (0, .ref a0)]) hx hb dX8_read_68 hl (k := 1) rfl rfl (by decide) rfl (fun ls hl => ?_)
            refine lv_goto (tgt := 42) hx hb dX8_read_71 (by decide) ?_
            exact ih42 (i2_12 + (1 : Int32)) (upd v_now_13 (tn ((9 : Int32) + i2_12)) (v_read_4 (tn i2_12))) (hi _ (Option.some.inj hf).symm) H locs ls hP hD hS (lv_sub hl [1, 0] rfl)
      obtain ⟨f2_19, v_now_20, hq, hf⟩ := bd2_el hf
      refine hL42 (f2_19, v_now_20) (fun z_17 z_18 h9 H locs ls hP hD hS hl => ?_) fuel (0 : Int32) (upd v_now 0 v_readMany_3) hq H locs ls hP hD hS (lv_sub hl [2, 0] rfl)
      simp only [Prod.mk.injEq] at h9
      obtain ⟨h9_0, h9_1⟩ := h9
      subst h9_0; subst h9_1
      refine lv_aload_n hx hb dX8_read_74 rfl (lv_at hl 0 rfl) ?_
      refine va_get (D := (dC, dI)) (ci := 8) (v := .int v_readMany_3) (C := RX8) (T := TX8) (N := 23) hx hb hT in_X8 hown hK hP 0 rfl rfl 22 (by decide) (hT _ q_fl_X8_247) (fun _ h9 => h9) rfl dX8_read_75 ?_
      replace hf := Option.some.inj hf
      simp only [Prod.mk.injEq] at hf
      obtain ⟨hf0, hf1, hf2, hf3, hf4, hf5, hf6, hf7, hf8⟩ := hf
      subst hf0; subst hf1; subst hf2; subst hf3; subst hf4; subst hf5; subst hf6; subst hf7; subst hf8
      exact hret H locs ls _ dX8_read_78 hP hD hS
    · replace hf := it_t c6 hf
      refine lv_bipush (v := (-20)) hx hb dX8_read_14 (by decide) ?_
      refine lv_aload_n hx hb dX8_read_16 rfl (lv_at hl 1 rfl) ?_
      refine va_get (D := (dC, dI)) (ci := 8) (v := .int v_place_2) (C := RX8) (T := TX8) (N := 23) hx hb hT in_X8 hown hK hP 0 rfl rfl 20 (by decide) (hT _ q_fl_X8_234) (fun _ h9 => h9) rfl dX8_read_17 ?_
      refine lv_isub hx hb dX8_read_20 ?_
      replace hf := Option.some.inj hf
      simp only [Prod.mk.injEq] at hf
      obtain ⟨hf0, hf1, hf2, hf3, hf4, hf5, hf6, hf7, hf8⟩ := hf
      subst hf0; subst hf1; subst hf2; subst hf3; subst hf4; subst hf5; subst hf6; subst hf7; subst hf8
      exact hret H locs ls _ dX8_read_21 hP hD hS
  refine key _ ?_ _ _ _ hP hD hS hl
  intro H locs ls pc d hP hD hS
  exact W.iret (v := rv) hx hb hr (fun t ht hW => ⟨⟨rfl, by rw [ht]; exact hP, hD⟩, hS.F ht⟩) hS.2.2 d
def p_X8_turn_B56_1 (v_now : (Nat → Int32)) (x2_1 : Int32) : Option (Int32 × (Nat → Int32)) :=
  (bd2 (p_X8_lineMore v_now (irem x2_1 (4 : Int32)) (irem (x2_1 / (4 : Int32)) (2 : Int32))) fun r_2 v_now_3 => (some (r_2, v_now_3)))
def p_X8_turn_B105_4 (v_now : (Nat → Int32)) (x2_1 : Int32) : Option (Int32 × (Nat → Int32)) :=
  (bd2 (p_X8_wordMore v_now ((irem x2_1 (9 : Int32)) + (1 : Int32)) (irem (x2_1 / (9 : Int32)) (4 : Int32))) fun r_5 v_now_6 => (some (r_5, v_now_6)))
def p_X8_turn (v_now : (Nat → Int32)) (x1 : Int32) : Option (Int32 × (Nat → Int32)) :=
  (nm (x1 / (8 : Int32)) fun x2_1 => (nm (irem x1 (8 : Int32)) fun sw_8 => (if sw_8 = (0 : Int32) then (p_X8_turn_B56_1 v_now x2_1) else (if sw_8 = (1 : Int32) then (p_X8_turn_B56_1 v_now x2_1) else (if sw_8 = (2 : Int32) then (p_X8_turn_B105_4 v_now x2_1) else (if sw_8 = (3 : Int32) then (p_X8_turn_B105_4 v_now x2_1) else (if sw_8 = (4 : Int32) then (p_X8_turn_B105_4 v_now x2_1) else (if sw_8 = (5 : Int32) then (bd2 (p_X8_rhymes v_now (irem (x2_1 / (4 : Int32)) (12 : Int32)) (irem x2_1 (4 : Int32))) fun r_15 v_now_16 => (some (r_15, v_now_16))) else (if sw_8 = (6 : Int32) then (bd2 (p_X8_tells v_now (5 : Int32) (irem x2_1 (3 : Int32))) fun r_19 v_now_20 => (some (r_19, v_now_20))) else (if sw_8 = (7 : Int32) then (bd2 (p_X8_tells v_now (0 : Int32) ((irem x2_1 (35 : Int32)) + (6 : Int32))) fun r_23 v_now_24 => (some (r_23, v_now_24))) else (p_X8_turn_B105_4 v_now x2_1)))))))))))
set_option maxHeartbeats 4000000 in
set_option maxRecDepth 100000 in
theorem c_X8_turn (l : Launch) (dC : Nat → ClassId) (dI : Nat → Nat → Nat) (cI cJ cP cS : ClassId) (a0 : Nat) (a1 : Nat) (a2 : Nat) (a3 : Nat) (a4 : Nat) (a5 : Nat) (a6 : Nat) (a7 : Nat) (a8 : Nat) (a9 : Nat) (a10 : Nat) (a11 : Nat) (a12 : Nat) (a13 : Nat) (a14 : Nat) (a15 : Nat) (a16 : Nat) (v_acts : Int32) (v_keptActs : Int32) (v_typed : Int32) (v_isSet : Int32) (v_arePages : Int32) (v_place : Int32) (v_readMany : Int32) (v_now : (Nat → Int32))  (x1 : Int32) (rv : Int32) (v_now_o : (Nat → Int32)) (hf : p_X8_turn v_now x1 = some (rv, v_now_o)) : MC l (dC, dI) (tyl cI cJ cP cS) yX8_turn (Cond.code yX8_turn cX8_turn 3 (some .int) :: TBG) ({ frames := 3, cells := 0, slots := 0, locals := 69 } : Room) [.ref a0, .int x1] [(a0, .inr (8, [.ref a1, .ref a2, .int v_acts, .ref a3, .ref a4, .int v_keptActs, .ref a5, .int v_typed, .ref a6, .ref a7, .ref a8, .ref a9, .ref a10, .int v_isSet, .ref a11, .ref a12, .ref a13, .int v_arePages, .ref a14, .ref a15, .int v_place, .ref a16, .int v_readMany])), (a1, .inl (cI, 189, .inl v_now))] [(a0, .inr (8, [.ref a1, .ref a2, .int v_acts, .ref a3, .ref a4, .int v_keptActs, .ref a5, .int v_typed, .ref a6, .ref a7, .ref a8, .ref a9, .ref a10, .int v_isSet, .ref a11, .ref a12, .ref a13, .int v_arePages, .ref a14, .ref a15, .int v_place, .ref a16, .int v_readMany])), (a1, .inl (cI, 189, .inl v_now_o))] (some (.int rv)) := by
  intro sz
  unfold MPost
  refine Met.ofW (cc := cX8_turn) (maxL := 3) (ret := (some .int)) (by decide) rfl ?_
  intro p e s m args below meth c s₁ B hml hv
  obtain ⟨rfl, hsz, hP, hK, hD0, hF⟩ := hv
  have hx := B.exec
  have hb := B.bytes
  have hr := B.returns
  have hT : ∀ w ∈ TBG, w.before _ s = true := fun w h => atoms_spec B.pre w (List.mem_cons_of_mem _ h)
  have hown : s.vm.findClass RX8 = some m.cls := findClass_of_methodNamed B.named
  have hlocks := B.notSynchronized
  subst hsz
  have hD := hD0.self (sz := s.heap.size)
  generalize hAe : va_A [(a0, .inr (8, [.ref a1, .ref a2, .int v_acts, .ref a3, .ref a4, .int v_keptActs, .ref a5, .int v_typed, .ref a6, .ref a7, .ref a8, .ref a9, .ref a10, .int v_isSet, .ref a11, .ref a12, .ref a13, .int v_arePages, .ref a14, .ref a15, .int v_place, .ref a16, .int v_readMany])), (a1, .inl (cI, 189, .inl v_now))] s.heap.size = A at hD hF ⊢
  have hA : ∀ q : Nat, s.heap.size ≤ q → A q := fun q h => by rw [← hAe]; exact Or.inr h
  have hS : va_S A s.heap s.heap [] := va_S.rf
  have hl := lv_entry ([.ref a0, .int x1]) (n := 3) (Nat.le_of_ble_eq_true rfl)
  rw [lg_entry_eq]
  generalize (lg_sl ([.ref a0, .int x1]) ++ List.replicate (3 - (lg_sl ([.ref a0, .int x1])).length) Slot.unset).toArray = ls at hl ⊢
  have hl : lv_has ls 3 [(0, .ref a0), (1, .int x1)] := hl
  generalize ([.ref a0, .int x1] : List Value).toArray = args at hT ⊢
  have key : ∀ (Q : State → Prop), (∀ (H : Heap) (locs : List Loc) (ls : Array Slot) (pc : Nat), decode cX8_turn pc = .ok (.ireturn, 1) → va_P (dC, dI) vwCl [(a0, .inr (8, [.ref a1, .ref a2, .int v_acts, .ref a3, .ref a4, .int v_keptActs, .ref a5, .int v_typed, .ref a6, .ref a7, .ref a8, .ref a9, .ref a10, .int v_isSet, .ref a11, .ref a12, .ref a13, .int v_arePages, .ref a14, .ref a15, .int v_place, .ref a16, .int v_readMany])), (a1, .inl (cI, 189, .inl v_now_o))] H → va_D A [(a0, .inr (8, [.ref a1, .ref a2, .int v_acts, .ref a3, .ref a4, .int v_keptActs, .ref a5, .int v_typed, .ref a6, .ref a7, .ref a8, .ref a9, .ref a10, .int v_isSet, .ref a11, .ref a12, .ref a13, .int v_arePages, .ref a14, .ref a15, .int v_place, .ref a16, .int v_readMany])), (a1, .inl (cI, 189, .inl v_now_o))] → va_S A s.heap H locs → W p l e ({ frames := 3, cells := 0, slots := 0, locals := 69 } : Room) s m args below meth c H locs 0 0 Q (F0 m pc ls [.int rv])) → ∀ (H : Heap) (locs : List Loc) (ls : Array Slot), va_P (dC, dI) vwCl [(a0, .inr (8, [.ref a1, .ref a2, .int v_acts, .ref a3, .ref a4, .int v_keptActs, .ref a5, .int v_typed, .ref a6, .ref a7, .ref a8, .ref a9, .ref a10, .int v_isSet, .ref a11, .ref a12, .ref a13, .int v_arePages, .ref a14, .ref a15, .int v_place, .ref a16, .int v_readMany])), (a1, .inl (cI, 189, .inl v_now))] H → va_D A [(a0, .inr (8, [.ref a1, .ref a2, .int v_acts, .ref a3, .ref a4, .int v_keptActs, .ref a5, .int v_typed, .ref a6, .ref a7, .ref a8, .ref a9, .ref a10, .int v_isSet, .ref a11, .ref a12, .ref a13, .int v_arePages, .ref a14, .ref a15, .int v_place, .ref a16, .int v_readMany])), (a1, .inl (cI, 189, .inl v_now))] → va_S A s.heap H locs → lv_has ls 3 [(0, .ref a0), (1, .int x1)] → W p l e ({ frames := 3, cells := 0, slots := 0, locals := 69 } : Room) s m args below meth c H locs 0 0 Q (F0 m 0 ls []) := by
    intro Q hret H locs ls hP hD hS hl
    refine lv_iload_n hx hb dX8_turn_0 rfl (lv_at hl 1 rfl) ?_
    refine lv_bipush (v := 8) hx hb dX8_turn_1 (by decide) ?_
    refine lv_idiv hx hb dX8_turn_3 (by decide) ?_
    obtain ⟨x2_1, ex2_1, hf⟩ := nm_el hf
    refine lv_as (congrArg Value.int ex2_1) ?_
    refine lv_istore_n (lv' := [(2, .int x2_1), (0, .ref a0), (1, .int x1)]) hx hb dX8_turn_4 rfl hl (by decide) rfl (fun ls hl => ?_)
    refine lv_iload_n hx hb dX8_turn_5 rfl (lv_at hl 2 rfl) ?_
    refine lv_bipush (v := 8) hx hb dX8_turn_6 (by decide) ?_
    refine lv_irem hx hb dX8_turn_8 (by decide) ?_
    have hB56_1 : ∀ (_ : Unit), p_X8_turn_B56_1 v_now x2_1 = some (rv, v_now_o) → ∀ (H : Heap) (locs : List Loc) (ls : Array Slot), va_P (dC, dI) vwCl [(a0, .inr (8, [.ref a1, .ref a2, .int v_acts, .ref a3, .ref a4, .int v_keptActs, .ref a5, .int v_typed, .ref a6, .ref a7, .ref a8, .ref a9, .ref a10, .int v_isSet, .ref a11, .ref a12, .ref a13, .int v_arePages, .ref a14, .ref a15, .int v_place, .ref a16, .int v_readMany])), (a1, .inl (cI, 189, .inl v_now))] H → va_D A [(a0, .inr (8, [.ref a1, .ref a2, .int v_acts, .ref a3, .ref a4, .int v_keptActs, .ref a5, .int v_typed, .ref a6, .ref a7, .ref a8, .ref a9, .ref a10, .int v_isSet, .ref a11, .ref a12, .ref a13, .int v_arePages, .ref a14, .ref a15, .int v_place, .ref a16, .int v_readMany])), (a1, .inl (cI, 189, .inl v_now))] → va_S A s.heap H locs → lv_has ls 3 [(0, .ref a0), (2, .int x2_1)] → W p l e ({ frames := 3, cells := 0, slots := 0, locals := 69 } : Room) s m args below meth c H locs 0 0 Q (F0 m 56 ls []) := by
      intro _ hf H locs ls hP hD hS hl
      refine lv_aload_n hx hb dX8_turn_56 rfl (lv_at hl 0 rfl) ?_
      refine lv_iload_n hx hb dX8_turn_57 rfl (lv_at hl 1 rfl) ?_
      refine lv_iconst (v := 4) hx hb dX8_turn_58 (by decide) ?_
      refine lv_irem hx hb dX8_turn_59 (by decide) ?_
      refine lv_iload_n hx hb dX8_turn_60 rfl (lv_at hl 1 rfl) ?_
      refine lv_iconst (v := 4) hx hb dX8_turn_61 (by decide) ?_
      refine lv_idiv hx hb dX8_turn_62 (by decide) ?_
      refine lv_iconst (v := 2) hx hb dX8_turn_63 (by decide) ?_
      refine lv_irem hx hb dX8_turn_64 (by decide) ?_
      obtain ⟨r_2, v_now_3, hq4, hf⟩ := bd2_el hf
      refine mc_V (As := [.int (irem x2_1 (4 : Int32)), .int (irem (x2_1 / (4 : Int32)) (2 : Int32))]) (rest := []) (wr := []) (wn := [(a0, .inr (8, [.ref a1, .ref a2, .int v_acts, .ref a3, .ref a4, .int v_keptActs, .ref a5, .int v_typed, .ref a6, .ref a7, .ref a8, .ref a9, .ref a10, .int v_isSet, .ref a11, .ref a12, .ref a13, .int v_arePages, .ref a14, .ref a15, .int v_place, .ref a16, .int v_readMany])), (a1, .inl (cI, 189, .inl v_now_3))]) ⟨hx, hb, hml, hown, hT⟩ (c_X8_lineMore l dC dI cI cJ cP cS a0 a1 a2 a3 a4 a5 a6 a7 a8 a9 a10 a11 a12 a13 a14 a15 a16 v_acts v_keptActs v_typed v_isSet v_arePages v_place v_readMany v_now (irem x2_1 (4 : Int32)) (irem (x2_1 / (4 : Int32)) (2 : Int32)) r_2 v_now_3 hq4) (cwV 2 hT (gdV q_ml_X8_209 q_im_X8_lineMore q_se_X8_lineMore q_in_X8 q_co_X8_lineMore) rfl rfl rfl hd_X8_lineMore ⟨Nat.le_of_ble_eq_true rfl, Nat.le_of_ble_eq_true rfl⟩) hK hF hP hD hS hA 0 rfl rfl rfl [0, 1] [] [0, 1] rfl (by decide) rfl (by decide) (by decide) rfl (by decide) rfl hl.1 rfl (Nat.le_of_ble_eq_true rfl) dX8_turn_65 ⟨Nat.zero_le _, Nat.zero_le _⟩ (fun H locs hP hD hS => ?_)
      refine W.eq (g2 := F0 m 68 ls [.int r_2]) rfl ?_
      replace hf := Option.some.inj hf
      simp only [Prod.mk.injEq] at hf
      obtain ⟨hf0, hf1⟩ := hf
      subst hf0; subst hf1
      exact hret H locs ls _ dX8_turn_68 hP hD hS
    have hB105_4 : ∀ (_ : Unit), p_X8_turn_B105_4 v_now x2_1 = some (rv, v_now_o) → ∀ (H : Heap) (locs : List Loc) (ls : Array Slot), va_P (dC, dI) vwCl [(a0, .inr (8, [.ref a1, .ref a2, .int v_acts, .ref a3, .ref a4, .int v_keptActs, .ref a5, .int v_typed, .ref a6, .ref a7, .ref a8, .ref a9, .ref a10, .int v_isSet, .ref a11, .ref a12, .ref a13, .int v_arePages, .ref a14, .ref a15, .int v_place, .ref a16, .int v_readMany])), (a1, .inl (cI, 189, .inl v_now))] H → va_D A [(a0, .inr (8, [.ref a1, .ref a2, .int v_acts, .ref a3, .ref a4, .int v_keptActs, .ref a5, .int v_typed, .ref a6, .ref a7, .ref a8, .ref a9, .ref a10, .int v_isSet, .ref a11, .ref a12, .ref a13, .int v_arePages, .ref a14, .ref a15, .int v_place, .ref a16, .int v_readMany])), (a1, .inl (cI, 189, .inl v_now))] → va_S A s.heap H locs → lv_has ls 3 [(0, .ref a0), (2, .int x2_1)] → W p l e ({ frames := 3, cells := 0, slots := 0, locals := 69 } : Room) s m args below meth c H locs 0 0 Q (F0 m 105 ls []) := by
      intro _ hf H locs ls hP hD hS hl
      refine lv_aload_n hx hb dX8_turn_105 rfl (lv_at hl 0 rfl) ?_
      refine lv_iload_n hx hb dX8_turn_106 rfl (lv_at hl 1 rfl) ?_
      refine lv_bipush (v := 9) hx hb dX8_turn_107 (by decide) ?_
      refine lv_irem hx hb dX8_turn_109 (by decide) ?_
      refine lv_iconst (v := 1) hx hb dX8_turn_110 (by decide) ?_
      refine lv_iadd hx hb dX8_turn_111 ?_
      refine lv_iload_n hx hb dX8_turn_112 rfl (lv_at hl 1 rfl) ?_
      refine lv_bipush (v := 9) hx hb dX8_turn_113 (by decide) ?_
      refine lv_idiv hx hb dX8_turn_115 (by decide) ?_
      refine lv_iconst (v := 4) hx hb dX8_turn_116 (by decide) ?_
      refine lv_irem hx hb dX8_turn_117 (by decide) ?_
      obtain ⟨r_5, v_now_6, hq7, hf⟩ := bd2_el hf
      refine mc_V (As := [.int ((irem x2_1 (9 : Int32)) + (1 : Int32)), .int (irem (x2_1 / (9 : Int32)) (4 : Int32))]) (rest := []) (wr := []) (wn := [(a0, .inr (8, [.ref a1, .ref a2, .int v_acts, .ref a3, .ref a4, .int v_keptActs, .ref a5, .int v_typed, .ref a6, .ref a7, .ref a8, .ref a9, .ref a10, .int v_isSet, .ref a11, .ref a12, .ref a13, .int v_arePages, .ref a14, .ref a15, .int v_place, .ref a16, .int v_readMany])), (a1, .inl (cI, 189, .inl v_now_6))]) ⟨hx, hb, hml, hown, hT⟩ (c_X8_wordMore l dC dI cI cJ cP cS a0 a1 a2 a3 a4 a5 a6 a7 a8 a9 a10 a11 a12 a13 a14 a15 a16 v_acts v_keptActs v_typed v_isSet v_arePages v_place v_readMany v_now ((irem x2_1 (9 : Int32)) + (1 : Int32)) (irem (x2_1 / (9 : Int32)) (4 : Int32)) r_5 v_now_6 hq7) (cwV 2 hT (gdV q_ml_X8_215 q_im_X8_wordMore q_se_X8_wordMore q_in_X8 q_co_X8_wordMore) rfl rfl rfl hd_X8_wordMore ⟨Nat.le_of_ble_eq_true rfl, Nat.le_of_ble_eq_true rfl⟩) hK hF hP hD hS hA 0 rfl rfl rfl [0, 1] [] [0, 1] rfl (by decide) rfl (by decide) (by decide) rfl (by decide) rfl hl.1 rfl (Nat.le_of_ble_eq_true rfl) dX8_turn_118 ⟨Nat.zero_le _, Nat.zero_le _⟩ (fun H locs hP hD hS => ?_)
      refine W.eq (g2 := F0 m 121 ls [.int r_5]) rfl ?_
      replace hf := Option.some.inj hf
      simp only [Prod.mk.injEq] at hf
      obtain ⟨hf0, hf1⟩ := hf
      subst hf0; subst hf1
      exact hret H locs ls _ dX8_turn_121 hP hD hS
    obtain ⟨sw_8, esw_8, hf⟩ := nm_el hf
    refine lv_as (congrArg Value.int esw_8) ?_
    by_cases c9 : sw_8 = (0 : Int32)
    · replace hf := it_t c9 hf
      refine lv_tableIn (tgt := 56) (off := 47) hx hb dX8_turn_9 (by rw [c9]; decide) (by rw [c9]; decide) (by rw [c9]; rfl) (by decide) ?_
      exact hB56_1 () hf H locs ls hP hD hS (lv_sub hl [1, 0] rfl)
    replace hf := it_f c9 hf
    by_cases c10 : sw_8 = (1 : Int32)
    · replace hf := it_t c10 hf
      refine lv_tableIn (tgt := 56) (off := 47) hx hb dX8_turn_9 (by rw [c10]; decide) (by rw [c10]; decide) (by rw [c10]; rfl) (by decide) ?_
      exact hB56_1 () hf H locs ls hP hD hS (lv_sub hl [1, 0] rfl)
    replace hf := it_f c10 hf
    by_cases c11 : sw_8 = (2 : Int32)
    · replace hf := it_t c11 hf
      refine lv_tableIn (tgt := 105) (off := 96) hx hb dX8_turn_9 (by rw [c11]; decide) (by rw [c11]; decide) (by rw [c11]; rfl) (by decide) ?_
      exact hB105_4 () hf H locs ls hP hD hS (lv_sub hl [1, 0] rfl)
    replace hf := it_f c11 hf
    by_cases c12 : sw_8 = (3 : Int32)
    · replace hf := it_t c12 hf
      refine lv_tableIn (tgt := 105) (off := 96) hx hb dX8_turn_9 (by rw [c12]; decide) (by rw [c12]; decide) (by rw [c12]; rfl) (by decide) ?_
      exact hB105_4 () hf H locs ls hP hD hS (lv_sub hl [1, 0] rfl)
    replace hf := it_f c12 hf
    by_cases c13 : sw_8 = (4 : Int32)
    · replace hf := it_t c13 hf
      refine lv_tableIn (tgt := 105) (off := 96) hx hb dX8_turn_9 (by rw [c13]; decide) (by rw [c13]; decide) (by rw [c13]; rfl) (by decide) ?_
      exact hB105_4 () hf H locs ls hP hD hS (lv_sub hl [1, 0] rfl)
    replace hf := it_f c13 hf
    by_cases c14 : sw_8 = (5 : Int32)
    · replace hf := it_t c14 hf
      refine lv_tableIn (tgt := 69) (off := 60) hx hb dX8_turn_9 (by rw [c14]; decide) (by rw [c14]; decide) (by rw [c14]; rfl) (by decide) ?_
      refine lv_aload_n hx hb dX8_turn_69 rfl (lv_at hl 1 rfl) ?_
      refine lv_iload_n hx hb dX8_turn_70 rfl (lv_at hl 0 rfl) ?_
      refine lv_iconst (v := 4) hx hb dX8_turn_71 (by decide) ?_
      refine lv_idiv hx hb dX8_turn_72 (by decide) ?_
      refine lv_bipush (v := 12) hx hb dX8_turn_73 (by decide) ?_
      refine lv_irem hx hb dX8_turn_75 (by decide) ?_
      refine lv_iload_n hx hb dX8_turn_76 rfl (lv_at hl 0 rfl) ?_
      refine lv_iconst (v := 4) hx hb dX8_turn_77 (by decide) ?_
      refine lv_irem hx hb dX8_turn_78 (by decide) ?_
      obtain ⟨r_15, v_now_16, hq17, hf⟩ := bd2_el hf
      refine mc_V (As := [.int (irem (x2_1 / (4 : Int32)) (12 : Int32)), .int (irem x2_1 (4 : Int32))]) (rest := []) (wr := []) (wn := [(a0, .inr (8, [.ref a1, .ref a2, .int v_acts, .ref a3, .ref a4, .int v_keptActs, .ref a5, .int v_typed, .ref a6, .ref a7, .ref a8, .ref a9, .ref a10, .int v_isSet, .ref a11, .ref a12, .ref a13, .int v_arePages, .ref a14, .ref a15, .int v_place, .ref a16, .int v_readMany])), (a1, .inl (cI, 189, .inl v_now_16))]) ⟨hx, hb, hml, hown, hT⟩ (c_X8_rhymes l dC dI cI cJ cP cS a0 a1 a2 a3 a4 a5 a6 a7 a8 a9 a10 a11 a12 a13 a14 a15 a16 v_acts v_keptActs v_typed v_isSet v_arePages v_place v_readMany v_now (irem (x2_1 / (4 : Int32)) (12 : Int32)) (irem x2_1 (4 : Int32)) r_15 v_now_16 hq17) (cwV 2 hT (gdV q_ml_X8_221 q_im_X8_rhymes q_se_X8_rhymes q_in_X8 q_co_X8_rhymes) rfl rfl rfl hd_X8_rhymes ⟨Nat.le_of_ble_eq_true rfl, Nat.le_of_ble_eq_true rfl⟩) hK hF hP hD hS hA 0 rfl rfl rfl [0, 1] [] [0, 1] rfl (by decide) rfl (by decide) (by decide) rfl (by decide) rfl hl.1 rfl (Nat.le_of_ble_eq_true rfl) dX8_turn_79 ⟨Nat.zero_le _, Nat.zero_le _⟩ (fun H locs hP hD hS => ?_)
      refine W.eq (g2 := F0 m 82 ls [.int r_15]) rfl ?_
      replace hf := Option.some.inj hf
      simp only [Prod.mk.injEq] at hf
      obtain ⟨hf0, hf1⟩ := hf
      subst hf0; subst hf1
      exact hret H locs ls _ dX8_turn_82 hP hD hS
    replace hf := it_f c14 hf
    by_cases c18 : sw_8 = (6 : Int32)
    · replace hf := it_t c18 hf
      refine lv_tableIn (tgt := 83) (off := 74) hx hb dX8_turn_9 (by rw [c18]; decide) (by rw [c18]; decide) (by rw [c18]; rfl) (by decide) ?_
      refine lv_aload_n hx hb dX8_turn_83 rfl (lv_at hl 1 rfl) ?_
      refine lv_iconst (v := 5) hx hb dX8_turn_84 (by decide) ?_
      refine lv_iload_n hx hb dX8_turn_85 rfl (lv_at hl 0 rfl) ?_
      refine lv_iconst (v := 3) hx hb dX8_turn_86 (by decide) ?_
      refine lv_irem hx hb dX8_turn_87 (by decide) ?_
      obtain ⟨r_19, v_now_20, hq21, hf⟩ := bd2_el hf
      refine mc_V (As := [.int (5 : Int32), .int (irem x2_1 (3 : Int32))]) (rest := []) (wr := []) (wn := [(a0, .inr (8, [.ref a1, .ref a2, .int v_acts, .ref a3, .ref a4, .int v_keptActs, .ref a5, .int v_typed, .ref a6, .ref a7, .ref a8, .ref a9, .ref a10, .int v_isSet, .ref a11, .ref a12, .ref a13, .int v_arePages, .ref a14, .ref a15, .int v_place, .ref a16, .int v_readMany])), (a1, .inl (cI, 189, .inl v_now_20))]) ⟨hx, hb, hml, hown, hT⟩ (c_X8_tells l dC dI cI cJ cP cS a0 a1 a2 a3 a4 a5 a6 a7 a8 a9 a10 a11 a12 a13 a14 a15 a16 v_acts v_keptActs v_typed v_isSet v_arePages v_place v_readMany v_now (5 : Int32) (irem x2_1 (3 : Int32)) r_19 v_now_20 hq21) (cwV 2 hT (gdV q_ml_X8_224 q_im_X8_tells q_se_X8_tells q_in_X8 q_co_X8_tells) rfl rfl rfl hd_X8_tells ⟨Nat.le_of_ble_eq_true rfl, Nat.le_of_ble_eq_true rfl⟩) hK hF hP hD hS hA 0 rfl rfl rfl [0, 1] [] [0, 1] rfl (by decide) rfl (by decide) (by decide) rfl (by decide) rfl hl.1 rfl (Nat.le_of_ble_eq_true rfl) dX8_turn_88 ⟨Nat.zero_le _, Nat.zero_le _⟩ (fun H locs hP hD hS => ?_)
      refine W.eq (g2 := F0 m 91 ls [.int r_19]) rfl ?_
      replace hf := Option.some.inj hf
      simp only [Prod.mk.injEq] at hf
      obtain ⟨hf0, hf1⟩ := hf
      subst hf0; subst hf1
      exact hret H locs ls _ dX8_turn_91 hP hD hS
    replace hf := it_f c18 hf
    by_cases c22 : sw_8 = (7 : Int32)
    · replace hf := it_t c22 hf
      refine lv_tableIn (tgt := 92) (off := 83) hx hb dX8_turn_9 (by rw [c22]; decide) (by rw [c22]; decide) (by rw [c22]; rfl) (by decide) ?_
      refine lv_aload_n hx hb dX8_turn_92 rfl (lv_at hl 1 rfl) ?_
      refine lv_iconst (v := 0) hx hb dX8_turn_93 (by decide) ?_
      refine lv_iload_n hx hb dX8_turn_94 rfl (lv_at hl 0 rfl) ?_
      refine lv_bipush (v := 35) hx hb dX8_turn_95 (by decide) ?_
      refine lv_irem hx hb dX8_turn_97 (by decide) ?_
      refine lv_bipush (v := 6) hx hb dX8_turn_98 (by decide) ?_
      refine lv_iadd hx hb dX8_turn_100 ?_
      obtain ⟨r_23, v_now_24, hq25, hf⟩ := bd2_el hf
      refine mc_V (As := [.int (0 : Int32), .int ((irem x2_1 (35 : Int32)) + (6 : Int32))]) (rest := []) (wr := []) (wn := [(a0, .inr (8, [.ref a1, .ref a2, .int v_acts, .ref a3, .ref a4, .int v_keptActs, .ref a5, .int v_typed, .ref a6, .ref a7, .ref a8, .ref a9, .ref a10, .int v_isSet, .ref a11, .ref a12, .ref a13, .int v_arePages, .ref a14, .ref a15, .int v_place, .ref a16, .int v_readMany])), (a1, .inl (cI, 189, .inl v_now_24))]) ⟨hx, hb, hml, hown, hT⟩ (c_X8_tells l dC dI cI cJ cP cS a0 a1 a2 a3 a4 a5 a6 a7 a8 a9 a10 a11 a12 a13 a14 a15 a16 v_acts v_keptActs v_typed v_isSet v_arePages v_place v_readMany v_now (0 : Int32) ((irem x2_1 (35 : Int32)) + (6 : Int32)) r_23 v_now_24 hq25) (cwV 2 hT (gdV q_ml_X8_224 q_im_X8_tells q_se_X8_tells q_in_X8 q_co_X8_tells) rfl rfl rfl hd_X8_tells ⟨Nat.le_of_ble_eq_true rfl, Nat.le_of_ble_eq_true rfl⟩) hK hF hP hD hS hA 0 rfl rfl rfl [0, 1] [] [0, 1] rfl (by decide) rfl (by decide) (by decide) rfl (by decide) rfl hl.1 rfl (Nat.le_of_ble_eq_true rfl) dX8_turn_101 ⟨Nat.zero_le _, Nat.zero_le _⟩ (fun H locs hP hD hS => ?_)
      refine W.eq (g2 := F0 m 104 ls [.int r_23]) rfl ?_
      replace hf := Option.some.inj hf
      simp only [Prod.mk.injEq] at hf
      obtain ⟨hf0, hf1⟩ := hf
      subst hf0; subst hf1
      exact hret H locs ls _ dX8_turn_104 hP hD hS
    replace hf := it_f c22 hf
    refine lv_tableOut (tgt := 105) hx hb dX8_turn_9 (by have ec9 := ne_ti (n := 0) (by decide) c9; have ec10 := ne_ti (n := 1) (by decide) c10; have ec11 := ne_ti (n := 2) (by decide) c11; have ec12 := ne_ti (n := 3) (by decide) c12; have ec13 := ne_ti (n := 4) (by decide) c13; have ec14 := ne_ti (n := 5) (by decide) c14; have ec18 := ne_ti (n := 6) (by decide) c18; have ec22 := ne_ti (n := 7) (by decide) c22; omega) (by decide) ?_
    exact hB105_4 () hf H locs ls hP hD hS (lv_sub hl [1, 0] rfl)
  refine key _ ?_ _ _ _ hP hD hS hl
  intro H locs ls pc d hP hD hS
  exact W.iret (v := rv) hx hb hr (fun t ht hW => ⟨⟨rfl, by rw [ht]; exact hP, hD⟩, hS.F ht⟩) hS.2.2 d
def p_X8_drift_L16 (x1 : Int32) (s : Int32 × Int32 × (Nat → Int32) × (Nat → Int32) × (Nat → Int32)) : Option ((Int32 × Int32 × (Nat → Int32) × (Nat → Int32) × (Nat → Int32)) ⊕ (Int32 × Int32 × (Nat → Int32) × (Nat → Int32) × (Nat → Int32))) := match s with
  | (i2_4, v_acts_5, v_now_6, v_past_7, v_first_8) => (if x1 ≤ i2_4 then (some (.inr (i2_4, v_acts_5, v_now_6, v_past_7, v_first_8))) else (bd1 (p_X8_starts v_now_6 v_first_8) fun v_first_10 => (bd2 (p_X8_notes v_acts_5 v_past_7 v_first_10) fun v_acts_12 v_past_13 => (bd2 (p_X8_turn (upd v_now_6 1 (Int64.toInt32 ((((Int32.toInt64 (v_now_6 1)) * (1103515245 : Int64)) + (12345 : Int64)) &&& (2147483647 : Int64)))) (((upd v_now_6 1 (Int64.toInt32 ((((Int32.toInt64 (v_now_6 1)) * (1103515245 : Int64)) + (12345 : Int64)) &&& (2147483647 : Int64)))) 1) / (65536 : Int32))) fun r_15 v_now_16 => (some (.inl ((i2_4 + (1 : Int32)), v_acts_12, v_now_16, v_past_13, v_first_10)))))))
def p_X8_drift (v_acts : Int32) (v_now : (Nat → Int32)) (v_past : (Nat → Int32)) (v_first : (Nat → Int32)) (x1 : Int32) : Option (Int32 × Int32 × (Nat → Int32) × (Nat → Int32) × (Nat → Int32)) :=
  (bd1 (p_X8_in (Int32.toInt64 x1) (1 : Int64) (40 : Int64)) fun r_1 => (if r_1 = (0 : Int32) then (some ((-1 : Int32), v_acts, v_now, v_past, v_first)) else (bd5 (loopN (p_X8_drift_L16 x1) fuel ((0 : Int32), v_acts, v_now, v_past, v_first)) fun f2_23 v_acts_24 v_now_25 v_past_26 v_first_27 => (some ((v_now_25 0), v_acts_24, v_now_25, v_past_26, v_first_27)))))
set_option maxHeartbeats 4000000 in
set_option maxRecDepth 100000 in
theorem c_X8_drift (l : Launch) (dC : Nat → ClassId) (dI : Nat → Nat → Nat) (cI cJ cP cS : ClassId) (a0 : Nat) (a1 : Nat) (a2 : Nat) (a3 : Nat) (a4 : Nat) (a5 : Nat) (a6 : Nat) (a7 : Nat) (a8 : Nat) (a9 : Nat) (a10 : Nat) (a11 : Nat) (a12 : Nat) (a13 : Nat) (a14 : Nat) (a15 : Nat) (a16 : Nat) (v_acts : Int32) (v_keptActs : Int32) (v_typed : Int32) (v_isSet : Int32) (v_arePages : Int32) (v_place : Int32) (v_readMany : Int32) (v_now : (Nat → Int32)) (v_past : (Nat → Int32)) (v_first : (Nat → Int32))  (x1 : Int32) (rv : Int32) (v_acts_o : Int32) (v_now_o : (Nat → Int32)) (v_past_o : (Nat → Int32)) (v_first_o : (Nat → Int32)) (hf : p_X8_drift v_acts v_now v_past v_first x1 = some (rv, v_acts_o, v_now_o, v_past_o, v_first_o)) : MC l (dC, dI) (tyl cI cJ cP cS) yX8_drift (Cond.code yX8_drift cX8_drift 4 (some .int) :: TBG) ({ frames := 4, cells := 0, slots := 0, locals := 91 } : Room) [.ref a0, .int x1] [(a0, .inr (8, [.ref a1, .ref a2, .int v_acts, .ref a3, .ref a4, .int v_keptActs, .ref a5, .int v_typed, .ref a6, .ref a7, .ref a8, .ref a9, .ref a10, .int v_isSet, .ref a11, .ref a12, .ref a13, .int v_arePages, .ref a14, .ref a15, .int v_place, .ref a16, .int v_readMany])), (a1, .inl (cI, 189, .inl v_now)), (a2, .inl (cI, 1134, .inl v_past)), (a15, .inl (cI, 189, .inl v_first))] [(a0, .inr (8, [.ref a1, .ref a2, .int v_acts_o, .ref a3, .ref a4, .int v_keptActs, .ref a5, .int v_typed, .ref a6, .ref a7, .ref a8, .ref a9, .ref a10, .int v_isSet, .ref a11, .ref a12, .ref a13, .int v_arePages, .ref a14, .ref a15, .int v_place, .ref a16, .int v_readMany])), (a1, .inl (cI, 189, .inl v_now_o)), (a2, .inl (cI, 1134, .inl v_past_o)), (a15, .inl (cI, 189, .inl v_first_o))] (some (.int rv)) := by
  intro sz
  unfold MPost
  refine Met.ofW (cc := cX8_drift) (maxL := 4) (ret := (some .int)) (by decide) rfl ?_
  intro p e s m args below meth c s₁ B hml hv
  obtain ⟨rfl, hsz, hP, hK, hD0, hF⟩ := hv
  have hx := B.exec
  have hb := B.bytes
  have hr := B.returns
  have hT : ∀ w ∈ TBG, w.before _ s = true := fun w h => atoms_spec B.pre w (List.mem_cons_of_mem _ h)
  have hown : s.vm.findClass RX8 = some m.cls := findClass_of_methodNamed B.named
  have hlocks := B.notSynchronized
  subst hsz
  have hD := hD0.self (sz := s.heap.size)
  generalize hAe : va_A [(a0, .inr (8, [.ref a1, .ref a2, .int v_acts, .ref a3, .ref a4, .int v_keptActs, .ref a5, .int v_typed, .ref a6, .ref a7, .ref a8, .ref a9, .ref a10, .int v_isSet, .ref a11, .ref a12, .ref a13, .int v_arePages, .ref a14, .ref a15, .int v_place, .ref a16, .int v_readMany])), (a1, .inl (cI, 189, .inl v_now)), (a2, .inl (cI, 1134, .inl v_past)), (a15, .inl (cI, 189, .inl v_first))] s.heap.size = A at hD hF ⊢
  have hA : ∀ q : Nat, s.heap.size ≤ q → A q := fun q h => by rw [← hAe]; exact Or.inr h
  have hS : va_S A s.heap s.heap [] := va_S.rf
  have hl := lv_entry ([.ref a0, .int x1]) (n := 4) (Nat.le_of_ble_eq_true rfl)
  rw [lg_entry_eq]
  generalize (lg_sl ([.ref a0, .int x1]) ++ List.replicate (4 - (lg_sl ([.ref a0, .int x1])).length) Slot.unset).toArray = ls at hl ⊢
  have hl : lv_has ls 4 [(0, .ref a0), (1, .int x1)] := hl
  generalize ([.ref a0, .int x1] : List Value).toArray = args at hT ⊢
  have key : ∀ (Q : State → Prop), (∀ (H : Heap) (locs : List Loc) (ls : Array Slot) (pc : Nat), decode cX8_drift pc = .ok (.ireturn, 1) → va_P (dC, dI) vwCl [(a0, .inr (8, [.ref a1, .ref a2, .int v_acts_o, .ref a3, .ref a4, .int v_keptActs, .ref a5, .int v_typed, .ref a6, .ref a7, .ref a8, .ref a9, .ref a10, .int v_isSet, .ref a11, .ref a12, .ref a13, .int v_arePages, .ref a14, .ref a15, .int v_place, .ref a16, .int v_readMany])), (a1, .inl (cI, 189, .inl v_now_o)), (a2, .inl (cI, 1134, .inl v_past_o)), (a15, .inl (cI, 189, .inl v_first_o))] H → va_D A [(a0, .inr (8, [.ref a1, .ref a2, .int v_acts_o, .ref a3, .ref a4, .int v_keptActs, .ref a5, .int v_typed, .ref a6, .ref a7, .ref a8, .ref a9, .ref a10, .int v_isSet, .ref a11, .ref a12, .ref a13, .int v_arePages, .ref a14, .ref a15, .int v_place, .ref a16, .int v_readMany])), (a1, .inl (cI, 189, .inl v_now_o)), (a2, .inl (cI, 1134, .inl v_past_o)), (a15, .inl (cI, 189, .inl v_first_o))] → va_S A s.heap H locs → W p l e ({ frames := 4, cells := 0, slots := 0, locals := 91 } : Room) s m args below meth c H locs 0 0 Q (F0 m pc ls [.int rv])) → ∀ (H : Heap) (locs : List Loc) (ls : Array Slot), va_P (dC, dI) vwCl [(a0, .inr (8, [.ref a1, .ref a2, .int v_acts, .ref a3, .ref a4, .int v_keptActs, .ref a5, .int v_typed, .ref a6, .ref a7, .ref a8, .ref a9, .ref a10, .int v_isSet, .ref a11, .ref a12, .ref a13, .int v_arePages, .ref a14, .ref a15, .int v_place, .ref a16, .int v_readMany])), (a1, .inl (cI, 189, .inl v_now)), (a2, .inl (cI, 1134, .inl v_past)), (a15, .inl (cI, 189, .inl v_first))] H → va_D A [(a0, .inr (8, [.ref a1, .ref a2, .int v_acts, .ref a3, .ref a4, .int v_keptActs, .ref a5, .int v_typed, .ref a6, .ref a7, .ref a8, .ref a9, .ref a10, .int v_isSet, .ref a11, .ref a12, .ref a13, .int v_arePages, .ref a14, .ref a15, .int v_place, .ref a16, .int v_readMany])), (a1, .inl (cI, 189, .inl v_now)), (a2, .inl (cI, 1134, .inl v_past)), (a15, .inl (cI, 189, .inl v_first))] → va_S A s.heap H locs → lv_has ls 4 [(0, .ref a0), (1, .int x1)] → W p l e ({ frames := 4, cells := 0, slots := 0, locals := 91 } : Room) s m args below meth c H locs 0 0 Q (F0 m 0 ls []) := by
    intro Q hret H locs ls hP hD hS hl
    refine lv_iload_n hx hb dX8_drift_0 rfl (lv_at hl 1 rfl) ?_
    refine lv_i2l hx hb dX8_drift_1 rfl ?_
    refine lv_lconst (v := 1) hx hb dX8_drift_2 (by decide) ?_
    refine lv_ldc2 hx hb hown (hT _ q_kl_X8_196) dX8_drift_3 ?_
    obtain ⟨r_1, hq2, hf⟩ := bd1_el hf
    refine mc_S (As := [.long (Int32.toInt64 x1), .long (1 : Int64), .long (40 : Int64)]) (rest := []) (wr := [(a0, .inr (8, [.ref a1, .ref a2, .int v_acts, .ref a3, .ref a4, .int v_keptActs, .ref a5, .int v_typed, .ref a6, .ref a7, .ref a8, .ref a9, .ref a10, .int v_isSet, .ref a11, .ref a12, .ref a13, .int v_arePages, .ref a14, .ref a15, .int v_place, .ref a16, .int v_readMany])), (a1, .inl (cI, 189, .inl v_now)), (a2, .inl (cI, 1134, .inl v_past)), (a15, .inl (cI, 189, .inl v_first))]) (wn := [(a0, .inr (8, [.ref a1, .ref a2, .int v_acts, .ref a3, .ref a4, .int v_keptActs, .ref a5, .int v_typed, .ref a6, .ref a7, .ref a8, .ref a9, .ref a10, .int v_isSet, .ref a11, .ref a12, .ref a13, .int v_arePages, .ref a14, .ref a15, .int v_place, .ref a16, .int v_readMany])), (a1, .inl (cI, 189, .inl v_now)), (a2, .inl (cI, 1134, .inl v_past)), (a15, .inl (cI, 189, .inl v_first))]) ⟨hx, hb, hml, hown, hT⟩ (c_X8_in l dC dI cI cJ cP cS (Int32.toInt64 x1) (1 : Int64) (40 : Int64) r_1 hq2) (va_cwS 3 hT (gdS q_ml_X8_63 q_st_X8_in q_in_X8 q_co_X8_in) rfl rfl rfl hd_X8_in ⟨Nat.le_of_ble_eq_true rfl, Nat.le_of_ble_eq_true rfl⟩) hK hF hP hD hS hA [] [0, 1, 2, 3] [0, 1, 2, 3] rfl (by decide) rfl (by decide) (by decide) rfl (by decide) rfl hl.1 rfl (Nat.le_of_ble_eq_true rfl) dX8_drift_6 ⟨Nat.zero_le _, Nat.zero_le _⟩ (fun H locs hP hD hS => ?_)
    refine W.eq (g2 := F0 m 9 ls [.int r_1]) rfl ?_
    refine lv_if_ne (tgt := 14) hx hb dX8_drift_9 (by decide) (fun c3 => ?_) (fun c3 => ?_)
    · replace hf := it_f c3 hf
      refine lv_iconst (v := 0) hx hb dX8_drift_14 (by decide) ?_
      refine lv_istore_n (lv' := [(2, .int (0 : Int32)), (0, .ref a0), (1, .int x1)]) hx hb dX8_drift_15 rfl hl (by decide) rfl (fun ls hl => ?_)
      have hL16 : ∀ (rr : Int32 × Int32 × (Nat → Int32) × (Nat → Int32) × (Nat → Int32)), (∀ (z_18 : Int32) (z_19 : Int32) (z_20 : (Nat → Int32)) (z_21 : (Nat → Int32)) (z_22 : (Nat → Int32)), rr = (z_18, z_19, z_20, z_21, z_22) → ∀ (H : Heap) (locs : List Loc) (ls : Array Slot), va_P (dC, dI) vwCl [(a0, .inr (8, [.ref a1, .ref a2, .int z_19, .ref a3, .ref a4, .int v_keptActs, .ref a5, .int v_typed, .ref a6, .ref a7, .ref a8, .ref a9, .ref a10, .int v_isSet, .ref a11, .ref a12, .ref a13, .int v_arePages, .ref a14, .ref a15, .int v_place, .ref a16, .int v_readMany])), (a1, .inl (cI, 189, .inl z_20)), (a2, .inl (cI, 1134, .inl z_21)), (a15, .inl (cI, 189, .inl z_22))] H → va_D A [(a0, .inr (8, [.ref a1, .ref a2, .int z_19, .ref a3, .ref a4, .int v_keptActs, .ref a5, .int v_typed, .ref a6, .ref a7, .ref a8, .ref a9, .ref a10, .int v_isSet, .ref a11, .ref a12, .ref a13, .int v_arePages, .ref a14, .ref a15, .int v_place, .ref a16, .int v_readMany])), (a1, .inl (cI, 189, .inl z_20)), (a2, .inl (cI, 1134, .inl z_21)), (a15, .inl (cI, 189, .inl z_22))] → va_S A s.heap H locs → lv_has ls 4 [(0, .ref a0)] → W p l e ({ frames := 4, cells := 0, slots := 0, locals := 91 } : Room) s m args below meth c H locs 0 0 Q (F0 m 76 ls [])) → ∀ (n : Nat) (i2_4 : Int32) (v_acts_5 : Int32) (v_now_6 : (Nat → Int32)) (v_past_7 : (Nat → Int32)) (v_first_8 : (Nat → Int32)), loopN (p_X8_drift_L16 x1) n (i2_4, v_acts_5, v_now_6, v_past_7, v_first_8) = some rr → ∀ (H : Heap) (locs : List Loc) (ls : Array Slot), va_P (dC, dI) vwCl [(a0, .inr (8, [.ref a1, .ref a2, .int v_acts_5, .ref a3, .ref a4, .int v_keptActs, .ref a5, .int v_typed, .ref a6, .ref a7, .ref a8, .ref a9, .ref a10, .int v_isSet, .ref a11, .ref a12, .ref a13, .int v_arePages, .ref a14, .ref a15, .int v_place, .ref a16, .int v_readMany])), (a1, .inl (cI, 189, .inl v_now_6)), (a2, .inl (cI, 1134, .inl v_past_7)), (a15, .inl (cI, 189, .inl v_first_8))] H → va_D A [(a0, .inr (8, [.ref a1, .ref a2, .int v_acts_5, .ref a3, .ref a4, .int v_keptActs, .ref a5, .int v_typed, .ref a6, .ref a7, .ref a8, .ref a9, .ref a10, .int v_isSet, .ref a11, .ref a12, .ref a13, .int v_arePages, .ref a14, .ref a15, .int v_place, .ref a16, .int v_readMany])), (a1, .inl (cI, 189, .inl v_now_6)), (a2, .inl (cI, 1134, .inl v_past_7)), (a15, .inl (cI, 189, .inl v_first_8))] → va_S A s.heap H locs → lv_has ls 4 [(0, .ref a0), (1, .int x1), (2, .int i2_4)] → W p l e ({ frames := 4, cells := 0, slots := 0, locals := 91 } : Room) s m args below meth c H locs 0 0 Q (F0 m 16 ls []) := by
        intro rr hk16 n
        induction n with
        | zero => intro i2_4 v_acts_5 v_now_6 v_past_7 v_first_8 hf; cases hf
        | succ n ih16 =>
          intro i2_4 v_acts_5 v_now_6 v_past_7 v_first_8 hf H locs ls hP hD hS hl
          obtain ⟨o16, hf, hi, he⟩ := loopN_el hf
          refine lv_iload_n hx hb dX8_drift_16 rfl (lv_at hl 2 rfl) ?_
          refine lv_iload_n hx hb dX8_drift_17 rfl (lv_at hl 1 rfl) ?_
          refine lv_icmp_ge (tgt := 76) hx hb dX8_drift_18 (by decide) (fun c9 => ?_) (fun c9 => ?_)
          · replace hf := it_t c9 hf
            exact hk16 _ _ _ _ _ (he _ (Option.some.inj hf).symm).symm H locs ls hP hD hS (lv_sub hl [0] rfl)
          · replace hf := it_f c9 hf
            refine lv_aload_n hx hb dX8_drift_21 rfl (lv_at hl 0 rfl) ?_
            obtain ⟨v_first_10, hq11, hf⟩ := bd1_el hf
            refine mc_V (As := []) (rest := []) (wr := [(a2, .inl (cI, 1134, .inl v_past_7))]) (wn := [(a0, .inr (8, [.ref a1, .ref a2, .int v_acts_5, .ref a3, .ref a4, .int v_keptActs, .ref a5, .int v_typed, .ref a6, .ref a7, .ref a8, .ref a9, .ref a10, .int v_isSet, .ref a11, .ref a12, .ref a13, .int v_arePages, .ref a14, .ref a15, .int v_place, .ref a16, .int v_readMany])), (a1, .inl (cI, 189, .inl v_now_6)), (a2, .inl (cI, 1134, .inl v_past_7)), (a15, .inl (cI, 189, .inl v_first_10))]) ⟨hx, hb, hml, hown, hT⟩ (c_X8_starts l dC dI cI cJ cP cS a0 a1 a2 a3 a4 a5 a6 a7 a8 a9 a10 a11 a12 a13 a14 a15 a16 v_acts_5 v_keptActs v_typed v_isSet v_arePages v_place v_readMany v_now_6 v_first_8 v_first_10 hq11) (cwV 0 hT (gdV q_ml_X8_206 q_im_X8_starts q_se_X8_starts q_in_X8 q_co_X8_starts) rfl rfl rfl hd_X8_starts ⟨Nat.le_of_ble_eq_true rfl, Nat.le_of_ble_eq_true rfl⟩) hK hF hP hD hS hA 0 rfl rfl rfl [0, 1, 3] [2] [1, 2, 0, 3] rfl (by decide) rfl (by decide) (by decide) rfl (by decide) rfl hl.1 rfl (Nat.le_of_ble_eq_true rfl) dX8_drift_22 ⟨Nat.zero_le _, Nat.zero_le _⟩ (fun H locs hP hD hS => ?_)
            refine W.eq (g2 := F0 m 25 ls []) rfl ?_
            refine lv_aload_n hx hb dX8_drift_25 rfl (lv_at hl 0 rfl) ?_
            obtain ⟨v_acts_12, v_past_13, hq14, hf⟩ := bd2_el hf
            refine mc_V (As := []) (rest := []) (wr := [(a1, .inl (cI, 189, .inl v_now_6))]) (wn := [(a0, .inr (8, [.ref a1, .ref a2, .int v_acts_12, .ref a3, .ref a4, .int v_keptActs, .ref a5, .int v_typed, .ref a6, .ref a7, .ref a8, .ref a9, .ref a10, .int v_isSet, .ref a11, .ref a12, .ref a13, .int v_arePages, .ref a14, .ref a15, .int v_place, .ref a16, .int v_readMany])), (a1, .inl (cI, 189, .inl v_now_6)), (a2, .inl (cI, 1134, .inl v_past_13)), (a15, .inl (cI, 189, .inl v_first_10))]) ⟨hx, hb, hml, hown, hT⟩ (c_X8_notes l dC dI cI cJ cP cS a0 a1 a2 a3 a4 a5 a6 a7 a8 a9 a10 a11 a12 a13 a14 a15 a16 v_acts_5 v_keptActs v_typed v_isSet v_arePages v_place v_readMany v_past_7 v_first_10 v_acts_12 v_past_13 hq14) (cwV 0 hT (gdV q_ml_X8_191 q_im_X8_notes q_se_X8_notes q_in_X8 q_co_X8_notes) rfl rfl rfl hd_X8_notes ⟨Nat.le_of_ble_eq_true rfl, Nat.le_of_ble_eq_true rfl⟩) hK hF hP hD hS hA 0 rfl rfl rfl [0, 2, 3] [1] [1, 0, 2, 3] rfl (by decide) rfl (by decide) (by decide) rfl (by decide) rfl hl.1 rfl (Nat.le_of_ble_eq_true rfl) dX8_drift_26 ⟨Nat.zero_le _, Nat.zero_le _⟩ (fun H locs hP hD hS => ?_)
            refine W.eq (g2 := F0 m 29 ls []) rfl ?_
            refine lv_aload_n hx hb dX8_drift_29 rfl (lv_at hl 0 rfl) ?_
            refine va_get (D := (dC, dI)) (ci := 8) (v := .ref a1) (C := RX8) (T := TX8) (N := 23) hx hb hT in_X8 hown hK hP 0 rfl rfl 0 (by decide) (hT _ q_fl_X8_7) (fun _ h9 => h9) rfl dX8_drift_30 ?_
            refine lv_iconst (v := 1) hx hb dX8_drift_33 (by decide) ?_
            refine lv_aload_n hx hb dX8_drift_34 rfl (lv_at hl 0 rfl) ?_
            refine va_get (D := (dC, dI)) (ci := 8) (v := .ref a1) (C := RX8) (T := TX8) (N := 23) hx hb hT in_X8 hown hK hP 0 rfl rfl 0 (by decide) (hT _ q_fl_X8_7) (fun _ h9 => h9) rfl dX8_drift_35 ?_
            refine lv_iconst (v := 1) hx hb dX8_drift_38 (by decide) ?_
            refine ia_ld hx hb hK hP 1 0 rfl rfl (ib_in (by decide)) (j := 1) (by decide) dX8_drift_39 ?_
            refine lv_i2l hx hb dX8_drift_40 rfl ?_
            refine lv_ldc2 hx hb hown (hT _ q_kl_X8_262) dX8_drift_41 ?_
            refine lv_lmul hx hb dX8_drift_44 ?_
            refine lv_ldc2 hx hb hown (hT _ q_kl_X8_264) dX8_drift_45 ?_
            refine lv_ladd hx hb dX8_drift_48 ?_
            refine lv_ldc2 hx hb hown (hT _ q_kl_X8_266) dX8_drift_49 ?_
            refine lv_land hx hb dX8_drift_52 ?_
            refine lv_l2i hx hb dX8_drift_53 rfl ?_
            refine ia_st hx hb hK hP hD hS 1 0 rfl rfl (ib_in (by decide)) (j := 1) (by decide) dX8_drift_54 (fun H locs hP hD hS => ?_)
            have hP : va_P (dC, dI) vwCl [(a0, .inr (8, [.ref a1, .ref a2, .int v_acts_12, .ref a3, .ref a4, .int v_keptActs, .ref a5, .int v_typed, .ref a6, .ref a7, .ref a8, .ref a9, .ref a10, .int v_isSet, .ref a11, .ref a12, .ref a13, .int v_arePages, .ref a14, .ref a15, .int v_place, .ref a16, .int v_readMany])), (a1, .inl (cI, 189, .inl (upd v_now_6 1 (Int64.toInt32 ((((Int32.toInt64 (v_now_6 1)) * (1103515245 : Int64)) + (12345 : Int64)) &&& (2147483647 : Int64)))))), (a2, .inl (cI, 1134, .inl v_past_13)), (a15, .inl (cI, 189, .inl v_first_10))] H := hP
            have hD : va_D A [(a0, .inr (8, [.ref a1, .ref a2, .int v_acts_12, .ref a3, .ref a4, .int v_keptActs, .ref a5, .int v_typed, .ref a6, .ref a7, .ref a8, .ref a9, .ref a10, .int v_isSet, .ref a11, .ref a12, .ref a13, .int v_arePages, .ref a14, .ref a15, .int v_place, .ref a16, .int v_readMany])), (a1, .inl (cI, 189, .inl (upd v_now_6 1 (Int64.toInt32 ((((Int32.toInt64 (v_now_6 1)) * (1103515245 : Int64)) + (12345 : Int64)) &&& (2147483647 : Int64)))))), (a2, .inl (cI, 1134, .inl v_past_13)), (a15, .inl (cI, 189, .inl v_first_10))] := hD
            refine lv_aload_n hx hb dX8_drift_55 rfl (lv_at hl 0 rfl) ?_
            refine lv_aload_n hx hb dX8_drift_56 rfl (lv_at hl 0 rfl) ?_
            refine va_get (D := (dC, dI)) (ci := 8) (v := .ref a1) (C := RX8) (T := TX8) (N := 23) hx hb hT in_X8 hown hK hP 0 rfl rfl 0 (by decide) (hT _ q_fl_X8_7) (fun _ h9 => h9) rfl dX8_drift_57 ?_
            refine lv_iconst (v := 1) hx hb dX8_drift_60 (by decide) ?_
            refine ia_ld hx hb hK hP 1 0 rfl rfl (ib_in (by decide)) (j := 1) (by decide) dX8_drift_61 ?_
            refine lv_ldcw hx hb hown (hT _ q_k_X8_268) dX8_drift_62 ?_
            refine lv_idiv hx hb dX8_drift_65 (by decide) ?_
            obtain ⟨r_15, v_now_16, hq17, hf⟩ := bd2_el hf
            refine mc_V (As := [.int (((upd v_now_6 1 (Int64.toInt32 ((((Int32.toInt64 (v_now_6 1)) * (1103515245 : Int64)) + (12345 : Int64)) &&& (2147483647 : Int64)))) 1) / (65536 : Int32))]) (rest := []) (wr := [(a2, .inl (cI, 1134, .inl v_past_13)), (a15, .inl (cI, 189, .inl v_first_10))]) (wn := [(a0, .inr (8, [.ref a1, .ref a2, .int v_acts_12, .ref a3, .ref a4, .int v_keptActs, .ref a5, .int v_typed, .ref a6, .ref a7, .ref a8, .ref a9, .ref a10, .int v_isSet, .ref a11, .ref a12, .ref a13, .int v_arePages, .ref a14, .ref a15, .int v_place, .ref a16, .int v_readMany])), (a1, .inl (cI, 189, .inl v_now_16)), (a2, .inl (cI, 1134, .inl v_past_13)), (a15, .inl (cI, 189, .inl v_first_10))]) ⟨hx, hb, hml, hown, hT⟩ (c_X8_turn l dC dI cI cJ cP cS a0 a1 a2 a3 a4 a5 a6 a7 a8 a9 a10 a11 a12 a13 a14 a15 a16 v_acts_12 v_keptActs v_typed v_isSet v_arePages v_place v_readMany (upd v_now_6 1 (Int64.toInt32 ((((Int32.toInt64 (v_now_6 1)) * (1103515245 : Int64)) + (12345 : Int64)) &&& (2147483647 : Int64)))) (((upd v_now_6 1 (Int64.toInt32 ((((Int32.toInt64 (v_now_6 1)) * (1103515245 : Int64)) + (12345 : Int64)) &&& (2147483647 : Int64)))) 1) / (65536 : Int32)) r_15 v_now_16 hq17) (cwV 1 hT (gdV q_ml_X8_269 q_im_X8_turn q_se_X8_turn q_in_X8 q_co_X8_turn) rfl rfl rfl hd_X8_turn ⟨Nat.le_of_ble_eq_true rfl, Nat.le_of_ble_eq_true rfl⟩) hK hF hP hD hS hA 0 rfl rfl rfl [0, 1] [2, 3] [2, 3, 0, 1] rfl (by decide) rfl (by decide) (by decide) rfl (by decide) rfl hl.1 rfl (Nat.le_of_ble_eq_true rfl) dX8_drift_66 ⟨Nat.zero_le _, Nat.zero_le _⟩ (fun H locs hP hD hS => ?_)
            refine W.eq (g2 := F0 m 69 ls [.int r_15]) rfl ?_
            refine lv_istore_n (lv' := [(3, .int r_15), (0, .ref a0), (1, .int x1), (2, .int i2_4)]) hx hb dX8_drift_69 rfl hl (by decide) rfl (fun ls hl => ?_)
            refine lv_iinc (v := (i2_4 + (1 : Int32))) (lv' := [(2, .int (i2_4 + (1 : Int32))), (3, .int r_15), (0, .ref a0), (1, .int x1)]) hx hb dX8_drift_70 hl (k := 3) rfl rfl (by decide) rfl (fun ls hl => ?_)
            refine lv_goto (tgt := 16) hx hb dX8_drift_73 (by decide) ?_
            exact ih16 (i2_4 + (1 : Int32)) v_acts_12 v_now_16 v_past_13 v_first_10 (hi _ (Option.some.inj hf).symm) H locs ls hP hD hS (lv_sub hl [2, 3, 0] rfl)
      obtain ⟨f2_23, v_acts_24, v_now_25, v_past_26, v_first_27, hq, hf⟩ := bd5_el hf
      refine hL16 (f2_23, v_acts_24, v_now_25, v_past_26, v_first_27) (fun z_18 z_19 z_20 z_21 z_22 h9 H locs ls hP hD hS hl => ?_) fuel (0 : Int32) v_acts v_now v_past v_first hq H locs ls hP hD hS (lv_sub hl [1, 2, 0] rfl)
      simp only [Prod.mk.injEq] at h9
      obtain ⟨h9_0, h9_1, h9_2, h9_3, h9_4⟩ := h9
      subst h9_0; subst h9_1; subst h9_2; subst h9_3; subst h9_4
      refine lv_aload_n hx hb dX8_drift_76 rfl (lv_at hl 0 rfl) ?_
      refine va_get (D := (dC, dI)) (ci := 8) (v := .ref a1) (C := RX8) (T := TX8) (N := 23) hx hb hT in_X8 hown hK hP 0 rfl rfl 0 (by decide) (hT _ q_fl_X8_7) (fun _ h9 => h9) rfl dX8_drift_77 ?_
      refine lv_iconst (v := 0) hx hb dX8_drift_80 (by decide) ?_
      refine ia_ld hx hb hK hP 1 0 rfl rfl (ib_in (by decide)) (j := 0) (by decide) dX8_drift_81 ?_
      replace hf := Option.some.inj hf
      simp only [Prod.mk.injEq] at hf
      obtain ⟨hf0, hf1, hf2, hf3, hf4⟩ := hf
      subst hf0; subst hf1; subst hf2; subst hf3; subst hf4
      exact hret H locs ls _ dX8_drift_82 hP hD hS
    · replace hf := it_t c3 hf
      refine lv_iconst (v := (-1)) hx hb dX8_drift_12 (by decide) ?_
      replace hf := Option.some.inj hf
      simp only [Prod.mk.injEq] at hf
      obtain ⟨hf0, hf1, hf2, hf3, hf4⟩ := hf
      subst hf0; subst hf1; subst hf2; subst hf3; subst hf4
      exact hret H locs ls _ dX8_drift_13 hP hD hS
  refine key _ ?_ _ _ _ hP hD hS hl
  intro H locs ls pc d hP hD hS
  exact W.iret (v := rv) hx hb hr (fun t ht hW => ⟨⟨rfl, by rw [ht]; exact hP, hD⟩, hS.F ht⟩) hS.2.2 d
def p_X8_undo_L22 (v_acts : Int32) (v_past : (Nat → Int32)) (s : Int32 × (Nat → Int32)) : Option ((Int32 × (Nat → Int32)) ⊕ (Int32 × (Nat → Int32))) := match s with
  | (i1_2, v_now_3) => (if (189 : Int32) ≤ i1_2 then (some (.inr (i1_2, v_now_3))) else (gd (ib (((189 : Int32) * (v_acts - (1 : Int32))) + i1_2) 1134) (gd (ib i1_2 189) (some (.inl ((i1_2 + (1 : Int32)), (upd v_now_3 (tn i1_2) (v_past (tn (((189 : Int32) * (v_acts - (1 : Int32))) + i1_2))))))))))
def p_X8_undo (v_acts : Int32) (v_now : (Nat → Int32)) (v_past : (Nat → Int32)) : Option (Int32 × Int32 × (Nat → Int32)) :=
  (if v_acts = (0 : Int32) then (some ((-4 : Int32), v_acts, v_now)) else (bd2 (loopN (p_X8_undo_L22 v_acts v_past) fuel ((0 : Int32), v_now)) fun f1_9 v_now_10 => (some ((v_acts - (1 : Int32)), (v_acts - (1 : Int32)), v_now_10))))
set_option maxHeartbeats 4000000 in
set_option maxRecDepth 100000 in
theorem c_X8_undo (l : Launch) (dC : Nat → ClassId) (dI : Nat → Nat → Nat) (cI cJ cP cS : ClassId) (a0 : Nat) (a1 : Nat) (a2 : Nat) (a3 : Nat) (a4 : Nat) (a5 : Nat) (a6 : Nat) (a7 : Nat) (a8 : Nat) (a9 : Nat) (a10 : Nat) (a11 : Nat) (a12 : Nat) (a13 : Nat) (a14 : Nat) (a15 : Nat) (a16 : Nat) (v_acts : Int32) (v_keptActs : Int32) (v_typed : Int32) (v_isSet : Int32) (v_arePages : Int32) (v_place : Int32) (v_readMany : Int32) (v_now : (Nat → Int32)) (v_past : (Nat → Int32))   (rv : Int32) (v_acts_o : Int32) (v_now_o : (Nat → Int32)) (hf : p_X8_undo v_acts v_now v_past = some (rv, v_acts_o, v_now_o)) : MC l (dC, dI) (tyl cI cJ cP cS) yX8_undo (Cond.code yX8_undo cX8_undo 2 (some .int) :: TBG) ({ frames := 0, cells := 0, slots := 0, locals := 0 } : Room) [.ref a0] [(a0, .inr (8, [.ref a1, .ref a2, .int v_acts, .ref a3, .ref a4, .int v_keptActs, .ref a5, .int v_typed, .ref a6, .ref a7, .ref a8, .ref a9, .ref a10, .int v_isSet, .ref a11, .ref a12, .ref a13, .int v_arePages, .ref a14, .ref a15, .int v_place, .ref a16, .int v_readMany])), (a1, .inl (cI, 189, .inl v_now)), (a2, .inl (cI, 1134, .inl v_past))] [(a0, .inr (8, [.ref a1, .ref a2, .int v_acts_o, .ref a3, .ref a4, .int v_keptActs, .ref a5, .int v_typed, .ref a6, .ref a7, .ref a8, .ref a9, .ref a10, .int v_isSet, .ref a11, .ref a12, .ref a13, .int v_arePages, .ref a14, .ref a15, .int v_place, .ref a16, .int v_readMany])), (a1, .inl (cI, 189, .inl v_now_o)), (a2, .inl (cI, 1134, .inl v_past))] (some (.int rv)) := by
  intro sz
  unfold MPost
  refine Met.ofW (cc := cX8_undo) (maxL := 2) (ret := (some .int)) (by decide) rfl ?_
  intro p e s m args below meth c s₁ B hml hv
  obtain ⟨rfl, hsz, hP, hK, hD0, hF⟩ := hv
  have hx := B.exec
  have hb := B.bytes
  have hr := B.returns
  have hT : ∀ w ∈ TBG, w.before _ s = true := fun w h => atoms_spec B.pre w (List.mem_cons_of_mem _ h)
  have hown : s.vm.findClass RX8 = some m.cls := findClass_of_methodNamed B.named
  have hlocks := B.notSynchronized
  subst hsz
  have hD := hD0.self (sz := s.heap.size)
  generalize hAe : va_A [(a0, .inr (8, [.ref a1, .ref a2, .int v_acts, .ref a3, .ref a4, .int v_keptActs, .ref a5, .int v_typed, .ref a6, .ref a7, .ref a8, .ref a9, .ref a10, .int v_isSet, .ref a11, .ref a12, .ref a13, .int v_arePages, .ref a14, .ref a15, .int v_place, .ref a16, .int v_readMany])), (a1, .inl (cI, 189, .inl v_now)), (a2, .inl (cI, 1134, .inl v_past))] s.heap.size = A at hD hF ⊢
  have hA : ∀ q : Nat, s.heap.size ≤ q → A q := fun q h => by rw [← hAe]; exact Or.inr h
  have hS : va_S A s.heap s.heap [] := va_S.rf
  have hl := lv_entry ([.ref a0]) (n := 2) (Nat.le_of_ble_eq_true rfl)
  rw [lg_entry_eq]
  generalize (lg_sl ([.ref a0]) ++ List.replicate (2 - (lg_sl ([.ref a0])).length) Slot.unset).toArray = ls at hl ⊢
  have hl : lv_has ls 2 [(0, .ref a0)] := hl
  generalize ([.ref a0] : List Value).toArray = args at hT ⊢
  have key : ∀ (Q : State → Prop), (∀ (H : Heap) (locs : List Loc) (ls : Array Slot) (pc : Nat), decode cX8_undo pc = .ok (.ireturn, 1) → va_P (dC, dI) vwCl [(a0, .inr (8, [.ref a1, .ref a2, .int v_acts_o, .ref a3, .ref a4, .int v_keptActs, .ref a5, .int v_typed, .ref a6, .ref a7, .ref a8, .ref a9, .ref a10, .int v_isSet, .ref a11, .ref a12, .ref a13, .int v_arePages, .ref a14, .ref a15, .int v_place, .ref a16, .int v_readMany])), (a1, .inl (cI, 189, .inl v_now_o)), (a2, .inl (cI, 1134, .inl v_past))] H → va_D A [(a0, .inr (8, [.ref a1, .ref a2, .int v_acts_o, .ref a3, .ref a4, .int v_keptActs, .ref a5, .int v_typed, .ref a6, .ref a7, .ref a8, .ref a9, .ref a10, .int v_isSet, .ref a11, .ref a12, .ref a13, .int v_arePages, .ref a14, .ref a15, .int v_place, .ref a16, .int v_readMany])), (a1, .inl (cI, 189, .inl v_now_o)), (a2, .inl (cI, 1134, .inl v_past))] → va_S A s.heap H locs → W p l e ({ frames := 0, cells := 0, slots := 0, locals := 0 } : Room) s m args below meth c H locs 0 0 Q (F0 m pc ls [.int rv])) → ∀ (H : Heap) (locs : List Loc) (ls : Array Slot), va_P (dC, dI) vwCl [(a0, .inr (8, [.ref a1, .ref a2, .int v_acts, .ref a3, .ref a4, .int v_keptActs, .ref a5, .int v_typed, .ref a6, .ref a7, .ref a8, .ref a9, .ref a10, .int v_isSet, .ref a11, .ref a12, .ref a13, .int v_arePages, .ref a14, .ref a15, .int v_place, .ref a16, .int v_readMany])), (a1, .inl (cI, 189, .inl v_now)), (a2, .inl (cI, 1134, .inl v_past))] H → va_D A [(a0, .inr (8, [.ref a1, .ref a2, .int v_acts, .ref a3, .ref a4, .int v_keptActs, .ref a5, .int v_typed, .ref a6, .ref a7, .ref a8, .ref a9, .ref a10, .int v_isSet, .ref a11, .ref a12, .ref a13, .int v_arePages, .ref a14, .ref a15, .int v_place, .ref a16, .int v_readMany])), (a1, .inl (cI, 189, .inl v_now)), (a2, .inl (cI, 1134, .inl v_past))] → va_S A s.heap H locs → lv_has ls 2 [(0, .ref a0)] → W p l e ({ frames := 0, cells := 0, slots := 0, locals := 0 } : Room) s m args below meth c H locs 0 0 Q (F0 m 0 ls []) := by
    intro Q hret H locs ls hP hD hS hl
    refine lv_aload_n hx hb dX8_undo_0 rfl (lv_at hl 0 rfl) ?_
    refine va_get (D := (dC, dI)) (ci := 8) (v := .int v_acts) (C := RX8) (T := TX8) (N := 23) hx hb hT in_X8 hown hK hP 0 rfl rfl 2 (by decide) (hT _ q_fl_X8_161) (fun _ h9 => h9) rfl dX8_undo_1 ?_
    refine lv_if_ne (tgt := 10) hx hb dX8_undo_4 (by decide) (fun c1 => ?_) (fun c1 => ?_)
    · replace hf := it_f c1 hf
      refine lv_aload_n hx hb dX8_undo_10 rfl (lv_at hl 0 rfl) ?_
      refine lv_dup hx hb dX8_undo_11 rfl ?_
      refine va_get (D := (dC, dI)) (ci := 8) (v := .int v_acts) (C := RX8) (T := TX8) (N := 23) hx hb hT in_X8 hown hK hP 0 rfl rfl 2 (by decide) (hT _ q_fl_X8_161) (fun _ h9 => h9) rfl dX8_undo_12 ?_
      refine lv_iconst (v := 1) hx hb dX8_undo_15 (by decide) ?_
      refine lv_isub hx hb dX8_undo_16 ?_
      refine va_put (D := (dC, dI)) (ci := 8) (v := .int (v_acts - (1 : Int32))) (ty := .int) (C := RX8) (T := TX8) (N := 23) hx hb hT in_X8 tyX8 tyX8_ok nmX8 hown hK hP hD hS 0 rfl rfl 2 (by decide) (hT _ q_fl_X8_161) (fun _ h9 => h9) rfl (tyX8_ok 2 (by decide)) rfl rfl (Nat.le_of_ble_eq_true rfl) dX8_undo_17 (fun H locs hP hD hS => ?_)
      have hP : va_P (dC, dI) vwCl [(a0, .inr (8, [.ref a1, .ref a2, .int (v_acts - (1 : Int32)), .ref a3, .ref a4, .int v_keptActs, .ref a5, .int v_typed, .ref a6, .ref a7, .ref a8, .ref a9, .ref a10, .int v_isSet, .ref a11, .ref a12, .ref a13, .int v_arePages, .ref a14, .ref a15, .int v_place, .ref a16, .int v_readMany])), (a1, .inl (cI, 189, .inl v_now)), (a2, .inl (cI, 1134, .inl v_past))] H := hP
      have hD : va_D A [(a0, .inr (8, [.ref a1, .ref a2, .int (v_acts - (1 : Int32)), .ref a3, .ref a4, .int v_keptActs, .ref a5, .int v_typed, .ref a6, .ref a7, .ref a8, .ref a9, .ref a10, .int v_isSet, .ref a11, .ref a12, .ref a13, .int v_arePages, .ref a14, .ref a15, .int v_place, .ref a16, .int v_readMany])), (a1, .inl (cI, 189, .inl v_now)), (a2, .inl (cI, 1134, .inl v_past))] := hD
      refine lv_iconst (v := 0) hx hb dX8_undo_20 (by decide) ?_
      refine lv_istore_n (lv' := [(1, .int (0 : Int32)), (0, .ref a0)]) hx hb dX8_undo_21 rfl hl (by decide) rfl (fun ls hl => ?_)
      have hL22 : ∀ (rr : Int32 × (Nat → Int32)), (∀ (z_7 : Int32) (z_8 : (Nat → Int32)), rr = (z_7, z_8) → ∀ (H : Heap) (locs : List Loc) (ls : Array Slot), va_P (dC, dI) vwCl [(a0, .inr (8, [.ref a1, .ref a2, .int (v_acts - (1 : Int32)), .ref a3, .ref a4, .int v_keptActs, .ref a5, .int v_typed, .ref a6, .ref a7, .ref a8, .ref a9, .ref a10, .int v_isSet, .ref a11, .ref a12, .ref a13, .int v_arePages, .ref a14, .ref a15, .int v_place, .ref a16, .int v_readMany])), (a1, .inl (cI, 189, .inl z_8)), (a2, .inl (cI, 1134, .inl v_past))] H → va_D A [(a0, .inr (8, [.ref a1, .ref a2, .int (v_acts - (1 : Int32)), .ref a3, .ref a4, .int v_keptActs, .ref a5, .int v_typed, .ref a6, .ref a7, .ref a8, .ref a9, .ref a10, .int v_isSet, .ref a11, .ref a12, .ref a13, .int v_arePages, .ref a14, .ref a15, .int v_place, .ref a16, .int v_readMany])), (a1, .inl (cI, 189, .inl z_8)), (a2, .inl (cI, 1134, .inl v_past))] → va_S A s.heap H locs → lv_has ls 2 [(0, .ref a0)] → W p l e ({ frames := 0, cells := 0, slots := 0, locals := 0 } : Room) s m args below meth c H locs 0 0 Q (F0 m 56 ls [])) → ∀ (n : Nat) (i1_2 : Int32) (v_now_3 : (Nat → Int32)), loopN (p_X8_undo_L22 v_acts v_past) n (i1_2, v_now_3) = some rr → ∀ (H : Heap) (locs : List Loc) (ls : Array Slot), va_P (dC, dI) vwCl [(a0, .inr (8, [.ref a1, .ref a2, .int (v_acts - (1 : Int32)), .ref a3, .ref a4, .int v_keptActs, .ref a5, .int v_typed, .ref a6, .ref a7, .ref a8, .ref a9, .ref a10, .int v_isSet, .ref a11, .ref a12, .ref a13, .int v_arePages, .ref a14, .ref a15, .int v_place, .ref a16, .int v_readMany])), (a1, .inl (cI, 189, .inl v_now_3)), (a2, .inl (cI, 1134, .inl v_past))] H → va_D A [(a0, .inr (8, [.ref a1, .ref a2, .int (v_acts - (1 : Int32)), .ref a3, .ref a4, .int v_keptActs, .ref a5, .int v_typed, .ref a6, .ref a7, .ref a8, .ref a9, .ref a10, .int v_isSet, .ref a11, .ref a12, .ref a13, .int v_arePages, .ref a14, .ref a15, .int v_place, .ref a16, .int v_readMany])), (a1, .inl (cI, 189, .inl v_now_3)), (a2, .inl (cI, 1134, .inl v_past))] → va_S A s.heap H locs → lv_has ls 2 [(0, .ref a0), (1, .int i1_2)] → W p l e ({ frames := 0, cells := 0, slots := 0, locals := 0 } : Room) s m args below meth c H locs 0 0 Q (F0 m 22 ls []) := by
        intro rr hk22 n
        induction n with
        | zero => intro i1_2 v_now_3 hf; cases hf
        | succ n ih22 =>
          intro i1_2 v_now_3 hf H locs ls hP hD hS hl
          obtain ⟨o22, hf, hi, he⟩ := loopN_el hf
          refine lv_iload_n hx hb dX8_undo_22 rfl (lv_at hl 1 rfl) ?_
          refine lv_sipush (v := 189) hx hb dX8_undo_23 (by decide) ?_
          refine lv_icmp_ge (tgt := 56) hx hb dX8_undo_26 (by decide) (fun c4 => ?_) (fun c4 => ?_)
          · replace hf := it_t c4 hf
            exact hk22 _ _ (he _ (Option.some.inj hf).symm).symm H locs ls hP hD hS (lv_sub hl [0] rfl)
          · replace hf := it_f c4 hf
            refine lv_aload_n hx hb dX8_undo_29 rfl (lv_at hl 0 rfl) ?_
            refine va_get (D := (dC, dI)) (ci := 8) (v := .ref a1) (C := RX8) (T := TX8) (N := 23) hx hb hT in_X8 hown hK hP 0 rfl rfl 0 (by decide) (hT _ q_fl_X8_7) (fun _ h9 => h9) rfl dX8_undo_30 ?_
            refine lv_iload_n hx hb dX8_undo_33 rfl (lv_at hl 1 rfl) ?_
            refine lv_aload_n hx hb dX8_undo_34 rfl (lv_at hl 0 rfl) ?_
            refine va_get (D := (dC, dI)) (ci := 8) (v := .ref a2) (C := RX8) (T := TX8) (N := 23) hx hb hT in_X8 hown hK hP 0 rfl rfl 1 (by decide) (hT _ q_fl_X8_13) (fun _ h9 => h9) rfl dX8_undo_35 ?_
            refine lv_sipush (v := 189) hx hb dX8_undo_38 (by decide) ?_
            refine lv_aload_n hx hb dX8_undo_41 rfl (lv_at hl 0 rfl) ?_
            refine va_get (D := (dC, dI)) (ci := 8) (v := .int (v_acts - (1 : Int32))) (C := RX8) (T := TX8) (N := 23) hx hb hT in_X8 hown hK hP 0 rfl rfl 2 (by decide) (hT _ q_fl_X8_161) (fun _ h9 => h9) rfl dX8_undo_42 ?_
            refine lv_imul hx hb dX8_undo_45 ?_
            refine lv_iload_n hx hb dX8_undo_46 rfl (lv_at hl 1 rfl) ?_
            refine lv_iadd hx hb dX8_undo_47 ?_
            obtain ⟨h5, hf⟩ := gd_el hf
            refine ia_ld hx hb hK hP 2 0 rfl rfl (ib_in h5) (j := (tn (((189 : Int32) * (v_acts - (1 : Int32))) + i1_2))) rfl dX8_undo_48 ?_
            obtain ⟨h6, hf⟩ := gd_el hf
            refine ia_st hx hb hK hP hD hS 1 0 rfl rfl (ib_in h6) (j := (tn i1_2)) rfl dX8_undo_49 (fun H locs hP hD hS => ?_)
            have hP : va_P (dC, dI) vwCl [(a0, .inr (8, [.ref a1, .ref a2, .int (v_acts - (1 : Int32)), .ref a3, .ref a4, .int v_keptActs, .ref a5, .int v_typed, .ref a6, .ref a7, .ref a8, .ref a9, .ref a10, .int v_isSet, .ref a11, .ref a12, .ref a13, .int v_arePages, .ref a14, .ref a15, .int v_place, .ref a16, .int v_readMany])), (a1, .inl (cI, 189, .inl (upd v_now_3 (tn i1_2) (v_past (tn (((189 : Int32) * (v_acts - (1 : Int32))) + i1_2)))))), (a2, .inl (cI, 1134, .inl v_past))] H := hP
            have hD : va_D A [(a0, .inr (8, [.ref a1, .ref a2, .int (v_acts - (1 : Int32)), .ref a3, .ref a4, .int v_keptActs, .ref a5, .int v_typed, .ref a6, .ref a7, .ref a8, .ref a9, .ref a10, .int v_isSet, .ref a11, .ref a12, .ref a13, .int v_arePages, .ref a14, .ref a15, .int v_place, .ref a16, .int v_readMany])), (a1, .inl (cI, 189, .inl (upd v_now_3 (tn i1_2) (v_past (tn (((189 : Int32) * (v_acts - (1 : Int32))) + i1_2)))))), (a2, .inl (cI, 1134, .inl v_past))] := hD
            refine lv_iinc (v := (i1_2 + (1 : Int32))) (lv' := [(1, .int (i1_2 + (1 : Int32))), (0, .ref a0)]) hx hb dX8_undo_50 hl (k := 1) rfl rfl (by decide) rfl (fun ls hl => ?_)
            refine lv_goto (tgt := 22) hx hb dX8_undo_53 (by decide) ?_
            exact ih22 (i1_2 + (1 : Int32)) (upd v_now_3 (tn i1_2) (v_past (tn (((189 : Int32) * (v_acts - (1 : Int32))) + i1_2)))) (hi _ (Option.some.inj hf).symm) H locs ls hP hD hS (lv_sub hl [1, 0] rfl)
      obtain ⟨f1_9, v_now_10, hq, hf⟩ := bd2_el hf
      refine hL22 (f1_9, v_now_10) (fun z_7 z_8 h9 H locs ls hP hD hS hl => ?_) fuel (0 : Int32) v_now hq H locs ls hP hD hS (lv_sub hl [1, 0] rfl)
      simp only [Prod.mk.injEq] at h9
      obtain ⟨h9_0, h9_1⟩ := h9
      subst h9_0; subst h9_1
      refine lv_aload_n hx hb dX8_undo_56 rfl (lv_at hl 0 rfl) ?_
      refine va_get (D := (dC, dI)) (ci := 8) (v := .int (v_acts - (1 : Int32))) (C := RX8) (T := TX8) (N := 23) hx hb hT in_X8 hown hK hP 0 rfl rfl 2 (by decide) (hT _ q_fl_X8_161) (fun _ h9 => h9) rfl dX8_undo_57 ?_
      replace hf := Option.some.inj hf
      simp only [Prod.mk.injEq] at hf
      obtain ⟨hf0, hf1, hf2⟩ := hf
      subst hf0; subst hf1; subst hf2
      exact hret H locs ls _ dX8_undo_60 hP hD hS
    · replace hf := it_t c1 hf
      refine lv_bipush (v := (-4)) hx hb dX8_undo_7 (by decide) ?_
      replace hf := Option.some.inj hf
      simp only [Prod.mk.injEq] at hf
      obtain ⟨hf0, hf1, hf2⟩ := hf
      subst hf0; subst hf1; subst hf2
      exact hret H locs ls _ dX8_undo_9 hP hD hS
  refine key _ ?_ _ _ _ hP hD hS hl
  intro H locs ls pc d hP hD hS
  exact W.iret (v := rv) hx hb hr (fun t ht hW => ⟨⟨rfl, by rw [ht]; exact hP, hD⟩, hS.F ht⟩) hS.2.2 d
def p_X8_seed (v_now : (Nat → Int32)) (x1 : Int32) : Option (Int32 × (Nat → Int32)) :=
  (if (0 : Int32) ≤ x1 then (nm (v_now 1) fun x2_2 => (some (x2_2, (upd v_now 1 x1)))) else (some ((-1 : Int32), v_now)))
set_option maxHeartbeats 4000000 in
set_option maxRecDepth 100000 in
theorem c_X8_seed (l : Launch) (dC : Nat → ClassId) (dI : Nat → Nat → Nat) (cI cJ cP cS : ClassId) (a0 : Nat) (a1 : Nat) (a2 : Nat) (a3 : Nat) (a4 : Nat) (a5 : Nat) (a6 : Nat) (a7 : Nat) (a8 : Nat) (a9 : Nat) (a10 : Nat) (a11 : Nat) (a12 : Nat) (a13 : Nat) (a14 : Nat) (a15 : Nat) (a16 : Nat) (v_acts : Int32) (v_keptActs : Int32) (v_typed : Int32) (v_isSet : Int32) (v_arePages : Int32) (v_place : Int32) (v_readMany : Int32) (v_now : (Nat → Int32))  (x1 : Int32) (rv : Int32) (v_now_o : (Nat → Int32)) (hf : p_X8_seed v_now x1 = some (rv, v_now_o)) : MC l (dC, dI) (tyl cI cJ cP cS) yX8_seed (Cond.code yX8_seed cX8_seed 3 (some .int) :: TBG) ({ frames := 0, cells := 0, slots := 0, locals := 0 } : Room) [.ref a0, .int x1] [(a0, .inr (8, [.ref a1, .ref a2, .int v_acts, .ref a3, .ref a4, .int v_keptActs, .ref a5, .int v_typed, .ref a6, .ref a7, .ref a8, .ref a9, .ref a10, .int v_isSet, .ref a11, .ref a12, .ref a13, .int v_arePages, .ref a14, .ref a15, .int v_place, .ref a16, .int v_readMany])), (a1, .inl (cI, 189, .inl v_now))] [(a0, .inr (8, [.ref a1, .ref a2, .int v_acts, .ref a3, .ref a4, .int v_keptActs, .ref a5, .int v_typed, .ref a6, .ref a7, .ref a8, .ref a9, .ref a10, .int v_isSet, .ref a11, .ref a12, .ref a13, .int v_arePages, .ref a14, .ref a15, .int v_place, .ref a16, .int v_readMany])), (a1, .inl (cI, 189, .inl v_now_o))] (some (.int rv)) := by
  intro sz
  unfold MPost
  refine Met.ofW (cc := cX8_seed) (maxL := 3) (ret := (some .int)) (by decide) rfl ?_
  intro p e s m args below meth c s₁ B hml hv
  obtain ⟨rfl, hsz, hP, hK, hD0, hF⟩ := hv
  have hx := B.exec
  have hb := B.bytes
  have hr := B.returns
  have hT : ∀ w ∈ TBG, w.before _ s = true := fun w h => atoms_spec B.pre w (List.mem_cons_of_mem _ h)
  have hown : s.vm.findClass RX8 = some m.cls := findClass_of_methodNamed B.named
  have hlocks := B.notSynchronized
  subst hsz
  have hD := hD0.self (sz := s.heap.size)
  generalize hAe : va_A [(a0, .inr (8, [.ref a1, .ref a2, .int v_acts, .ref a3, .ref a4, .int v_keptActs, .ref a5, .int v_typed, .ref a6, .ref a7, .ref a8, .ref a9, .ref a10, .int v_isSet, .ref a11, .ref a12, .ref a13, .int v_arePages, .ref a14, .ref a15, .int v_place, .ref a16, .int v_readMany])), (a1, .inl (cI, 189, .inl v_now))] s.heap.size = A at hD hF ⊢
  have hA : ∀ q : Nat, s.heap.size ≤ q → A q := fun q h => by rw [← hAe]; exact Or.inr h
  have hS : va_S A s.heap s.heap [] := va_S.rf
  have hl := lv_entry ([.ref a0, .int x1]) (n := 3) (Nat.le_of_ble_eq_true rfl)
  rw [lg_entry_eq]
  generalize (lg_sl ([.ref a0, .int x1]) ++ List.replicate (3 - (lg_sl ([.ref a0, .int x1])).length) Slot.unset).toArray = ls at hl ⊢
  have hl : lv_has ls 3 [(0, .ref a0), (1, .int x1)] := hl
  generalize ([.ref a0, .int x1] : List Value).toArray = args at hT ⊢
  have key : ∀ (Q : State → Prop), (∀ (H : Heap) (locs : List Loc) (ls : Array Slot) (pc : Nat), decode cX8_seed pc = .ok (.ireturn, 1) → va_P (dC, dI) vwCl [(a0, .inr (8, [.ref a1, .ref a2, .int v_acts, .ref a3, .ref a4, .int v_keptActs, .ref a5, .int v_typed, .ref a6, .ref a7, .ref a8, .ref a9, .ref a10, .int v_isSet, .ref a11, .ref a12, .ref a13, .int v_arePages, .ref a14, .ref a15, .int v_place, .ref a16, .int v_readMany])), (a1, .inl (cI, 189, .inl v_now_o))] H → va_D A [(a0, .inr (8, [.ref a1, .ref a2, .int v_acts, .ref a3, .ref a4, .int v_keptActs, .ref a5, .int v_typed, .ref a6, .ref a7, .ref a8, .ref a9, .ref a10, .int v_isSet, .ref a11, .ref a12, .ref a13, .int v_arePages, .ref a14, .ref a15, .int v_place, .ref a16, .int v_readMany])), (a1, .inl (cI, 189, .inl v_now_o))] → va_S A s.heap H locs → W p l e ({ frames := 0, cells := 0, slots := 0, locals := 0 } : Room) s m args below meth c H locs 0 0 Q (F0 m pc ls [.int rv])) → ∀ (H : Heap) (locs : List Loc) (ls : Array Slot), va_P (dC, dI) vwCl [(a0, .inr (8, [.ref a1, .ref a2, .int v_acts, .ref a3, .ref a4, .int v_keptActs, .ref a5, .int v_typed, .ref a6, .ref a7, .ref a8, .ref a9, .ref a10, .int v_isSet, .ref a11, .ref a12, .ref a13, .int v_arePages, .ref a14, .ref a15, .int v_place, .ref a16, .int v_readMany])), (a1, .inl (cI, 189, .inl v_now))] H → va_D A [(a0, .inr (8, [.ref a1, .ref a2, .int v_acts, .ref a3, .ref a4, .int v_keptActs, .ref a5, .int v_typed, .ref a6, .ref a7, .ref a8, .ref a9, .ref a10, .int v_isSet, .ref a11, .ref a12, .ref a13, .int v_arePages, .ref a14, .ref a15, .int v_place, .ref a16, .int v_readMany])), (a1, .inl (cI, 189, .inl v_now))] → va_S A s.heap H locs → lv_has ls 3 [(0, .ref a0), (1, .int x1)] → W p l e ({ frames := 0, cells := 0, slots := 0, locals := 0 } : Room) s m args below meth c H locs 0 0 Q (F0 m 0 ls []) := by
    intro Q hret H locs ls hP hD hS hl
    refine lv_iload_n hx hb dX8_seed_0 rfl (lv_at hl 1 rfl) ?_
    refine lv_if_ge (tgt := 6) hx hb dX8_seed_1 (by decide) (fun c1 => ?_) (fun c1 => ?_)
    · replace hf := it_t c1 hf
      refine lv_aload_n hx hb dX8_seed_6 rfl (lv_at hl 0 rfl) ?_
      refine va_get (D := (dC, dI)) (ci := 8) (v := .ref a1) (C := RX8) (T := TX8) (N := 23) hx hb hT in_X8 hown hK hP 0 rfl rfl 0 (by decide) (hT _ q_fl_X8_7) (fun _ h9 => h9) rfl dX8_seed_7 ?_
      refine lv_iconst (v := 1) hx hb dX8_seed_10 (by decide) ?_
      refine ia_ld hx hb hK hP 1 0 rfl rfl (ib_in (by decide)) (j := 1) (by decide) dX8_seed_11 ?_
      obtain ⟨x2_2, ex2_2, hf⟩ := nm_el hf
      refine lv_as (congrArg Value.int ex2_2) ?_
      refine lv_istore_n (lv' := [(2, .int x2_2), (0, .ref a0), (1, .int x1)]) hx hb dX8_seed_12 rfl hl (by decide) rfl (fun ls hl => ?_)
      refine lv_aload_n hx hb dX8_seed_13 rfl (lv_at hl 1 rfl) ?_
      refine va_get (D := (dC, dI)) (ci := 8) (v := .ref a1) (C := RX8) (T := TX8) (N := 23) hx hb hT in_X8 hown hK hP 0 rfl rfl 0 (by decide) (hT _ q_fl_X8_7) (fun _ h9 => h9) rfl dX8_seed_14 ?_
      refine lv_iconst (v := 1) hx hb dX8_seed_17 (by decide) ?_
      refine lv_iload_n hx hb dX8_seed_18 rfl (lv_at hl 2 rfl) ?_
      refine ia_st hx hb hK hP hD hS 1 0 rfl rfl (ib_in (by decide)) (j := 1) (by decide) dX8_seed_19 (fun H locs hP hD hS => ?_)
      have hP : va_P (dC, dI) vwCl [(a0, .inr (8, [.ref a1, .ref a2, .int v_acts, .ref a3, .ref a4, .int v_keptActs, .ref a5, .int v_typed, .ref a6, .ref a7, .ref a8, .ref a9, .ref a10, .int v_isSet, .ref a11, .ref a12, .ref a13, .int v_arePages, .ref a14, .ref a15, .int v_place, .ref a16, .int v_readMany])), (a1, .inl (cI, 189, .inl (upd v_now 1 x1)))] H := hP
      have hD : va_D A [(a0, .inr (8, [.ref a1, .ref a2, .int v_acts, .ref a3, .ref a4, .int v_keptActs, .ref a5, .int v_typed, .ref a6, .ref a7, .ref a8, .ref a9, .ref a10, .int v_isSet, .ref a11, .ref a12, .ref a13, .int v_arePages, .ref a14, .ref a15, .int v_place, .ref a16, .int v_readMany])), (a1, .inl (cI, 189, .inl (upd v_now 1 x1)))] := hD
      refine lv_iload_n hx hb dX8_seed_20 rfl (lv_at hl 0 rfl) ?_
      replace hf := Option.some.inj hf
      simp only [Prod.mk.injEq] at hf
      obtain ⟨hf0, hf1⟩ := hf
      subst hf0; subst hf1
      exact hret H locs ls _ dX8_seed_21 hP hD hS
    · replace hf := it_f c1 hf
      refine lv_iconst (v := (-1)) hx hb dX8_seed_4 (by decide) ?_
      replace hf := Option.some.inj hf
      simp only [Prod.mk.injEq] at hf
      obtain ⟨hf0, hf1⟩ := hf
      subst hf0; subst hf1
      exact hret H locs ls _ dX8_seed_5 hP hD hS
  refine key _ ?_ _ _ _ hP hD hS hl
  intro H locs ls pc d hP hD hS
  exact W.iret (v := rv) hx hb hr (fun t ht hW => ⟨⟨rfl, by rw [ht]; exact hP, hD⟩, hS.F ht⟩) hS.2.2 d
def p_X8_image_L2 (v_now : (Nat → Int32)) (s : Int32 × (Nat → Int32)) : Option ((Int32 × (Nat → Int32)) ⊕ (Int32 × (Nat → Int32))) := match s with
  | (i1_1, v_kept_2) => (if (189 : Int32) ≤ i1_1 then (some (.inr (i1_1, v_kept_2))) else (gd (ib i1_1 189) (gd (ib i1_1 189) (some (.inl ((i1_1 + (1 : Int32)), (upd v_kept_2 (tn i1_1) (v_now (tn i1_1)))))))))
def p_X8_image_L29 (v_past : (Nat → Int32)) (s : Int32 × (Nat → Int32)) : Option ((Int32 × (Nat → Int32)) ⊕ (Int32 × (Nat → Int32))) := match s with
  | (i1_10, v_keptPast_11) => (if (1134 : Int32) ≤ i1_10 then (some (.inr (i1_10, v_keptPast_11))) else (gd (ib i1_10 1134) (gd (ib i1_10 1134) (some (.inl ((i1_10 + (1 : Int32)), (upd v_keptPast_11 (tn i1_10) (v_past (tn i1_10)))))))))
def p_X8_image (v_acts : Int32) (v_keptActs : Int32) (v_now : (Nat → Int32)) (v_past : (Nat → Int32)) (v_kept : (Nat → Int32)) (v_keptPast : (Nat → Int32)) : Option (Int32 × Int32 × (Nat → Int32) × (Nat → Int32)) :=
  (bd2 (loopN (p_X8_image_L2 v_now) fuel ((0 : Int32), v_kept)) fun f1_8 v_kept_9 => (bd2 (loopN (p_X8_image_L29 v_past) fuel ((0 : Int32), v_keptPast)) fun f1_17 v_keptPast_18 => (some ((1 : Int32), v_acts, v_kept_9, v_keptPast_18))))
set_option maxHeartbeats 4000000 in
set_option maxRecDepth 100000 in
theorem c_X8_image (l : Launch) (dC : Nat → ClassId) (dI : Nat → Nat → Nat) (cI cJ cP cS : ClassId) (a0 : Nat) (a1 : Nat) (a2 : Nat) (a3 : Nat) (a4 : Nat) (a5 : Nat) (a6 : Nat) (a7 : Nat) (a8 : Nat) (a9 : Nat) (a10 : Nat) (a11 : Nat) (a12 : Nat) (a13 : Nat) (a14 : Nat) (a15 : Nat) (a16 : Nat) (v_acts : Int32) (v_keptActs : Int32) (v_typed : Int32) (v_isSet : Int32) (v_arePages : Int32) (v_place : Int32) (v_readMany : Int32) (v_now : (Nat → Int32)) (v_past : (Nat → Int32)) (v_kept : (Nat → Int32)) (v_keptPast : (Nat → Int32))   (rv : Int32) (v_keptActs_o : Int32) (v_kept_o : (Nat → Int32)) (v_keptPast_o : (Nat → Int32)) (hf : p_X8_image v_acts v_keptActs v_now v_past v_kept v_keptPast = some (rv, v_keptActs_o, v_kept_o, v_keptPast_o)) : MC l (dC, dI) (tyl cI cJ cP cS) yX8_image (Cond.code yX8_image cX8_image 2 (some .int) :: TBG) ({ frames := 0, cells := 0, slots := 0, locals := 0 } : Room) [.ref a0] [(a0, .inr (8, [.ref a1, .ref a2, .int v_acts, .ref a3, .ref a4, .int v_keptActs, .ref a5, .int v_typed, .ref a6, .ref a7, .ref a8, .ref a9, .ref a10, .int v_isSet, .ref a11, .ref a12, .ref a13, .int v_arePages, .ref a14, .ref a15, .int v_place, .ref a16, .int v_readMany])), (a1, .inl (cI, 189, .inl v_now)), (a2, .inl (cI, 1134, .inl v_past)), (a3, .inl (cI, 189, .inl v_kept)), (a4, .inl (cI, 1134, .inl v_keptPast))] [(a0, .inr (8, [.ref a1, .ref a2, .int v_acts, .ref a3, .ref a4, .int v_keptActs_o, .ref a5, .int v_typed, .ref a6, .ref a7, .ref a8, .ref a9, .ref a10, .int v_isSet, .ref a11, .ref a12, .ref a13, .int v_arePages, .ref a14, .ref a15, .int v_place, .ref a16, .int v_readMany])), (a1, .inl (cI, 189, .inl v_now)), (a2, .inl (cI, 1134, .inl v_past)), (a3, .inl (cI, 189, .inl v_kept_o)), (a4, .inl (cI, 1134, .inl v_keptPast_o))] (some (.int rv)) := by
  intro sz
  unfold MPost
  refine Met.ofW (cc := cX8_image) (maxL := 2) (ret := (some .int)) (by decide) rfl ?_
  intro p e s m args below meth c s₁ B hml hv
  obtain ⟨rfl, hsz, hP, hK, hD0, hF⟩ := hv
  have hx := B.exec
  have hb := B.bytes
  have hr := B.returns
  have hT : ∀ w ∈ TBG, w.before _ s = true := fun w h => atoms_spec B.pre w (List.mem_cons_of_mem _ h)
  have hown : s.vm.findClass RX8 = some m.cls := findClass_of_methodNamed B.named
  have hlocks := B.notSynchronized
  subst hsz
  have hD := hD0.self (sz := s.heap.size)
  generalize hAe : va_A [(a0, .inr (8, [.ref a1, .ref a2, .int v_acts, .ref a3, .ref a4, .int v_keptActs, .ref a5, .int v_typed, .ref a6, .ref a7, .ref a8, .ref a9, .ref a10, .int v_isSet, .ref a11, .ref a12, .ref a13, .int v_arePages, .ref a14, .ref a15, .int v_place, .ref a16, .int v_readMany])), (a1, .inl (cI, 189, .inl v_now)), (a2, .inl (cI, 1134, .inl v_past)), (a3, .inl (cI, 189, .inl v_kept)), (a4, .inl (cI, 1134, .inl v_keptPast))] s.heap.size = A at hD hF ⊢
  have hA : ∀ q : Nat, s.heap.size ≤ q → A q := fun q h => by rw [← hAe]; exact Or.inr h
  have hS : va_S A s.heap s.heap [] := va_S.rf
  have hl := lv_entry ([.ref a0]) (n := 2) (Nat.le_of_ble_eq_true rfl)
  rw [lg_entry_eq]
  generalize (lg_sl ([.ref a0]) ++ List.replicate (2 - (lg_sl ([.ref a0])).length) Slot.unset).toArray = ls at hl ⊢
  have hl : lv_has ls 2 [(0, .ref a0)] := hl
  generalize ([.ref a0] : List Value).toArray = args at hT ⊢
  have key : ∀ (Q : State → Prop), (∀ (H : Heap) (locs : List Loc) (ls : Array Slot) (pc : Nat), decode cX8_image pc = .ok (.ireturn, 1) → va_P (dC, dI) vwCl [(a0, .inr (8, [.ref a1, .ref a2, .int v_acts, .ref a3, .ref a4, .int v_keptActs_o, .ref a5, .int v_typed, .ref a6, .ref a7, .ref a8, .ref a9, .ref a10, .int v_isSet, .ref a11, .ref a12, .ref a13, .int v_arePages, .ref a14, .ref a15, .int v_place, .ref a16, .int v_readMany])), (a1, .inl (cI, 189, .inl v_now)), (a2, .inl (cI, 1134, .inl v_past)), (a3, .inl (cI, 189, .inl v_kept_o)), (a4, .inl (cI, 1134, .inl v_keptPast_o))] H → va_D A [(a0, .inr (8, [.ref a1, .ref a2, .int v_acts, .ref a3, .ref a4, .int v_keptActs_o, .ref a5, .int v_typed, .ref a6, .ref a7, .ref a8, .ref a9, .ref a10, .int v_isSet, .ref a11, .ref a12, .ref a13, .int v_arePages, .ref a14, .ref a15, .int v_place, .ref a16, .int v_readMany])), (a1, .inl (cI, 189, .inl v_now)), (a2, .inl (cI, 1134, .inl v_past)), (a3, .inl (cI, 189, .inl v_kept_o)), (a4, .inl (cI, 1134, .inl v_keptPast_o))] → va_S A s.heap H locs → W p l e ({ frames := 0, cells := 0, slots := 0, locals := 0 } : Room) s m args below meth c H locs 0 0 Q (F0 m pc ls [.int rv])) → ∀ (H : Heap) (locs : List Loc) (ls : Array Slot), va_P (dC, dI) vwCl [(a0, .inr (8, [.ref a1, .ref a2, .int v_acts, .ref a3, .ref a4, .int v_keptActs, .ref a5, .int v_typed, .ref a6, .ref a7, .ref a8, .ref a9, .ref a10, .int v_isSet, .ref a11, .ref a12, .ref a13, .int v_arePages, .ref a14, .ref a15, .int v_place, .ref a16, .int v_readMany])), (a1, .inl (cI, 189, .inl v_now)), (a2, .inl (cI, 1134, .inl v_past)), (a3, .inl (cI, 189, .inl v_kept)), (a4, .inl (cI, 1134, .inl v_keptPast))] H → va_D A [(a0, .inr (8, [.ref a1, .ref a2, .int v_acts, .ref a3, .ref a4, .int v_keptActs, .ref a5, .int v_typed, .ref a6, .ref a7, .ref a8, .ref a9, .ref a10, .int v_isSet, .ref a11, .ref a12, .ref a13, .int v_arePages, .ref a14, .ref a15, .int v_place, .ref a16, .int v_readMany])), (a1, .inl (cI, 189, .inl v_now)), (a2, .inl (cI, 1134, .inl v_past)), (a3, .inl (cI, 189, .inl v_kept)), (a4, .inl (cI, 1134, .inl v_keptPast))] → va_S A s.heap H locs → lv_has ls 2 [(0, .ref a0)] → W p l e ({ frames := 0, cells := 0, slots := 0, locals := 0 } : Room) s m args below meth c H locs 0 0 Q (F0 m 0 ls []) := by
    intro Q hret H locs ls hP hD hS hl
    refine lv_iconst (v := 0) hx hb dX8_image_0 (by decide) ?_
    refine lv_istore_n (lv' := [(1, .int (0 : Int32)), (0, .ref a0)]) hx hb dX8_image_1 rfl hl (by decide) rfl (fun ls hl => ?_)
    have hL2 : ∀ (rr : Int32 × (Nat → Int32)), (∀ (z_6 : Int32) (z_7 : (Nat → Int32)), rr = (z_6, z_7) → ∀ (H : Heap) (locs : List Loc) (ls : Array Slot), va_P (dC, dI) vwCl [(a0, .inr (8, [.ref a1, .ref a2, .int v_acts, .ref a3, .ref a4, .int v_keptActs, .ref a5, .int v_typed, .ref a6, .ref a7, .ref a8, .ref a9, .ref a10, .int v_isSet, .ref a11, .ref a12, .ref a13, .int v_arePages, .ref a14, .ref a15, .int v_place, .ref a16, .int v_readMany])), (a1, .inl (cI, 189, .inl v_now)), (a2, .inl (cI, 1134, .inl v_past)), (a3, .inl (cI, 189, .inl z_7)), (a4, .inl (cI, 1134, .inl v_keptPast))] H → va_D A [(a0, .inr (8, [.ref a1, .ref a2, .int v_acts, .ref a3, .ref a4, .int v_keptActs, .ref a5, .int v_typed, .ref a6, .ref a7, .ref a8, .ref a9, .ref a10, .int v_isSet, .ref a11, .ref a12, .ref a13, .int v_arePages, .ref a14, .ref a15, .int v_place, .ref a16, .int v_readMany])), (a1, .inl (cI, 189, .inl v_now)), (a2, .inl (cI, 1134, .inl v_past)), (a3, .inl (cI, 189, .inl z_7)), (a4, .inl (cI, 1134, .inl v_keptPast))] → va_S A s.heap H locs → lv_has ls 2 [(0, .ref a0)] → W p l e ({ frames := 0, cells := 0, slots := 0, locals := 0 } : Room) s m args below meth c H locs 0 0 Q (F0 m 27 ls [])) → ∀ (n : Nat) (i1_1 : Int32) (v_kept_2 : (Nat → Int32)), loopN (p_X8_image_L2 v_now) n (i1_1, v_kept_2) = some rr → ∀ (H : Heap) (locs : List Loc) (ls : Array Slot), va_P (dC, dI) vwCl [(a0, .inr (8, [.ref a1, .ref a2, .int v_acts, .ref a3, .ref a4, .int v_keptActs, .ref a5, .int v_typed, .ref a6, .ref a7, .ref a8, .ref a9, .ref a10, .int v_isSet, .ref a11, .ref a12, .ref a13, .int v_arePages, .ref a14, .ref a15, .int v_place, .ref a16, .int v_readMany])), (a1, .inl (cI, 189, .inl v_now)), (a2, .inl (cI, 1134, .inl v_past)), (a3, .inl (cI, 189, .inl v_kept_2)), (a4, .inl (cI, 1134, .inl v_keptPast))] H → va_D A [(a0, .inr (8, [.ref a1, .ref a2, .int v_acts, .ref a3, .ref a4, .int v_keptActs, .ref a5, .int v_typed, .ref a6, .ref a7, .ref a8, .ref a9, .ref a10, .int v_isSet, .ref a11, .ref a12, .ref a13, .int v_arePages, .ref a14, .ref a15, .int v_place, .ref a16, .int v_readMany])), (a1, .inl (cI, 189, .inl v_now)), (a2, .inl (cI, 1134, .inl v_past)), (a3, .inl (cI, 189, .inl v_kept_2)), (a4, .inl (cI, 1134, .inl v_keptPast))] → va_S A s.heap H locs → lv_has ls 2 [(0, .ref a0), (1, .int i1_1)] → W p l e ({ frames := 0, cells := 0, slots := 0, locals := 0 } : Room) s m args below meth c H locs 0 0 Q (F0 m 2 ls []) := by
      intro rr hk2 n
      induction n with
      | zero => intro i1_1 v_kept_2 hf; cases hf
      | succ n ih2 =>
        intro i1_1 v_kept_2 hf H locs ls hP hD hS hl
        obtain ⟨o2, hf, hi, he⟩ := loopN_el hf
        refine lv_iload_n hx hb dX8_image_2 rfl (lv_at hl 1 rfl) ?_
        refine lv_sipush (v := 189) hx hb dX8_image_3 (by decide) ?_
        refine lv_icmp_ge (tgt := 27) hx hb dX8_image_6 (by decide) (fun c3 => ?_) (fun c3 => ?_)
        · replace hf := it_t c3 hf
          exact hk2 _ _ (he _ (Option.some.inj hf).symm).symm H locs ls hP hD hS (lv_sub hl [0] rfl)
        · replace hf := it_f c3 hf
          refine lv_aload_n hx hb dX8_image_9 rfl (lv_at hl 0 rfl) ?_
          refine va_get (D := (dC, dI)) (ci := 8) (v := .ref a3) (C := RX8) (T := TX8) (N := 23) hx hb hT in_X8 hown hK hP 0 rfl rfl 3 (by decide) (hT _ q_fl_X8_16) (fun _ h9 => h9) rfl dX8_image_10 ?_
          refine lv_iload_n hx hb dX8_image_13 rfl (lv_at hl 1 rfl) ?_
          refine lv_aload_n hx hb dX8_image_14 rfl (lv_at hl 0 rfl) ?_
          refine va_get (D := (dC, dI)) (ci := 8) (v := .ref a1) (C := RX8) (T := TX8) (N := 23) hx hb hT in_X8 hown hK hP 0 rfl rfl 0 (by decide) (hT _ q_fl_X8_7) (fun _ h9 => h9) rfl dX8_image_15 ?_
          refine lv_iload_n hx hb dX8_image_18 rfl (lv_at hl 1 rfl) ?_
          obtain ⟨h4, hf⟩ := gd_el hf
          refine ia_ld hx hb hK hP 1 0 rfl rfl (ib_in h4) (j := (tn i1_1)) rfl dX8_image_19 ?_
          obtain ⟨h5, hf⟩ := gd_el hf
          refine ia_st hx hb hK hP hD hS 3 0 rfl rfl (ib_in h5) (j := (tn i1_1)) rfl dX8_image_20 (fun H locs hP hD hS => ?_)
          have hP : va_P (dC, dI) vwCl [(a0, .inr (8, [.ref a1, .ref a2, .int v_acts, .ref a3, .ref a4, .int v_keptActs, .ref a5, .int v_typed, .ref a6, .ref a7, .ref a8, .ref a9, .ref a10, .int v_isSet, .ref a11, .ref a12, .ref a13, .int v_arePages, .ref a14, .ref a15, .int v_place, .ref a16, .int v_readMany])), (a1, .inl (cI, 189, .inl v_now)), (a2, .inl (cI, 1134, .inl v_past)), (a3, .inl (cI, 189, .inl (upd v_kept_2 (tn i1_1) (v_now (tn i1_1))))), (a4, .inl (cI, 1134, .inl v_keptPast))] H := hP
          have hD : va_D A [(a0, .inr (8, [.ref a1, .ref a2, .int v_acts, .ref a3, .ref a4, .int v_keptActs, .ref a5, .int v_typed, .ref a6, .ref a7, .ref a8, .ref a9, .ref a10, .int v_isSet, .ref a11, .ref a12, .ref a13, .int v_arePages, .ref a14, .ref a15, .int v_place, .ref a16, .int v_readMany])), (a1, .inl (cI, 189, .inl v_now)), (a2, .inl (cI, 1134, .inl v_past)), (a3, .inl (cI, 189, .inl (upd v_kept_2 (tn i1_1) (v_now (tn i1_1))))), (a4, .inl (cI, 1134, .inl v_keptPast))] := hD
          refine lv_iinc (v := (i1_1 + (1 : Int32))) (lv' := [(1, .int (i1_1 + (1 : Int32))), (0, .ref a0)]) hx hb dX8_image_21 hl (k := 1) rfl rfl (by decide) rfl (fun ls hl => ?_)
          refine lv_goto (tgt := 2) hx hb dX8_image_24 (by decide) ?_
          exact ih2 (i1_1 + (1 : Int32)) (upd v_kept_2 (tn i1_1) (v_now (tn i1_1))) (hi _ (Option.some.inj hf).symm) H locs ls hP hD hS (lv_sub hl [1, 0] rfl)
    obtain ⟨f1_8, v_kept_9, hq, hf⟩ := bd2_el hf
    refine hL2 (f1_8, v_kept_9) (fun z_6 z_7 h9 H locs ls hP hD hS hl => ?_) fuel (0 : Int32) v_kept hq H locs ls hP hD hS (lv_sub hl [1, 0] rfl)
    simp only [Prod.mk.injEq] at h9
    obtain ⟨h9_0, h9_1⟩ := h9
    subst h9_0; subst h9_1
    refine lv_iconst (v := 0) hx hb dX8_image_27 (by decide) ?_
    refine lv_istore_n (lv' := [(1, .int (0 : Int32)), (0, .ref a0)]) hx hb dX8_image_28 rfl hl (by decide) rfl (fun ls hl => ?_)
    have hL29 : ∀ (rr : Int32 × (Nat → Int32)), (∀ (z_15 : Int32) (z_16 : (Nat → Int32)), rr = (z_15, z_16) → ∀ (H : Heap) (locs : List Loc) (ls : Array Slot), va_P (dC, dI) vwCl [(a0, .inr (8, [.ref a1, .ref a2, .int v_acts, .ref a3, .ref a4, .int v_keptActs, .ref a5, .int v_typed, .ref a6, .ref a7, .ref a8, .ref a9, .ref a10, .int v_isSet, .ref a11, .ref a12, .ref a13, .int v_arePages, .ref a14, .ref a15, .int v_place, .ref a16, .int v_readMany])), (a1, .inl (cI, 189, .inl v_now)), (a2, .inl (cI, 1134, .inl v_past)), (a3, .inl (cI, 189, .inl v_kept_9)), (a4, .inl (cI, 1134, .inl z_16))] H → va_D A [(a0, .inr (8, [.ref a1, .ref a2, .int v_acts, .ref a3, .ref a4, .int v_keptActs, .ref a5, .int v_typed, .ref a6, .ref a7, .ref a8, .ref a9, .ref a10, .int v_isSet, .ref a11, .ref a12, .ref a13, .int v_arePages, .ref a14, .ref a15, .int v_place, .ref a16, .int v_readMany])), (a1, .inl (cI, 189, .inl v_now)), (a2, .inl (cI, 1134, .inl v_past)), (a3, .inl (cI, 189, .inl v_kept_9)), (a4, .inl (cI, 1134, .inl z_16))] → va_S A s.heap H locs → lv_has ls 2 [(0, .ref a0)] → W p l e ({ frames := 0, cells := 0, slots := 0, locals := 0 } : Room) s m args below meth c H locs 0 0 Q (F0 m 54 ls [])) → ∀ (n : Nat) (i1_10 : Int32) (v_keptPast_11 : (Nat → Int32)), loopN (p_X8_image_L29 v_past) n (i1_10, v_keptPast_11) = some rr → ∀ (H : Heap) (locs : List Loc) (ls : Array Slot), va_P (dC, dI) vwCl [(a0, .inr (8, [.ref a1, .ref a2, .int v_acts, .ref a3, .ref a4, .int v_keptActs, .ref a5, .int v_typed, .ref a6, .ref a7, .ref a8, .ref a9, .ref a10, .int v_isSet, .ref a11, .ref a12, .ref a13, .int v_arePages, .ref a14, .ref a15, .int v_place, .ref a16, .int v_readMany])), (a1, .inl (cI, 189, .inl v_now)), (a2, .inl (cI, 1134, .inl v_past)), (a3, .inl (cI, 189, .inl v_kept_9)), (a4, .inl (cI, 1134, .inl v_keptPast_11))] H → va_D A [(a0, .inr (8, [.ref a1, .ref a2, .int v_acts, .ref a3, .ref a4, .int v_keptActs, .ref a5, .int v_typed, .ref a6, .ref a7, .ref a8, .ref a9, .ref a10, .int v_isSet, .ref a11, .ref a12, .ref a13, .int v_arePages, .ref a14, .ref a15, .int v_place, .ref a16, .int v_readMany])), (a1, .inl (cI, 189, .inl v_now)), (a2, .inl (cI, 1134, .inl v_past)), (a3, .inl (cI, 189, .inl v_kept_9)), (a4, .inl (cI, 1134, .inl v_keptPast_11))] → va_S A s.heap H locs → lv_has ls 2 [(0, .ref a0), (1, .int i1_10)] → W p l e ({ frames := 0, cells := 0, slots := 0, locals := 0 } : Room) s m args below meth c H locs 0 0 Q (F0 m 29 ls []) := by
      intro rr hk29 n
      induction n with
      | zero => intro i1_10 v_keptPast_11 hf; cases hf
      | succ n ih29 =>
        intro i1_10 v_keptPast_11 hf H locs ls hP hD hS hl
        obtain ⟨o29, hf, hi, he⟩ := loopN_el hf
        refine lv_iload_n hx hb dX8_image_29 rfl (lv_at hl 1 rfl) ?_
        refine lv_sipush (v := 1134) hx hb dX8_image_30 (by decide) ?_
        refine lv_icmp_ge (tgt := 54) hx hb dX8_image_33 (by decide) (fun c12 => ?_) (fun c12 => ?_)
        · replace hf := it_t c12 hf
          exact hk29 _ _ (he _ (Option.some.inj hf).symm).symm H locs ls hP hD hS (lv_sub hl [0] rfl)
        · replace hf := it_f c12 hf
          refine lv_aload_n hx hb dX8_image_36 rfl (lv_at hl 0 rfl) ?_
          refine va_get (D := (dC, dI)) (ci := 8) (v := .ref a4) (C := RX8) (T := TX8) (N := 23) hx hb hT in_X8 hown hK hP 0 rfl rfl 4 (by decide) (hT _ q_fl_X8_19) (fun _ h9 => h9) rfl dX8_image_37 ?_
          refine lv_iload_n hx hb dX8_image_40 rfl (lv_at hl 1 rfl) ?_
          refine lv_aload_n hx hb dX8_image_41 rfl (lv_at hl 0 rfl) ?_
          refine va_get (D := (dC, dI)) (ci := 8) (v := .ref a2) (C := RX8) (T := TX8) (N := 23) hx hb hT in_X8 hown hK hP 0 rfl rfl 1 (by decide) (hT _ q_fl_X8_13) (fun _ h9 => h9) rfl dX8_image_42 ?_
          refine lv_iload_n hx hb dX8_image_45 rfl (lv_at hl 1 rfl) ?_
          obtain ⟨h13, hf⟩ := gd_el hf
          refine ia_ld hx hb hK hP 2 0 rfl rfl (ib_in h13) (j := (tn i1_10)) rfl dX8_image_46 ?_
          obtain ⟨h14, hf⟩ := gd_el hf
          refine ia_st hx hb hK hP hD hS 4 0 rfl rfl (ib_in h14) (j := (tn i1_10)) rfl dX8_image_47 (fun H locs hP hD hS => ?_)
          have hP : va_P (dC, dI) vwCl [(a0, .inr (8, [.ref a1, .ref a2, .int v_acts, .ref a3, .ref a4, .int v_keptActs, .ref a5, .int v_typed, .ref a6, .ref a7, .ref a8, .ref a9, .ref a10, .int v_isSet, .ref a11, .ref a12, .ref a13, .int v_arePages, .ref a14, .ref a15, .int v_place, .ref a16, .int v_readMany])), (a1, .inl (cI, 189, .inl v_now)), (a2, .inl (cI, 1134, .inl v_past)), (a3, .inl (cI, 189, .inl v_kept_9)), (a4, .inl (cI, 1134, .inl (upd v_keptPast_11 (tn i1_10) (v_past (tn i1_10)))))] H := hP
          have hD : va_D A [(a0, .inr (8, [.ref a1, .ref a2, .int v_acts, .ref a3, .ref a4, .int v_keptActs, .ref a5, .int v_typed, .ref a6, .ref a7, .ref a8, .ref a9, .ref a10, .int v_isSet, .ref a11, .ref a12, .ref a13, .int v_arePages, .ref a14, .ref a15, .int v_place, .ref a16, .int v_readMany])), (a1, .inl (cI, 189, .inl v_now)), (a2, .inl (cI, 1134, .inl v_past)), (a3, .inl (cI, 189, .inl v_kept_9)), (a4, .inl (cI, 1134, .inl (upd v_keptPast_11 (tn i1_10) (v_past (tn i1_10)))))] := hD
          refine lv_iinc (v := (i1_10 + (1 : Int32))) (lv' := [(1, .int (i1_10 + (1 : Int32))), (0, .ref a0)]) hx hb dX8_image_48 hl (k := 1) rfl rfl (by decide) rfl (fun ls hl => ?_)
          refine lv_goto (tgt := 29) hx hb dX8_image_51 (by decide) ?_
          exact ih29 (i1_10 + (1 : Int32)) (upd v_keptPast_11 (tn i1_10) (v_past (tn i1_10))) (hi _ (Option.some.inj hf).symm) H locs ls hP hD hS (lv_sub hl [1, 0] rfl)
    obtain ⟨f1_17, v_keptPast_18, hq, hf⟩ := bd2_el hf
    refine hL29 (f1_17, v_keptPast_18) (fun z_15 z_16 h9 H locs ls hP hD hS hl => ?_) fuel (0 : Int32) v_keptPast hq H locs ls hP hD hS (lv_sub hl [1, 0] rfl)
    simp only [Prod.mk.injEq] at h9
    obtain ⟨h9_0, h9_1⟩ := h9
    subst h9_0; subst h9_1
    refine lv_aload_n hx hb dX8_image_54 rfl (lv_at hl 0 rfl) ?_
    refine lv_aload_n hx hb dX8_image_55 rfl (lv_at hl 0 rfl) ?_
    refine va_get (D := (dC, dI)) (ci := 8) (v := .int v_acts) (C := RX8) (T := TX8) (N := 23) hx hb hT in_X8 hown hK hP 0 rfl rfl 2 (by decide) (hT _ q_fl_X8_161) (fun _ h9 => h9) rfl dX8_image_56 ?_
    refine va_put (D := (dC, dI)) (ci := 8) (v := .int v_acts) (ty := .int) (C := RX8) (T := TX8) (N := 23) hx hb hT in_X8 tyX8 tyX8_ok nmX8 hown hK hP hD hS 0 rfl rfl 5 (by decide) (hT _ q_fl_X8_22) (fun _ h9 => h9) rfl (tyX8_ok 5 (by decide)) rfl rfl (Nat.le_of_ble_eq_true rfl) dX8_image_59 (fun H locs hP hD hS => ?_)
    have hP : va_P (dC, dI) vwCl [(a0, .inr (8, [.ref a1, .ref a2, .int v_acts, .ref a3, .ref a4, .int v_acts, .ref a5, .int v_typed, .ref a6, .ref a7, .ref a8, .ref a9, .ref a10, .int v_isSet, .ref a11, .ref a12, .ref a13, .int v_arePages, .ref a14, .ref a15, .int v_place, .ref a16, .int v_readMany])), (a1, .inl (cI, 189, .inl v_now)), (a2, .inl (cI, 1134, .inl v_past)), (a3, .inl (cI, 189, .inl v_kept_9)), (a4, .inl (cI, 1134, .inl v_keptPast_18))] H := hP
    have hD : va_D A [(a0, .inr (8, [.ref a1, .ref a2, .int v_acts, .ref a3, .ref a4, .int v_acts, .ref a5, .int v_typed, .ref a6, .ref a7, .ref a8, .ref a9, .ref a10, .int v_isSet, .ref a11, .ref a12, .ref a13, .int v_arePages, .ref a14, .ref a15, .int v_place, .ref a16, .int v_readMany])), (a1, .inl (cI, 189, .inl v_now)), (a2, .inl (cI, 1134, .inl v_past)), (a3, .inl (cI, 189, .inl v_kept_9)), (a4, .inl (cI, 1134, .inl v_keptPast_18))] := hD
    refine lv_iconst (v := 1) hx hb dX8_image_62 (by decide) ?_
    replace hf := Option.some.inj hf
    simp only [Prod.mk.injEq] at hf
    obtain ⟨hf0, hf1, hf2, hf3⟩ := hf
    subst hf0; subst hf1; subst hf2; subst hf3
    exact hret H locs ls _ dX8_image_63 hP hD hS
  refine key _ ?_ _ _ _ hP hD hS hl
  intro H locs ls pc d hP hD hS
  exact W.iret (v := rv) hx hb hr (fun t ht hW => ⟨⟨rfl, by rw [ht]; exact hP, hD⟩, hS.F ht⟩) hS.2.2 d
def p_X8_restore_L12 (v_kept : (Nat → Int32)) (s : Int32 × (Nat → Int32)) : Option ((Int32 × (Nat → Int32)) ⊕ (Int32 × (Nat → Int32))) := match s with
  | (i1_2, v_now_3) => (if (189 : Int32) ≤ i1_2 then (some (.inr (i1_2, v_now_3))) else (gd (ib i1_2 189) (gd (ib i1_2 189) (some (.inl ((i1_2 + (1 : Int32)), (upd v_now_3 (tn i1_2) (v_kept (tn i1_2)))))))))
def p_X8_restore_L39 (v_keptPast : (Nat → Int32)) (s : Int32 × (Nat → Int32)) : Option ((Int32 × (Nat → Int32)) ⊕ (Int32 × (Nat → Int32))) := match s with
  | (i1_11, v_past_12) => (if (1134 : Int32) ≤ i1_11 then (some (.inr (i1_11, v_past_12))) else (gd (ib i1_11 1134) (gd (ib i1_11 1134) (some (.inl ((i1_11 + (1 : Int32)), (upd v_past_12 (tn i1_11) (v_keptPast (tn i1_11)))))))))
def p_X8_restore (v_acts : Int32) (v_keptActs : Int32) (v_now : (Nat → Int32)) (v_past : (Nat → Int32)) (v_kept : (Nat → Int32)) (v_keptPast : (Nat → Int32)) : Option (Int32 × Int32 × (Nat → Int32) × (Nat → Int32)) :=
  (if (0 : Int32) ≤ v_keptActs then (bd2 (loopN (p_X8_restore_L12 v_kept) fuel ((0 : Int32), v_now)) fun f1_9 v_now_10 => (bd2 (loopN (p_X8_restore_L39 v_keptPast) fuel ((0 : Int32), v_past)) fun f1_18 v_past_19 => (some ((1 : Int32), v_keptActs, v_now_10, v_past_19)))) else (some ((-4 : Int32), v_acts, v_now, v_past)))
set_option maxHeartbeats 4000000 in
set_option maxRecDepth 100000 in
theorem c_X8_restore (l : Launch) (dC : Nat → ClassId) (dI : Nat → Nat → Nat) (cI cJ cP cS : ClassId) (a0 : Nat) (a1 : Nat) (a2 : Nat) (a3 : Nat) (a4 : Nat) (a5 : Nat) (a6 : Nat) (a7 : Nat) (a8 : Nat) (a9 : Nat) (a10 : Nat) (a11 : Nat) (a12 : Nat) (a13 : Nat) (a14 : Nat) (a15 : Nat) (a16 : Nat) (v_acts : Int32) (v_keptActs : Int32) (v_typed : Int32) (v_isSet : Int32) (v_arePages : Int32) (v_place : Int32) (v_readMany : Int32) (v_now : (Nat → Int32)) (v_past : (Nat → Int32)) (v_kept : (Nat → Int32)) (v_keptPast : (Nat → Int32))   (rv : Int32) (v_acts_o : Int32) (v_now_o : (Nat → Int32)) (v_past_o : (Nat → Int32)) (hf : p_X8_restore v_acts v_keptActs v_now v_past v_kept v_keptPast = some (rv, v_acts_o, v_now_o, v_past_o)) : MC l (dC, dI) (tyl cI cJ cP cS) yX8_restore (Cond.code yX8_restore cX8_restore 2 (some .int) :: TBG) ({ frames := 0, cells := 0, slots := 0, locals := 0 } : Room) [.ref a0] [(a0, .inr (8, [.ref a1, .ref a2, .int v_acts, .ref a3, .ref a4, .int v_keptActs, .ref a5, .int v_typed, .ref a6, .ref a7, .ref a8, .ref a9, .ref a10, .int v_isSet, .ref a11, .ref a12, .ref a13, .int v_arePages, .ref a14, .ref a15, .int v_place, .ref a16, .int v_readMany])), (a1, .inl (cI, 189, .inl v_now)), (a2, .inl (cI, 1134, .inl v_past)), (a3, .inl (cI, 189, .inl v_kept)), (a4, .inl (cI, 1134, .inl v_keptPast))] [(a0, .inr (8, [.ref a1, .ref a2, .int v_acts_o, .ref a3, .ref a4, .int v_keptActs, .ref a5, .int v_typed, .ref a6, .ref a7, .ref a8, .ref a9, .ref a10, .int v_isSet, .ref a11, .ref a12, .ref a13, .int v_arePages, .ref a14, .ref a15, .int v_place, .ref a16, .int v_readMany])), (a1, .inl (cI, 189, .inl v_now_o)), (a2, .inl (cI, 1134, .inl v_past_o)), (a3, .inl (cI, 189, .inl v_kept)), (a4, .inl (cI, 1134, .inl v_keptPast))] (some (.int rv)) := by
  intro sz
  unfold MPost
  refine Met.ofW (cc := cX8_restore) (maxL := 2) (ret := (some .int)) (by decide) rfl ?_
  intro p e s m args below meth c s₁ B hml hv
  obtain ⟨rfl, hsz, hP, hK, hD0, hF⟩ := hv
  have hx := B.exec
  have hb := B.bytes
  have hr := B.returns
  have hT : ∀ w ∈ TBG, w.before _ s = true := fun w h => atoms_spec B.pre w (List.mem_cons_of_mem _ h)
  have hown : s.vm.findClass RX8 = some m.cls := findClass_of_methodNamed B.named
  have hlocks := B.notSynchronized
  subst hsz
  have hD := hD0.self (sz := s.heap.size)
  generalize hAe : va_A [(a0, .inr (8, [.ref a1, .ref a2, .int v_acts, .ref a3, .ref a4, .int v_keptActs, .ref a5, .int v_typed, .ref a6, .ref a7, .ref a8, .ref a9, .ref a10, .int v_isSet, .ref a11, .ref a12, .ref a13, .int v_arePages, .ref a14, .ref a15, .int v_place, .ref a16, .int v_readMany])), (a1, .inl (cI, 189, .inl v_now)), (a2, .inl (cI, 1134, .inl v_past)), (a3, .inl (cI, 189, .inl v_kept)), (a4, .inl (cI, 1134, .inl v_keptPast))] s.heap.size = A at hD hF ⊢
  have hA : ∀ q : Nat, s.heap.size ≤ q → A q := fun q h => by rw [← hAe]; exact Or.inr h
  have hS : va_S A s.heap s.heap [] := va_S.rf
  have hl := lv_entry ([.ref a0]) (n := 2) (Nat.le_of_ble_eq_true rfl)
  rw [lg_entry_eq]
  generalize (lg_sl ([.ref a0]) ++ List.replicate (2 - (lg_sl ([.ref a0])).length) Slot.unset).toArray = ls at hl ⊢
  have hl : lv_has ls 2 [(0, .ref a0)] := hl
  generalize ([.ref a0] : List Value).toArray = args at hT ⊢
  have key : ∀ (Q : State → Prop), (∀ (H : Heap) (locs : List Loc) (ls : Array Slot) (pc : Nat), decode cX8_restore pc = .ok (.ireturn, 1) → va_P (dC, dI) vwCl [(a0, .inr (8, [.ref a1, .ref a2, .int v_acts_o, .ref a3, .ref a4, .int v_keptActs, .ref a5, .int v_typed, .ref a6, .ref a7, .ref a8, .ref a9, .ref a10, .int v_isSet, .ref a11, .ref a12, .ref a13, .int v_arePages, .ref a14, .ref a15, .int v_place, .ref a16, .int v_readMany])), (a1, .inl (cI, 189, .inl v_now_o)), (a2, .inl (cI, 1134, .inl v_past_o)), (a3, .inl (cI, 189, .inl v_kept)), (a4, .inl (cI, 1134, .inl v_keptPast))] H → va_D A [(a0, .inr (8, [.ref a1, .ref a2, .int v_acts_o, .ref a3, .ref a4, .int v_keptActs, .ref a5, .int v_typed, .ref a6, .ref a7, .ref a8, .ref a9, .ref a10, .int v_isSet, .ref a11, .ref a12, .ref a13, .int v_arePages, .ref a14, .ref a15, .int v_place, .ref a16, .int v_readMany])), (a1, .inl (cI, 189, .inl v_now_o)), (a2, .inl (cI, 1134, .inl v_past_o)), (a3, .inl (cI, 189, .inl v_kept)), (a4, .inl (cI, 1134, .inl v_keptPast))] → va_S A s.heap H locs → W p l e ({ frames := 0, cells := 0, slots := 0, locals := 0 } : Room) s m args below meth c H locs 0 0 Q (F0 m pc ls [.int rv])) → ∀ (H : Heap) (locs : List Loc) (ls : Array Slot), va_P (dC, dI) vwCl [(a0, .inr (8, [.ref a1, .ref a2, .int v_acts, .ref a3, .ref a4, .int v_keptActs, .ref a5, .int v_typed, .ref a6, .ref a7, .ref a8, .ref a9, .ref a10, .int v_isSet, .ref a11, .ref a12, .ref a13, .int v_arePages, .ref a14, .ref a15, .int v_place, .ref a16, .int v_readMany])), (a1, .inl (cI, 189, .inl v_now)), (a2, .inl (cI, 1134, .inl v_past)), (a3, .inl (cI, 189, .inl v_kept)), (a4, .inl (cI, 1134, .inl v_keptPast))] H → va_D A [(a0, .inr (8, [.ref a1, .ref a2, .int v_acts, .ref a3, .ref a4, .int v_keptActs, .ref a5, .int v_typed, .ref a6, .ref a7, .ref a8, .ref a9, .ref a10, .int v_isSet, .ref a11, .ref a12, .ref a13, .int v_arePages, .ref a14, .ref a15, .int v_place, .ref a16, .int v_readMany])), (a1, .inl (cI, 189, .inl v_now)), (a2, .inl (cI, 1134, .inl v_past)), (a3, .inl (cI, 189, .inl v_kept)), (a4, .inl (cI, 1134, .inl v_keptPast))] → va_S A s.heap H locs → lv_has ls 2 [(0, .ref a0)] → W p l e ({ frames := 0, cells := 0, slots := 0, locals := 0 } : Room) s m args below meth c H locs 0 0 Q (F0 m 0 ls []) := by
    intro Q hret H locs ls hP hD hS hl
    refine lv_aload_n hx hb dX8_restore_0 rfl (lv_at hl 0 rfl) ?_
    refine va_get (D := (dC, dI)) (ci := 8) (v := .int v_keptActs) (C := RX8) (T := TX8) (N := 23) hx hb hT in_X8 hown hK hP 0 rfl rfl 5 (by decide) (hT _ q_fl_X8_22) (fun _ h9 => h9) rfl dX8_restore_1 ?_
    refine lv_if_ge (tgt := 10) hx hb dX8_restore_4 (by decide) (fun c1 => ?_) (fun c1 => ?_)
    · replace hf := it_t c1 hf
      refine lv_iconst (v := 0) hx hb dX8_restore_10 (by decide) ?_
      refine lv_istore_n (lv' := [(1, .int (0 : Int32)), (0, .ref a0)]) hx hb dX8_restore_11 rfl hl (by decide) rfl (fun ls hl => ?_)
      have hL12 : ∀ (rr : Int32 × (Nat → Int32)), (∀ (z_7 : Int32) (z_8 : (Nat → Int32)), rr = (z_7, z_8) → ∀ (H : Heap) (locs : List Loc) (ls : Array Slot), va_P (dC, dI) vwCl [(a0, .inr (8, [.ref a1, .ref a2, .int v_acts, .ref a3, .ref a4, .int v_keptActs, .ref a5, .int v_typed, .ref a6, .ref a7, .ref a8, .ref a9, .ref a10, .int v_isSet, .ref a11, .ref a12, .ref a13, .int v_arePages, .ref a14, .ref a15, .int v_place, .ref a16, .int v_readMany])), (a1, .inl (cI, 189, .inl z_8)), (a2, .inl (cI, 1134, .inl v_past)), (a3, .inl (cI, 189, .inl v_kept)), (a4, .inl (cI, 1134, .inl v_keptPast))] H → va_D A [(a0, .inr (8, [.ref a1, .ref a2, .int v_acts, .ref a3, .ref a4, .int v_keptActs, .ref a5, .int v_typed, .ref a6, .ref a7, .ref a8, .ref a9, .ref a10, .int v_isSet, .ref a11, .ref a12, .ref a13, .int v_arePages, .ref a14, .ref a15, .int v_place, .ref a16, .int v_readMany])), (a1, .inl (cI, 189, .inl z_8)), (a2, .inl (cI, 1134, .inl v_past)), (a3, .inl (cI, 189, .inl v_kept)), (a4, .inl (cI, 1134, .inl v_keptPast))] → va_S A s.heap H locs → lv_has ls 2 [(0, .ref a0)] → W p l e ({ frames := 0, cells := 0, slots := 0, locals := 0 } : Room) s m args below meth c H locs 0 0 Q (F0 m 37 ls [])) → ∀ (n : Nat) (i1_2 : Int32) (v_now_3 : (Nat → Int32)), loopN (p_X8_restore_L12 v_kept) n (i1_2, v_now_3) = some rr → ∀ (H : Heap) (locs : List Loc) (ls : Array Slot), va_P (dC, dI) vwCl [(a0, .inr (8, [.ref a1, .ref a2, .int v_acts, .ref a3, .ref a4, .int v_keptActs, .ref a5, .int v_typed, .ref a6, .ref a7, .ref a8, .ref a9, .ref a10, .int v_isSet, .ref a11, .ref a12, .ref a13, .int v_arePages, .ref a14, .ref a15, .int v_place, .ref a16, .int v_readMany])), (a1, .inl (cI, 189, .inl v_now_3)), (a2, .inl (cI, 1134, .inl v_past)), (a3, .inl (cI, 189, .inl v_kept)), (a4, .inl (cI, 1134, .inl v_keptPast))] H → va_D A [(a0, .inr (8, [.ref a1, .ref a2, .int v_acts, .ref a3, .ref a4, .int v_keptActs, .ref a5, .int v_typed, .ref a6, .ref a7, .ref a8, .ref a9, .ref a10, .int v_isSet, .ref a11, .ref a12, .ref a13, .int v_arePages, .ref a14, .ref a15, .int v_place, .ref a16, .int v_readMany])), (a1, .inl (cI, 189, .inl v_now_3)), (a2, .inl (cI, 1134, .inl v_past)), (a3, .inl (cI, 189, .inl v_kept)), (a4, .inl (cI, 1134, .inl v_keptPast))] → va_S A s.heap H locs → lv_has ls 2 [(0, .ref a0), (1, .int i1_2)] → W p l e ({ frames := 0, cells := 0, slots := 0, locals := 0 } : Room) s m args below meth c H locs 0 0 Q (F0 m 12 ls []) := by
        intro rr hk12 n
        induction n with
        | zero => intro i1_2 v_now_3 hf; cases hf
        | succ n ih12 =>
          intro i1_2 v_now_3 hf H locs ls hP hD hS hl
          obtain ⟨o12, hf, hi, he⟩ := loopN_el hf
          refine lv_iload_n hx hb dX8_restore_12 rfl (lv_at hl 1 rfl) ?_
          refine lv_sipush (v := 189) hx hb dX8_restore_13 (by decide) ?_
          refine lv_icmp_ge (tgt := 37) hx hb dX8_restore_16 (by decide) (fun c4 => ?_) (fun c4 => ?_)
          · replace hf := it_t c4 hf
            exact hk12 _ _ (he _ (Option.some.inj hf).symm).symm H locs ls hP hD hS (lv_sub hl [0] rfl)
          · replace hf := it_f c4 hf
            refine lv_aload_n hx hb dX8_restore_19 rfl (lv_at hl 0 rfl) ?_
            refine va_get (D := (dC, dI)) (ci := 8) (v := .ref a1) (C := RX8) (T := TX8) (N := 23) hx hb hT in_X8 hown hK hP 0 rfl rfl 0 (by decide) (hT _ q_fl_X8_7) (fun _ h9 => h9) rfl dX8_restore_20 ?_
            refine lv_iload_n hx hb dX8_restore_23 rfl (lv_at hl 1 rfl) ?_
            refine lv_aload_n hx hb dX8_restore_24 rfl (lv_at hl 0 rfl) ?_
            refine va_get (D := (dC, dI)) (ci := 8) (v := .ref a3) (C := RX8) (T := TX8) (N := 23) hx hb hT in_X8 hown hK hP 0 rfl rfl 3 (by decide) (hT _ q_fl_X8_16) (fun _ h9 => h9) rfl dX8_restore_25 ?_
            refine lv_iload_n hx hb dX8_restore_28 rfl (lv_at hl 1 rfl) ?_
            obtain ⟨h5, hf⟩ := gd_el hf
            refine ia_ld hx hb hK hP 3 0 rfl rfl (ib_in h5) (j := (tn i1_2)) rfl dX8_restore_29 ?_
            obtain ⟨h6, hf⟩ := gd_el hf
            refine ia_st hx hb hK hP hD hS 1 0 rfl rfl (ib_in h6) (j := (tn i1_2)) rfl dX8_restore_30 (fun H locs hP hD hS => ?_)
            have hP : va_P (dC, dI) vwCl [(a0, .inr (8, [.ref a1, .ref a2, .int v_acts, .ref a3, .ref a4, .int v_keptActs, .ref a5, .int v_typed, .ref a6, .ref a7, .ref a8, .ref a9, .ref a10, .int v_isSet, .ref a11, .ref a12, .ref a13, .int v_arePages, .ref a14, .ref a15, .int v_place, .ref a16, .int v_readMany])), (a1, .inl (cI, 189, .inl (upd v_now_3 (tn i1_2) (v_kept (tn i1_2))))), (a2, .inl (cI, 1134, .inl v_past)), (a3, .inl (cI, 189, .inl v_kept)), (a4, .inl (cI, 1134, .inl v_keptPast))] H := hP
            have hD : va_D A [(a0, .inr (8, [.ref a1, .ref a2, .int v_acts, .ref a3, .ref a4, .int v_keptActs, .ref a5, .int v_typed, .ref a6, .ref a7, .ref a8, .ref a9, .ref a10, .int v_isSet, .ref a11, .ref a12, .ref a13, .int v_arePages, .ref a14, .ref a15, .int v_place, .ref a16, .int v_readMany])), (a1, .inl (cI, 189, .inl (upd v_now_3 (tn i1_2) (v_kept (tn i1_2))))), (a2, .inl (cI, 1134, .inl v_past)), (a3, .inl (cI, 189, .inl v_kept)), (a4, .inl (cI, 1134, .inl v_keptPast))] := hD
            refine lv_iinc (v := (i1_2 + (1 : Int32))) (lv' := [(1, .int (i1_2 + (1 : Int32))), (0, .ref a0)]) hx hb dX8_restore_31 hl (k := 1) rfl rfl (by decide) rfl (fun ls hl => ?_)
            refine lv_goto (tgt := 12) hx hb dX8_restore_34 (by decide) ?_
            exact ih12 (i1_2 + (1 : Int32)) (upd v_now_3 (tn i1_2) (v_kept (tn i1_2))) (hi _ (Option.some.inj hf).symm) H locs ls hP hD hS (lv_sub hl [1, 0] rfl)
      obtain ⟨f1_9, v_now_10, hq, hf⟩ := bd2_el hf
      refine hL12 (f1_9, v_now_10) (fun z_7 z_8 h9 H locs ls hP hD hS hl => ?_) fuel (0 : Int32) v_now hq H locs ls hP hD hS (lv_sub hl [1, 0] rfl)
      simp only [Prod.mk.injEq] at h9
      obtain ⟨h9_0, h9_1⟩ := h9
      subst h9_0; subst h9_1
      refine lv_iconst (v := 0) hx hb dX8_restore_37 (by decide) ?_
      refine lv_istore_n (lv' := [(1, .int (0 : Int32)), (0, .ref a0)]) hx hb dX8_restore_38 rfl hl (by decide) rfl (fun ls hl => ?_)
      have hL39 : ∀ (rr : Int32 × (Nat → Int32)), (∀ (z_16 : Int32) (z_17 : (Nat → Int32)), rr = (z_16, z_17) → ∀ (H : Heap) (locs : List Loc) (ls : Array Slot), va_P (dC, dI) vwCl [(a0, .inr (8, [.ref a1, .ref a2, .int v_acts, .ref a3, .ref a4, .int v_keptActs, .ref a5, .int v_typed, .ref a6, .ref a7, .ref a8, .ref a9, .ref a10, .int v_isSet, .ref a11, .ref a12, .ref a13, .int v_arePages, .ref a14, .ref a15, .int v_place, .ref a16, .int v_readMany])), (a1, .inl (cI, 189, .inl v_now_10)), (a2, .inl (cI, 1134, .inl z_17)), (a3, .inl (cI, 189, .inl v_kept)), (a4, .inl (cI, 1134, .inl v_keptPast))] H → va_D A [(a0, .inr (8, [.ref a1, .ref a2, .int v_acts, .ref a3, .ref a4, .int v_keptActs, .ref a5, .int v_typed, .ref a6, .ref a7, .ref a8, .ref a9, .ref a10, .int v_isSet, .ref a11, .ref a12, .ref a13, .int v_arePages, .ref a14, .ref a15, .int v_place, .ref a16, .int v_readMany])), (a1, .inl (cI, 189, .inl v_now_10)), (a2, .inl (cI, 1134, .inl z_17)), (a3, .inl (cI, 189, .inl v_kept)), (a4, .inl (cI, 1134, .inl v_keptPast))] → va_S A s.heap H locs → lv_has ls 2 [(0, .ref a0)] → W p l e ({ frames := 0, cells := 0, slots := 0, locals := 0 } : Room) s m args below meth c H locs 0 0 Q (F0 m 64 ls [])) → ∀ (n : Nat) (i1_11 : Int32) (v_past_12 : (Nat → Int32)), loopN (p_X8_restore_L39 v_keptPast) n (i1_11, v_past_12) = some rr → ∀ (H : Heap) (locs : List Loc) (ls : Array Slot), va_P (dC, dI) vwCl [(a0, .inr (8, [.ref a1, .ref a2, .int v_acts, .ref a3, .ref a4, .int v_keptActs, .ref a5, .int v_typed, .ref a6, .ref a7, .ref a8, .ref a9, .ref a10, .int v_isSet, .ref a11, .ref a12, .ref a13, .int v_arePages, .ref a14, .ref a15, .int v_place, .ref a16, .int v_readMany])), (a1, .inl (cI, 189, .inl v_now_10)), (a2, .inl (cI, 1134, .inl v_past_12)), (a3, .inl (cI, 189, .inl v_kept)), (a4, .inl (cI, 1134, .inl v_keptPast))] H → va_D A [(a0, .inr (8, [.ref a1, .ref a2, .int v_acts, .ref a3, .ref a4, .int v_keptActs, .ref a5, .int v_typed, .ref a6, .ref a7, .ref a8, .ref a9, .ref a10, .int v_isSet, .ref a11, .ref a12, .ref a13, .int v_arePages, .ref a14, .ref a15, .int v_place, .ref a16, .int v_readMany])), (a1, .inl (cI, 189, .inl v_now_10)), (a2, .inl (cI, 1134, .inl v_past_12)), (a3, .inl (cI, 189, .inl v_kept)), (a4, .inl (cI, 1134, .inl v_keptPast))] → va_S A s.heap H locs → lv_has ls 2 [(0, .ref a0), (1, .int i1_11)] → W p l e ({ frames := 0, cells := 0, slots := 0, locals := 0 } : Room) s m args below meth c H locs 0 0 Q (F0 m 39 ls []) := by
        intro rr hk39 n
        induction n with
        | zero => intro i1_11 v_past_12 hf; cases hf
        | succ n ih39 =>
          intro i1_11 v_past_12 hf H locs ls hP hD hS hl
          obtain ⟨o39, hf, hi, he⟩ := loopN_el hf
          refine lv_iload_n hx hb dX8_restore_39 rfl (lv_at hl 1 rfl) ?_
          refine lv_sipush (v := 1134) hx hb dX8_restore_40 (by decide) ?_
          refine lv_icmp_ge (tgt := 64) hx hb dX8_restore_43 (by decide) (fun c13 => ?_) (fun c13 => ?_)
          · replace hf := it_t c13 hf
            exact hk39 _ _ (he _ (Option.some.inj hf).symm).symm H locs ls hP hD hS (lv_sub hl [0] rfl)
          · replace hf := it_f c13 hf
            refine lv_aload_n hx hb dX8_restore_46 rfl (lv_at hl 0 rfl) ?_
            refine va_get (D := (dC, dI)) (ci := 8) (v := .ref a2) (C := RX8) (T := TX8) (N := 23) hx hb hT in_X8 hown hK hP 0 rfl rfl 1 (by decide) (hT _ q_fl_X8_13) (fun _ h9 => h9) rfl dX8_restore_47 ?_
            refine lv_iload_n hx hb dX8_restore_50 rfl (lv_at hl 1 rfl) ?_
            refine lv_aload_n hx hb dX8_restore_51 rfl (lv_at hl 0 rfl) ?_
            refine va_get (D := (dC, dI)) (ci := 8) (v := .ref a4) (C := RX8) (T := TX8) (N := 23) hx hb hT in_X8 hown hK hP 0 rfl rfl 4 (by decide) (hT _ q_fl_X8_19) (fun _ h9 => h9) rfl dX8_restore_52 ?_
            refine lv_iload_n hx hb dX8_restore_55 rfl (lv_at hl 1 rfl) ?_
            obtain ⟨h14, hf⟩ := gd_el hf
            refine ia_ld hx hb hK hP 4 0 rfl rfl (ib_in h14) (j := (tn i1_11)) rfl dX8_restore_56 ?_
            obtain ⟨h15, hf⟩ := gd_el hf
            refine ia_st hx hb hK hP hD hS 2 0 rfl rfl (ib_in h15) (j := (tn i1_11)) rfl dX8_restore_57 (fun H locs hP hD hS => ?_)
            have hP : va_P (dC, dI) vwCl [(a0, .inr (8, [.ref a1, .ref a2, .int v_acts, .ref a3, .ref a4, .int v_keptActs, .ref a5, .int v_typed, .ref a6, .ref a7, .ref a8, .ref a9, .ref a10, .int v_isSet, .ref a11, .ref a12, .ref a13, .int v_arePages, .ref a14, .ref a15, .int v_place, .ref a16, .int v_readMany])), (a1, .inl (cI, 189, .inl v_now_10)), (a2, .inl (cI, 1134, .inl (upd v_past_12 (tn i1_11) (v_keptPast (tn i1_11))))), (a3, .inl (cI, 189, .inl v_kept)), (a4, .inl (cI, 1134, .inl v_keptPast))] H := hP
            have hD : va_D A [(a0, .inr (8, [.ref a1, .ref a2, .int v_acts, .ref a3, .ref a4, .int v_keptActs, .ref a5, .int v_typed, .ref a6, .ref a7, .ref a8, .ref a9, .ref a10, .int v_isSet, .ref a11, .ref a12, .ref a13, .int v_arePages, .ref a14, .ref a15, .int v_place, .ref a16, .int v_readMany])), (a1, .inl (cI, 189, .inl v_now_10)), (a2, .inl (cI, 1134, .inl (upd v_past_12 (tn i1_11) (v_keptPast (tn i1_11))))), (a3, .inl (cI, 189, .inl v_kept)), (a4, .inl (cI, 1134, .inl v_keptPast))] := hD
            refine lv_iinc (v := (i1_11 + (1 : Int32))) (lv' := [(1, .int (i1_11 + (1 : Int32))), (0, .ref a0)]) hx hb dX8_restore_58 hl (k := 1) rfl rfl (by decide) rfl (fun ls hl => ?_)
            refine lv_goto (tgt := 39) hx hb dX8_restore_61 (by decide) ?_
            exact ih39 (i1_11 + (1 : Int32)) (upd v_past_12 (tn i1_11) (v_keptPast (tn i1_11))) (hi _ (Option.some.inj hf).symm) H locs ls hP hD hS (lv_sub hl [1, 0] rfl)
      obtain ⟨f1_18, v_past_19, hq, hf⟩ := bd2_el hf
      refine hL39 (f1_18, v_past_19) (fun z_16 z_17 h9 H locs ls hP hD hS hl => ?_) fuel (0 : Int32) v_past hq H locs ls hP hD hS (lv_sub hl [1, 0] rfl)
      simp only [Prod.mk.injEq] at h9
      obtain ⟨h9_0, h9_1⟩ := h9
      subst h9_0; subst h9_1
      refine lv_aload_n hx hb dX8_restore_64 rfl (lv_at hl 0 rfl) ?_
      refine lv_aload_n hx hb dX8_restore_65 rfl (lv_at hl 0 rfl) ?_
      refine va_get (D := (dC, dI)) (ci := 8) (v := .int v_keptActs) (C := RX8) (T := TX8) (N := 23) hx hb hT in_X8 hown hK hP 0 rfl rfl 5 (by decide) (hT _ q_fl_X8_22) (fun _ h9 => h9) rfl dX8_restore_66 ?_
      refine va_put (D := (dC, dI)) (ci := 8) (v := .int v_keptActs) (ty := .int) (C := RX8) (T := TX8) (N := 23) hx hb hT in_X8 tyX8 tyX8_ok nmX8 hown hK hP hD hS 0 rfl rfl 2 (by decide) (hT _ q_fl_X8_161) (fun _ h9 => h9) rfl (tyX8_ok 2 (by decide)) rfl rfl (Nat.le_of_ble_eq_true rfl) dX8_restore_69 (fun H locs hP hD hS => ?_)
      have hP : va_P (dC, dI) vwCl [(a0, .inr (8, [.ref a1, .ref a2, .int v_keptActs, .ref a3, .ref a4, .int v_keptActs, .ref a5, .int v_typed, .ref a6, .ref a7, .ref a8, .ref a9, .ref a10, .int v_isSet, .ref a11, .ref a12, .ref a13, .int v_arePages, .ref a14, .ref a15, .int v_place, .ref a16, .int v_readMany])), (a1, .inl (cI, 189, .inl v_now_10)), (a2, .inl (cI, 1134, .inl v_past_19)), (a3, .inl (cI, 189, .inl v_kept)), (a4, .inl (cI, 1134, .inl v_keptPast))] H := hP
      have hD : va_D A [(a0, .inr (8, [.ref a1, .ref a2, .int v_keptActs, .ref a3, .ref a4, .int v_keptActs, .ref a5, .int v_typed, .ref a6, .ref a7, .ref a8, .ref a9, .ref a10, .int v_isSet, .ref a11, .ref a12, .ref a13, .int v_arePages, .ref a14, .ref a15, .int v_place, .ref a16, .int v_readMany])), (a1, .inl (cI, 189, .inl v_now_10)), (a2, .inl (cI, 1134, .inl v_past_19)), (a3, .inl (cI, 189, .inl v_kept)), (a4, .inl (cI, 1134, .inl v_keptPast))] := hD
      refine lv_iconst (v := 1) hx hb dX8_restore_72 (by decide) ?_
      replace hf := Option.some.inj hf
      simp only [Prod.mk.injEq] at hf
      obtain ⟨hf0, hf1, hf2, hf3⟩ := hf
      subst hf0; subst hf1; subst hf2; subst hf3
      exact hret H locs ls _ dX8_restore_73 hP hD hS
    · replace hf := it_f c1 hf
      refine lv_bipush (v := (-4)) hx hb dX8_restore_7 (by decide) ?_
      replace hf := Option.some.inj hf
      simp only [Prod.mk.injEq] at hf
      obtain ⟨hf0, hf1, hf2, hf3⟩ := hf
      subst hf0; subst hf1; subst hf2; subst hf3
      exact hret H locs ls _ dX8_restore_9 hP hD hS
  refine key _ ?_ _ _ _ hP hD hS hl
  intro H locs ls pc d hP hD hS
  exact W.iret (v := rv) hx hb hr (fun t ht hW => ⟨⟨rfl, by rw [ht]; exact hP, hD⟩, hS.F ht⟩) hS.2.2 d
def p_X8_isSheet (x0 : Int32) : Option (Int32) :=
  (bd1 (p_X8_in (Int32.toInt64 x0) (0 : Int64) (3 : Int64)) fun r_1 => (gd (b01 r_1) (some r_1)))
set_option maxHeartbeats 4000000 in
set_option maxRecDepth 100000 in
theorem c_X8_isSheet (l : Launch) (dC : Nat → ClassId) (dI : Nat → Nat → Nat) (cI cJ cP cS : ClassId)    (x0 : Int32) (rv : Int32)  (hf : p_X8_isSheet x0 = some rv) : MC l (dC, dI) (tyl cI cJ cP cS) yX8_isSheet (Cond.code yX8_isSheet cX8_isSheet 1 (some .boolean) :: TBG) ({ frames := 1, cells := 0, slots := 0, locals := 25 } : Room) [.int x0] [] [] (some (.int rv)) := by
  intro sz
  unfold MPost
  refine Met.ofW (cc := cX8_isSheet) (maxL := 1) (ret := (some .boolean)) (by decide) rfl ?_
  intro p e s m args below meth c s₁ B hml hv
  obtain ⟨rfl, hsz, hP, hK, hD0, hF⟩ := hv
  have hx := B.exec
  have hb := B.bytes
  have hr := B.returns
  have hT : ∀ w ∈ TBG, w.before _ s = true := fun w h => atoms_spec B.pre w (List.mem_cons_of_mem _ h)
  have hown : s.vm.findClass RX8 = some m.cls := findClass_of_methodNamed B.named
  have hlocks := B.notSynchronized
  subst hsz
  have hD := hD0.self (sz := s.heap.size)
  generalize hAe : va_A [] s.heap.size = A at hD hF ⊢
  have hA : ∀ q : Nat, s.heap.size ≤ q → A q := fun q h => by rw [← hAe]; exact Or.inr h
  have hS : va_S A s.heap s.heap [] := va_S.rf
  have hl := lv_entry ([.int x0]) (n := 1) (Nat.le_of_ble_eq_true rfl)
  rw [lg_entry_eq]
  generalize (lg_sl ([.int x0]) ++ List.replicate (1 - (lg_sl ([.int x0])).length) Slot.unset).toArray = ls at hl ⊢
  have hl : lv_has ls 1 [(0, .int x0)] := hl
  generalize ([.int x0] : List Value).toArray = args at hT ⊢
  have key : ∀ (Q : State → Prop), (∀ (H : Heap) (locs : List Loc) (ls : Array Slot) (pc : Nat), decode cX8_isSheet pc = .ok (.ireturn, 1) → narrow .boolean (.int rv) = .int rv → va_P (dC, dI) vwCl [] H → va_D A [] → va_S A s.heap H locs → W p l e ({ frames := 1, cells := 0, slots := 0, locals := 25 } : Room) s m args below meth c H locs 0 0 Q (F0 m pc ls [.int rv])) → ∀ (H : Heap) (locs : List Loc) (ls : Array Slot), va_P (dC, dI) vwCl [] H → va_D A [] → va_S A s.heap H locs → lv_has ls 1 [(0, .int x0)] → W p l e ({ frames := 1, cells := 0, slots := 0, locals := 25 } : Room) s m args below meth c H locs 0 0 Q (F0 m 0 ls []) := by
    intro Q hret H locs ls hP hD hS hl
    refine lv_iload_n hx hb dX8_isSheet_0 rfl (lv_at hl 0 rfl) ?_
    refine lv_i2l hx hb dX8_isSheet_1 rfl ?_
    refine lv_lconst (v := 0) hx hb dX8_isSheet_2 (by decide) ?_
    refine lv_ldc2 hx hb hown (hT _ q_kl_X8_150) dX8_isSheet_3 ?_
    obtain ⟨r_1, hq2, hf⟩ := bd1_el hf
    refine mc_S (As := [.long (Int32.toInt64 x0), .long (0 : Int64), .long (3 : Int64)]) (rest := []) (wr := []) (wn := []) ⟨hx, hb, hml, hown, hT⟩ (c_X8_in l dC dI cI cJ cP cS (Int32.toInt64 x0) (0 : Int64) (3 : Int64) r_1 hq2) (va_cwS 3 hT (gdS q_ml_X8_63 q_st_X8_in q_in_X8 q_co_X8_in) rfl rfl rfl hd_X8_in ⟨Nat.le_of_ble_eq_true rfl, Nat.le_of_ble_eq_true rfl⟩) hK hF hP hD hS hA [] [] [] rfl (by decide) rfl (by decide) (by decide) rfl (by decide) rfl hl.1 rfl (Nat.le_of_ble_eq_true rfl) dX8_isSheet_6 ⟨Nat.zero_le _, Nat.zero_le _⟩ (fun H locs hP hD hS => ?_)
    refine W.eq (g2 := F0 m 9 ls [.int r_1]) rfl ?_
    obtain ⟨h3, hf⟩ := gd_el hf
    replace hf := Option.some.inj hf
    subst hf
    exact hret H locs ls _ dX8_isSheet_9 (b01_nar h3) hP hD hS
  refine key _ ?_ _ _ _ hP hD hS hl
  intro H locs ls pc d hz hP hD hS
  exact W.zret (v := rv) hx hb hr hz (fun t ht hW => ⟨⟨rfl, by rw [ht]; exact hP, hD⟩, hS.F ht⟩) hS.2.2 d
def p_X8_cut (x0 : Int32) (x1 : Int64) : Option (Int64) :=
  (if x0 = (0 : Int32) then (some (Int32.toInt64 (i2b (Int64.toInt32 x1)))) else (if x0 = (1 : Int32) then (some (Int32.toInt64 (i2s (Int64.toInt32 x1)))) else (if x0 = (2 : Int32) then (some (Int32.toInt64 (Int64.toInt32 x1))) else (some x1))))
set_option maxHeartbeats 4000000 in
set_option maxRecDepth 100000 in
theorem c_X8_cut (l : Launch) (dC : Nat → ClassId) (dI : Nat → Nat → Nat) (cI cJ cP cS : ClassId)    (x0 : Int32) (x1 : Int64) (rv : Int64)  (hf : p_X8_cut x0 x1 = some rv) : MC l (dC, dI) (tyl cI cJ cP cS) yX8_cut (Cond.code yX8_cut cX8_cut 3 (some .long) :: TBG) ({ frames := 0, cells := 0, slots := 0, locals := 0 } : Room) [.int x0, .long x1] [] [] (some (.long rv)) := by
  intro sz
  unfold MPost
  refine Met.ofW (cc := cX8_cut) (maxL := 3) (ret := (some .long)) (by decide) rfl ?_
  intro p e s m args below meth c s₁ B hml hv
  obtain ⟨rfl, hsz, hP, hK, hD0, hF⟩ := hv
  have hx := B.exec
  have hb := B.bytes
  have hr := B.returns
  have hT : ∀ w ∈ TBG, w.before _ s = true := fun w h => atoms_spec B.pre w (List.mem_cons_of_mem _ h)
  have hown : s.vm.findClass RX8 = some m.cls := findClass_of_methodNamed B.named
  have hlocks := B.notSynchronized
  subst hsz
  have hD := hD0.self (sz := s.heap.size)
  generalize hAe : va_A [] s.heap.size = A at hD hF ⊢
  have hA : ∀ q : Nat, s.heap.size ≤ q → A q := fun q h => by rw [← hAe]; exact Or.inr h
  have hS : va_S A s.heap s.heap [] := va_S.rf
  have hl := lv_entry ([.int x0, .long x1]) (n := 3) (Nat.le_of_ble_eq_true rfl)
  rw [lg_entry_eq]
  generalize (lg_sl ([.int x0, .long x1]) ++ List.replicate (3 - (lg_sl ([.int x0, .long x1])).length) Slot.unset).toArray = ls at hl ⊢
  have hl : lv_has ls 3 [(0, .int x0), (1, .long x1)] := hl
  generalize ([.int x0, .long x1] : List Value).toArray = args at hT ⊢
  have key : ∀ (Q : State → Prop), (∀ (H : Heap) (locs : List Loc) (ls : Array Slot) (pc : Nat), decode cX8_cut pc = .ok (.lreturn, 1) → va_P (dC, dI) vwCl [] H → va_D A [] → va_S A s.heap H locs → W p l e ({ frames := 0, cells := 0, slots := 0, locals := 0 } : Room) s m args below meth c H locs 0 0 Q (F0 m pc ls [.long rv])) → ∀ (H : Heap) (locs : List Loc) (ls : Array Slot), va_P (dC, dI) vwCl [] H → va_D A [] → va_S A s.heap H locs → lv_has ls 3 [(0, .int x0), (1, .long x1)] → W p l e ({ frames := 0, cells := 0, slots := 0, locals := 0 } : Room) s m args below meth c H locs 0 0 Q (F0 m 0 ls []) := by
    intro Q hret H locs ls hP hD hS hl
    refine lv_iload_n hx hb dX8_cut_0 rfl (lv_at hl 0 rfl) ?_
    refine lv_if_ne (tgt := 11) hx hb dX8_cut_1 (by decide) (fun c1 => ?_) (fun c1 => ?_)
    · replace hf := it_f c1 hf
      refine lv_iload_n hx hb dX8_cut_11 rfl (lv_at hl 0 rfl) ?_
      refine lv_iconst (v := 1) hx hb dX8_cut_12 (by decide) ?_
      refine lv_icmp_ne (tgt := 23) hx hb dX8_cut_13 (by decide) (fun c2 => ?_) (fun c2 => ?_)
      · replace hf := it_f c2 hf
        refine lv_iload_n hx hb dX8_cut_23 rfl (lv_at hl 0 rfl) ?_
        refine lv_iconst (v := 2) hx hb dX8_cut_24 (by decide) ?_
        refine lv_icmp_ne (tgt := 34) hx hb dX8_cut_25 (by decide) (fun c3 => ?_) (fun c3 => ?_)
        · replace hf := it_f c3 hf
          refine lv_lload_n hx hb dX8_cut_34 rfl (lv_at hl 1 rfl) ?_
          replace hf := Option.some.inj hf
          subst hf
          exact hret H locs ls _ dX8_cut_35 hP hD hS
        · replace hf := it_t c3 hf
          refine lv_lload_n hx hb dX8_cut_28 rfl (lv_at hl 1 rfl) ?_
          refine lv_l2i hx hb dX8_cut_29 rfl ?_
          refine lv_i2l hx hb dX8_cut_30 rfl ?_
          refine lv_goto (tgt := 35) hx hb dX8_cut_31 (by decide) ?_
          replace hf := Option.some.inj hf
          subst hf
          exact hret H locs ls _ dX8_cut_35 hP hD hS
      · replace hf := it_t c2 hf
        refine lv_lload_n hx hb dX8_cut_16 rfl (lv_at hl 1 rfl) ?_
        refine lv_l2i hx hb dX8_cut_17 rfl ?_
        refine lv_i2s hx hb dX8_cut_18 rfl ?_
        refine lv_i2l hx hb dX8_cut_19 rfl ?_
        refine lv_goto (tgt := 35) hx hb dX8_cut_20 (by decide) ?_
        replace hf := Option.some.inj hf
        subst hf
        exact hret H locs ls _ dX8_cut_35 hP hD hS
    · replace hf := it_t c1 hf
      refine lv_lload_n hx hb dX8_cut_4 rfl (lv_at hl 1 rfl) ?_
      refine lv_l2i hx hb dX8_cut_5 rfl ?_
      refine lv_i2b hx hb dX8_cut_6 rfl ?_
      refine lv_i2l hx hb dX8_cut_7 rfl ?_
      refine lv_goto (tgt := 35) hx hb dX8_cut_8 (by decide) ?_
      replace hf := Option.some.inj hf
      subst hf
      exact hret H locs ls _ dX8_cut_35 hP hD hS
  refine key _ ?_ _ _ _ hP hD hS hl
  intro H locs ls pc d hP hD hS
  exact W.lret (v := rv) hx hb hr (fun t ht hW => ⟨⟨rfl, by rw [ht]; exact hP, hD⟩, hS.F ht⟩) hS.2.2 d
def p_X8_found (v_lanes : (Nat → Int32)) (v_sizes : (Nat → Int32)) (x1 : Int32) (x2 : Int32) (x3 : Int32) (x4 : Int32) : Option (Int32) :=
  (gd (ib x1 4) (if (0 : Int32) ≤ (v_lanes (tn x1)) then (gd (ib x1 4) (if (v_lanes (tn x1)) = x2 then (if x3 < (0 : Int32) then (some (-13 : Int32)) else (gd (ib x1 4) (if x4 ≤ ((v_sizes (tn x1)) - x3) then (some (0 : Int32)) else (some (-13 : Int32))))) else (some (-12 : Int32)))) else (some (-11 : Int32))))
set_option maxHeartbeats 4000000 in
set_option maxRecDepth 100000 in
theorem c_X8_found (l : Launch) (dC : Nat → ClassId) (dI : Nat → Nat → Nat) (cI cJ cP cS : ClassId) (a0 : Nat) (a1 : Nat) (a2 : Nat) (a3 : Nat) (a4 : Nat) (a5 : Nat) (a6 : Nat) (a7 : Nat) (a8 : Nat) (a9 : Nat) (a10 : Nat) (a11 : Nat) (a12 : Nat) (a13 : Nat) (a14 : Nat) (a15 : Nat) (a16 : Nat) (v_acts : Int32) (v_keptActs : Int32) (v_typed : Int32) (v_isSet : Int32) (v_arePages : Int32) (v_place : Int32) (v_readMany : Int32) (v_lanes : (Nat → Int32)) (v_sizes : (Nat → Int32))  (x1 : Int32) (x2 : Int32) (x3 : Int32) (x4 : Int32) (rv : Int32)  (hf : p_X8_found v_lanes v_sizes x1 x2 x3 x4 = some rv) : MC l (dC, dI) (tyl cI cJ cP cS) yX8_found (Cond.code yX8_found cX8_found 5 (some .int) :: TBG) ({ frames := 0, cells := 0, slots := 0, locals := 0 } : Room) [.ref a0, .int x1, .int x2, .int x3, .int x4] [(a0, .inr (8, [.ref a1, .ref a2, .int v_acts, .ref a3, .ref a4, .int v_keptActs, .ref a5, .int v_typed, .ref a6, .ref a7, .ref a8, .ref a9, .ref a10, .int v_isSet, .ref a11, .ref a12, .ref a13, .int v_arePages, .ref a14, .ref a15, .int v_place, .ref a16, .int v_readMany])), (a6, .inl (cI, 4, .inl v_lanes)), (a7, .inl (cI, 4, .inl v_sizes))] [(a0, .inr (8, [.ref a1, .ref a2, .int v_acts, .ref a3, .ref a4, .int v_keptActs, .ref a5, .int v_typed, .ref a6, .ref a7, .ref a8, .ref a9, .ref a10, .int v_isSet, .ref a11, .ref a12, .ref a13, .int v_arePages, .ref a14, .ref a15, .int v_place, .ref a16, .int v_readMany])), (a6, .inl (cI, 4, .inl v_lanes)), (a7, .inl (cI, 4, .inl v_sizes))] (some (.int rv)) := by
  intro sz
  unfold MPost
  refine Met.ofW (cc := cX8_found) (maxL := 5) (ret := (some .int)) (by decide) rfl ?_
  intro p e s m args below meth c s₁ B hml hv
  obtain ⟨rfl, hsz, hP, hK, hD0, hF⟩ := hv
  have hx := B.exec
  have hb := B.bytes
  have hr := B.returns
  have hT : ∀ w ∈ TBG, w.before _ s = true := fun w h => atoms_spec B.pre w (List.mem_cons_of_mem _ h)
  have hown : s.vm.findClass RX8 = some m.cls := findClass_of_methodNamed B.named
  have hlocks := B.notSynchronized
  subst hsz
  have hD := hD0.self (sz := s.heap.size)
  generalize hAe : va_A [(a0, .inr (8, [.ref a1, .ref a2, .int v_acts, .ref a3, .ref a4, .int v_keptActs, .ref a5, .int v_typed, .ref a6, .ref a7, .ref a8, .ref a9, .ref a10, .int v_isSet, .ref a11, .ref a12, .ref a13, .int v_arePages, .ref a14, .ref a15, .int v_place, .ref a16, .int v_readMany])), (a6, .inl (cI, 4, .inl v_lanes)), (a7, .inl (cI, 4, .inl v_sizes))] s.heap.size = A at hD hF ⊢
  have hA : ∀ q : Nat, s.heap.size ≤ q → A q := fun q h => by rw [← hAe]; exact Or.inr h
  have hS : va_S A s.heap s.heap [] := va_S.rf
  have hl := lv_entry ([.ref a0, .int x1, .int x2, .int x3, .int x4]) (n := 5) (Nat.le_of_ble_eq_true rfl)
  rw [lg_entry_eq]
  generalize (lg_sl ([.ref a0, .int x1, .int x2, .int x3, .int x4]) ++ List.replicate (5 - (lg_sl ([.ref a0, .int x1, .int x2, .int x3, .int x4])).length) Slot.unset).toArray = ls at hl ⊢
  have hl : lv_has ls 5 [(0, .ref a0), (1, .int x1), (2, .int x2), (3, .int x3), (4, .int x4)] := hl
  generalize ([.ref a0, .int x1, .int x2, .int x3, .int x4] : List Value).toArray = args at hT ⊢
  have key : ∀ (Q : State → Prop), (∀ (H : Heap) (locs : List Loc) (ls : Array Slot) (pc : Nat), decode cX8_found pc = .ok (.ireturn, 1) → va_P (dC, dI) vwCl [(a0, .inr (8, [.ref a1, .ref a2, .int v_acts, .ref a3, .ref a4, .int v_keptActs, .ref a5, .int v_typed, .ref a6, .ref a7, .ref a8, .ref a9, .ref a10, .int v_isSet, .ref a11, .ref a12, .ref a13, .int v_arePages, .ref a14, .ref a15, .int v_place, .ref a16, .int v_readMany])), (a6, .inl (cI, 4, .inl v_lanes)), (a7, .inl (cI, 4, .inl v_sizes))] H → va_D A [(a0, .inr (8, [.ref a1, .ref a2, .int v_acts, .ref a3, .ref a4, .int v_keptActs, .ref a5, .int v_typed, .ref a6, .ref a7, .ref a8, .ref a9, .ref a10, .int v_isSet, .ref a11, .ref a12, .ref a13, .int v_arePages, .ref a14, .ref a15, .int v_place, .ref a16, .int v_readMany])), (a6, .inl (cI, 4, .inl v_lanes)), (a7, .inl (cI, 4, .inl v_sizes))] → va_S A s.heap H locs → W p l e ({ frames := 0, cells := 0, slots := 0, locals := 0 } : Room) s m args below meth c H locs 0 0 Q (F0 m pc ls [.int rv])) → ∀ (H : Heap) (locs : List Loc) (ls : Array Slot), va_P (dC, dI) vwCl [(a0, .inr (8, [.ref a1, .ref a2, .int v_acts, .ref a3, .ref a4, .int v_keptActs, .ref a5, .int v_typed, .ref a6, .ref a7, .ref a8, .ref a9, .ref a10, .int v_isSet, .ref a11, .ref a12, .ref a13, .int v_arePages, .ref a14, .ref a15, .int v_place, .ref a16, .int v_readMany])), (a6, .inl (cI, 4, .inl v_lanes)), (a7, .inl (cI, 4, .inl v_sizes))] H → va_D A [(a0, .inr (8, [.ref a1, .ref a2, .int v_acts, .ref a3, .ref a4, .int v_keptActs, .ref a5, .int v_typed, .ref a6, .ref a7, .ref a8, .ref a9, .ref a10, .int v_isSet, .ref a11, .ref a12, .ref a13, .int v_arePages, .ref a14, .ref a15, .int v_place, .ref a16, .int v_readMany])), (a6, .inl (cI, 4, .inl v_lanes)), (a7, .inl (cI, 4, .inl v_sizes))] → va_S A s.heap H locs → lv_has ls 5 [(0, .ref a0), (1, .int x1), (2, .int x2), (3, .int x3), (4, .int x4)] → W p l e ({ frames := 0, cells := 0, slots := 0, locals := 0 } : Room) s m args below meth c H locs 0 0 Q (F0 m 0 ls []) := by
    intro Q hret H locs ls hP hD hS hl
    refine lv_aload_n hx hb dX8_found_0 rfl (lv_at hl 0 rfl) ?_
    refine va_get (D := (dC, dI)) (ci := 8) (v := .ref a6) (C := RX8) (T := TX8) (N := 23) hx hb hT in_X8 hown hK hP 0 rfl rfl 8 (by decide) (hT _ q_fl_X8_29) (fun _ h9 => h9) rfl dX8_found_1 ?_
    refine lv_iload_n hx hb dX8_found_4 rfl (lv_at hl 1 rfl) ?_
    obtain ⟨h1, hf⟩ := gd_el hf
    refine ia_ld hx hb hK hP 1 0 rfl rfl (ib_in h1) (j := (tn x1)) rfl dX8_found_5 ?_
    refine lv_if_ge (tgt := 12) hx hb dX8_found_6 (by decide) (fun c2 => ?_) (fun c2 => ?_)
    · replace hf := it_t c2 hf
      refine lv_aload_n hx hb dX8_found_12 rfl (lv_at hl 0 rfl) ?_
      refine va_get (D := (dC, dI)) (ci := 8) (v := .ref a6) (C := RX8) (T := TX8) (N := 23) hx hb hT in_X8 hown hK hP 0 rfl rfl 8 (by decide) (hT _ q_fl_X8_29) (fun _ h9 => h9) rfl dX8_found_13 ?_
      refine lv_iload_n hx hb dX8_found_16 rfl (lv_at hl 1 rfl) ?_
      obtain ⟨h3, hf⟩ := gd_el hf
      refine ia_ld hx hb hK hP 1 0 rfl rfl (ib_in h3) (j := (tn x1)) rfl dX8_found_17 ?_
      refine lv_iload_n hx hb dX8_found_18 rfl (lv_at hl 2 rfl) ?_
      refine lv_icmp_eq (tgt := 25) hx hb dX8_found_19 (by decide) (fun c4 => ?_) (fun c4 => ?_)
      · replace hf := it_t c4 hf
        refine lv_iload_n hx hb dX8_found_25 rfl (lv_at hl 3 rfl) ?_
        refine lv_if_lt (tgt := 42) hx hb dX8_found_26 (by decide) (fun c5 => ?_) (fun c5 => ?_)
        · replace hf := it_t c5 hf
          refine lv_bipush (v := (-13)) hx hb dX8_found_42 (by decide) ?_
          refine lv_goto (tgt := 48) hx hb dX8_found_44 (by decide) ?_
          replace hf := Option.some.inj hf
          subst hf
          exact hret H locs ls _ dX8_found_48 hP hD hS
        · replace hf := it_f c5 hf
          refine lv_iload hx hb dX8_found_29 (lv_at hl 4 rfl) ?_
          refine lv_aload_n hx hb dX8_found_31 rfl (lv_at hl 0 rfl) ?_
          refine va_get (D := (dC, dI)) (ci := 8) (v := .ref a7) (C := RX8) (T := TX8) (N := 23) hx hb hT in_X8 hown hK hP 0 rfl rfl 9 (by decide) (hT _ q_fl_X8_32) (fun _ h9 => h9) rfl dX8_found_32 ?_
          refine lv_iload_n hx hb dX8_found_35 rfl (lv_at hl 1 rfl) ?_
          obtain ⟨h6, hf⟩ := gd_el hf
          refine ia_ld hx hb hK hP 2 0 rfl rfl (ib_in h6) (j := (tn x1)) rfl dX8_found_36 ?_
          refine lv_iload_n hx hb dX8_found_37 rfl (lv_at hl 3 rfl) ?_
          refine lv_isub hx hb dX8_found_38 ?_
          refine lv_icmp_le (tgt := 47) hx hb dX8_found_39 (by decide) (fun c7 => ?_) (fun c7 => ?_)
          · replace hf := it_t c7 hf
            refine lv_iconst (v := 0) hx hb dX8_found_47 (by decide) ?_
            replace hf := Option.some.inj hf
            subst hf
            exact hret H locs ls _ dX8_found_48 hP hD hS
          · replace hf := it_f c7 hf
            refine lv_bipush (v := (-13)) hx hb dX8_found_42 (by decide) ?_
            refine lv_goto (tgt := 48) hx hb dX8_found_44 (by decide) ?_
            replace hf := Option.some.inj hf
            subst hf
            exact hret H locs ls _ dX8_found_48 hP hD hS
      · replace hf := it_f c4 hf
        refine lv_bipush (v := (-12)) hx hb dX8_found_22 (by decide) ?_
        replace hf := Option.some.inj hf
        subst hf
        exact hret H locs ls _ dX8_found_24 hP hD hS
    · replace hf := it_f c2 hf
      refine lv_bipush (v := (-11)) hx hb dX8_found_9 (by decide) ?_
      replace hf := Option.some.inj hf
      subst hf
      exact hret H locs ls _ dX8_found_11 hP hD hS
  refine key _ ?_ _ _ _ hP hD hS hl
  intro H locs ls pc d hP hD hS
  exact W.iret (v := rv) hx hb hr (fun t ht hW => ⟨⟨rfl, by rw [ht]; exact hP, hD⟩, hS.F ht⟩) hS.2.2 d
def p_X8_cuts_L59 (v_isSet : Int32) (v_items : (Nat → Int64)) (v_rows : (Nat → Int32)) (x1 : Int32) (x3 : Int32) (x4 : Int32) (s : Int64 × Int32) : Option ((Int64 × Int32) ⊕ ((Int64 × Int32) ⊕ (Int32 × Int32 × (Nat → Int32)))) := match s with
  | (i6_13, i8_14) => (if x4 ≤ i8_14 then (some (.inr (.inl (i6_13, i8_14)))) else (gd (ib ((((24 : Int32) * x1) + x3) + i8_14) 96) (nm (v_items (tn ((((24 : Int32) * x1) + x3) + i8_14))) fun x9_17 => (bd1 (p_X8_in x9_17 (1 : Int64) (12 : Int64)) fun r_18 => (if r_18 = (0 : Int32) then (some (.inr (.inr ((-2 : Int32), v_isSet, v_rows)))) else (nm (i6_13 + x9_17) fun x6_21 => (some (.inl (x6_21, (i8_14 + (1 : Int32)))))))))))
def p_X8_cuts_B186_39 (v_isSet_30 : Int32) (v_rows_31 : (Nat → Int32)) (i9_34 : Int32) (i10_35 : Int32) (x11_38 : Int32) (w0_39 : Int32) : Option ((Int32 × Int32 × Int32) ⊕ ((Int32 × Int32 × Int32) ⊕ (Int32 × Int32 × (Nat → Int32)))) :=
  (if (0 : Int32) ≤ w0_39 then (nm (i9_34 + w0_39) fun x9_41 => (some (.inl (x11_38, x9_41, (i10_35 + (1 : Int32)))))) else (some (.inr (.inr ((-4 : Int32), v_isSet_30, v_rows_31)))))
def p_X8_cuts_L139 (v_now : (Nat → Int32)) (v_items : (Nat → Int64)) (x1 : Int32) (x3 : Int32) (x4 : Int32) (v_isSet_30 : Int32) (v_rows_31 : (Nat → Int32)) (s : Int32 × Int32 × Int32) : Option ((Int32 × Int32 × Int32) ⊕ ((Int32 × Int32 × Int32) ⊕ (Int32 × Int32 × (Nat → Int32)))) := match s with
  | (i8_33, i9_34, i10_35) => (if x4 ≤ i10_35 then (some (.inr (.inl (i8_33, i9_34, i10_35)))) else (gd (ib ((((24 : Int32) * x1) + x3) + i10_35) 96) (nm (i8_33 + (Int64.toInt32 (v_items (tn ((((24 : Int32) * x1) + x3) + i10_35))))) fun x11_38 => (if v_isSet_30 = (0 : Int32) then (p_X8_cuts_B186_39 v_isSet_30 v_rows_31 i9_34 i10_35 x11_38 (-4 : Int32)) else (bd1 (p_X8_ends v_now v_rows_31 i8_33 x11_38) fun r_43 => (p_X8_cuts_B186_39 v_isSet_30 v_rows_31 i9_34 i10_35 x11_38 r_43))))))
def p_X8_cuts (v_isSet : Int32) (v_now : (Nat → Int32)) (v_lanes : (Nat → Int32)) (v_sizes : (Nat → Int32)) (v_items : (Nat → Int64)) (v_rows : (Nat → Int32)) (x1 : Int32) (x2 : Int32) (x3 : Int32) (x4 : Int32) : Option (Int32 × Int32 × (Nat → Int32)) :=
  (bd1 (p_X8_isSheet x1) fun r_1 => (if r_1 = (0 : Int32) then (some ((-1 : Int32), v_isSet, v_rows)) else (bd1 (p_X8_in (Int32.toInt64 x2) (0 : Int64) (3 : Int64)) fun r_4 => (if r_4 = (0 : Int32) then (some ((-1 : Int32), v_isSet, v_rows)) else (bd1 (p_X8_in (Int32.toInt64 x4) (1 : Int64) (12 : Int64)) fun r_7 => (if r_7 = (0 : Int32) then (some ((-1 : Int32), v_isSet, v_rows)) else (bd1 (p_X8_found v_lanes v_sizes x1 x2 x3 x4) fun r_10 => (if (0 : Int32) ≤ r_10 then (bdS (loopN (p_X8_cuts_L59 v_isSet v_items v_rows x1 x3 x4) fuel ((0 : Int64), (0 : Int32))) (fun q => bd2 (some q) fun f6_27 f8_28 => (if (lg_cmp f6_27 (Int32.toInt64 (v_now 0))) = (0 : Int32) then (bd2 (p_X8_sets v_isSet v_now v_rows) fun v_isSet_30 v_rows_31 => (bdS (loopN (p_X8_cuts_L139 v_now v_items x1 x3 x4 v_isSet_30 v_rows_31) fuel ((0 : Int32), (0 : Int32), (0 : Int32))) (fun q => bd3 (some q) fun f8_51 f9_52 f10_53 => (some (f9_52, v_isSet_30, v_rows_31))) (fun q => some q))) else (some ((-2 : Int32), v_isSet, v_rows)))) (fun q => some q)) else (some (r_10, v_isSet, v_rows))))))))))
set_option maxHeartbeats 4000000 in
set_option maxRecDepth 100000 in
theorem c_X8_cuts (l : Launch) (dC : Nat → ClassId) (dI : Nat → Nat → Nat) (cI cJ cP cS : ClassId) (a0 : Nat) (a1 : Nat) (a2 : Nat) (a3 : Nat) (a4 : Nat) (a5 : Nat) (a6 : Nat) (a7 : Nat) (a8 : Nat) (a9 : Nat) (a10 : Nat) (a11 : Nat) (a12 : Nat) (a13 : Nat) (a14 : Nat) (a15 : Nat) (a16 : Nat) (v_acts : Int32) (v_keptActs : Int32) (v_typed : Int32) (v_isSet : Int32) (v_arePages : Int32) (v_place : Int32) (v_readMany : Int32) (v_now : (Nat → Int32)) (v_lanes : (Nat → Int32)) (v_sizes : (Nat → Int32)) (v_items : (Nat → Int64)) (v_rows : (Nat → Int32))  (x1 : Int32) (x2 : Int32) (x3 : Int32) (x4 : Int32) (rv : Int32) (v_isSet_o : Int32) (v_rows_o : (Nat → Int32)) (hf : p_X8_cuts v_isSet v_now v_lanes v_sizes v_items v_rows x1 x2 x3 x4 = some (rv, v_isSet_o, v_rows_o)) : MC l (dC, dI) (tyl cI cJ cP cS) yX8_cuts (Cond.code yX8_cuts cX8_cuts 13 (some .int) :: TBG) ({ frames := 9, cells := 0, slots := 0, locals := 204 } : Room) [.ref a0, .int x1, .int x2, .int x3, .int x4] [(a0, .inr (8, [.ref a1, .ref a2, .int v_acts, .ref a3, .ref a4, .int v_keptActs, .ref a5, .int v_typed, .ref a6, .ref a7, .ref a8, .ref a9, .ref a10, .int v_isSet, .ref a11, .ref a12, .ref a13, .int v_arePages, .ref a14, .ref a15, .int v_place, .ref a16, .int v_readMany])), (a1, .inl (cI, 189, .inl v_now)), (a6, .inl (cI, 4, .inl v_lanes)), (a7, .inl (cI, 4, .inl v_sizes)), (a8, .inl (cJ, 96, .inr (.inl v_items))), (a10, .inl (cI, 12, .inl v_rows))] [(a0, .inr (8, [.ref a1, .ref a2, .int v_acts, .ref a3, .ref a4, .int v_keptActs, .ref a5, .int v_typed, .ref a6, .ref a7, .ref a8, .ref a9, .ref a10, .int v_isSet_o, .ref a11, .ref a12, .ref a13, .int v_arePages, .ref a14, .ref a15, .int v_place, .ref a16, .int v_readMany])), (a1, .inl (cI, 189, .inl v_now)), (a6, .inl (cI, 4, .inl v_lanes)), (a7, .inl (cI, 4, .inl v_sizes)), (a8, .inl (cJ, 96, .inr (.inl v_items))), (a10, .inl (cI, 12, .inl v_rows_o))] (some (.int rv)) := by
  intro sz
  unfold MPost
  refine Met.ofW (cc := cX8_cuts) (maxL := 13) (ret := (some .int)) (by decide) rfl ?_
  intro p e s m args below meth c s₁ B hml hv
  obtain ⟨rfl, hsz, hP, hK, hD0, hF⟩ := hv
  have hx := B.exec
  have hb := B.bytes
  have hr := B.returns
  have hT : ∀ w ∈ TBG, w.before _ s = true := fun w h => atoms_spec B.pre w (List.mem_cons_of_mem _ h)
  have hown : s.vm.findClass RX8 = some m.cls := findClass_of_methodNamed B.named
  have hlocks := B.notSynchronized
  subst hsz
  have hD := hD0.self (sz := s.heap.size)
  generalize hAe : va_A [(a0, .inr (8, [.ref a1, .ref a2, .int v_acts, .ref a3, .ref a4, .int v_keptActs, .ref a5, .int v_typed, .ref a6, .ref a7, .ref a8, .ref a9, .ref a10, .int v_isSet, .ref a11, .ref a12, .ref a13, .int v_arePages, .ref a14, .ref a15, .int v_place, .ref a16, .int v_readMany])), (a1, .inl (cI, 189, .inl v_now)), (a6, .inl (cI, 4, .inl v_lanes)), (a7, .inl (cI, 4, .inl v_sizes)), (a8, .inl (cJ, 96, .inr (.inl v_items))), (a10, .inl (cI, 12, .inl v_rows))] s.heap.size = A at hD hF ⊢
  have hA : ∀ q : Nat, s.heap.size ≤ q → A q := fun q h => by rw [← hAe]; exact Or.inr h
  have hS : va_S A s.heap s.heap [] := va_S.rf
  have hl := lv_entry ([.ref a0, .int x1, .int x2, .int x3, .int x4]) (n := 13) (Nat.le_of_ble_eq_true rfl)
  rw [lg_entry_eq]
  generalize (lg_sl ([.ref a0, .int x1, .int x2, .int x3, .int x4]) ++ List.replicate (13 - (lg_sl ([.ref a0, .int x1, .int x2, .int x3, .int x4])).length) Slot.unset).toArray = ls at hl ⊢
  have hl : lv_has ls 13 [(0, .ref a0), (1, .int x1), (2, .int x2), (3, .int x3), (4, .int x4)] := hl
  generalize ([.ref a0, .int x1, .int x2, .int x3, .int x4] : List Value).toArray = args at hT ⊢
  have key : ∀ (Q : State → Prop), (∀ (H : Heap) (locs : List Loc) (ls : Array Slot) (pc : Nat), decode cX8_cuts pc = .ok (.ireturn, 1) → va_P (dC, dI) vwCl [(a0, .inr (8, [.ref a1, .ref a2, .int v_acts, .ref a3, .ref a4, .int v_keptActs, .ref a5, .int v_typed, .ref a6, .ref a7, .ref a8, .ref a9, .ref a10, .int v_isSet_o, .ref a11, .ref a12, .ref a13, .int v_arePages, .ref a14, .ref a15, .int v_place, .ref a16, .int v_readMany])), (a1, .inl (cI, 189, .inl v_now)), (a6, .inl (cI, 4, .inl v_lanes)), (a7, .inl (cI, 4, .inl v_sizes)), (a8, .inl (cJ, 96, .inr (.inl v_items))), (a10, .inl (cI, 12, .inl v_rows_o))] H → va_D A [(a0, .inr (8, [.ref a1, .ref a2, .int v_acts, .ref a3, .ref a4, .int v_keptActs, .ref a5, .int v_typed, .ref a6, .ref a7, .ref a8, .ref a9, .ref a10, .int v_isSet_o, .ref a11, .ref a12, .ref a13, .int v_arePages, .ref a14, .ref a15, .int v_place, .ref a16, .int v_readMany])), (a1, .inl (cI, 189, .inl v_now)), (a6, .inl (cI, 4, .inl v_lanes)), (a7, .inl (cI, 4, .inl v_sizes)), (a8, .inl (cJ, 96, .inr (.inl v_items))), (a10, .inl (cI, 12, .inl v_rows_o))] → va_S A s.heap H locs → W p l e ({ frames := 9, cells := 0, slots := 0, locals := 204 } : Room) s m args below meth c H locs 0 0 Q (F0 m pc ls [.int rv])) → ∀ (H : Heap) (locs : List Loc) (ls : Array Slot), va_P (dC, dI) vwCl [(a0, .inr (8, [.ref a1, .ref a2, .int v_acts, .ref a3, .ref a4, .int v_keptActs, .ref a5, .int v_typed, .ref a6, .ref a7, .ref a8, .ref a9, .ref a10, .int v_isSet, .ref a11, .ref a12, .ref a13, .int v_arePages, .ref a14, .ref a15, .int v_place, .ref a16, .int v_readMany])), (a1, .inl (cI, 189, .inl v_now)), (a6, .inl (cI, 4, .inl v_lanes)), (a7, .inl (cI, 4, .inl v_sizes)), (a8, .inl (cJ, 96, .inr (.inl v_items))), (a10, .inl (cI, 12, .inl v_rows))] H → va_D A [(a0, .inr (8, [.ref a1, .ref a2, .int v_acts, .ref a3, .ref a4, .int v_keptActs, .ref a5, .int v_typed, .ref a6, .ref a7, .ref a8, .ref a9, .ref a10, .int v_isSet, .ref a11, .ref a12, .ref a13, .int v_arePages, .ref a14, .ref a15, .int v_place, .ref a16, .int v_readMany])), (a1, .inl (cI, 189, .inl v_now)), (a6, .inl (cI, 4, .inl v_lanes)), (a7, .inl (cI, 4, .inl v_sizes)), (a8, .inl (cJ, 96, .inr (.inl v_items))), (a10, .inl (cI, 12, .inl v_rows))] → va_S A s.heap H locs → lv_has ls 13 [(0, .ref a0), (1, .int x1), (2, .int x2), (3, .int x3), (4, .int x4)] → W p l e ({ frames := 9, cells := 0, slots := 0, locals := 204 } : Room) s m args below meth c H locs 0 0 Q (F0 m 0 ls []) := by
    intro Q hret H locs ls hP hD hS hl
    refine lv_iload_n hx hb dX8_cuts_0 rfl (lv_at hl 1 rfl) ?_
    obtain ⟨r_1, hq2, hf⟩ := bd1_el hf
    refine mc_S (As := [.int x1]) (rest := []) (wr := [(a0, .inr (8, [.ref a1, .ref a2, .int v_acts, .ref a3, .ref a4, .int v_keptActs, .ref a5, .int v_typed, .ref a6, .ref a7, .ref a8, .ref a9, .ref a10, .int v_isSet, .ref a11, .ref a12, .ref a13, .int v_arePages, .ref a14, .ref a15, .int v_place, .ref a16, .int v_readMany])), (a1, .inl (cI, 189, .inl v_now)), (a6, .inl (cI, 4, .inl v_lanes)), (a7, .inl (cI, 4, .inl v_sizes)), (a8, .inl (cJ, 96, .inr (.inl v_items))), (a10, .inl (cI, 12, .inl v_rows))]) (wn := [(a0, .inr (8, [.ref a1, .ref a2, .int v_acts, .ref a3, .ref a4, .int v_keptActs, .ref a5, .int v_typed, .ref a6, .ref a7, .ref a8, .ref a9, .ref a10, .int v_isSet, .ref a11, .ref a12, .ref a13, .int v_arePages, .ref a14, .ref a15, .int v_place, .ref a16, .int v_readMany])), (a1, .inl (cI, 189, .inl v_now)), (a6, .inl (cI, 4, .inl v_lanes)), (a7, .inl (cI, 4, .inl v_sizes)), (a8, .inl (cJ, 96, .inr (.inl v_items))), (a10, .inl (cI, 12, .inl v_rows))]) ⟨hx, hb, hml, hown, hT⟩ (c_X8_isSheet l dC dI cI cJ cP cS x1 r_1 hq2) (va_cwS 1 hT (gdS q_ml_X8_272 q_st_X8_isSheet q_in_X8 q_co_X8_isSheet) rfl rfl rfl hd_X8_isSheet ⟨Nat.le_of_ble_eq_true rfl, Nat.le_of_ble_eq_true rfl⟩) hK hF hP hD hS hA [] [0, 1, 2, 3, 4, 5] [0, 1, 2, 3, 4, 5] rfl (by decide) rfl (by decide) (by decide) rfl (by decide) rfl hl.1 rfl (Nat.le_of_ble_eq_true rfl) dX8_cuts_1 ⟨Nat.zero_le _, Nat.zero_le _⟩ (fun H locs hP hD hS => ?_)
    refine W.eq (g2 := F0 m 4 ls [.int r_1]) rfl ?_
    refine lv_if_eq (tgt := 32) hx hb dX8_cuts_4 (by decide) (fun c3 => ?_) (fun c3 => ?_)
    · replace hf := it_t c3 hf
      refine lv_iconst (v := (-1)) hx hb dX8_cuts_32 (by decide) ?_
      replace hf := Option.some.inj hf
      simp only [Prod.mk.injEq] at hf
      obtain ⟨hf0, hf1, hf2⟩ := hf
      subst hf0; subst hf1; subst hf2
      exact hret H locs ls _ dX8_cuts_33 hP hD hS
    · replace hf := it_f c3 hf
      refine lv_iload_n hx hb dX8_cuts_7 rfl (lv_at hl 2 rfl) ?_
      refine lv_i2l hx hb dX8_cuts_8 rfl ?_
      refine lv_lconst (v := 0) hx hb dX8_cuts_9 (by decide) ?_
      refine lv_ldc2 hx hb hown (hT _ q_kl_X8_150) dX8_cuts_10 ?_
      obtain ⟨r_4, hq5, hf⟩ := bd1_el hf
      refine mc_S (As := [.long (Int32.toInt64 x2), .long (0 : Int64), .long (3 : Int64)]) (rest := []) (wr := [(a0, .inr (8, [.ref a1, .ref a2, .int v_acts, .ref a3, .ref a4, .int v_keptActs, .ref a5, .int v_typed, .ref a6, .ref a7, .ref a8, .ref a9, .ref a10, .int v_isSet, .ref a11, .ref a12, .ref a13, .int v_arePages, .ref a14, .ref a15, .int v_place, .ref a16, .int v_readMany])), (a1, .inl (cI, 189, .inl v_now)), (a6, .inl (cI, 4, .inl v_lanes)), (a7, .inl (cI, 4, .inl v_sizes)), (a8, .inl (cJ, 96, .inr (.inl v_items))), (a10, .inl (cI, 12, .inl v_rows))]) (wn := [(a0, .inr (8, [.ref a1, .ref a2, .int v_acts, .ref a3, .ref a4, .int v_keptActs, .ref a5, .int v_typed, .ref a6, .ref a7, .ref a8, .ref a9, .ref a10, .int v_isSet, .ref a11, .ref a12, .ref a13, .int v_arePages, .ref a14, .ref a15, .int v_place, .ref a16, .int v_readMany])), (a1, .inl (cI, 189, .inl v_now)), (a6, .inl (cI, 4, .inl v_lanes)), (a7, .inl (cI, 4, .inl v_sizes)), (a8, .inl (cJ, 96, .inr (.inl v_items))), (a10, .inl (cI, 12, .inl v_rows))]) ⟨hx, hb, hml, hown, hT⟩ (c_X8_in l dC dI cI cJ cP cS (Int32.toInt64 x2) (0 : Int64) (3 : Int64) r_4 hq5) (va_cwS 3 hT (gdS q_ml_X8_63 q_st_X8_in q_in_X8 q_co_X8_in) rfl rfl rfl hd_X8_in ⟨Nat.le_of_ble_eq_true rfl, Nat.le_of_ble_eq_true rfl⟩) hK hF hP hD hS hA [] [0, 1, 2, 3, 4, 5] [0, 1, 2, 3, 4, 5] rfl (by decide) rfl (by decide) (by decide) rfl (by decide) rfl hl.1 rfl (Nat.le_of_ble_eq_true rfl) dX8_cuts_13 ⟨Nat.zero_le _, Nat.zero_le _⟩ (fun H locs hP hD hS => ?_)
      refine W.eq (g2 := F0 m 16 ls [.int r_4]) rfl ?_
      refine lv_if_eq (tgt := 32) hx hb dX8_cuts_16 (by decide) (fun c6 => ?_) (fun c6 => ?_)
      · replace hf := it_t c6 hf
        refine lv_iconst (v := (-1)) hx hb dX8_cuts_32 (by decide) ?_
        replace hf := Option.some.inj hf
        simp only [Prod.mk.injEq] at hf
        obtain ⟨hf0, hf1, hf2⟩ := hf
        subst hf0; subst hf1; subst hf2
        exact hret H locs ls _ dX8_cuts_33 hP hD hS
      · replace hf := it_f c6 hf
        refine lv_iload hx hb dX8_cuts_19 (lv_at hl 4 rfl) ?_
        refine lv_i2l hx hb dX8_cuts_21 rfl ?_
        refine lv_lconst (v := 1) hx hb dX8_cuts_22 (by decide) ?_
        refine lv_ldc2 hx hb hown (hT _ q_kl_X8_275) dX8_cuts_23 ?_
        obtain ⟨r_7, hq8, hf⟩ := bd1_el hf
        refine mc_S (As := [.long (Int32.toInt64 x4), .long (1 : Int64), .long (12 : Int64)]) (rest := []) (wr := [(a0, .inr (8, [.ref a1, .ref a2, .int v_acts, .ref a3, .ref a4, .int v_keptActs, .ref a5, .int v_typed, .ref a6, .ref a7, .ref a8, .ref a9, .ref a10, .int v_isSet, .ref a11, .ref a12, .ref a13, .int v_arePages, .ref a14, .ref a15, .int v_place, .ref a16, .int v_readMany])), (a1, .inl (cI, 189, .inl v_now)), (a6, .inl (cI, 4, .inl v_lanes)), (a7, .inl (cI, 4, .inl v_sizes)), (a8, .inl (cJ, 96, .inr (.inl v_items))), (a10, .inl (cI, 12, .inl v_rows))]) (wn := [(a0, .inr (8, [.ref a1, .ref a2, .int v_acts, .ref a3, .ref a4, .int v_keptActs, .ref a5, .int v_typed, .ref a6, .ref a7, .ref a8, .ref a9, .ref a10, .int v_isSet, .ref a11, .ref a12, .ref a13, .int v_arePages, .ref a14, .ref a15, .int v_place, .ref a16, .int v_readMany])), (a1, .inl (cI, 189, .inl v_now)), (a6, .inl (cI, 4, .inl v_lanes)), (a7, .inl (cI, 4, .inl v_sizes)), (a8, .inl (cJ, 96, .inr (.inl v_items))), (a10, .inl (cI, 12, .inl v_rows))]) ⟨hx, hb, hml, hown, hT⟩ (c_X8_in l dC dI cI cJ cP cS (Int32.toInt64 x4) (1 : Int64) (12 : Int64) r_7 hq8) (va_cwS 3 hT (gdS q_ml_X8_63 q_st_X8_in q_in_X8 q_co_X8_in) rfl rfl rfl hd_X8_in ⟨Nat.le_of_ble_eq_true rfl, Nat.le_of_ble_eq_true rfl⟩) hK hF hP hD hS hA [] [0, 1, 2, 3, 4, 5] [0, 1, 2, 3, 4, 5] rfl (by decide) rfl (by decide) (by decide) rfl (by decide) rfl hl.1 rfl (Nat.le_of_ble_eq_true rfl) dX8_cuts_26 ⟨Nat.zero_le _, Nat.zero_le _⟩ (fun H locs hP hD hS => ?_)
        refine W.eq (g2 := F0 m 29 ls [.int r_7]) rfl ?_
        refine lv_if_ne (tgt := 34) hx hb dX8_cuts_29 (by decide) (fun c9 => ?_) (fun c9 => ?_)
        · replace hf := it_f c9 hf
          refine lv_aload_n hx hb dX8_cuts_34 rfl (lv_at hl 0 rfl) ?_
          refine lv_iload_n hx hb dX8_cuts_35 rfl (lv_at hl 1 rfl) ?_
          refine lv_iload_n hx hb dX8_cuts_36 rfl (lv_at hl 2 rfl) ?_
          refine lv_iload_n hx hb dX8_cuts_37 rfl (lv_at hl 3 rfl) ?_
          refine lv_iload hx hb dX8_cuts_38 (lv_at hl 4 rfl) ?_
          obtain ⟨r_10, hq11, hf⟩ := bd1_el hf
          refine mc_V (As := [.int x1, .int x2, .int x3, .int x4]) (rest := []) (wr := [(a1, .inl (cI, 189, .inl v_now)), (a8, .inl (cJ, 96, .inr (.inl v_items))), (a10, .inl (cI, 12, .inl v_rows))]) (wn := [(a0, .inr (8, [.ref a1, .ref a2, .int v_acts, .ref a3, .ref a4, .int v_keptActs, .ref a5, .int v_typed, .ref a6, .ref a7, .ref a8, .ref a9, .ref a10, .int v_isSet, .ref a11, .ref a12, .ref a13, .int v_arePages, .ref a14, .ref a15, .int v_place, .ref a16, .int v_readMany])), (a1, .inl (cI, 189, .inl v_now)), (a6, .inl (cI, 4, .inl v_lanes)), (a7, .inl (cI, 4, .inl v_sizes)), (a8, .inl (cJ, 96, .inr (.inl v_items))), (a10, .inl (cI, 12, .inl v_rows))]) ⟨hx, hb, hml, hown, hT⟩ (c_X8_found l dC dI cI cJ cP cS a0 a1 a2 a3 a4 a5 a6 a7 a8 a9 a10 a11 a12 a13 a14 a15 a16 v_acts v_keptActs v_typed v_isSet v_arePages v_place v_readMany v_lanes v_sizes x1 x2 x3 x4 r_10 hq11) (cwV 4 hT (gdV q_ml_X8_277 q_im_X8_found q_se_X8_found q_in_X8 q_co_X8_found) rfl rfl rfl hd_X8_found ⟨Nat.le_of_ble_eq_true rfl, Nat.le_of_ble_eq_true rfl⟩) hK hF hP hD hS hA 0 rfl rfl rfl [0, 2, 3] [1, 4, 5] [3, 0, 4, 5, 1, 2] rfl (by decide) rfl (by decide) (by decide) rfl (by decide) rfl hl.1 rfl (Nat.le_of_ble_eq_true rfl) dX8_cuts_40 ⟨Nat.zero_le _, Nat.zero_le _⟩ (fun H locs hP hD hS => ?_)
          refine W.eq (g2 := F0 m 43 ls [.int r_10]) rfl ?_
          refine lv_istore (lv' := [(5, .int r_10), (0, .ref a0), (1, .int x1), (2, .int x2), (3, .int x3), (4, .int x4)]) hx hb dX8_cuts_43 hl (by decide) rfl (fun ls hl => ?_)
          refine lv_iload hx hb dX8_cuts_45 (lv_at hl 0 rfl) ?_
          refine lv_if_ge (tgt := 53) hx hb dX8_cuts_47 (by decide) (fun c12 => ?_) (fun c12 => ?_)
          · replace hf := it_t c12 hf
            refine lv_lconst (v := 0) hx hb dX8_cuts_53 (by decide) ?_
            refine lv_lstore (lv' := [(6, .long (0 : Int64)), (5, .int r_10), (0, .ref a0), (1, .int x1), (2, .int x2), (3, .int x3), (4, .int x4)]) hx hb dX8_cuts_54 hl (by decide) rfl (fun ls hl => ?_)
            refine lv_iconst (v := 0) hx hb dX8_cuts_56 (by decide) ?_
            refine lv_istore (lv' := [(8, .int (0 : Int32)), (6, .long (0 : Int64)), (5, .int r_10), (0, .ref a0), (1, .int x1), (2, .int x2), (3, .int x3), (4, .int x4)]) hx hb dX8_cuts_57 hl (by decide) rfl (fun ls hl => ?_)
            have hL59 : ∀ (rr : (Int64 × Int32) ⊕ (Int32 × Int32 × (Nat → Int32))), (∀ (z_22 : Int64) (z_23 : Int32), rr = .inl (z_22, z_23) → ∀ (H : Heap) (locs : List Loc) (ls : Array Slot), va_P (dC, dI) vwCl [(a0, .inr (8, [.ref a1, .ref a2, .int v_acts, .ref a3, .ref a4, .int v_keptActs, .ref a5, .int v_typed, .ref a6, .ref a7, .ref a8, .ref a9, .ref a10, .int v_isSet, .ref a11, .ref a12, .ref a13, .int v_arePages, .ref a14, .ref a15, .int v_place, .ref a16, .int v_readMany])), (a1, .inl (cI, 189, .inl v_now)), (a6, .inl (cI, 4, .inl v_lanes)), (a7, .inl (cI, 4, .inl v_sizes)), (a8, .inl (cJ, 96, .inr (.inl v_items))), (a10, .inl (cI, 12, .inl v_rows))] H → va_D A [(a0, .inr (8, [.ref a1, .ref a2, .int v_acts, .ref a3, .ref a4, .int v_keptActs, .ref a5, .int v_typed, .ref a6, .ref a7, .ref a8, .ref a9, .ref a10, .int v_isSet, .ref a11, .ref a12, .ref a13, .int v_arePages, .ref a14, .ref a15, .int v_place, .ref a16, .int v_readMany])), (a1, .inl (cI, 189, .inl v_now)), (a6, .inl (cI, 4, .inl v_lanes)), (a7, .inl (cI, 4, .inl v_sizes)), (a8, .inl (cJ, 96, .inr (.inl v_items))), (a10, .inl (cI, 12, .inl v_rows))] → va_S A s.heap H locs → lv_has ls 13 [(0, .ref a0), (1, .int x1), (3, .int x3), (4, .int x4), (6, .long z_22)] → W p l e ({ frames := 9, cells := 0, slots := 0, locals := 204 } : Room) s m args below meth c H locs 0 0 Q (F0 m 110 ls [])) → (∀ (u_24 : Int32) (u_25 : Int32) (u_26 : (Nat → Int32)), rr = .inr (u_24, u_25, u_26) → ∀ (H : Heap) (locs : List Loc) (ls : Array Slot) (pc : Nat), decode cX8_cuts pc = .ok (.ireturn, 1) → va_P (dC, dI) vwCl [(a0, .inr (8, [.ref a1, .ref a2, .int v_acts, .ref a3, .ref a4, .int v_keptActs, .ref a5, .int v_typed, .ref a6, .ref a7, .ref a8, .ref a9, .ref a10, .int u_25, .ref a11, .ref a12, .ref a13, .int v_arePages, .ref a14, .ref a15, .int v_place, .ref a16, .int v_readMany])), (a1, .inl (cI, 189, .inl v_now)), (a6, .inl (cI, 4, .inl v_lanes)), (a7, .inl (cI, 4, .inl v_sizes)), (a8, .inl (cJ, 96, .inr (.inl v_items))), (a10, .inl (cI, 12, .inl u_26))] H → va_D A [(a0, .inr (8, [.ref a1, .ref a2, .int v_acts, .ref a3, .ref a4, .int v_keptActs, .ref a5, .int v_typed, .ref a6, .ref a7, .ref a8, .ref a9, .ref a10, .int u_25, .ref a11, .ref a12, .ref a13, .int v_arePages, .ref a14, .ref a15, .int v_place, .ref a16, .int v_readMany])), (a1, .inl (cI, 189, .inl v_now)), (a6, .inl (cI, 4, .inl v_lanes)), (a7, .inl (cI, 4, .inl v_sizes)), (a8, .inl (cJ, 96, .inr (.inl v_items))), (a10, .inl (cI, 12, .inl u_26))] → va_S A s.heap H locs → W p l e ({ frames := 9, cells := 0, slots := 0, locals := 204 } : Room) s m args below meth c H locs 0 0 Q (F0 m pc ls [.int u_24])) → ∀ (n : Nat) (i6_13 : Int64) (i8_14 : Int32), loopN (p_X8_cuts_L59 v_isSet v_items v_rows x1 x3 x4) n (i6_13, i8_14) = some rr → ∀ (H : Heap) (locs : List Loc) (ls : Array Slot), va_P (dC, dI) vwCl [(a0, .inr (8, [.ref a1, .ref a2, .int v_acts, .ref a3, .ref a4, .int v_keptActs, .ref a5, .int v_typed, .ref a6, .ref a7, .ref a8, .ref a9, .ref a10, .int v_isSet, .ref a11, .ref a12, .ref a13, .int v_arePages, .ref a14, .ref a15, .int v_place, .ref a16, .int v_readMany])), (a1, .inl (cI, 189, .inl v_now)), (a6, .inl (cI, 4, .inl v_lanes)), (a7, .inl (cI, 4, .inl v_sizes)), (a8, .inl (cJ, 96, .inr (.inl v_items))), (a10, .inl (cI, 12, .inl v_rows))] H → va_D A [(a0, .inr (8, [.ref a1, .ref a2, .int v_acts, .ref a3, .ref a4, .int v_keptActs, .ref a5, .int v_typed, .ref a6, .ref a7, .ref a8, .ref a9, .ref a10, .int v_isSet, .ref a11, .ref a12, .ref a13, .int v_arePages, .ref a14, .ref a15, .int v_place, .ref a16, .int v_readMany])), (a1, .inl (cI, 189, .inl v_now)), (a6, .inl (cI, 4, .inl v_lanes)), (a7, .inl (cI, 4, .inl v_sizes)), (a8, .inl (cJ, 96, .inr (.inl v_items))), (a10, .inl (cI, 12, .inl v_rows))] → va_S A s.heap H locs → lv_has ls 13 [(0, .ref a0), (1, .int x1), (3, .int x3), (4, .int x4), (6, .long i6_13), (8, .int i8_14)] → W p l e ({ frames := 9, cells := 0, slots := 0, locals := 204 } : Room) s m args below meth c H locs 0 0 Q (F0 m 59 ls []) := by
              intro rr hk59 hkr59 n
              induction n with
              | zero => intro i6_13 i8_14 hf; cases hf
              | succ n ih59 =>
                intro i6_13 i8_14 hf H locs ls hP hD hS hl
                obtain ⟨o59, hf, hi, he⟩ := loopN_el hf
                refine lv_iload hx hb dX8_cuts_59 (lv_at hl 5 rfl) ?_
                refine lv_iload hx hb dX8_cuts_61 (lv_at hl 3 rfl) ?_
                refine lv_icmp_ge (tgt := 110) hx hb dX8_cuts_63 (by decide) (fun c15 => ?_) (fun c15 => ?_)
                · replace hf := it_t c15 hf
                  exact hk59 _ _ (he _ (Option.some.inj hf).symm).symm H locs ls hP hD hS (lv_sub hl [0, 1, 2, 3, 4] rfl)
                · replace hf := it_f c15 hf
                  refine lv_aload_n hx hb dX8_cuts_66 rfl (lv_at hl 0 rfl) ?_
                  refine va_get (D := (dC, dI)) (ci := 8) (v := .ref a8) (C := RX8) (T := TX8) (N := 23) hx hb hT in_X8 hown hK hP 0 rfl rfl 10 (by decide) (hT _ q_fl_X8_35) (fun _ h9 => h9) rfl dX8_cuts_67 ?_
                  refine lv_bipush (v := 24) hx hb dX8_cuts_70 (by decide) ?_
                  refine lv_iload_n hx hb dX8_cuts_72 rfl (lv_at hl 1 rfl) ?_
                  refine lv_imul hx hb dX8_cuts_73 ?_
                  refine lv_iload_n hx hb dX8_cuts_74 rfl (lv_at hl 2 rfl) ?_
                  refine lv_iadd hx hb dX8_cuts_75 ?_
                  refine lv_iload hx hb dX8_cuts_76 (lv_at hl 5 rfl) ?_
                  refine lv_iadd hx hb dX8_cuts_78 ?_
                  obtain ⟨h16, hf⟩ := gd_el hf
                  refine la_ld hx hb hK hP 4 1 rfl rfl (ib_in h16) (j := (tn ((((24 : Int32) * x1) + x3) + i8_14))) rfl dX8_cuts_79 ?_
                  obtain ⟨x9_17, ex9_17, hf⟩ := nm_el hf
                  refine lv_as (congrArg Value.long ex9_17) ?_
                  refine lv_lstore (lv' := [(9, .long x9_17), (0, .ref a0), (1, .int x1), (3, .int x3), (4, .int x4), (6, .long i6_13), (8, .int i8_14)]) hx hb dX8_cuts_80 hl (by decide) rfl (fun ls hl => ?_)
                  refine lv_lload hx hb dX8_cuts_82 (lv_at hl 0 rfl) ?_
                  refine lv_lconst (v := 1) hx hb dX8_cuts_84 (by decide) ?_
                  refine lv_ldc2 hx hb hown (hT _ q_kl_X8_275) dX8_cuts_85 ?_
                  obtain ⟨r_18, hq19, hf⟩ := bd1_el hf
                  refine mc_S (As := [.long x9_17, .long (1 : Int64), .long (12 : Int64)]) (rest := []) (wr := [(a0, .inr (8, [.ref a1, .ref a2, .int v_acts, .ref a3, .ref a4, .int v_keptActs, .ref a5, .int v_typed, .ref a6, .ref a7, .ref a8, .ref a9, .ref a10, .int v_isSet, .ref a11, .ref a12, .ref a13, .int v_arePages, .ref a14, .ref a15, .int v_place, .ref a16, .int v_readMany])), (a1, .inl (cI, 189, .inl v_now)), (a6, .inl (cI, 4, .inl v_lanes)), (a7, .inl (cI, 4, .inl v_sizes)), (a8, .inl (cJ, 96, .inr (.inl v_items))), (a10, .inl (cI, 12, .inl v_rows))]) (wn := [(a0, .inr (8, [.ref a1, .ref a2, .int v_acts, .ref a3, .ref a4, .int v_keptActs, .ref a5, .int v_typed, .ref a6, .ref a7, .ref a8, .ref a9, .ref a10, .int v_isSet, .ref a11, .ref a12, .ref a13, .int v_arePages, .ref a14, .ref a15, .int v_place, .ref a16, .int v_readMany])), (a1, .inl (cI, 189, .inl v_now)), (a6, .inl (cI, 4, .inl v_lanes)), (a7, .inl (cI, 4, .inl v_sizes)), (a8, .inl (cJ, 96, .inr (.inl v_items))), (a10, .inl (cI, 12, .inl v_rows))]) ⟨hx, hb, hml, hown, hT⟩ (c_X8_in l dC dI cI cJ cP cS x9_17 (1 : Int64) (12 : Int64) r_18 hq19) (va_cwS 3 hT (gdS q_ml_X8_63 q_st_X8_in q_in_X8 q_co_X8_in) rfl rfl rfl hd_X8_in ⟨Nat.le_of_ble_eq_true rfl, Nat.le_of_ble_eq_true rfl⟩) hK hF hP hD hS hA [] [0, 1, 2, 3, 4, 5] [0, 1, 2, 3, 4, 5] rfl (by decide) rfl (by decide) (by decide) rfl (by decide) rfl hl.1 rfl (Nat.le_of_ble_eq_true rfl) dX8_cuts_88 ⟨Nat.zero_le _, Nat.zero_le _⟩ (fun H locs hP hD hS => ?_)
                  refine W.eq (g2 := F0 m 91 ls [.int r_18]) rfl ?_
                  refine lv_if_ne (tgt := 97) hx hb dX8_cuts_91 (by decide) (fun c20 => ?_) (fun c20 => ?_)
                  · replace hf := it_f c20 hf
                    refine lv_lload hx hb dX8_cuts_97 (lv_at hl 5 rfl) ?_
                    refine lv_lload hx hb dX8_cuts_99 (lv_at hl 0 rfl) ?_
                    refine lv_ladd hx hb dX8_cuts_101 ?_
                    obtain ⟨x6_21, ex6_21, hf⟩ := nm_el hf
                    refine lv_as (congrArg Value.long ex6_21) ?_
                    refine lv_lstore (lv' := [(6, .long x6_21), (9, .long x9_17), (0, .ref a0), (1, .int x1), (3, .int x3), (4, .int x4), (8, .int i8_14)]) hx hb dX8_cuts_102 hl (by decide) rfl (fun ls hl => ?_)
                    refine lv_iinc (v := (i8_14 + (1 : Int32))) (lv' := [(8, .int (i8_14 + (1 : Int32))), (6, .long x6_21), (9, .long x9_17), (0, .ref a0), (1, .int x1), (3, .int x3), (4, .int x4)]) hx hb dX8_cuts_104 hl (k := 6) rfl rfl (by decide) rfl (fun ls hl => ?_)
                    refine lv_goto (tgt := 59) hx hb dX8_cuts_107 (by decide) ?_
                    exact ih59 x6_21 (i8_14 + (1 : Int32)) (hi _ (Option.some.inj hf).symm) H locs ls hP hD hS (lv_sub hl [3, 4, 5, 6, 1, 0] rfl)
                  · replace hf := it_t c20 hf
                    refine lv_bipush (v := (-2)) hx hb dX8_cuts_94 (by decide) ?_
                    exact hkr59 _ _ _ (he _ (Option.some.inj hf).symm).symm H locs ls _ dX8_cuts_96 hP hD hS
            rcases bdS_el hf with ⟨q, hq, hf⟩ | ⟨q, hq, hf⟩
            · obtain ⟨f6_27, f8_28, eq9, hf⟩ := bd2_el hf
              cases eq9
              refine hL59 (.inl (f6_27, f8_28)) (fun z_22 z_23 h9 H locs ls hP hD hS hl => ?_) (fun _ _ _ h9 => by cases h9) fuel (0 : Int64) (0 : Int32) hq H locs ls hP hD hS (lv_sub hl [3, 4, 6, 7, 1, 0] rfl)
              replace h9 := Sum.inl.inj h9
              simp only [Prod.mk.injEq] at h9
              obtain ⟨h9_0, h9_1⟩ := h9
              subst h9_0; subst h9_1
              refine lv_lload hx hb dX8_cuts_110 (lv_at hl 4 rfl) ?_
              refine lv_aload_n hx hb dX8_cuts_112 rfl (lv_at hl 0 rfl) ?_
              refine va_get (D := (dC, dI)) (ci := 8) (v := .ref a1) (C := RX8) (T := TX8) (N := 23) hx hb hT in_X8 hown hK hP 0 rfl rfl 0 (by decide) (hT _ q_fl_X8_7) (fun _ h9 => h9) rfl dX8_cuts_113 ?_
              refine lv_iconst (v := 0) hx hb dX8_cuts_116 (by decide) ?_
              refine ia_ld hx hb hK hP 1 0 rfl rfl (ib_in (by decide)) (j := 0) (by decide) dX8_cuts_117 ?_
              refine lv_i2l hx hb dX8_cuts_118 rfl ?_
              refine W.lcmp hx hb dX8_cuts_119 ?_
              refine lv_if_eq (tgt := 126) hx hb dX8_cuts_120 (by decide) (fun c29 => ?_) (fun c29 => ?_)
              · replace hf := it_t c29 hf
                refine lv_aload_n hx hb dX8_cuts_126 rfl (lv_at hl 0 rfl) ?_
                obtain ⟨v_isSet_30, v_rows_31, hq32, hf⟩ := bd2_el hf
                refine mc_V (As := []) (rest := []) (wr := [(a6, .inl (cI, 4, .inl v_lanes)), (a7, .inl (cI, 4, .inl v_sizes)), (a8, .inl (cJ, 96, .inr (.inl v_items)))]) (wn := [(a0, .inr (8, [.ref a1, .ref a2, .int v_acts, .ref a3, .ref a4, .int v_keptActs, .ref a5, .int v_typed, .ref a6, .ref a7, .ref a8, .ref a9, .ref a10, .int v_isSet_30, .ref a11, .ref a12, .ref a13, .int v_arePages, .ref a14, .ref a15, .int v_place, .ref a16, .int v_readMany])), (a1, .inl (cI, 189, .inl v_now)), (a6, .inl (cI, 4, .inl v_lanes)), (a7, .inl (cI, 4, .inl v_sizes)), (a8, .inl (cJ, 96, .inr (.inl v_items))), (a10, .inl (cI, 12, .inl v_rows_31))]) ⟨hx, hb, hml, hown, hT⟩ (c_X8_sets l dC dI cI cJ cP cS a0 a1 a2 a3 a4 a5 a6 a7 a8 a9 a10 a11 a12 a13 a14 a15 a16 v_acts v_keptActs v_typed v_isSet v_arePages v_place v_readMany v_now v_rows v_isSet_30 v_rows_31 hq32) (cwV 0 hT (gdV q_ml_X8_127 q_im_X8_sets q_se_X8_sets q_in_X8 q_co_X8_sets) rfl rfl rfl hd_X8_sets ⟨Nat.le_of_ble_eq_true rfl, Nat.le_of_ble_eq_true rfl⟩) hK hF hP hD hS hA 0 rfl rfl rfl [0, 1, 5] [2, 3, 4] [3, 4, 0, 1, 2, 5] rfl (by decide) rfl (by decide) (by decide) rfl (by decide) rfl hl.1 rfl (Nat.le_of_ble_eq_true rfl) dX8_cuts_127 ⟨Nat.zero_le _, Nat.zero_le _⟩ (fun H locs hP hD hS => ?_)
                refine W.eq (g2 := F0 m 130 ls []) rfl ?_
                refine lv_iconst (v := 0) hx hb dX8_cuts_130 (by decide) ?_
                refine lv_istore (lv' := [(8, .int (0 : Int32)), (0, .ref a0), (1, .int x1), (3, .int x3), (4, .int x4), (6, .long f6_27)]) hx hb dX8_cuts_131 hl (by decide) rfl (fun ls hl => ?_)
                refine lv_iconst (v := 0) hx hb dX8_cuts_133 (by decide) ?_
                refine lv_istore (lv' := [(9, .int (0 : Int32)), (8, .int (0 : Int32)), (0, .ref a0), (1, .int x1), (3, .int x3), (4, .int x4), (6, .long f6_27)]) hx hb dX8_cuts_134 hl (by decide) rfl (fun ls hl => ?_)
                refine lv_iconst (v := 0) hx hb dX8_cuts_136 (by decide) ?_
                refine lv_istore (lv' := [(10, .int (0 : Int32)), (9, .int (0 : Int32)), (8, .int (0 : Int32)), (0, .ref a0), (1, .int x1), (3, .int x3), (4, .int x4), (6, .long f6_27)]) hx hb dX8_cuts_137 hl (by decide) rfl (fun ls hl => ?_)
                have hL139 : ∀ (rr : (Int32 × Int32 × Int32) ⊕ (Int32 × Int32 × (Nat → Int32))), (∀ (z_45 : Int32) (z_46 : Int32) (z_47 : Int32), rr = .inl (z_45, z_46, z_47) → ∀ (H : Heap) (locs : List Loc) (ls : Array Slot), va_P (dC, dI) vwCl [(a0, .inr (8, [.ref a1, .ref a2, .int v_acts, .ref a3, .ref a4, .int v_keptActs, .ref a5, .int v_typed, .ref a6, .ref a7, .ref a8, .ref a9, .ref a10, .int v_isSet_30, .ref a11, .ref a12, .ref a13, .int v_arePages, .ref a14, .ref a15, .int v_place, .ref a16, .int v_readMany])), (a1, .inl (cI, 189, .inl v_now)), (a6, .inl (cI, 4, .inl v_lanes)), (a7, .inl (cI, 4, .inl v_sizes)), (a8, .inl (cJ, 96, .inr (.inl v_items))), (a10, .inl (cI, 12, .inl v_rows_31))] H → va_D A [(a0, .inr (8, [.ref a1, .ref a2, .int v_acts, .ref a3, .ref a4, .int v_keptActs, .ref a5, .int v_typed, .ref a6, .ref a7, .ref a8, .ref a9, .ref a10, .int v_isSet_30, .ref a11, .ref a12, .ref a13, .int v_arePages, .ref a14, .ref a15, .int v_place, .ref a16, .int v_readMany])), (a1, .inl (cI, 189, .inl v_now)), (a6, .inl (cI, 4, .inl v_lanes)), (a7, .inl (cI, 4, .inl v_sizes)), (a8, .inl (cJ, 96, .inr (.inl v_items))), (a10, .inl (cI, 12, .inl v_rows_31))] → va_S A s.heap H locs → lv_has ls 13 [(9, .int z_46)] → W p l e ({ frames := 9, cells := 0, slots := 0, locals := 204 } : Room) s m args below meth c H locs 0 0 Q (F0 m 213 ls [])) → (∀ (u_48 : Int32) (u_49 : Int32) (u_50 : (Nat → Int32)), rr = .inr (u_48, u_49, u_50) → ∀ (H : Heap) (locs : List Loc) (ls : Array Slot) (pc : Nat), decode cX8_cuts pc = .ok (.ireturn, 1) → va_P (dC, dI) vwCl [(a0, .inr (8, [.ref a1, .ref a2, .int v_acts, .ref a3, .ref a4, .int v_keptActs, .ref a5, .int v_typed, .ref a6, .ref a7, .ref a8, .ref a9, .ref a10, .int u_49, .ref a11, .ref a12, .ref a13, .int v_arePages, .ref a14, .ref a15, .int v_place, .ref a16, .int v_readMany])), (a1, .inl (cI, 189, .inl v_now)), (a6, .inl (cI, 4, .inl v_lanes)), (a7, .inl (cI, 4, .inl v_sizes)), (a8, .inl (cJ, 96, .inr (.inl v_items))), (a10, .inl (cI, 12, .inl u_50))] H → va_D A [(a0, .inr (8, [.ref a1, .ref a2, .int v_acts, .ref a3, .ref a4, .int v_keptActs, .ref a5, .int v_typed, .ref a6, .ref a7, .ref a8, .ref a9, .ref a10, .int u_49, .ref a11, .ref a12, .ref a13, .int v_arePages, .ref a14, .ref a15, .int v_place, .ref a16, .int v_readMany])), (a1, .inl (cI, 189, .inl v_now)), (a6, .inl (cI, 4, .inl v_lanes)), (a7, .inl (cI, 4, .inl v_sizes)), (a8, .inl (cJ, 96, .inr (.inl v_items))), (a10, .inl (cI, 12, .inl u_50))] → va_S A s.heap H locs → W p l e ({ frames := 9, cells := 0, slots := 0, locals := 204 } : Room) s m args below meth c H locs 0 0 Q (F0 m pc ls [.int u_48])) → ∀ (n : Nat) (i8_33 : Int32) (i9_34 : Int32) (i10_35 : Int32), loopN (p_X8_cuts_L139 v_now v_items x1 x3 x4 v_isSet_30 v_rows_31) n (i8_33, i9_34, i10_35) = some rr → ∀ (H : Heap) (locs : List Loc) (ls : Array Slot), va_P (dC, dI) vwCl [(a0, .inr (8, [.ref a1, .ref a2, .int v_acts, .ref a3, .ref a4, .int v_keptActs, .ref a5, .int v_typed, .ref a6, .ref a7, .ref a8, .ref a9, .ref a10, .int v_isSet_30, .ref a11, .ref a12, .ref a13, .int v_arePages, .ref a14, .ref a15, .int v_place, .ref a16, .int v_readMany])), (a1, .inl (cI, 189, .inl v_now)), (a6, .inl (cI, 4, .inl v_lanes)), (a7, .inl (cI, 4, .inl v_sizes)), (a8, .inl (cJ, 96, .inr (.inl v_items))), (a10, .inl (cI, 12, .inl v_rows_31))] H → va_D A [(a0, .inr (8, [.ref a1, .ref a2, .int v_acts, .ref a3, .ref a4, .int v_keptActs, .ref a5, .int v_typed, .ref a6, .ref a7, .ref a8, .ref a9, .ref a10, .int v_isSet_30, .ref a11, .ref a12, .ref a13, .int v_arePages, .ref a14, .ref a15, .int v_place, .ref a16, .int v_readMany])), (a1, .inl (cI, 189, .inl v_now)), (a6, .inl (cI, 4, .inl v_lanes)), (a7, .inl (cI, 4, .inl v_sizes)), (a8, .inl (cJ, 96, .inr (.inl v_items))), (a10, .inl (cI, 12, .inl v_rows_31))] → va_S A s.heap H locs → lv_has ls 13 [(0, .ref a0), (1, .int x1), (3, .int x3), (4, .int x4), (8, .int i8_33), (9, .int i9_34), (10, .int i10_35)] → W p l e ({ frames := 9, cells := 0, slots := 0, locals := 204 } : Room) s m args below meth c H locs 0 0 Q (F0 m 139 ls []) := by
                  intro rr hk139 hkr139 n
                  induction n with
                  | zero => intro i8_33 i9_34 i10_35 hf; cases hf
                  | succ n ih139 =>
                    intro i8_33 i9_34 i10_35 hf H locs ls hP hD hS hl
                    obtain ⟨o139, hf, hi, he⟩ := loopN_el hf
                    refine lv_iload hx hb dX8_cuts_139 (lv_at hl 6 rfl) ?_
                    refine lv_iload hx hb dX8_cuts_141 (lv_at hl 3 rfl) ?_
                    refine lv_icmp_ge (tgt := 213) hx hb dX8_cuts_143 (by decide) (fun c36 => ?_) (fun c36 => ?_)
                    · replace hf := it_t c36 hf
                      exact hk139 _ _ _ (he _ (Option.some.inj hf).symm).symm H locs ls hP hD hS (lv_sub hl [5] rfl)
                    · replace hf := it_f c36 hf
                      refine lv_iload hx hb dX8_cuts_146 (lv_at hl 4 rfl) ?_
                      refine lv_aload_n hx hb dX8_cuts_148 rfl (lv_at hl 0 rfl) ?_
                      refine va_get (D := (dC, dI)) (ci := 8) (v := .ref a8) (C := RX8) (T := TX8) (N := 23) hx hb hT in_X8 hown hK hP 0 rfl rfl 10 (by decide) (hT _ q_fl_X8_35) (fun _ h9 => h9) rfl dX8_cuts_149 ?_
                      refine lv_bipush (v := 24) hx hb dX8_cuts_152 (by decide) ?_
                      refine lv_iload_n hx hb dX8_cuts_154 rfl (lv_at hl 1 rfl) ?_
                      refine lv_imul hx hb dX8_cuts_155 ?_
                      refine lv_iload_n hx hb dX8_cuts_156 rfl (lv_at hl 2 rfl) ?_
                      refine lv_iadd hx hb dX8_cuts_157 ?_
                      refine lv_iload hx hb dX8_cuts_158 (lv_at hl 6 rfl) ?_
                      refine lv_iadd hx hb dX8_cuts_160 ?_
                      obtain ⟨h37, hf⟩ := gd_el hf
                      refine la_ld hx hb hK hP 4 1 rfl rfl (ib_in h37) (j := (tn ((((24 : Int32) * x1) + x3) + i10_35))) rfl dX8_cuts_161 ?_
                      refine lv_l2i hx hb dX8_cuts_162 rfl ?_
                      refine lv_iadd hx hb dX8_cuts_163 ?_
                      obtain ⟨x11_38, ex11_38, hf⟩ := nm_el hf
                      refine lv_as (congrArg Value.int ex11_38) ?_
                      refine lv_istore (lv' := [(11, .int x11_38), (0, .ref a0), (1, .int x1), (3, .int x3), (4, .int x4), (8, .int i8_33), (9, .int i9_34), (10, .int i10_35)]) hx hb dX8_cuts_164 hl (by decide) rfl (fun ls hl => ?_)
                      refine lv_aload_n hx hb dX8_cuts_166 rfl (lv_at hl 1 rfl) ?_
                      refine va_get (D := (dC, dI)) (ci := 8) (v := .int v_isSet_30) (C := RX8) (T := TX8) (N := 23) hx hb hT in_X8 hown hK hP 0 rfl rfl 13 (by decide) (hT _ q_fl_X8_111) (fun _ h9 => h9) rfl dX8_cuts_167 ?_
                      have hB186_39 : ∀ (w0_39 : Int32), p_X8_cuts_B186_39 v_isSet_30 v_rows_31 i9_34 i10_35 x11_38 w0_39 = some o139 → ∀ (H : Heap) (locs : List Loc) (ls : Array Slot), va_P (dC, dI) vwCl [(a0, .inr (8, [.ref a1, .ref a2, .int v_acts, .ref a3, .ref a4, .int v_keptActs, .ref a5, .int v_typed, .ref a6, .ref a7, .ref a8, .ref a9, .ref a10, .int v_isSet_30, .ref a11, .ref a12, .ref a13, .int v_arePages, .ref a14, .ref a15, .int v_place, .ref a16, .int v_readMany])), (a1, .inl (cI, 189, .inl v_now)), (a6, .inl (cI, 4, .inl v_lanes)), (a7, .inl (cI, 4, .inl v_sizes)), (a8, .inl (cJ, 96, .inr (.inl v_items))), (a10, .inl (cI, 12, .inl v_rows_31))] H → va_D A [(a0, .inr (8, [.ref a1, .ref a2, .int v_acts, .ref a3, .ref a4, .int v_keptActs, .ref a5, .int v_typed, .ref a6, .ref a7, .ref a8, .ref a9, .ref a10, .int v_isSet_30, .ref a11, .ref a12, .ref a13, .int v_arePages, .ref a14, .ref a15, .int v_place, .ref a16, .int v_readMany])), (a1, .inl (cI, 189, .inl v_now)), (a6, .inl (cI, 4, .inl v_lanes)), (a7, .inl (cI, 4, .inl v_sizes)), (a8, .inl (cJ, 96, .inr (.inl v_items))), (a10, .inl (cI, 12, .inl v_rows_31))] → va_S A s.heap H locs → lv_has ls 13 [(0, .ref a0), (1, .int x1), (3, .int x3), (4, .int x4), (9, .int i9_34), (10, .int i10_35), (11, .int x11_38)] → W p l e ({ frames := 9, cells := 0, slots := 0, locals := 204 } : Room) s m args below meth c H locs 0 0 Q (F0 m 186 ls [.int w0_39]) := by
                        intro w0_39 hf H locs ls hP hD hS hl
                        refine lv_istore (lv' := [(12, .int w0_39), (0, .ref a0), (1, .int x1), (3, .int x3), (4, .int x4), (9, .int i9_34), (10, .int i10_35), (11, .int x11_38)]) hx hb dX8_cuts_186 hl (by decide) rfl (fun ls hl => ?_)
                        refine lv_iload hx hb dX8_cuts_188 (lv_at hl 0 rfl) ?_
                        refine lv_if_ge (tgt := 196) hx hb dX8_cuts_190 (by decide) (fun c40 => ?_) (fun c40 => ?_)
                        · replace hf := it_t c40 hf
                          refine lv_iload hx hb dX8_cuts_196 (lv_at hl 5 rfl) ?_
                          refine lv_iload hx hb dX8_cuts_198 (lv_at hl 0 rfl) ?_
                          refine lv_iadd hx hb dX8_cuts_200 ?_
                          obtain ⟨x9_41, ex9_41, hf⟩ := nm_el hf
                          refine lv_as (congrArg Value.int ex9_41) ?_
                          refine lv_istore (lv' := [(9, .int x9_41), (12, .int w0_39), (0, .ref a0), (1, .int x1), (3, .int x3), (4, .int x4), (10, .int i10_35), (11, .int x11_38)]) hx hb dX8_cuts_201 hl (by decide) rfl (fun ls hl => ?_)
                          refine lv_iload hx hb dX8_cuts_203 (lv_at hl 7 rfl) ?_
                          refine lv_istore (lv' := [(8, .int x11_38), (9, .int x9_41), (12, .int w0_39), (0, .ref a0), (1, .int x1), (3, .int x3), (4, .int x4), (10, .int i10_35), (11, .int x11_38)]) hx hb dX8_cuts_205 hl (by decide) rfl (fun ls hl => ?_)
                          refine lv_iinc (v := (i10_35 + (1 : Int32))) (lv' := [(10, .int (i10_35 + (1 : Int32))), (8, .int x11_38), (9, .int x9_41), (12, .int w0_39), (0, .ref a0), (1, .int x1), (3, .int x3), (4, .int x4), (11, .int x11_38)]) hx hb dX8_cuts_207 hl (k := 7) rfl rfl (by decide) rfl (fun ls hl => ?_)
                          refine lv_goto (tgt := 139) hx hb dX8_cuts_210 (by decide) ?_
                          exact ih139 x11_38 x9_41 (i10_35 + (1 : Int32)) (hi _ (Option.some.inj hf).symm) H locs ls hP hD hS (lv_sub hl [4, 5, 6, 7, 1, 2, 0] rfl)
                        · replace hf := it_f c40 hf
                          refine lv_bipush (v := (-4)) hx hb dX8_cuts_193 (by decide) ?_
                          exact hkr139 _ _ _ (he _ (Option.some.inj hf).symm).symm H locs ls _ dX8_cuts_195 hP hD hS
                      refine lv_if_eq (tgt := 184) hx hb dX8_cuts_170 (by decide) (fun c42 => ?_) (fun c42 => ?_)
                      · replace hf := it_t c42 hf
                        refine lv_bipush (v := (-4)) hx hb dX8_cuts_184 (by decide) ?_
                        exact hB186_39 (-4 : Int32) hf H locs ls hP hD hS (lv_sub hl [1, 2, 3, 4, 6, 7, 0] rfl)
                      · replace hf := it_f c42 hf
                        refine lv_aload_n hx hb dX8_cuts_173 rfl (lv_at hl 1 rfl) ?_
                        refine lv_iload hx hb dX8_cuts_174 (lv_at hl 5 rfl) ?_
                        refine lv_iload hx hb dX8_cuts_176 (lv_at hl 0 rfl) ?_
                        obtain ⟨r_43, hq44, hf⟩ := bd1_el hf
                        refine mc_V (As := [.int i8_33, .int x11_38]) (rest := []) (wr := [(a6, .inl (cI, 4, .inl v_lanes)), (a7, .inl (cI, 4, .inl v_sizes)), (a8, .inl (cJ, 96, .inr (.inl v_items)))]) (wn := [(a0, .inr (8, [.ref a1, .ref a2, .int v_acts, .ref a3, .ref a4, .int v_keptActs, .ref a5, .int v_typed, .ref a6, .ref a7, .ref a8, .ref a9, .ref a10, .int v_isSet_30, .ref a11, .ref a12, .ref a13, .int v_arePages, .ref a14, .ref a15, .int v_place, .ref a16, .int v_readMany])), (a1, .inl (cI, 189, .inl v_now)), (a6, .inl (cI, 4, .inl v_lanes)), (a7, .inl (cI, 4, .inl v_sizes)), (a8, .inl (cJ, 96, .inr (.inl v_items))), (a10, .inl (cI, 12, .inl v_rows_31))]) ⟨hx, hb, hml, hown, hT⟩ (c_X8_ends l dC dI cI cJ cP cS a0 a1 a2 a3 a4 a5 a6 a7 a8 a9 a10 a11 a12 a13 a14 a15 a16 v_acts v_keptActs v_typed v_isSet_30 v_arePages v_place v_readMany v_now v_rows_31 i8_33 x11_38 r_43 hq44) (cwV 2 hT (gdV q_ml_X8_130 q_im_X8_ends q_se_X8_ends q_in_X8 q_co_X8_ends) rfl rfl rfl hd_X8_ends ⟨Nat.le_of_ble_eq_true rfl, Nat.le_of_ble_eq_true rfl⟩) hK hF hP hD hS hA 0 rfl rfl rfl [0, 1, 5] [2, 3, 4] [3, 4, 0, 1, 2, 5] rfl (by decide) rfl (by decide) (by decide) rfl (by decide) rfl hl.1 rfl (Nat.le_of_ble_eq_true rfl) dX8_cuts_178 ⟨Nat.zero_le _, Nat.zero_le _⟩ (fun H locs hP hD hS => ?_)
                        refine W.eq (g2 := F0 m 181 ls [.int r_43]) rfl ?_
                        refine lv_goto (tgt := 186) hx hb dX8_cuts_181 (by decide) ?_
                        exact hB186_39 r_43 hf H locs ls hP hD hS (lv_sub hl [1, 2, 3, 4, 6, 7, 0] rfl)
                rcases bdS_el hf with ⟨q, hq, hf⟩ | ⟨q, hq, hf⟩
                · obtain ⟨f8_51, f9_52, f10_53, eq9, hf⟩ := bd3_el hf
                  cases eq9
                  refine hL139 (.inl (f8_51, f9_52, f10_53)) (fun z_45 z_46 z_47 h9 H locs ls hP hD hS hl => ?_) (fun _ _ _ h9 => by cases h9) fuel (0 : Int32) (0 : Int32) (0 : Int32) hq H locs ls hP hD hS (lv_sub hl [3, 4, 5, 6, 2, 1, 0] rfl)
                  replace h9 := Sum.inl.inj h9
                  simp only [Prod.mk.injEq] at h9
                  obtain ⟨h9_0, h9_1, h9_2⟩ := h9
                  subst h9_0; subst h9_1; subst h9_2
                  refine lv_iload hx hb dX8_cuts_213 (lv_at hl 0 rfl) ?_
                  replace hf := Option.some.inj hf
                  simp only [Prod.mk.injEq] at hf
                  obtain ⟨hf0, hf1, hf2⟩ := hf
                  subst hf0; subst hf1; subst hf2
                  exact hret H locs ls _ dX8_cuts_215 hP hD hS
                · refine hL139 (.inr q) (fun _ _ _ h9 => by cases h9) ?_ fuel (0 : Int32) (0 : Int32) (0 : Int32) hq H locs ls hP hD hS (lv_sub hl [3, 4, 5, 6, 2, 1, 0] rfl)
                  intro z0 z1 z2 h9
                  replace h9 := Sum.inr.inj h9
                  subst h9
                  cases hf
                  exact hret
              · replace hf := it_f c29 hf
                refine lv_bipush (v := (-2)) hx hb dX8_cuts_123 (by decide) ?_
                replace hf := Option.some.inj hf
                simp only [Prod.mk.injEq] at hf
                obtain ⟨hf0, hf1, hf2⟩ := hf
                subst hf0; subst hf1; subst hf2
                exact hret H locs ls _ dX8_cuts_125 hP hD hS
            · refine hL59 (.inr q) (fun _ _ h9 => by cases h9) ?_ fuel (0 : Int64) (0 : Int32) hq H locs ls hP hD hS (lv_sub hl [3, 4, 6, 7, 1, 0] rfl)
              intro z0 z1 z2 h9
              replace h9 := Sum.inr.inj h9
              subst h9
              cases hf
              exact hret
          · replace hf := it_f c12 hf
            refine lv_iload hx hb dX8_cuts_50 (lv_at hl 0 rfl) ?_
            replace hf := Option.some.inj hf
            simp only [Prod.mk.injEq] at hf
            obtain ⟨hf0, hf1, hf2⟩ := hf
            subst hf0; subst hf1; subst hf2
            exact hret H locs ls _ dX8_cuts_52 hP hD hS
        · replace hf := it_t c9 hf
          refine lv_iconst (v := (-1)) hx hb dX8_cuts_32 (by decide) ?_
          replace hf := Option.some.inj hf
          simp only [Prod.mk.injEq] at hf
          obtain ⟨hf0, hf1, hf2⟩ := hf
          subst hf0; subst hf1; subst hf2
          exact hret H locs ls _ dX8_cuts_33 hP hD hS
  refine key _ ?_ _ _ _ hP hD hS hl
  intro H locs ls pc d hP hD hS
  exact W.iret (v := rv) hx hb hr (fun t ht hW => ⟨⟨rfl, by rw [ht]; exact hP, hD⟩, hS.F ht⟩) hS.2.2 d
def p_X8_film_L47 (v_now : (Nat → Int32)) (x1 : Int32) (x2 : Int32) (x3 : Int32) (s : Int32 × (Nat → Int64)) : Option ((Int32 × (Nat → Int64)) ⊕ (Int32 × (Nat → Int64))) := match s with
  | (i5_10, v_items_11) => (if (v_now 0) ≤ i5_10 then (some (.inr (i5_10, v_items_11))) else (bd1 (p_X8_rowsOf v_now i5_10) fun r_13 => (bd1 (p_X8_cut x2 (Int32.toInt64 r_13)) fun r_15 => (gd (ib ((((24 : Int32) * x1) + x3) + i5_10) 96) (some (.inl ((i5_10 + (1 : Int32)), (vp_updL v_items_11 (tn ((((24 : Int32) * x1) + x3) + i5_10)) r_15))))))))
def p_X8_film (v_now : (Nat → Int32)) (v_lanes : (Nat → Int32)) (v_sizes : (Nat → Int32)) (v_items : (Nat → Int64)) (x1 : Int32) (x2 : Int32) (x3 : Int32) : Option (Int32 × (Nat → Int64)) :=
  (bd1 (p_X8_isSheet x1) fun r_1 => (if r_1 = (0 : Int32) then (some ((-1 : Int32), v_items)) else (bd1 (p_X8_in (Int32.toInt64 x2) (0 : Int64) (3 : Int64)) fun r_4 => (if r_4 = (0 : Int32) then (some ((-1 : Int32), v_items)) else (bd1 (p_X8_found v_lanes v_sizes x1 x2 x3 (v_now 0)) fun r_7 => (if (0 : Int32) ≤ r_7 then (bd2 (loopN (p_X8_film_L47 v_now x1 x2 x3) fuel ((0 : Int32), v_items)) fun f5_20 v_items_21 => (some ((v_now 0), v_items_21))) else (some (r_7, v_items))))))))
set_option maxHeartbeats 4000000 in
set_option maxRecDepth 100000 in
theorem c_X8_film (l : Launch) (dC : Nat → ClassId) (dI : Nat → Nat → Nat) (cI cJ cP cS : ClassId) (a0 : Nat) (a1 : Nat) (a2 : Nat) (a3 : Nat) (a4 : Nat) (a5 : Nat) (a6 : Nat) (a7 : Nat) (a8 : Nat) (a9 : Nat) (a10 : Nat) (a11 : Nat) (a12 : Nat) (a13 : Nat) (a14 : Nat) (a15 : Nat) (a16 : Nat) (v_acts : Int32) (v_keptActs : Int32) (v_typed : Int32) (v_isSet : Int32) (v_arePages : Int32) (v_place : Int32) (v_readMany : Int32) (v_now : (Nat → Int32)) (v_lanes : (Nat → Int32)) (v_sizes : (Nat → Int32)) (v_items : (Nat → Int64))  (x1 : Int32) (x2 : Int32) (x3 : Int32) (rv : Int32) (v_items_o : (Nat → Int64)) (hf : p_X8_film v_now v_lanes v_sizes v_items x1 x2 x3 = some (rv, v_items_o)) : MC l (dC, dI) (tyl cI cJ cP cS) yX8_film (Cond.code yX8_film cX8_film 6 (some .int) :: TBG) ({ frames := 8, cells := 0, slots := 0, locals := 183 } : Room) [.ref a0, .int x1, .int x2, .int x3] [(a0, .inr (8, [.ref a1, .ref a2, .int v_acts, .ref a3, .ref a4, .int v_keptActs, .ref a5, .int v_typed, .ref a6, .ref a7, .ref a8, .ref a9, .ref a10, .int v_isSet, .ref a11, .ref a12, .ref a13, .int v_arePages, .ref a14, .ref a15, .int v_place, .ref a16, .int v_readMany])), (a1, .inl (cI, 189, .inl v_now)), (a6, .inl (cI, 4, .inl v_lanes)), (a7, .inl (cI, 4, .inl v_sizes)), (a8, .inl (cJ, 96, .inr (.inl v_items)))] [(a0, .inr (8, [.ref a1, .ref a2, .int v_acts, .ref a3, .ref a4, .int v_keptActs, .ref a5, .int v_typed, .ref a6, .ref a7, .ref a8, .ref a9, .ref a10, .int v_isSet, .ref a11, .ref a12, .ref a13, .int v_arePages, .ref a14, .ref a15, .int v_place, .ref a16, .int v_readMany])), (a1, .inl (cI, 189, .inl v_now)), (a6, .inl (cI, 4, .inl v_lanes)), (a7, .inl (cI, 4, .inl v_sizes)), (a8, .inl (cJ, 96, .inr (.inl v_items_o)))] (some (.int rv)) := by
  intro sz
  unfold MPost
  refine Met.ofW (cc := cX8_film) (maxL := 6) (ret := (some .int)) (by decide) rfl ?_
  intro p e s m args below meth c s₁ B hml hv
  obtain ⟨rfl, hsz, hP, hK, hD0, hF⟩ := hv
  have hx := B.exec
  have hb := B.bytes
  have hr := B.returns
  have hT : ∀ w ∈ TBG, w.before _ s = true := fun w h => atoms_spec B.pre w (List.mem_cons_of_mem _ h)
  have hown : s.vm.findClass RX8 = some m.cls := findClass_of_methodNamed B.named
  have hlocks := B.notSynchronized
  subst hsz
  have hD := hD0.self (sz := s.heap.size)
  generalize hAe : va_A [(a0, .inr (8, [.ref a1, .ref a2, .int v_acts, .ref a3, .ref a4, .int v_keptActs, .ref a5, .int v_typed, .ref a6, .ref a7, .ref a8, .ref a9, .ref a10, .int v_isSet, .ref a11, .ref a12, .ref a13, .int v_arePages, .ref a14, .ref a15, .int v_place, .ref a16, .int v_readMany])), (a1, .inl (cI, 189, .inl v_now)), (a6, .inl (cI, 4, .inl v_lanes)), (a7, .inl (cI, 4, .inl v_sizes)), (a8, .inl (cJ, 96, .inr (.inl v_items)))] s.heap.size = A at hD hF ⊢
  have hA : ∀ q : Nat, s.heap.size ≤ q → A q := fun q h => by rw [← hAe]; exact Or.inr h
  have hS : va_S A s.heap s.heap [] := va_S.rf
  have hl := lv_entry ([.ref a0, .int x1, .int x2, .int x3]) (n := 6) (Nat.le_of_ble_eq_true rfl)
  rw [lg_entry_eq]
  generalize (lg_sl ([.ref a0, .int x1, .int x2, .int x3]) ++ List.replicate (6 - (lg_sl ([.ref a0, .int x1, .int x2, .int x3])).length) Slot.unset).toArray = ls at hl ⊢
  have hl : lv_has ls 6 [(0, .ref a0), (1, .int x1), (2, .int x2), (3, .int x3)] := hl
  generalize ([.ref a0, .int x1, .int x2, .int x3] : List Value).toArray = args at hT ⊢
  have key : ∀ (Q : State → Prop), (∀ (H : Heap) (locs : List Loc) (ls : Array Slot) (pc : Nat), decode cX8_film pc = .ok (.ireturn, 1) → va_P (dC, dI) vwCl [(a0, .inr (8, [.ref a1, .ref a2, .int v_acts, .ref a3, .ref a4, .int v_keptActs, .ref a5, .int v_typed, .ref a6, .ref a7, .ref a8, .ref a9, .ref a10, .int v_isSet, .ref a11, .ref a12, .ref a13, .int v_arePages, .ref a14, .ref a15, .int v_place, .ref a16, .int v_readMany])), (a1, .inl (cI, 189, .inl v_now)), (a6, .inl (cI, 4, .inl v_lanes)), (a7, .inl (cI, 4, .inl v_sizes)), (a8, .inl (cJ, 96, .inr (.inl v_items_o)))] H → va_D A [(a0, .inr (8, [.ref a1, .ref a2, .int v_acts, .ref a3, .ref a4, .int v_keptActs, .ref a5, .int v_typed, .ref a6, .ref a7, .ref a8, .ref a9, .ref a10, .int v_isSet, .ref a11, .ref a12, .ref a13, .int v_arePages, .ref a14, .ref a15, .int v_place, .ref a16, .int v_readMany])), (a1, .inl (cI, 189, .inl v_now)), (a6, .inl (cI, 4, .inl v_lanes)), (a7, .inl (cI, 4, .inl v_sizes)), (a8, .inl (cJ, 96, .inr (.inl v_items_o)))] → va_S A s.heap H locs → W p l e ({ frames := 8, cells := 0, slots := 0, locals := 183 } : Room) s m args below meth c H locs 0 0 Q (F0 m pc ls [.int rv])) → ∀ (H : Heap) (locs : List Loc) (ls : Array Slot), va_P (dC, dI) vwCl [(a0, .inr (8, [.ref a1, .ref a2, .int v_acts, .ref a3, .ref a4, .int v_keptActs, .ref a5, .int v_typed, .ref a6, .ref a7, .ref a8, .ref a9, .ref a10, .int v_isSet, .ref a11, .ref a12, .ref a13, .int v_arePages, .ref a14, .ref a15, .int v_place, .ref a16, .int v_readMany])), (a1, .inl (cI, 189, .inl v_now)), (a6, .inl (cI, 4, .inl v_lanes)), (a7, .inl (cI, 4, .inl v_sizes)), (a8, .inl (cJ, 96, .inr (.inl v_items)))] H → va_D A [(a0, .inr (8, [.ref a1, .ref a2, .int v_acts, .ref a3, .ref a4, .int v_keptActs, .ref a5, .int v_typed, .ref a6, .ref a7, .ref a8, .ref a9, .ref a10, .int v_isSet, .ref a11, .ref a12, .ref a13, .int v_arePages, .ref a14, .ref a15, .int v_place, .ref a16, .int v_readMany])), (a1, .inl (cI, 189, .inl v_now)), (a6, .inl (cI, 4, .inl v_lanes)), (a7, .inl (cI, 4, .inl v_sizes)), (a8, .inl (cJ, 96, .inr (.inl v_items)))] → va_S A s.heap H locs → lv_has ls 6 [(0, .ref a0), (1, .int x1), (2, .int x2), (3, .int x3)] → W p l e ({ frames := 8, cells := 0, slots := 0, locals := 183 } : Room) s m args below meth c H locs 0 0 Q (F0 m 0 ls []) := by
    intro Q hret H locs ls hP hD hS hl
    refine lv_iload_n hx hb dX8_film_0 rfl (lv_at hl 1 rfl) ?_
    obtain ⟨r_1, hq2, hf⟩ := bd1_el hf
    refine mc_S (As := [.int x1]) (rest := []) (wr := [(a0, .inr (8, [.ref a1, .ref a2, .int v_acts, .ref a3, .ref a4, .int v_keptActs, .ref a5, .int v_typed, .ref a6, .ref a7, .ref a8, .ref a9, .ref a10, .int v_isSet, .ref a11, .ref a12, .ref a13, .int v_arePages, .ref a14, .ref a15, .int v_place, .ref a16, .int v_readMany])), (a1, .inl (cI, 189, .inl v_now)), (a6, .inl (cI, 4, .inl v_lanes)), (a7, .inl (cI, 4, .inl v_sizes)), (a8, .inl (cJ, 96, .inr (.inl v_items)))]) (wn := [(a0, .inr (8, [.ref a1, .ref a2, .int v_acts, .ref a3, .ref a4, .int v_keptActs, .ref a5, .int v_typed, .ref a6, .ref a7, .ref a8, .ref a9, .ref a10, .int v_isSet, .ref a11, .ref a12, .ref a13, .int v_arePages, .ref a14, .ref a15, .int v_place, .ref a16, .int v_readMany])), (a1, .inl (cI, 189, .inl v_now)), (a6, .inl (cI, 4, .inl v_lanes)), (a7, .inl (cI, 4, .inl v_sizes)), (a8, .inl (cJ, 96, .inr (.inl v_items)))]) ⟨hx, hb, hml, hown, hT⟩ (c_X8_isSheet l dC dI cI cJ cP cS x1 r_1 hq2) (va_cwS 1 hT (gdS q_ml_X8_272 q_st_X8_isSheet q_in_X8 q_co_X8_isSheet) rfl rfl rfl hd_X8_isSheet ⟨Nat.le_of_ble_eq_true rfl, Nat.le_of_ble_eq_true rfl⟩) hK hF hP hD hS hA [] [0, 1, 2, 3, 4] [0, 1, 2, 3, 4] rfl (by decide) rfl (by decide) (by decide) rfl (by decide) rfl hl.1 rfl (Nat.le_of_ble_eq_true rfl) dX8_film_1 ⟨Nat.zero_le _, Nat.zero_le _⟩ (fun H locs hP hD hS => ?_)
    refine W.eq (g2 := F0 m 4 ls [.int r_1]) rfl ?_
    refine lv_if_eq (tgt := 19) hx hb dX8_film_4 (by decide) (fun c3 => ?_) (fun c3 => ?_)
    · replace hf := it_t c3 hf
      refine lv_iconst (v := (-1)) hx hb dX8_film_19 (by decide) ?_
      replace hf := Option.some.inj hf
      simp only [Prod.mk.injEq] at hf
      obtain ⟨hf0, hf1⟩ := hf
      subst hf0; subst hf1
      exact hret H locs ls _ dX8_film_20 hP hD hS
    · replace hf := it_f c3 hf
      refine lv_iload_n hx hb dX8_film_7 rfl (lv_at hl 2 rfl) ?_
      refine lv_i2l hx hb dX8_film_8 rfl ?_
      refine lv_lconst (v := 0) hx hb dX8_film_9 (by decide) ?_
      refine lv_ldc2 hx hb hown (hT _ q_kl_X8_150) dX8_film_10 ?_
      obtain ⟨r_4, hq5, hf⟩ := bd1_el hf
      refine mc_S (As := [.long (Int32.toInt64 x2), .long (0 : Int64), .long (3 : Int64)]) (rest := []) (wr := [(a0, .inr (8, [.ref a1, .ref a2, .int v_acts, .ref a3, .ref a4, .int v_keptActs, .ref a5, .int v_typed, .ref a6, .ref a7, .ref a8, .ref a9, .ref a10, .int v_isSet, .ref a11, .ref a12, .ref a13, .int v_arePages, .ref a14, .ref a15, .int v_place, .ref a16, .int v_readMany])), (a1, .inl (cI, 189, .inl v_now)), (a6, .inl (cI, 4, .inl v_lanes)), (a7, .inl (cI, 4, .inl v_sizes)), (a8, .inl (cJ, 96, .inr (.inl v_items)))]) (wn := [(a0, .inr (8, [.ref a1, .ref a2, .int v_acts, .ref a3, .ref a4, .int v_keptActs, .ref a5, .int v_typed, .ref a6, .ref a7, .ref a8, .ref a9, .ref a10, .int v_isSet, .ref a11, .ref a12, .ref a13, .int v_arePages, .ref a14, .ref a15, .int v_place, .ref a16, .int v_readMany])), (a1, .inl (cI, 189, .inl v_now)), (a6, .inl (cI, 4, .inl v_lanes)), (a7, .inl (cI, 4, .inl v_sizes)), (a8, .inl (cJ, 96, .inr (.inl v_items)))]) ⟨hx, hb, hml, hown, hT⟩ (c_X8_in l dC dI cI cJ cP cS (Int32.toInt64 x2) (0 : Int64) (3 : Int64) r_4 hq5) (va_cwS 3 hT (gdS q_ml_X8_63 q_st_X8_in q_in_X8 q_co_X8_in) rfl rfl rfl hd_X8_in ⟨Nat.le_of_ble_eq_true rfl, Nat.le_of_ble_eq_true rfl⟩) hK hF hP hD hS hA [] [0, 1, 2, 3, 4] [0, 1, 2, 3, 4] rfl (by decide) rfl (by decide) (by decide) rfl (by decide) rfl hl.1 rfl (Nat.le_of_ble_eq_true rfl) dX8_film_13 ⟨Nat.zero_le _, Nat.zero_le _⟩ (fun H locs hP hD hS => ?_)
      refine W.eq (g2 := F0 m 16 ls [.int r_4]) rfl ?_
      refine lv_if_ne (tgt := 21) hx hb dX8_film_16 (by decide) (fun c6 => ?_) (fun c6 => ?_)
      · replace hf := it_f c6 hf
        refine lv_aload_n hx hb dX8_film_21 rfl (lv_at hl 0 rfl) ?_
        refine lv_iload_n hx hb dX8_film_22 rfl (lv_at hl 1 rfl) ?_
        refine lv_iload_n hx hb dX8_film_23 rfl (lv_at hl 2 rfl) ?_
        refine lv_iload_n hx hb dX8_film_24 rfl (lv_at hl 3 rfl) ?_
        refine lv_aload_n hx hb dX8_film_25 rfl (lv_at hl 0 rfl) ?_
        refine va_get (D := (dC, dI)) (ci := 8) (v := .ref a1) (C := RX8) (T := TX8) (N := 23) hx hb hT in_X8 hown hK hP 0 rfl rfl 0 (by decide) (hT _ q_fl_X8_7) (fun _ h9 => h9) rfl dX8_film_26 ?_
        refine lv_iconst (v := 0) hx hb dX8_film_29 (by decide) ?_
        refine ia_ld hx hb hK hP 1 0 rfl rfl (ib_in (by decide)) (j := 0) (by decide) dX8_film_30 ?_
        obtain ⟨r_7, hq8, hf⟩ := bd1_el hf
        refine mc_V (As := [.int x1, .int x2, .int x3, .int (v_now 0)]) (rest := []) (wr := [(a1, .inl (cI, 189, .inl v_now)), (a8, .inl (cJ, 96, .inr (.inl v_items)))]) (wn := [(a0, .inr (8, [.ref a1, .ref a2, .int v_acts, .ref a3, .ref a4, .int v_keptActs, .ref a5, .int v_typed, .ref a6, .ref a7, .ref a8, .ref a9, .ref a10, .int v_isSet, .ref a11, .ref a12, .ref a13, .int v_arePages, .ref a14, .ref a15, .int v_place, .ref a16, .int v_readMany])), (a1, .inl (cI, 189, .inl v_now)), (a6, .inl (cI, 4, .inl v_lanes)), (a7, .inl (cI, 4, .inl v_sizes)), (a8, .inl (cJ, 96, .inr (.inl v_items)))]) ⟨hx, hb, hml, hown, hT⟩ (c_X8_found l dC dI cI cJ cP cS a0 a1 a2 a3 a4 a5 a6 a7 a8 a9 a10 a11 a12 a13 a14 a15 a16 v_acts v_keptActs v_typed v_isSet v_arePages v_place v_readMany v_lanes v_sizes x1 x2 x3 (v_now 0) r_7 hq8) (cwV 4 hT (gdV q_ml_X8_277 q_im_X8_found q_se_X8_found q_in_X8 q_co_X8_found) rfl rfl rfl hd_X8_found ⟨Nat.le_of_ble_eq_true rfl, Nat.le_of_ble_eq_true rfl⟩) hK hF hP hD hS hA 0 rfl rfl rfl [0, 2, 3] [1, 4] [2, 0, 3, 4, 1] rfl (by decide) rfl (by decide) (by decide) rfl (by decide) rfl hl.1 rfl (Nat.le_of_ble_eq_true rfl) dX8_film_31 ⟨Nat.zero_le _, Nat.zero_le _⟩ (fun H locs hP hD hS => ?_)
        refine W.eq (g2 := F0 m 34 ls [.int r_7]) rfl ?_
        refine lv_istore (lv' := [(4, .int r_7), (0, .ref a0), (1, .int x1), (2, .int x2), (3, .int x3)]) hx hb dX8_film_34 hl (by decide) rfl (fun ls hl => ?_)
        refine lv_iload hx hb dX8_film_36 (lv_at hl 0 rfl) ?_
        refine lv_if_ge (tgt := 44) hx hb dX8_film_38 (by decide) (fun c9 => ?_) (fun c9 => ?_)
        · replace hf := it_t c9 hf
          refine lv_iconst (v := 0) hx hb dX8_film_44 (by decide) ?_
          refine lv_istore (lv' := [(5, .int (0 : Int32)), (4, .int r_7), (0, .ref a0), (1, .int x1), (2, .int x2), (3, .int x3)]) hx hb dX8_film_45 hl (by decide) rfl (fun ls hl => ?_)
          have hL47 : ∀ (rr : Int32 × (Nat → Int64)), (∀ (z_18 : Int32) (z_19 : (Nat → Int64)), rr = (z_18, z_19) → ∀ (H : Heap) (locs : List Loc) (ls : Array Slot), va_P (dC, dI) vwCl [(a0, .inr (8, [.ref a1, .ref a2, .int v_acts, .ref a3, .ref a4, .int v_keptActs, .ref a5, .int v_typed, .ref a6, .ref a7, .ref a8, .ref a9, .ref a10, .int v_isSet, .ref a11, .ref a12, .ref a13, .int v_arePages, .ref a14, .ref a15, .int v_place, .ref a16, .int v_readMany])), (a1, .inl (cI, 189, .inl v_now)), (a6, .inl (cI, 4, .inl v_lanes)), (a7, .inl (cI, 4, .inl v_sizes)), (a8, .inl (cJ, 96, .inr (.inl z_19)))] H → va_D A [(a0, .inr (8, [.ref a1, .ref a2, .int v_acts, .ref a3, .ref a4, .int v_keptActs, .ref a5, .int v_typed, .ref a6, .ref a7, .ref a8, .ref a9, .ref a10, .int v_isSet, .ref a11, .ref a12, .ref a13, .int v_arePages, .ref a14, .ref a15, .int v_place, .ref a16, .int v_readMany])), (a1, .inl (cI, 189, .inl v_now)), (a6, .inl (cI, 4, .inl v_lanes)), (a7, .inl (cI, 4, .inl v_sizes)), (a8, .inl (cJ, 96, .inr (.inl z_19)))] → va_S A s.heap H locs → lv_has ls 6 [(0, .ref a0)] → W p l e ({ frames := 8, cells := 0, slots := 0, locals := 183 } : Room) s m args below meth c H locs 0 0 Q (F0 m 89 ls [])) → ∀ (n : Nat) (i5_10 : Int32) (v_items_11 : (Nat → Int64)), loopN (p_X8_film_L47 v_now x1 x2 x3) n (i5_10, v_items_11) = some rr → ∀ (H : Heap) (locs : List Loc) (ls : Array Slot), va_P (dC, dI) vwCl [(a0, .inr (8, [.ref a1, .ref a2, .int v_acts, .ref a3, .ref a4, .int v_keptActs, .ref a5, .int v_typed, .ref a6, .ref a7, .ref a8, .ref a9, .ref a10, .int v_isSet, .ref a11, .ref a12, .ref a13, .int v_arePages, .ref a14, .ref a15, .int v_place, .ref a16, .int v_readMany])), (a1, .inl (cI, 189, .inl v_now)), (a6, .inl (cI, 4, .inl v_lanes)), (a7, .inl (cI, 4, .inl v_sizes)), (a8, .inl (cJ, 96, .inr (.inl v_items_11)))] H → va_D A [(a0, .inr (8, [.ref a1, .ref a2, .int v_acts, .ref a3, .ref a4, .int v_keptActs, .ref a5, .int v_typed, .ref a6, .ref a7, .ref a8, .ref a9, .ref a10, .int v_isSet, .ref a11, .ref a12, .ref a13, .int v_arePages, .ref a14, .ref a15, .int v_place, .ref a16, .int v_readMany])), (a1, .inl (cI, 189, .inl v_now)), (a6, .inl (cI, 4, .inl v_lanes)), (a7, .inl (cI, 4, .inl v_sizes)), (a8, .inl (cJ, 96, .inr (.inl v_items_11)))] → va_S A s.heap H locs → lv_has ls 6 [(0, .ref a0), (1, .int x1), (2, .int x2), (3, .int x3), (5, .int i5_10)] → W p l e ({ frames := 8, cells := 0, slots := 0, locals := 183 } : Room) s m args below meth c H locs 0 0 Q (F0 m 47 ls []) := by
            intro rr hk47 n
            induction n with
            | zero => intro i5_10 v_items_11 hf; cases hf
            | succ n ih47 =>
              intro i5_10 v_items_11 hf H locs ls hP hD hS hl
              obtain ⟨o47, hf, hi, he⟩ := loopN_el hf
              refine lv_iload hx hb dX8_film_47 (lv_at hl 4 rfl) ?_
              refine lv_aload_n hx hb dX8_film_49 rfl (lv_at hl 0 rfl) ?_
              refine va_get (D := (dC, dI)) (ci := 8) (v := .ref a1) (C := RX8) (T := TX8) (N := 23) hx hb hT in_X8 hown hK hP 0 rfl rfl 0 (by decide) (hT _ q_fl_X8_7) (fun _ h9 => h9) rfl dX8_film_50 ?_
              refine lv_iconst (v := 0) hx hb dX8_film_53 (by decide) ?_
              refine ia_ld hx hb hK hP 1 0 rfl rfl (ib_in (by decide)) (j := 0) (by decide) dX8_film_54 ?_
              refine lv_icmp_ge (tgt := 89) hx hb dX8_film_55 (by decide) (fun c12 => ?_) (fun c12 => ?_)
              · replace hf := it_t c12 hf
                exact hk47 _ _ (he _ (Option.some.inj hf).symm).symm H locs ls hP hD hS (lv_sub hl [0] rfl)
              · replace hf := it_f c12 hf
                refine lv_aload_n hx hb dX8_film_58 rfl (lv_at hl 0 rfl) ?_
                refine va_get (D := (dC, dI)) (ci := 8) (v := .ref a8) (C := RX8) (T := TX8) (N := 23) hx hb hT in_X8 hown hK hP 0 rfl rfl 10 (by decide) (hT _ q_fl_X8_35) (fun _ h9 => h9) rfl dX8_film_59 ?_
                refine lv_bipush (v := 24) hx hb dX8_film_62 (by decide) ?_
                refine lv_iload_n hx hb dX8_film_64 rfl (lv_at hl 1 rfl) ?_
                refine lv_imul hx hb dX8_film_65 ?_
                refine lv_iload_n hx hb dX8_film_66 rfl (lv_at hl 3 rfl) ?_
                refine lv_iadd hx hb dX8_film_67 ?_
                refine lv_iload hx hb dX8_film_68 (lv_at hl 4 rfl) ?_
                refine lv_iadd hx hb dX8_film_70 ?_
                refine lv_iload_n hx hb dX8_film_71 rfl (lv_at hl 2 rfl) ?_
                refine lv_aload_n hx hb dX8_film_72 rfl (lv_at hl 0 rfl) ?_
                refine lv_iload hx hb dX8_film_73 (lv_at hl 4 rfl) ?_
                obtain ⟨r_13, hq14, hf⟩ := bd1_el hf
                refine mc_V (As := [.int i5_10]) (rest := [.int x2, .int ((((24 : Int32) * x1) + x3) + i5_10), .ref a8]) (wr := [(a6, .inl (cI, 4, .inl v_lanes)), (a7, .inl (cI, 4, .inl v_sizes)), (a8, .inl (cJ, 96, .inr (.inl v_items_11)))]) (wn := [(a0, .inr (8, [.ref a1, .ref a2, .int v_acts, .ref a3, .ref a4, .int v_keptActs, .ref a5, .int v_typed, .ref a6, .ref a7, .ref a8, .ref a9, .ref a10, .int v_isSet, .ref a11, .ref a12, .ref a13, .int v_arePages, .ref a14, .ref a15, .int v_place, .ref a16, .int v_readMany])), (a1, .inl (cI, 189, .inl v_now)), (a6, .inl (cI, 4, .inl v_lanes)), (a7, .inl (cI, 4, .inl v_sizes)), (a8, .inl (cJ, 96, .inr (.inl v_items_11)))]) ⟨hx, hb, hml, hown, hT⟩ (c_X8_rowsOf l dC dI cI cJ cP cS a0 a1 a2 a3 a4 a5 a6 a7 a8 a9 a10 a11 a12 a13 a14 a15 a16 v_acts v_keptActs v_typed v_isSet v_arePages v_place v_readMany v_now i5_10 r_13 hq14) (cwV 1 hT (gdV q_ml_X8_115 q_im_X8_rowsOf q_se_X8_rowsOf q_in_X8 q_co_X8_rowsOf) rfl rfl rfl hd_X8_rowsOf ⟨Nat.le_of_ble_eq_true rfl, Nat.le_of_ble_eq_true rfl⟩) hK hF hP hD hS hA 0 rfl rfl rfl [0, 1] [2, 3, 4] [3, 4, 0, 1, 2] rfl (by decide) rfl (by decide) (by decide) rfl (by decide) rfl hl.1 rfl (Nat.le_of_ble_eq_true rfl) dX8_film_75 ⟨Nat.zero_le _, Nat.zero_le _⟩ (fun H locs hP hD hS => ?_)
                refine W.eq (g2 := F0 m 78 ls [.int r_13, .int x2, .int ((((24 : Int32) * x1) + x3) + i5_10), .ref a8]) rfl ?_
                refine lv_i2l hx hb dX8_film_78 rfl ?_
                obtain ⟨r_15, hq16, hf⟩ := bd1_el hf
                refine mc_S (As := [.int x2, .long (Int32.toInt64 r_13)]) (rest := [.int ((((24 : Int32) * x1) + x3) + i5_10), .ref a8]) (wr := [(a0, .inr (8, [.ref a1, .ref a2, .int v_acts, .ref a3, .ref a4, .int v_keptActs, .ref a5, .int v_typed, .ref a6, .ref a7, .ref a8, .ref a9, .ref a10, .int v_isSet, .ref a11, .ref a12, .ref a13, .int v_arePages, .ref a14, .ref a15, .int v_place, .ref a16, .int v_readMany])), (a1, .inl (cI, 189, .inl v_now)), (a6, .inl (cI, 4, .inl v_lanes)), (a7, .inl (cI, 4, .inl v_sizes)), (a8, .inl (cJ, 96, .inr (.inl v_items_11)))]) (wn := [(a0, .inr (8, [.ref a1, .ref a2, .int v_acts, .ref a3, .ref a4, .int v_keptActs, .ref a5, .int v_typed, .ref a6, .ref a7, .ref a8, .ref a9, .ref a10, .int v_isSet, .ref a11, .ref a12, .ref a13, .int v_arePages, .ref a14, .ref a15, .int v_place, .ref a16, .int v_readMany])), (a1, .inl (cI, 189, .inl v_now)), (a6, .inl (cI, 4, .inl v_lanes)), (a7, .inl (cI, 4, .inl v_sizes)), (a8, .inl (cJ, 96, .inr (.inl v_items_11)))]) ⟨hx, hb, hml, hown, hT⟩ (c_X8_cut l dC dI cI cJ cP cS x2 (Int32.toInt64 r_13) r_15 hq16) (va_cwS 2 hT (gdS q_ml_X8_281 q_st_X8_cut q_in_X8 q_co_X8_cut) rfl rfl rfl hd_X8_cut ⟨Nat.le_of_ble_eq_true rfl, Nat.le_of_ble_eq_true rfl⟩) hK hF hP hD hS hA [] [0, 1, 2, 3, 4] [0, 1, 2, 3, 4] rfl (by decide) rfl (by decide) (by decide) rfl (by decide) rfl hl.1 rfl (Nat.le_of_ble_eq_true rfl) dX8_film_79 ⟨Nat.zero_le _, Nat.zero_le _⟩ (fun H locs hP hD hS => ?_)
                refine W.eq (g2 := F0 m 82 ls [.long r_15, .int ((((24 : Int32) * x1) + x3) + i5_10), .ref a8]) rfl ?_
                obtain ⟨h17, hf⟩ := gd_el hf
                refine la_st hx hb hK hP hD hS 4 1 rfl rfl (ib_in h17) (j := (tn ((((24 : Int32) * x1) + x3) + i5_10))) rfl dX8_film_82 (fun H locs hP hD hS => ?_)
                have hP : va_P (dC, dI) vwCl [(a0, .inr (8, [.ref a1, .ref a2, .int v_acts, .ref a3, .ref a4, .int v_keptActs, .ref a5, .int v_typed, .ref a6, .ref a7, .ref a8, .ref a9, .ref a10, .int v_isSet, .ref a11, .ref a12, .ref a13, .int v_arePages, .ref a14, .ref a15, .int v_place, .ref a16, .int v_readMany])), (a1, .inl (cI, 189, .inl v_now)), (a6, .inl (cI, 4, .inl v_lanes)), (a7, .inl (cI, 4, .inl v_sizes)), (a8, .inl (cJ, 96, .inr (.inl (vp_updL v_items_11 (tn ((((24 : Int32) * x1) + x3) + i5_10)) r_15))))] H := hP
                have hD : va_D A [(a0, .inr (8, [.ref a1, .ref a2, .int v_acts, .ref a3, .ref a4, .int v_keptActs, .ref a5, .int v_typed, .ref a6, .ref a7, .ref a8, .ref a9, .ref a10, .int v_isSet, .ref a11, .ref a12, .ref a13, .int v_arePages, .ref a14, .ref a15, .int v_place, .ref a16, .int v_readMany])), (a1, .inl (cI, 189, .inl v_now)), (a6, .inl (cI, 4, .inl v_lanes)), (a7, .inl (cI, 4, .inl v_sizes)), (a8, .inl (cJ, 96, .inr (.inl (vp_updL v_items_11 (tn ((((24 : Int32) * x1) + x3) + i5_10)) r_15))))] := hD
                refine lv_iinc (v := (i5_10 + (1 : Int32))) (lv' := [(5, .int (i5_10 + (1 : Int32))), (0, .ref a0), (1, .int x1), (2, .int x2), (3, .int x3)]) hx hb dX8_film_83 hl (k := 4) rfl rfl (by decide) rfl (fun ls hl => ?_)
                refine lv_goto (tgt := 47) hx hb dX8_film_86 (by decide) ?_
                exact ih47 (i5_10 + (1 : Int32)) (vp_updL v_items_11 (tn ((((24 : Int32) * x1) + x3) + i5_10)) r_15) (hi _ (Option.some.inj hf).symm) H locs ls hP hD hS (lv_sub hl [1, 2, 3, 4, 0] rfl)
          obtain ⟨f5_20, v_items_21, hq, hf⟩ := bd2_el hf
          refine hL47 (f5_20, v_items_21) (fun z_18 z_19 h9 H locs ls hP hD hS hl => ?_) fuel (0 : Int32) v_items hq H locs ls hP hD hS (lv_sub hl [2, 3, 4, 5, 0] rfl)
          simp only [Prod.mk.injEq] at h9
          obtain ⟨h9_0, h9_1⟩ := h9
          subst h9_0; subst h9_1
          refine lv_aload_n hx hb dX8_film_89 rfl (lv_at hl 0 rfl) ?_
          refine va_get (D := (dC, dI)) (ci := 8) (v := .ref a1) (C := RX8) (T := TX8) (N := 23) hx hb hT in_X8 hown hK hP 0 rfl rfl 0 (by decide) (hT _ q_fl_X8_7) (fun _ h9 => h9) rfl dX8_film_90 ?_
          refine lv_iconst (v := 0) hx hb dX8_film_93 (by decide) ?_
          refine ia_ld hx hb hK hP 1 0 rfl rfl (ib_in (by decide)) (j := 0) (by decide) dX8_film_94 ?_
          replace hf := Option.some.inj hf
          simp only [Prod.mk.injEq] at hf
          obtain ⟨hf0, hf1⟩ := hf
          subst hf0; subst hf1
          exact hret H locs ls _ dX8_film_95 hP hD hS
        · replace hf := it_f c9 hf
          refine lv_iload hx hb dX8_film_41 (lv_at hl 0 rfl) ?_
          replace hf := Option.some.inj hf
          simp only [Prod.mk.injEq] at hf
          obtain ⟨hf0, hf1⟩ := hf
          subst hf0; subst hf1
          exact hret H locs ls _ dX8_film_43 hP hD hS
      · replace hf := it_t c6 hf
        refine lv_iconst (v := (-1)) hx hb dX8_film_19 (by decide) ?_
        replace hf := Option.some.inj hf
        simp only [Prod.mk.injEq] at hf
        obtain ⟨hf0, hf1⟩ := hf
        subst hf0; subst hf1
        exact hret H locs ls _ dX8_film_20 hP hD hS
  refine key _ ?_ _ _ _ hP hD hS hl
  intro H locs ls pc d hP hD hS
  exact W.iret (v := rv) hx hb hr (fun t ht hW => ⟨⟨rfl, by rw [ht]; exact hP, hD⟩, hS.F ht⟩) hS.2.2 d
def p_X8_sheet_L51 (x1 : Int32) (s : Int32 × (Nat → Int64)) : Option ((Int32 × (Nat → Int64)) ⊕ (Int32 × (Nat → Int64))) := match s with
  | (i4_11, v_items_12) => (if (24 : Int32) ≤ i4_11 then (some (.inr (i4_11, v_items_12))) else (gd (ib (((24 : Int32) * x1) + i4_11) 96) (some (.inl ((i4_11 + (1 : Int32)), (vp_updL v_items_12 (tn (((24 : Int32) * x1) + i4_11)) (0 : Int64)))))))
def p_X8_sheet (v_lanes : (Nat → Int32)) (v_sizes : (Nat → Int32)) (v_items : (Nat → Int64)) (x1 : Int32) (x2 : Int32) (x3 : Int32) : Option (Int32 × (Nat → Int32) × (Nat → Int32) × (Nat → Int64)) :=
  (bd1 (p_X8_isSheet x1) fun r_1 => (if r_1 = (0 : Int32) then (some ((-1 : Int32), v_lanes, v_sizes, v_items)) else (bd1 (p_X8_in (Int32.toInt64 x2) (0 : Int64) (3 : Int64)) fun r_4 => (if r_4 = (0 : Int32) then (some ((-1 : Int32), v_lanes, v_sizes, v_items)) else (if x3 ≤ (24 : Int32) then (if (0 : Int32) ≤ x3 then (gd (ib x1 4) (gd (ib x1 4) (bd2 (loopN (p_X8_sheet_L51 x1) fuel ((0 : Int32), v_items)) fun f4_17 v_items_18 => (some (x3, (upd v_lanes (tn x1) x2), (upd v_sizes (tn x1) x3), v_items_18))))) else (some ((-14 : Int32), v_lanes, v_sizes, v_items))) else (some ((-1 : Int32), v_lanes, v_sizes, v_items)))))))
set_option maxHeartbeats 4000000 in
set_option maxRecDepth 100000 in
theorem c_X8_sheet (l : Launch) (dC : Nat → ClassId) (dI : Nat → Nat → Nat) (cI cJ cP cS : ClassId) (a0 : Nat) (a1 : Nat) (a2 : Nat) (a3 : Nat) (a4 : Nat) (a5 : Nat) (a6 : Nat) (a7 : Nat) (a8 : Nat) (a9 : Nat) (a10 : Nat) (a11 : Nat) (a12 : Nat) (a13 : Nat) (a14 : Nat) (a15 : Nat) (a16 : Nat) (v_acts : Int32) (v_keptActs : Int32) (v_typed : Int32) (v_isSet : Int32) (v_arePages : Int32) (v_place : Int32) (v_readMany : Int32) (v_lanes : (Nat → Int32)) (v_sizes : (Nat → Int32)) (v_items : (Nat → Int64))  (x1 : Int32) (x2 : Int32) (x3 : Int32) (rv : Int32) (v_lanes_o : (Nat → Int32)) (v_sizes_o : (Nat → Int32)) (v_items_o : (Nat → Int64)) (hf : p_X8_sheet v_lanes v_sizes v_items x1 x2 x3 = some (rv, v_lanes_o, v_sizes_o, v_items_o)) : MC l (dC, dI) (tyl cI cJ cP cS) yX8_sheet (Cond.code yX8_sheet cX8_sheet 5 (some .int) :: TBG) ({ frames := 2, cells := 0, slots := 0, locals := 45 } : Room) [.ref a0, .int x1, .int x2, .int x3] [(a0, .inr (8, [.ref a1, .ref a2, .int v_acts, .ref a3, .ref a4, .int v_keptActs, .ref a5, .int v_typed, .ref a6, .ref a7, .ref a8, .ref a9, .ref a10, .int v_isSet, .ref a11, .ref a12, .ref a13, .int v_arePages, .ref a14, .ref a15, .int v_place, .ref a16, .int v_readMany])), (a6, .inl (cI, 4, .inl v_lanes)), (a7, .inl (cI, 4, .inl v_sizes)), (a8, .inl (cJ, 96, .inr (.inl v_items)))] [(a0, .inr (8, [.ref a1, .ref a2, .int v_acts, .ref a3, .ref a4, .int v_keptActs, .ref a5, .int v_typed, .ref a6, .ref a7, .ref a8, .ref a9, .ref a10, .int v_isSet, .ref a11, .ref a12, .ref a13, .int v_arePages, .ref a14, .ref a15, .int v_place, .ref a16, .int v_readMany])), (a6, .inl (cI, 4, .inl v_lanes_o)), (a7, .inl (cI, 4, .inl v_sizes_o)), (a8, .inl (cJ, 96, .inr (.inl v_items_o)))] (some (.int rv)) := by
  intro sz
  unfold MPost
  refine Met.ofW (cc := cX8_sheet) (maxL := 5) (ret := (some .int)) (by decide) rfl ?_
  intro p e s m args below meth c s₁ B hml hv
  obtain ⟨rfl, hsz, hP, hK, hD0, hF⟩ := hv
  have hx := B.exec
  have hb := B.bytes
  have hr := B.returns
  have hT : ∀ w ∈ TBG, w.before _ s = true := fun w h => atoms_spec B.pre w (List.mem_cons_of_mem _ h)
  have hown : s.vm.findClass RX8 = some m.cls := findClass_of_methodNamed B.named
  have hlocks := B.notSynchronized
  subst hsz
  have hD := hD0.self (sz := s.heap.size)
  generalize hAe : va_A [(a0, .inr (8, [.ref a1, .ref a2, .int v_acts, .ref a3, .ref a4, .int v_keptActs, .ref a5, .int v_typed, .ref a6, .ref a7, .ref a8, .ref a9, .ref a10, .int v_isSet, .ref a11, .ref a12, .ref a13, .int v_arePages, .ref a14, .ref a15, .int v_place, .ref a16, .int v_readMany])), (a6, .inl (cI, 4, .inl v_lanes)), (a7, .inl (cI, 4, .inl v_sizes)), (a8, .inl (cJ, 96, .inr (.inl v_items)))] s.heap.size = A at hD hF ⊢
  have hA : ∀ q : Nat, s.heap.size ≤ q → A q := fun q h => by rw [← hAe]; exact Or.inr h
  have hS : va_S A s.heap s.heap [] := va_S.rf
  have hl := lv_entry ([.ref a0, .int x1, .int x2, .int x3]) (n := 5) (Nat.le_of_ble_eq_true rfl)
  rw [lg_entry_eq]
  generalize (lg_sl ([.ref a0, .int x1, .int x2, .int x3]) ++ List.replicate (5 - (lg_sl ([.ref a0, .int x1, .int x2, .int x3])).length) Slot.unset).toArray = ls at hl ⊢
  have hl : lv_has ls 5 [(0, .ref a0), (1, .int x1), (2, .int x2), (3, .int x3)] := hl
  generalize ([.ref a0, .int x1, .int x2, .int x3] : List Value).toArray = args at hT ⊢
  have key : ∀ (Q : State → Prop), (∀ (H : Heap) (locs : List Loc) (ls : Array Slot) (pc : Nat), decode cX8_sheet pc = .ok (.ireturn, 1) → va_P (dC, dI) vwCl [(a0, .inr (8, [.ref a1, .ref a2, .int v_acts, .ref a3, .ref a4, .int v_keptActs, .ref a5, .int v_typed, .ref a6, .ref a7, .ref a8, .ref a9, .ref a10, .int v_isSet, .ref a11, .ref a12, .ref a13, .int v_arePages, .ref a14, .ref a15, .int v_place, .ref a16, .int v_readMany])), (a6, .inl (cI, 4, .inl v_lanes_o)), (a7, .inl (cI, 4, .inl v_sizes_o)), (a8, .inl (cJ, 96, .inr (.inl v_items_o)))] H → va_D A [(a0, .inr (8, [.ref a1, .ref a2, .int v_acts, .ref a3, .ref a4, .int v_keptActs, .ref a5, .int v_typed, .ref a6, .ref a7, .ref a8, .ref a9, .ref a10, .int v_isSet, .ref a11, .ref a12, .ref a13, .int v_arePages, .ref a14, .ref a15, .int v_place, .ref a16, .int v_readMany])), (a6, .inl (cI, 4, .inl v_lanes_o)), (a7, .inl (cI, 4, .inl v_sizes_o)), (a8, .inl (cJ, 96, .inr (.inl v_items_o)))] → va_S A s.heap H locs → W p l e ({ frames := 2, cells := 0, slots := 0, locals := 45 } : Room) s m args below meth c H locs 0 0 Q (F0 m pc ls [.int rv])) → ∀ (H : Heap) (locs : List Loc) (ls : Array Slot), va_P (dC, dI) vwCl [(a0, .inr (8, [.ref a1, .ref a2, .int v_acts, .ref a3, .ref a4, .int v_keptActs, .ref a5, .int v_typed, .ref a6, .ref a7, .ref a8, .ref a9, .ref a10, .int v_isSet, .ref a11, .ref a12, .ref a13, .int v_arePages, .ref a14, .ref a15, .int v_place, .ref a16, .int v_readMany])), (a6, .inl (cI, 4, .inl v_lanes)), (a7, .inl (cI, 4, .inl v_sizes)), (a8, .inl (cJ, 96, .inr (.inl v_items)))] H → va_D A [(a0, .inr (8, [.ref a1, .ref a2, .int v_acts, .ref a3, .ref a4, .int v_keptActs, .ref a5, .int v_typed, .ref a6, .ref a7, .ref a8, .ref a9, .ref a10, .int v_isSet, .ref a11, .ref a12, .ref a13, .int v_arePages, .ref a14, .ref a15, .int v_place, .ref a16, .int v_readMany])), (a6, .inl (cI, 4, .inl v_lanes)), (a7, .inl (cI, 4, .inl v_sizes)), (a8, .inl (cJ, 96, .inr (.inl v_items)))] → va_S A s.heap H locs → lv_has ls 5 [(0, .ref a0), (1, .int x1), (2, .int x2), (3, .int x3)] → W p l e ({ frames := 2, cells := 0, slots := 0, locals := 45 } : Room) s m args below meth c H locs 0 0 Q (F0 m 0 ls []) := by
    intro Q hret H locs ls hP hD hS hl
    refine lv_iload_n hx hb dX8_sheet_0 rfl (lv_at hl 1 rfl) ?_
    obtain ⟨r_1, hq2, hf⟩ := bd1_el hf
    refine mc_S (As := [.int x1]) (rest := []) (wr := [(a0, .inr (8, [.ref a1, .ref a2, .int v_acts, .ref a3, .ref a4, .int v_keptActs, .ref a5, .int v_typed, .ref a6, .ref a7, .ref a8, .ref a9, .ref a10, .int v_isSet, .ref a11, .ref a12, .ref a13, .int v_arePages, .ref a14, .ref a15, .int v_place, .ref a16, .int v_readMany])), (a6, .inl (cI, 4, .inl v_lanes)), (a7, .inl (cI, 4, .inl v_sizes)), (a8, .inl (cJ, 96, .inr (.inl v_items)))]) (wn := [(a0, .inr (8, [.ref a1, .ref a2, .int v_acts, .ref a3, .ref a4, .int v_keptActs, .ref a5, .int v_typed, .ref a6, .ref a7, .ref a8, .ref a9, .ref a10, .int v_isSet, .ref a11, .ref a12, .ref a13, .int v_arePages, .ref a14, .ref a15, .int v_place, .ref a16, .int v_readMany])), (a6, .inl (cI, 4, .inl v_lanes)), (a7, .inl (cI, 4, .inl v_sizes)), (a8, .inl (cJ, 96, .inr (.inl v_items)))]) ⟨hx, hb, hml, hown, hT⟩ (c_X8_isSheet l dC dI cI cJ cP cS x1 r_1 hq2) (va_cwS 1 hT (gdS q_ml_X8_272 q_st_X8_isSheet q_in_X8 q_co_X8_isSheet) rfl rfl rfl hd_X8_isSheet ⟨Nat.le_of_ble_eq_true rfl, Nat.le_of_ble_eq_true rfl⟩) hK hF hP hD hS hA [] [0, 1, 2, 3] [0, 1, 2, 3] rfl (by decide) rfl (by decide) (by decide) rfl (by decide) rfl hl.1 rfl (Nat.le_of_ble_eq_true rfl) dX8_sheet_1 ⟨Nat.zero_le _, Nat.zero_le _⟩ (fun H locs hP hD hS => ?_)
    refine W.eq (g2 := F0 m 4 ls [.int r_1]) rfl ?_
    refine lv_if_eq (tgt := 25) hx hb dX8_sheet_4 (by decide) (fun c3 => ?_) (fun c3 => ?_)
    · replace hf := it_t c3 hf
      refine lv_iconst (v := (-1)) hx hb dX8_sheet_25 (by decide) ?_
      replace hf := Option.some.inj hf
      simp only [Prod.mk.injEq] at hf
      obtain ⟨hf0, hf1, hf2, hf3⟩ := hf
      subst hf0; subst hf1; subst hf2; subst hf3
      exact hret H locs ls _ dX8_sheet_26 hP hD hS
    · replace hf := it_f c3 hf
      refine lv_iload_n hx hb dX8_sheet_7 rfl (lv_at hl 2 rfl) ?_
      refine lv_i2l hx hb dX8_sheet_8 rfl ?_
      refine lv_lconst (v := 0) hx hb dX8_sheet_9 (by decide) ?_
      refine lv_ldc2 hx hb hown (hT _ q_kl_X8_150) dX8_sheet_10 ?_
      obtain ⟨r_4, hq5, hf⟩ := bd1_el hf
      refine mc_S (As := [.long (Int32.toInt64 x2), .long (0 : Int64), .long (3 : Int64)]) (rest := []) (wr := [(a0, .inr (8, [.ref a1, .ref a2, .int v_acts, .ref a3, .ref a4, .int v_keptActs, .ref a5, .int v_typed, .ref a6, .ref a7, .ref a8, .ref a9, .ref a10, .int v_isSet, .ref a11, .ref a12, .ref a13, .int v_arePages, .ref a14, .ref a15, .int v_place, .ref a16, .int v_readMany])), (a6, .inl (cI, 4, .inl v_lanes)), (a7, .inl (cI, 4, .inl v_sizes)), (a8, .inl (cJ, 96, .inr (.inl v_items)))]) (wn := [(a0, .inr (8, [.ref a1, .ref a2, .int v_acts, .ref a3, .ref a4, .int v_keptActs, .ref a5, .int v_typed, .ref a6, .ref a7, .ref a8, .ref a9, .ref a10, .int v_isSet, .ref a11, .ref a12, .ref a13, .int v_arePages, .ref a14, .ref a15, .int v_place, .ref a16, .int v_readMany])), (a6, .inl (cI, 4, .inl v_lanes)), (a7, .inl (cI, 4, .inl v_sizes)), (a8, .inl (cJ, 96, .inr (.inl v_items)))]) ⟨hx, hb, hml, hown, hT⟩ (c_X8_in l dC dI cI cJ cP cS (Int32.toInt64 x2) (0 : Int64) (3 : Int64) r_4 hq5) (va_cwS 3 hT (gdS q_ml_X8_63 q_st_X8_in q_in_X8 q_co_X8_in) rfl rfl rfl hd_X8_in ⟨Nat.le_of_ble_eq_true rfl, Nat.le_of_ble_eq_true rfl⟩) hK hF hP hD hS hA [] [0, 1, 2, 3] [0, 1, 2, 3] rfl (by decide) rfl (by decide) (by decide) rfl (by decide) rfl hl.1 rfl (Nat.le_of_ble_eq_true rfl) dX8_sheet_13 ⟨Nat.zero_le _, Nat.zero_le _⟩ (fun H locs hP hD hS => ?_)
      refine W.eq (g2 := F0 m 16 ls [.int r_4]) rfl ?_
      refine lv_if_eq (tgt := 25) hx hb dX8_sheet_16 (by decide) (fun c6 => ?_) (fun c6 => ?_)
      · replace hf := it_t c6 hf
        refine lv_iconst (v := (-1)) hx hb dX8_sheet_25 (by decide) ?_
        replace hf := Option.some.inj hf
        simp only [Prod.mk.injEq] at hf
        obtain ⟨hf0, hf1, hf2, hf3⟩ := hf
        subst hf0; subst hf1; subst hf2; subst hf3
        exact hret H locs ls _ dX8_sheet_26 hP hD hS
      · replace hf := it_f c6 hf
        refine lv_iload_n hx hb dX8_sheet_19 rfl (lv_at hl 3 rfl) ?_
        refine lv_bipush (v := 24) hx hb dX8_sheet_20 (by decide) ?_
        refine lv_icmp_le (tgt := 27) hx hb dX8_sheet_22 (by decide) (fun c7 => ?_) (fun c7 => ?_)
        · replace hf := it_t c7 hf
          refine lv_iload_n hx hb dX8_sheet_27 rfl (lv_at hl 3 rfl) ?_
          refine lv_if_ge (tgt := 34) hx hb dX8_sheet_28 (by decide) (fun c8 => ?_) (fun c8 => ?_)
          · replace hf := it_t c8 hf
            refine lv_aload_n hx hb dX8_sheet_34 rfl (lv_at hl 0 rfl) ?_
            refine va_get (D := (dC, dI)) (ci := 8) (v := .ref a6) (C := RX8) (T := TX8) (N := 23) hx hb hT in_X8 hown hK hP 0 rfl rfl 8 (by decide) (hT _ q_fl_X8_29) (fun _ h9 => h9) rfl dX8_sheet_35 ?_
            refine lv_iload_n hx hb dX8_sheet_38 rfl (lv_at hl 1 rfl) ?_
            refine lv_iload_n hx hb dX8_sheet_39 rfl (lv_at hl 2 rfl) ?_
            obtain ⟨h9, hf⟩ := gd_el hf
            refine ia_st hx hb hK hP hD hS 1 0 rfl rfl (ib_in h9) (j := (tn x1)) rfl dX8_sheet_40 (fun H locs hP hD hS => ?_)
            have hP : va_P (dC, dI) vwCl [(a0, .inr (8, [.ref a1, .ref a2, .int v_acts, .ref a3, .ref a4, .int v_keptActs, .ref a5, .int v_typed, .ref a6, .ref a7, .ref a8, .ref a9, .ref a10, .int v_isSet, .ref a11, .ref a12, .ref a13, .int v_arePages, .ref a14, .ref a15, .int v_place, .ref a16, .int v_readMany])), (a6, .inl (cI, 4, .inl (upd v_lanes (tn x1) x2))), (a7, .inl (cI, 4, .inl v_sizes)), (a8, .inl (cJ, 96, .inr (.inl v_items)))] H := hP
            have hD : va_D A [(a0, .inr (8, [.ref a1, .ref a2, .int v_acts, .ref a3, .ref a4, .int v_keptActs, .ref a5, .int v_typed, .ref a6, .ref a7, .ref a8, .ref a9, .ref a10, .int v_isSet, .ref a11, .ref a12, .ref a13, .int v_arePages, .ref a14, .ref a15, .int v_place, .ref a16, .int v_readMany])), (a6, .inl (cI, 4, .inl (upd v_lanes (tn x1) x2))), (a7, .inl (cI, 4, .inl v_sizes)), (a8, .inl (cJ, 96, .inr (.inl v_items)))] := hD
            refine lv_aload_n hx hb dX8_sheet_41 rfl (lv_at hl 0 rfl) ?_
            refine va_get (D := (dC, dI)) (ci := 8) (v := .ref a7) (C := RX8) (T := TX8) (N := 23) hx hb hT in_X8 hown hK hP 0 rfl rfl 9 (by decide) (hT _ q_fl_X8_32) (fun _ h9 => h9) rfl dX8_sheet_42 ?_
            refine lv_iload_n hx hb dX8_sheet_45 rfl (lv_at hl 1 rfl) ?_
            refine lv_iload_n hx hb dX8_sheet_46 rfl (lv_at hl 3 rfl) ?_
            obtain ⟨h10, hf⟩ := gd_el hf
            refine ia_st hx hb hK hP hD hS 2 0 rfl rfl (ib_in h10) (j := (tn x1)) rfl dX8_sheet_47 (fun H locs hP hD hS => ?_)
            have hP : va_P (dC, dI) vwCl [(a0, .inr (8, [.ref a1, .ref a2, .int v_acts, .ref a3, .ref a4, .int v_keptActs, .ref a5, .int v_typed, .ref a6, .ref a7, .ref a8, .ref a9, .ref a10, .int v_isSet, .ref a11, .ref a12, .ref a13, .int v_arePages, .ref a14, .ref a15, .int v_place, .ref a16, .int v_readMany])), (a6, .inl (cI, 4, .inl (upd v_lanes (tn x1) x2))), (a7, .inl (cI, 4, .inl (upd v_sizes (tn x1) x3))), (a8, .inl (cJ, 96, .inr (.inl v_items)))] H := hP
            have hD : va_D A [(a0, .inr (8, [.ref a1, .ref a2, .int v_acts, .ref a3, .ref a4, .int v_keptActs, .ref a5, .int v_typed, .ref a6, .ref a7, .ref a8, .ref a9, .ref a10, .int v_isSet, .ref a11, .ref a12, .ref a13, .int v_arePages, .ref a14, .ref a15, .int v_place, .ref a16, .int v_readMany])), (a6, .inl (cI, 4, .inl (upd v_lanes (tn x1) x2))), (a7, .inl (cI, 4, .inl (upd v_sizes (tn x1) x3))), (a8, .inl (cJ, 96, .inr (.inl v_items)))] := hD
            refine lv_iconst (v := 0) hx hb dX8_sheet_48 (by decide) ?_
            refine lv_istore (lv' := [(4, .int (0 : Int32)), (0, .ref a0), (1, .int x1), (2, .int x2), (3, .int x3)]) hx hb dX8_sheet_49 hl (by decide) rfl (fun ls hl => ?_)
            have hL51 : ∀ (rr : Int32 × (Nat → Int64)), (∀ (z_15 : Int32) (z_16 : (Nat → Int64)), rr = (z_15, z_16) → ∀ (H : Heap) (locs : List Loc) (ls : Array Slot), va_P (dC, dI) vwCl [(a0, .inr (8, [.ref a1, .ref a2, .int v_acts, .ref a3, .ref a4, .int v_keptActs, .ref a5, .int v_typed, .ref a6, .ref a7, .ref a8, .ref a9, .ref a10, .int v_isSet, .ref a11, .ref a12, .ref a13, .int v_arePages, .ref a14, .ref a15, .int v_place, .ref a16, .int v_readMany])), (a6, .inl (cI, 4, .inl (upd v_lanes (tn x1) x2))), (a7, .inl (cI, 4, .inl (upd v_sizes (tn x1) x3))), (a8, .inl (cJ, 96, .inr (.inl z_16)))] H → va_D A [(a0, .inr (8, [.ref a1, .ref a2, .int v_acts, .ref a3, .ref a4, .int v_keptActs, .ref a5, .int v_typed, .ref a6, .ref a7, .ref a8, .ref a9, .ref a10, .int v_isSet, .ref a11, .ref a12, .ref a13, .int v_arePages, .ref a14, .ref a15, .int v_place, .ref a16, .int v_readMany])), (a6, .inl (cI, 4, .inl (upd v_lanes (tn x1) x2))), (a7, .inl (cI, 4, .inl (upd v_sizes (tn x1) x3))), (a8, .inl (cJ, 96, .inr (.inl z_16)))] → va_S A s.heap H locs → lv_has ls 5 [(3, .int x3)] → W p l e ({ frames := 2, cells := 0, slots := 0, locals := 45 } : Room) s m args below meth c H locs 0 0 Q (F0 m 77 ls [])) → ∀ (n : Nat) (i4_11 : Int32) (v_items_12 : (Nat → Int64)), loopN (p_X8_sheet_L51 x1) n (i4_11, v_items_12) = some rr → ∀ (H : Heap) (locs : List Loc) (ls : Array Slot), va_P (dC, dI) vwCl [(a0, .inr (8, [.ref a1, .ref a2, .int v_acts, .ref a3, .ref a4, .int v_keptActs, .ref a5, .int v_typed, .ref a6, .ref a7, .ref a8, .ref a9, .ref a10, .int v_isSet, .ref a11, .ref a12, .ref a13, .int v_arePages, .ref a14, .ref a15, .int v_place, .ref a16, .int v_readMany])), (a6, .inl (cI, 4, .inl (upd v_lanes (tn x1) x2))), (a7, .inl (cI, 4, .inl (upd v_sizes (tn x1) x3))), (a8, .inl (cJ, 96, .inr (.inl v_items_12)))] H → va_D A [(a0, .inr (8, [.ref a1, .ref a2, .int v_acts, .ref a3, .ref a4, .int v_keptActs, .ref a5, .int v_typed, .ref a6, .ref a7, .ref a8, .ref a9, .ref a10, .int v_isSet, .ref a11, .ref a12, .ref a13, .int v_arePages, .ref a14, .ref a15, .int v_place, .ref a16, .int v_readMany])), (a6, .inl (cI, 4, .inl (upd v_lanes (tn x1) x2))), (a7, .inl (cI, 4, .inl (upd v_sizes (tn x1) x3))), (a8, .inl (cJ, 96, .inr (.inl v_items_12)))] → va_S A s.heap H locs → lv_has ls 5 [(0, .ref a0), (1, .int x1), (3, .int x3), (4, .int i4_11)] → W p l e ({ frames := 2, cells := 0, slots := 0, locals := 45 } : Room) s m args below meth c H locs 0 0 Q (F0 m 51 ls []) := by
              intro rr hk51 n
              induction n with
              | zero => intro i4_11 v_items_12 hf; cases hf
              | succ n ih51 =>
                intro i4_11 v_items_12 hf H locs ls hP hD hS hl
                obtain ⟨o51, hf, hi, he⟩ := loopN_el hf
                refine lv_iload hx hb dX8_sheet_51 (lv_at hl 3 rfl) ?_
                refine lv_bipush (v := 24) hx hb dX8_sheet_53 (by decide) ?_
                refine lv_icmp_ge (tgt := 77) hx hb dX8_sheet_55 (by decide) (fun c13 => ?_) (fun c13 => ?_)
                · replace hf := it_t c13 hf
                  exact hk51 _ _ (he _ (Option.some.inj hf).symm).symm H locs ls hP hD hS (lv_sub hl [2] rfl)
                · replace hf := it_f c13 hf
                  refine lv_aload_n hx hb dX8_sheet_58 rfl (lv_at hl 0 rfl) ?_
                  refine va_get (D := (dC, dI)) (ci := 8) (v := .ref a8) (C := RX8) (T := TX8) (N := 23) hx hb hT in_X8 hown hK hP 0 rfl rfl 10 (by decide) (hT _ q_fl_X8_35) (fun _ h9 => h9) rfl dX8_sheet_59 ?_
                  refine lv_bipush (v := 24) hx hb dX8_sheet_62 (by decide) ?_
                  refine lv_iload_n hx hb dX8_sheet_64 rfl (lv_at hl 1 rfl) ?_
                  refine lv_imul hx hb dX8_sheet_65 ?_
                  refine lv_iload hx hb dX8_sheet_66 (lv_at hl 3 rfl) ?_
                  refine lv_iadd hx hb dX8_sheet_68 ?_
                  refine lv_lconst (v := 0) hx hb dX8_sheet_69 (by decide) ?_
                  obtain ⟨h14, hf⟩ := gd_el hf
                  refine la_st hx hb hK hP hD hS 3 1 rfl rfl (ib_in h14) (j := (tn (((24 : Int32) * x1) + i4_11))) rfl dX8_sheet_70 (fun H locs hP hD hS => ?_)
                  have hP : va_P (dC, dI) vwCl [(a0, .inr (8, [.ref a1, .ref a2, .int v_acts, .ref a3, .ref a4, .int v_keptActs, .ref a5, .int v_typed, .ref a6, .ref a7, .ref a8, .ref a9, .ref a10, .int v_isSet, .ref a11, .ref a12, .ref a13, .int v_arePages, .ref a14, .ref a15, .int v_place, .ref a16, .int v_readMany])), (a6, .inl (cI, 4, .inl (upd v_lanes (tn x1) x2))), (a7, .inl (cI, 4, .inl (upd v_sizes (tn x1) x3))), (a8, .inl (cJ, 96, .inr (.inl (vp_updL v_items_12 (tn (((24 : Int32) * x1) + i4_11)) (0 : Int64)))))] H := hP
                  have hD : va_D A [(a0, .inr (8, [.ref a1, .ref a2, .int v_acts, .ref a3, .ref a4, .int v_keptActs, .ref a5, .int v_typed, .ref a6, .ref a7, .ref a8, .ref a9, .ref a10, .int v_isSet, .ref a11, .ref a12, .ref a13, .int v_arePages, .ref a14, .ref a15, .int v_place, .ref a16, .int v_readMany])), (a6, .inl (cI, 4, .inl (upd v_lanes (tn x1) x2))), (a7, .inl (cI, 4, .inl (upd v_sizes (tn x1) x3))), (a8, .inl (cJ, 96, .inr (.inl (vp_updL v_items_12 (tn (((24 : Int32) * x1) + i4_11)) (0 : Int64)))))] := hD
                  refine lv_iinc (v := (i4_11 + (1 : Int32))) (lv' := [(4, .int (i4_11 + (1 : Int32))), (0, .ref a0), (1, .int x1), (3, .int x3)]) hx hb dX8_sheet_71 hl (k := 3) rfl rfl (by decide) rfl (fun ls hl => ?_)
                  refine lv_goto (tgt := 51) hx hb dX8_sheet_74 (by decide) ?_
                  exact ih51 (i4_11 + (1 : Int32)) (vp_updL v_items_12 (tn (((24 : Int32) * x1) + i4_11)) (0 : Int64)) (hi _ (Option.some.inj hf).symm) H locs ls hP hD hS (lv_sub hl [1, 2, 3, 0] rfl)
            obtain ⟨f4_17, v_items_18, hq, hf⟩ := bd2_el hf
            refine hL51 (f4_17, v_items_18) (fun z_15 z_16 h9 H locs ls hP hD hS hl => ?_) fuel (0 : Int32) v_items hq H locs ls hP hD hS (lv_sub hl [1, 2, 4, 0] rfl)
            simp only [Prod.mk.injEq] at h9
            obtain ⟨h9_0, h9_1⟩ := h9
            subst h9_0; subst h9_1
            refine lv_iload_n hx hb dX8_sheet_77 rfl (lv_at hl 0 rfl) ?_
            replace hf := Option.some.inj hf
            simp only [Prod.mk.injEq] at hf
            obtain ⟨hf0, hf1, hf2, hf3⟩ := hf
            subst hf0; subst hf1; subst hf2; subst hf3
            exact hret H locs ls _ dX8_sheet_78 hP hD hS
          · replace hf := it_f c8 hf
            refine lv_bipush (v := (-14)) hx hb dX8_sheet_31 (by decide) ?_
            replace hf := Option.some.inj hf
            simp only [Prod.mk.injEq] at hf
            obtain ⟨hf0, hf1, hf2, hf3⟩ := hf
            subst hf0; subst hf1; subst hf2; subst hf3
            exact hret H locs ls _ dX8_sheet_33 hP hD hS
        · replace hf := it_f c7 hf
          refine lv_iconst (v := (-1)) hx hb dX8_sheet_25 (by decide) ?_
          replace hf := Option.some.inj hf
          simp only [Prod.mk.injEq] at hf
          obtain ⟨hf0, hf1, hf2, hf3⟩ := hf
          subst hf0; subst hf1; subst hf2; subst hf3
          exact hret H locs ls _ dX8_sheet_26 hP hD hS
  refine key _ ?_ _ _ _ hP hD hS hl
  intro H locs ls pc d hP hD hS
  exact W.iret (v := rv) hx hb hr (fun t ht hW => ⟨⟨rfl, by rw [ht]; exact hP, hD⟩, hS.F ht⟩) hS.2.2 d
def p_X8_lift (v_lanes : (Nat → Int32)) (v_sizes : (Nat → Int32)) (x1 : Int32) : Option (Int32 × (Nat → Int32)) :=
  (bd1 (p_X8_isSheet x1) fun r_1 => (if r_1 = (0 : Int32) then (some ((-1 : Int32), v_lanes)) else (gd (ib x1 4) (if (0 : Int32) ≤ (v_lanes (tn x1)) then (gd (ib x1 4) (gd (ib x1 4) (some ((v_sizes (tn x1)), (upd v_lanes (tn x1) (-1 : Int32)))))) else (some ((-11 : Int32), v_lanes))))))
set_option maxHeartbeats 4000000 in
set_option maxRecDepth 100000 in
theorem c_X8_lift (l : Launch) (dC : Nat → ClassId) (dI : Nat → Nat → Nat) (cI cJ cP cS : ClassId) (a0 : Nat) (a1 : Nat) (a2 : Nat) (a3 : Nat) (a4 : Nat) (a5 : Nat) (a6 : Nat) (a7 : Nat) (a8 : Nat) (a9 : Nat) (a10 : Nat) (a11 : Nat) (a12 : Nat) (a13 : Nat) (a14 : Nat) (a15 : Nat) (a16 : Nat) (v_acts : Int32) (v_keptActs : Int32) (v_typed : Int32) (v_isSet : Int32) (v_arePages : Int32) (v_place : Int32) (v_readMany : Int32) (v_lanes : (Nat → Int32)) (v_sizes : (Nat → Int32))  (x1 : Int32) (rv : Int32) (v_lanes_o : (Nat → Int32)) (hf : p_X8_lift v_lanes v_sizes x1 = some (rv, v_lanes_o)) : MC l (dC, dI) (tyl cI cJ cP cS) yX8_lift (Cond.code yX8_lift cX8_lift 2 (some .int) :: TBG) ({ frames := 2, cells := 0, slots := 0, locals := 45 } : Room) [.ref a0, .int x1] [(a0, .inr (8, [.ref a1, .ref a2, .int v_acts, .ref a3, .ref a4, .int v_keptActs, .ref a5, .int v_typed, .ref a6, .ref a7, .ref a8, .ref a9, .ref a10, .int v_isSet, .ref a11, .ref a12, .ref a13, .int v_arePages, .ref a14, .ref a15, .int v_place, .ref a16, .int v_readMany])), (a6, .inl (cI, 4, .inl v_lanes)), (a7, .inl (cI, 4, .inl v_sizes))] [(a0, .inr (8, [.ref a1, .ref a2, .int v_acts, .ref a3, .ref a4, .int v_keptActs, .ref a5, .int v_typed, .ref a6, .ref a7, .ref a8, .ref a9, .ref a10, .int v_isSet, .ref a11, .ref a12, .ref a13, .int v_arePages, .ref a14, .ref a15, .int v_place, .ref a16, .int v_readMany])), (a6, .inl (cI, 4, .inl v_lanes_o)), (a7, .inl (cI, 4, .inl v_sizes))] (some (.int rv)) := by
  intro sz
  unfold MPost
  refine Met.ofW (cc := cX8_lift) (maxL := 2) (ret := (some .int)) (by decide) rfl ?_
  intro p e s m args below meth c s₁ B hml hv
  obtain ⟨rfl, hsz, hP, hK, hD0, hF⟩ := hv
  have hx := B.exec
  have hb := B.bytes
  have hr := B.returns
  have hT : ∀ w ∈ TBG, w.before _ s = true := fun w h => atoms_spec B.pre w (List.mem_cons_of_mem _ h)
  have hown : s.vm.findClass RX8 = some m.cls := findClass_of_methodNamed B.named
  have hlocks := B.notSynchronized
  subst hsz
  have hD := hD0.self (sz := s.heap.size)
  generalize hAe : va_A [(a0, .inr (8, [.ref a1, .ref a2, .int v_acts, .ref a3, .ref a4, .int v_keptActs, .ref a5, .int v_typed, .ref a6, .ref a7, .ref a8, .ref a9, .ref a10, .int v_isSet, .ref a11, .ref a12, .ref a13, .int v_arePages, .ref a14, .ref a15, .int v_place, .ref a16, .int v_readMany])), (a6, .inl (cI, 4, .inl v_lanes)), (a7, .inl (cI, 4, .inl v_sizes))] s.heap.size = A at hD hF ⊢
  have hA : ∀ q : Nat, s.heap.size ≤ q → A q := fun q h => by rw [← hAe]; exact Or.inr h
  have hS : va_S A s.heap s.heap [] := va_S.rf
  have hl := lv_entry ([.ref a0, .int x1]) (n := 2) (Nat.le_of_ble_eq_true rfl)
  rw [lg_entry_eq]
  generalize (lg_sl ([.ref a0, .int x1]) ++ List.replicate (2 - (lg_sl ([.ref a0, .int x1])).length) Slot.unset).toArray = ls at hl ⊢
  have hl : lv_has ls 2 [(0, .ref a0), (1, .int x1)] := hl
  generalize ([.ref a0, .int x1] : List Value).toArray = args at hT ⊢
  have key : ∀ (Q : State → Prop), (∀ (H : Heap) (locs : List Loc) (ls : Array Slot) (pc : Nat), decode cX8_lift pc = .ok (.ireturn, 1) → va_P (dC, dI) vwCl [(a0, .inr (8, [.ref a1, .ref a2, .int v_acts, .ref a3, .ref a4, .int v_keptActs, .ref a5, .int v_typed, .ref a6, .ref a7, .ref a8, .ref a9, .ref a10, .int v_isSet, .ref a11, .ref a12, .ref a13, .int v_arePages, .ref a14, .ref a15, .int v_place, .ref a16, .int v_readMany])), (a6, .inl (cI, 4, .inl v_lanes_o)), (a7, .inl (cI, 4, .inl v_sizes))] H → va_D A [(a0, .inr (8, [.ref a1, .ref a2, .int v_acts, .ref a3, .ref a4, .int v_keptActs, .ref a5, .int v_typed, .ref a6, .ref a7, .ref a8, .ref a9, .ref a10, .int v_isSet, .ref a11, .ref a12, .ref a13, .int v_arePages, .ref a14, .ref a15, .int v_place, .ref a16, .int v_readMany])), (a6, .inl (cI, 4, .inl v_lanes_o)), (a7, .inl (cI, 4, .inl v_sizes))] → va_S A s.heap H locs → W p l e ({ frames := 2, cells := 0, slots := 0, locals := 45 } : Room) s m args below meth c H locs 0 0 Q (F0 m pc ls [.int rv])) → ∀ (H : Heap) (locs : List Loc) (ls : Array Slot), va_P (dC, dI) vwCl [(a0, .inr (8, [.ref a1, .ref a2, .int v_acts, .ref a3, .ref a4, .int v_keptActs, .ref a5, .int v_typed, .ref a6, .ref a7, .ref a8, .ref a9, .ref a10, .int v_isSet, .ref a11, .ref a12, .ref a13, .int v_arePages, .ref a14, .ref a15, .int v_place, .ref a16, .int v_readMany])), (a6, .inl (cI, 4, .inl v_lanes)), (a7, .inl (cI, 4, .inl v_sizes))] H → va_D A [(a0, .inr (8, [.ref a1, .ref a2, .int v_acts, .ref a3, .ref a4, .int v_keptActs, .ref a5, .int v_typed, .ref a6, .ref a7, .ref a8, .ref a9, .ref a10, .int v_isSet, .ref a11, .ref a12, .ref a13, .int v_arePages, .ref a14, .ref a15, .int v_place, .ref a16, .int v_readMany])), (a6, .inl (cI, 4, .inl v_lanes)), (a7, .inl (cI, 4, .inl v_sizes))] → va_S A s.heap H locs → lv_has ls 2 [(0, .ref a0), (1, .int x1)] → W p l e ({ frames := 2, cells := 0, slots := 0, locals := 45 } : Room) s m args below meth c H locs 0 0 Q (F0 m 0 ls []) := by
    intro Q hret H locs ls hP hD hS hl
    refine lv_iload_n hx hb dX8_lift_0 rfl (lv_at hl 1 rfl) ?_
    obtain ⟨r_1, hq2, hf⟩ := bd1_el hf
    refine mc_S (As := [.int x1]) (rest := []) (wr := [(a0, .inr (8, [.ref a1, .ref a2, .int v_acts, .ref a3, .ref a4, .int v_keptActs, .ref a5, .int v_typed, .ref a6, .ref a7, .ref a8, .ref a9, .ref a10, .int v_isSet, .ref a11, .ref a12, .ref a13, .int v_arePages, .ref a14, .ref a15, .int v_place, .ref a16, .int v_readMany])), (a6, .inl (cI, 4, .inl v_lanes)), (a7, .inl (cI, 4, .inl v_sizes))]) (wn := [(a0, .inr (8, [.ref a1, .ref a2, .int v_acts, .ref a3, .ref a4, .int v_keptActs, .ref a5, .int v_typed, .ref a6, .ref a7, .ref a8, .ref a9, .ref a10, .int v_isSet, .ref a11, .ref a12, .ref a13, .int v_arePages, .ref a14, .ref a15, .int v_place, .ref a16, .int v_readMany])), (a6, .inl (cI, 4, .inl v_lanes)), (a7, .inl (cI, 4, .inl v_sizes))]) ⟨hx, hb, hml, hown, hT⟩ (c_X8_isSheet l dC dI cI cJ cP cS x1 r_1 hq2) (va_cwS 1 hT (gdS q_ml_X8_272 q_st_X8_isSheet q_in_X8 q_co_X8_isSheet) rfl rfl rfl hd_X8_isSheet ⟨Nat.le_of_ble_eq_true rfl, Nat.le_of_ble_eq_true rfl⟩) hK hF hP hD hS hA [] [0, 1, 2] [0, 1, 2] rfl (by decide) rfl (by decide) (by decide) rfl (by decide) rfl hl.1 rfl (Nat.le_of_ble_eq_true rfl) dX8_lift_1 ⟨Nat.zero_le _, Nat.zero_le _⟩ (fun H locs hP hD hS => ?_)
    refine W.eq (g2 := F0 m 4 ls [.int r_1]) rfl ?_
    refine lv_if_ne (tgt := 9) hx hb dX8_lift_4 (by decide) (fun c3 => ?_) (fun c3 => ?_)
    · replace hf := it_f c3 hf
      refine lv_aload_n hx hb dX8_lift_9 rfl (lv_at hl 0 rfl) ?_
      refine va_get (D := (dC, dI)) (ci := 8) (v := .ref a6) (C := RX8) (T := TX8) (N := 23) hx hb hT in_X8 hown hK hP 0 rfl rfl 8 (by decide) (hT _ q_fl_X8_29) (fun _ h9 => h9) rfl dX8_lift_10 ?_
      refine lv_iload_n hx hb dX8_lift_13 rfl (lv_at hl 1 rfl) ?_
      obtain ⟨h4, hf⟩ := gd_el hf
      refine ia_ld hx hb hK hP 1 0 rfl rfl (ib_in h4) (j := (tn x1)) rfl dX8_lift_14 ?_
      refine lv_if_ge (tgt := 21) hx hb dX8_lift_15 (by decide) (fun c5 => ?_) (fun c5 => ?_)
      · replace hf := it_t c5 hf
        refine lv_aload_n hx hb dX8_lift_21 rfl (lv_at hl 0 rfl) ?_
        refine va_get (D := (dC, dI)) (ci := 8) (v := .ref a6) (C := RX8) (T := TX8) (N := 23) hx hb hT in_X8 hown hK hP 0 rfl rfl 8 (by decide) (hT _ q_fl_X8_29) (fun _ h9 => h9) rfl dX8_lift_22 ?_
        refine lv_iload_n hx hb dX8_lift_25 rfl (lv_at hl 1 rfl) ?_
        refine lv_iconst (v := (-1)) hx hb dX8_lift_26 (by decide) ?_
        obtain ⟨h6, hf⟩ := gd_el hf
        refine ia_st hx hb hK hP hD hS 1 0 rfl rfl (ib_in h6) (j := (tn x1)) rfl dX8_lift_27 (fun H locs hP hD hS => ?_)
        have hP : va_P (dC, dI) vwCl [(a0, .inr (8, [.ref a1, .ref a2, .int v_acts, .ref a3, .ref a4, .int v_keptActs, .ref a5, .int v_typed, .ref a6, .ref a7, .ref a8, .ref a9, .ref a10, .int v_isSet, .ref a11, .ref a12, .ref a13, .int v_arePages, .ref a14, .ref a15, .int v_place, .ref a16, .int v_readMany])), (a6, .inl (cI, 4, .inl (upd v_lanes (tn x1) (-1 : Int32)))), (a7, .inl (cI, 4, .inl v_sizes))] H := hP
        have hD : va_D A [(a0, .inr (8, [.ref a1, .ref a2, .int v_acts, .ref a3, .ref a4, .int v_keptActs, .ref a5, .int v_typed, .ref a6, .ref a7, .ref a8, .ref a9, .ref a10, .int v_isSet, .ref a11, .ref a12, .ref a13, .int v_arePages, .ref a14, .ref a15, .int v_place, .ref a16, .int v_readMany])), (a6, .inl (cI, 4, .inl (upd v_lanes (tn x1) (-1 : Int32)))), (a7, .inl (cI, 4, .inl v_sizes))] := hD
        refine lv_aload_n hx hb dX8_lift_28 rfl (lv_at hl 0 rfl) ?_
        refine va_get (D := (dC, dI)) (ci := 8) (v := .ref a7) (C := RX8) (T := TX8) (N := 23) hx hb hT in_X8 hown hK hP 0 rfl rfl 9 (by decide) (hT _ q_fl_X8_32) (fun _ h9 => h9) rfl dX8_lift_29 ?_
        refine lv_iload_n hx hb dX8_lift_32 rfl (lv_at hl 1 rfl) ?_
        obtain ⟨h7, hf⟩ := gd_el hf
        refine ia_ld hx hb hK hP 2 0 rfl rfl (ib_in h7) (j := (tn x1)) rfl dX8_lift_33 ?_
        replace hf := Option.some.inj hf
        simp only [Prod.mk.injEq] at hf
        obtain ⟨hf0, hf1⟩ := hf
        subst hf0; subst hf1
        exact hret H locs ls _ dX8_lift_34 hP hD hS
      · replace hf := it_f c5 hf
        refine lv_bipush (v := (-11)) hx hb dX8_lift_18 (by decide) ?_
        replace hf := Option.some.inj hf
        simp only [Prod.mk.injEq] at hf
        obtain ⟨hf0, hf1⟩ := hf
        subst hf0; subst hf1
        exact hret H locs ls _ dX8_lift_20 hP hD hS
    · replace hf := it_t c3 hf
      refine lv_iconst (v := (-1)) hx hb dX8_lift_7 (by decide) ?_
      replace hf := Option.some.inj hf
      simp only [Prod.mk.injEq] at hf
      obtain ⟨hf0, hf1⟩ := hf
      subst hf0; subst hf1
      exact hret H locs ls _ dX8_lift_8 hP hD hS
  refine key _ ?_ _ _ _ hP hD hS hl
  intro H locs ls pc d hP hD hS
  exact W.iret (v := rv) hx hb hr (fun t ht hW => ⟨⟨rfl, by rw [ht]; exact hP, hD⟩, hS.F ht⟩) hS.2.2 d
def p_X8_item (v_lanes : (Nat → Int32)) (v_sizes : (Nat → Int32)) (v_items : (Nat → Int64)) (x1 : Int32) (x2 : Int32) (x3 : Int32) (x4 : Int64) : Option (Int32 × (Nat → Int64)) :=
  (bd1 (p_X8_isSheet x1) fun r_1 => (if r_1 = (0 : Int32) then (some ((-1 : Int32), v_items)) else (bd1 (p_X8_in (Int32.toInt64 x2) (0 : Int64) (3 : Int64)) fun r_4 => (if r_4 = (0 : Int32) then (some ((-1 : Int32), v_items)) else (bd1 (p_X8_found v_lanes v_sizes x1 x2 x3 (1 : Int32)) fun r_7 => (if (0 : Int32) ≤ r_7 then (bd1 (p_X8_cut x2 x4) fun r_10 => (gd (ib (((24 : Int32) * x1) + x3) 96) (some ((1 : Int32), (vp_updL v_items (tn (((24 : Int32) * x1) + x3)) r_10))))) else (some (r_7, v_items))))))))
set_option maxHeartbeats 4000000 in
set_option maxRecDepth 100000 in
theorem c_X8_item (l : Launch) (dC : Nat → ClassId) (dI : Nat → Nat → Nat) (cI cJ cP cS : ClassId) (a0 : Nat) (a1 : Nat) (a2 : Nat) (a3 : Nat) (a4 : Nat) (a5 : Nat) (a6 : Nat) (a7 : Nat) (a8 : Nat) (a9 : Nat) (a10 : Nat) (a11 : Nat) (a12 : Nat) (a13 : Nat) (a14 : Nat) (a15 : Nat) (a16 : Nat) (v_acts : Int32) (v_keptActs : Int32) (v_typed : Int32) (v_isSet : Int32) (v_arePages : Int32) (v_place : Int32) (v_readMany : Int32) (v_lanes : (Nat → Int32)) (v_sizes : (Nat → Int32)) (v_items : (Nat → Int64))  (x1 : Int32) (x2 : Int32) (x3 : Int32) (x4 : Int64) (rv : Int32) (v_items_o : (Nat → Int64)) (hf : p_X8_item v_lanes v_sizes v_items x1 x2 x3 x4 = some (rv, v_items_o)) : MC l (dC, dI) (tyl cI cJ cP cS) yX8_item (Cond.code yX8_item cX8_item 7 (some .int) :: TBG) ({ frames := 2, cells := 0, slots := 0, locals := 45 } : Room) [.ref a0, .int x1, .int x2, .int x3, .long x4] [(a0, .inr (8, [.ref a1, .ref a2, .int v_acts, .ref a3, .ref a4, .int v_keptActs, .ref a5, .int v_typed, .ref a6, .ref a7, .ref a8, .ref a9, .ref a10, .int v_isSet, .ref a11, .ref a12, .ref a13, .int v_arePages, .ref a14, .ref a15, .int v_place, .ref a16, .int v_readMany])), (a6, .inl (cI, 4, .inl v_lanes)), (a7, .inl (cI, 4, .inl v_sizes)), (a8, .inl (cJ, 96, .inr (.inl v_items)))] [(a0, .inr (8, [.ref a1, .ref a2, .int v_acts, .ref a3, .ref a4, .int v_keptActs, .ref a5, .int v_typed, .ref a6, .ref a7, .ref a8, .ref a9, .ref a10, .int v_isSet, .ref a11, .ref a12, .ref a13, .int v_arePages, .ref a14, .ref a15, .int v_place, .ref a16, .int v_readMany])), (a6, .inl (cI, 4, .inl v_lanes)), (a7, .inl (cI, 4, .inl v_sizes)), (a8, .inl (cJ, 96, .inr (.inl v_items_o)))] (some (.int rv)) := by
  intro sz
  unfold MPost
  refine Met.ofW (cc := cX8_item) (maxL := 7) (ret := (some .int)) (by decide) rfl ?_
  intro p e s m args below meth c s₁ B hml hv
  obtain ⟨rfl, hsz, hP, hK, hD0, hF⟩ := hv
  have hx := B.exec
  have hb := B.bytes
  have hr := B.returns
  have hT : ∀ w ∈ TBG, w.before _ s = true := fun w h => atoms_spec B.pre w (List.mem_cons_of_mem _ h)
  have hown : s.vm.findClass RX8 = some m.cls := findClass_of_methodNamed B.named
  have hlocks := B.notSynchronized
  subst hsz
  have hD := hD0.self (sz := s.heap.size)
  generalize hAe : va_A [(a0, .inr (8, [.ref a1, .ref a2, .int v_acts, .ref a3, .ref a4, .int v_keptActs, .ref a5, .int v_typed, .ref a6, .ref a7, .ref a8, .ref a9, .ref a10, .int v_isSet, .ref a11, .ref a12, .ref a13, .int v_arePages, .ref a14, .ref a15, .int v_place, .ref a16, .int v_readMany])), (a6, .inl (cI, 4, .inl v_lanes)), (a7, .inl (cI, 4, .inl v_sizes)), (a8, .inl (cJ, 96, .inr (.inl v_items)))] s.heap.size = A at hD hF ⊢
  have hA : ∀ q : Nat, s.heap.size ≤ q → A q := fun q h => by rw [← hAe]; exact Or.inr h
  have hS : va_S A s.heap s.heap [] := va_S.rf
  have hl := lv_entry ([.ref a0, .int x1, .int x2, .int x3, .long x4]) (n := 7) (Nat.le_of_ble_eq_true rfl)
  rw [lg_entry_eq]
  generalize (lg_sl ([.ref a0, .int x1, .int x2, .int x3, .long x4]) ++ List.replicate (7 - (lg_sl ([.ref a0, .int x1, .int x2, .int x3, .long x4])).length) Slot.unset).toArray = ls at hl ⊢
  have hl : lv_has ls 7 [(0, .ref a0), (1, .int x1), (2, .int x2), (3, .int x3), (4, .long x4)] := hl
  generalize ([.ref a0, .int x1, .int x2, .int x3, .long x4] : List Value).toArray = args at hT ⊢
  have key : ∀ (Q : State → Prop), (∀ (H : Heap) (locs : List Loc) (ls : Array Slot) (pc : Nat), decode cX8_item pc = .ok (.ireturn, 1) → va_P (dC, dI) vwCl [(a0, .inr (8, [.ref a1, .ref a2, .int v_acts, .ref a3, .ref a4, .int v_keptActs, .ref a5, .int v_typed, .ref a6, .ref a7, .ref a8, .ref a9, .ref a10, .int v_isSet, .ref a11, .ref a12, .ref a13, .int v_arePages, .ref a14, .ref a15, .int v_place, .ref a16, .int v_readMany])), (a6, .inl (cI, 4, .inl v_lanes)), (a7, .inl (cI, 4, .inl v_sizes)), (a8, .inl (cJ, 96, .inr (.inl v_items_o)))] H → va_D A [(a0, .inr (8, [.ref a1, .ref a2, .int v_acts, .ref a3, .ref a4, .int v_keptActs, .ref a5, .int v_typed, .ref a6, .ref a7, .ref a8, .ref a9, .ref a10, .int v_isSet, .ref a11, .ref a12, .ref a13, .int v_arePages, .ref a14, .ref a15, .int v_place, .ref a16, .int v_readMany])), (a6, .inl (cI, 4, .inl v_lanes)), (a7, .inl (cI, 4, .inl v_sizes)), (a8, .inl (cJ, 96, .inr (.inl v_items_o)))] → va_S A s.heap H locs → W p l e ({ frames := 2, cells := 0, slots := 0, locals := 45 } : Room) s m args below meth c H locs 0 0 Q (F0 m pc ls [.int rv])) → ∀ (H : Heap) (locs : List Loc) (ls : Array Slot), va_P (dC, dI) vwCl [(a0, .inr (8, [.ref a1, .ref a2, .int v_acts, .ref a3, .ref a4, .int v_keptActs, .ref a5, .int v_typed, .ref a6, .ref a7, .ref a8, .ref a9, .ref a10, .int v_isSet, .ref a11, .ref a12, .ref a13, .int v_arePages, .ref a14, .ref a15, .int v_place, .ref a16, .int v_readMany])), (a6, .inl (cI, 4, .inl v_lanes)), (a7, .inl (cI, 4, .inl v_sizes)), (a8, .inl (cJ, 96, .inr (.inl v_items)))] H → va_D A [(a0, .inr (8, [.ref a1, .ref a2, .int v_acts, .ref a3, .ref a4, .int v_keptActs, .ref a5, .int v_typed, .ref a6, .ref a7, .ref a8, .ref a9, .ref a10, .int v_isSet, .ref a11, .ref a12, .ref a13, .int v_arePages, .ref a14, .ref a15, .int v_place, .ref a16, .int v_readMany])), (a6, .inl (cI, 4, .inl v_lanes)), (a7, .inl (cI, 4, .inl v_sizes)), (a8, .inl (cJ, 96, .inr (.inl v_items)))] → va_S A s.heap H locs → lv_has ls 7 [(0, .ref a0), (1, .int x1), (2, .int x2), (3, .int x3), (4, .long x4)] → W p l e ({ frames := 2, cells := 0, slots := 0, locals := 45 } : Room) s m args below meth c H locs 0 0 Q (F0 m 0 ls []) := by
    intro Q hret H locs ls hP hD hS hl
    refine lv_iload_n hx hb dX8_item_0 rfl (lv_at hl 1 rfl) ?_
    obtain ⟨r_1, hq2, hf⟩ := bd1_el hf
    refine mc_S (As := [.int x1]) (rest := []) (wr := [(a0, .inr (8, [.ref a1, .ref a2, .int v_acts, .ref a3, .ref a4, .int v_keptActs, .ref a5, .int v_typed, .ref a6, .ref a7, .ref a8, .ref a9, .ref a10, .int v_isSet, .ref a11, .ref a12, .ref a13, .int v_arePages, .ref a14, .ref a15, .int v_place, .ref a16, .int v_readMany])), (a6, .inl (cI, 4, .inl v_lanes)), (a7, .inl (cI, 4, .inl v_sizes)), (a8, .inl (cJ, 96, .inr (.inl v_items)))]) (wn := [(a0, .inr (8, [.ref a1, .ref a2, .int v_acts, .ref a3, .ref a4, .int v_keptActs, .ref a5, .int v_typed, .ref a6, .ref a7, .ref a8, .ref a9, .ref a10, .int v_isSet, .ref a11, .ref a12, .ref a13, .int v_arePages, .ref a14, .ref a15, .int v_place, .ref a16, .int v_readMany])), (a6, .inl (cI, 4, .inl v_lanes)), (a7, .inl (cI, 4, .inl v_sizes)), (a8, .inl (cJ, 96, .inr (.inl v_items)))]) ⟨hx, hb, hml, hown, hT⟩ (c_X8_isSheet l dC dI cI cJ cP cS x1 r_1 hq2) (va_cwS 1 hT (gdS q_ml_X8_272 q_st_X8_isSheet q_in_X8 q_co_X8_isSheet) rfl rfl rfl hd_X8_isSheet ⟨Nat.le_of_ble_eq_true rfl, Nat.le_of_ble_eq_true rfl⟩) hK hF hP hD hS hA [] [0, 1, 2, 3] [0, 1, 2, 3] rfl (by decide) rfl (by decide) (by decide) rfl (by decide) rfl hl.1 rfl (Nat.le_of_ble_eq_true rfl) dX8_item_1 ⟨Nat.zero_le _, Nat.zero_le _⟩ (fun H locs hP hD hS => ?_)
    refine W.eq (g2 := F0 m 4 ls [.int r_1]) rfl ?_
    refine lv_if_eq (tgt := 19) hx hb dX8_item_4 (by decide) (fun c3 => ?_) (fun c3 => ?_)
    · replace hf := it_t c3 hf
      refine lv_iconst (v := (-1)) hx hb dX8_item_19 (by decide) ?_
      replace hf := Option.some.inj hf
      simp only [Prod.mk.injEq] at hf
      obtain ⟨hf0, hf1⟩ := hf
      subst hf0; subst hf1
      exact hret H locs ls _ dX8_item_20 hP hD hS
    · replace hf := it_f c3 hf
      refine lv_iload_n hx hb dX8_item_7 rfl (lv_at hl 2 rfl) ?_
      refine lv_i2l hx hb dX8_item_8 rfl ?_
      refine lv_lconst (v := 0) hx hb dX8_item_9 (by decide) ?_
      refine lv_ldc2 hx hb hown (hT _ q_kl_X8_150) dX8_item_10 ?_
      obtain ⟨r_4, hq5, hf⟩ := bd1_el hf
      refine mc_S (As := [.long (Int32.toInt64 x2), .long (0 : Int64), .long (3 : Int64)]) (rest := []) (wr := [(a0, .inr (8, [.ref a1, .ref a2, .int v_acts, .ref a3, .ref a4, .int v_keptActs, .ref a5, .int v_typed, .ref a6, .ref a7, .ref a8, .ref a9, .ref a10, .int v_isSet, .ref a11, .ref a12, .ref a13, .int v_arePages, .ref a14, .ref a15, .int v_place, .ref a16, .int v_readMany])), (a6, .inl (cI, 4, .inl v_lanes)), (a7, .inl (cI, 4, .inl v_sizes)), (a8, .inl (cJ, 96, .inr (.inl v_items)))]) (wn := [(a0, .inr (8, [.ref a1, .ref a2, .int v_acts, .ref a3, .ref a4, .int v_keptActs, .ref a5, .int v_typed, .ref a6, .ref a7, .ref a8, .ref a9, .ref a10, .int v_isSet, .ref a11, .ref a12, .ref a13, .int v_arePages, .ref a14, .ref a15, .int v_place, .ref a16, .int v_readMany])), (a6, .inl (cI, 4, .inl v_lanes)), (a7, .inl (cI, 4, .inl v_sizes)), (a8, .inl (cJ, 96, .inr (.inl v_items)))]) ⟨hx, hb, hml, hown, hT⟩ (c_X8_in l dC dI cI cJ cP cS (Int32.toInt64 x2) (0 : Int64) (3 : Int64) r_4 hq5) (va_cwS 3 hT (gdS q_ml_X8_63 q_st_X8_in q_in_X8 q_co_X8_in) rfl rfl rfl hd_X8_in ⟨Nat.le_of_ble_eq_true rfl, Nat.le_of_ble_eq_true rfl⟩) hK hF hP hD hS hA [] [0, 1, 2, 3] [0, 1, 2, 3] rfl (by decide) rfl (by decide) (by decide) rfl (by decide) rfl hl.1 rfl (Nat.le_of_ble_eq_true rfl) dX8_item_13 ⟨Nat.zero_le _, Nat.zero_le _⟩ (fun H locs hP hD hS => ?_)
      refine W.eq (g2 := F0 m 16 ls [.int r_4]) rfl ?_
      refine lv_if_ne (tgt := 21) hx hb dX8_item_16 (by decide) (fun c6 => ?_) (fun c6 => ?_)
      · replace hf := it_f c6 hf
        refine lv_aload_n hx hb dX8_item_21 rfl (lv_at hl 0 rfl) ?_
        refine lv_iload_n hx hb dX8_item_22 rfl (lv_at hl 1 rfl) ?_
        refine lv_iload_n hx hb dX8_item_23 rfl (lv_at hl 2 rfl) ?_
        refine lv_iload_n hx hb dX8_item_24 rfl (lv_at hl 3 rfl) ?_
        refine lv_iconst (v := 1) hx hb dX8_item_25 (by decide) ?_
        obtain ⟨r_7, hq8, hf⟩ := bd1_el hf
        refine mc_V (As := [.int x1, .int x2, .int x3, .int (1 : Int32)]) (rest := []) (wr := [(a8, .inl (cJ, 96, .inr (.inl v_items)))]) (wn := [(a0, .inr (8, [.ref a1, .ref a2, .int v_acts, .ref a3, .ref a4, .int v_keptActs, .ref a5, .int v_typed, .ref a6, .ref a7, .ref a8, .ref a9, .ref a10, .int v_isSet, .ref a11, .ref a12, .ref a13, .int v_arePages, .ref a14, .ref a15, .int v_place, .ref a16, .int v_readMany])), (a6, .inl (cI, 4, .inl v_lanes)), (a7, .inl (cI, 4, .inl v_sizes)), (a8, .inl (cJ, 96, .inr (.inl v_items)))]) ⟨hx, hb, hml, hown, hT⟩ (c_X8_found l dC dI cI cJ cP cS a0 a1 a2 a3 a4 a5 a6 a7 a8 a9 a10 a11 a12 a13 a14 a15 a16 v_acts v_keptActs v_typed v_isSet v_arePages v_place v_readMany v_lanes v_sizes x1 x2 x3 (1 : Int32) r_7 hq8) (cwV 4 hT (gdV q_ml_X8_277 q_im_X8_found q_se_X8_found q_in_X8 q_co_X8_found) rfl rfl rfl hd_X8_found ⟨Nat.le_of_ble_eq_true rfl, Nat.le_of_ble_eq_true rfl⟩) hK hF hP hD hS hA 0 rfl rfl rfl [0, 1, 2] [3] [1, 2, 3, 0] rfl (by decide) rfl (by decide) (by decide) rfl (by decide) rfl hl.1 rfl (Nat.le_of_ble_eq_true rfl) dX8_item_26 ⟨Nat.zero_le _, Nat.zero_le _⟩ (fun H locs hP hD hS => ?_)
        refine W.eq (g2 := F0 m 29 ls [.int r_7]) rfl ?_
        refine lv_istore (lv' := [(6, .int r_7), (0, .ref a0), (1, .int x1), (2, .int x2), (3, .int x3), (4, .long x4)]) hx hb dX8_item_29 hl (by decide) rfl (fun ls hl => ?_)
        refine lv_iload hx hb dX8_item_31 (lv_at hl 0 rfl) ?_
        refine lv_if_ge (tgt := 39) hx hb dX8_item_33 (by decide) (fun c9 => ?_) (fun c9 => ?_)
        · replace hf := it_t c9 hf
          refine lv_aload_n hx hb dX8_item_39 rfl (lv_at hl 1 rfl) ?_
          refine va_get (D := (dC, dI)) (ci := 8) (v := .ref a8) (C := RX8) (T := TX8) (N := 23) hx hb hT in_X8 hown hK hP 0 rfl rfl 10 (by decide) (hT _ q_fl_X8_35) (fun _ h9 => h9) rfl dX8_item_40 ?_
          refine lv_bipush (v := 24) hx hb dX8_item_43 (by decide) ?_
          refine lv_iload_n hx hb dX8_item_45 rfl (lv_at hl 2 rfl) ?_
          refine lv_imul hx hb dX8_item_46 ?_
          refine lv_iload_n hx hb dX8_item_47 rfl (lv_at hl 4 rfl) ?_
          refine lv_iadd hx hb dX8_item_48 ?_
          refine lv_iload_n hx hb dX8_item_49 rfl (lv_at hl 3 rfl) ?_
          refine lv_lload hx hb dX8_item_50 (lv_at hl 5 rfl) ?_
          obtain ⟨r_10, hq11, hf⟩ := bd1_el hf
          refine mc_S (As := [.int x2, .long x4]) (rest := [.int (((24 : Int32) * x1) + x3), .ref a8]) (wr := [(a0, .inr (8, [.ref a1, .ref a2, .int v_acts, .ref a3, .ref a4, .int v_keptActs, .ref a5, .int v_typed, .ref a6, .ref a7, .ref a8, .ref a9, .ref a10, .int v_isSet, .ref a11, .ref a12, .ref a13, .int v_arePages, .ref a14, .ref a15, .int v_place, .ref a16, .int v_readMany])), (a6, .inl (cI, 4, .inl v_lanes)), (a7, .inl (cI, 4, .inl v_sizes)), (a8, .inl (cJ, 96, .inr (.inl v_items)))]) (wn := [(a0, .inr (8, [.ref a1, .ref a2, .int v_acts, .ref a3, .ref a4, .int v_keptActs, .ref a5, .int v_typed, .ref a6, .ref a7, .ref a8, .ref a9, .ref a10, .int v_isSet, .ref a11, .ref a12, .ref a13, .int v_arePages, .ref a14, .ref a15, .int v_place, .ref a16, .int v_readMany])), (a6, .inl (cI, 4, .inl v_lanes)), (a7, .inl (cI, 4, .inl v_sizes)), (a8, .inl (cJ, 96, .inr (.inl v_items)))]) ⟨hx, hb, hml, hown, hT⟩ (c_X8_cut l dC dI cI cJ cP cS x2 x4 r_10 hq11) (va_cwS 2 hT (gdS q_ml_X8_281 q_st_X8_cut q_in_X8 q_co_X8_cut) rfl rfl rfl hd_X8_cut ⟨Nat.le_of_ble_eq_true rfl, Nat.le_of_ble_eq_true rfl⟩) hK hF hP hD hS hA [] [0, 1, 2, 3] [0, 1, 2, 3] rfl (by decide) rfl (by decide) (by decide) rfl (by decide) rfl hl.1 rfl (Nat.le_of_ble_eq_true rfl) dX8_item_52 ⟨Nat.zero_le _, Nat.zero_le _⟩ (fun H locs hP hD hS => ?_)
          refine W.eq (g2 := F0 m 55 ls [.long r_10, .int (((24 : Int32) * x1) + x3), .ref a8]) rfl ?_
          obtain ⟨h12, hf⟩ := gd_el hf
          refine la_st hx hb hK hP hD hS 3 1 rfl rfl (ib_in h12) (j := (tn (((24 : Int32) * x1) + x3))) rfl dX8_item_55 (fun H locs hP hD hS => ?_)
          have hP : va_P (dC, dI) vwCl [(a0, .inr (8, [.ref a1, .ref a2, .int v_acts, .ref a3, .ref a4, .int v_keptActs, .ref a5, .int v_typed, .ref a6, .ref a7, .ref a8, .ref a9, .ref a10, .int v_isSet, .ref a11, .ref a12, .ref a13, .int v_arePages, .ref a14, .ref a15, .int v_place, .ref a16, .int v_readMany])), (a6, .inl (cI, 4, .inl v_lanes)), (a7, .inl (cI, 4, .inl v_sizes)), (a8, .inl (cJ, 96, .inr (.inl (vp_updL v_items (tn (((24 : Int32) * x1) + x3)) r_10))))] H := hP
          have hD : va_D A [(a0, .inr (8, [.ref a1, .ref a2, .int v_acts, .ref a3, .ref a4, .int v_keptActs, .ref a5, .int v_typed, .ref a6, .ref a7, .ref a8, .ref a9, .ref a10, .int v_isSet, .ref a11, .ref a12, .ref a13, .int v_arePages, .ref a14, .ref a15, .int v_place, .ref a16, .int v_readMany])), (a6, .inl (cI, 4, .inl v_lanes)), (a7, .inl (cI, 4, .inl v_sizes)), (a8, .inl (cJ, 96, .inr (.inl (vp_updL v_items (tn (((24 : Int32) * x1) + x3)) r_10))))] := hD
          refine lv_iconst (v := 1) hx hb dX8_item_56 (by decide) ?_
          replace hf := Option.some.inj hf
          simp only [Prod.mk.injEq] at hf
          obtain ⟨hf0, hf1⟩ := hf
          subst hf0; subst hf1
          exact hret H locs ls _ dX8_item_57 hP hD hS
        · replace hf := it_f c9 hf
          refine lv_iload hx hb dX8_item_36 (lv_at hl 0 rfl) ?_
          replace hf := Option.some.inj hf
          simp only [Prod.mk.injEq] at hf
          obtain ⟨hf0, hf1⟩ := hf
          subst hf0; subst hf1
          exact hret H locs ls _ dX8_item_38 hP hD hS
      · replace hf := it_t c6 hf
        refine lv_iconst (v := (-1)) hx hb dX8_item_19 (by decide) ?_
        replace hf := Option.some.inj hf
        simp only [Prod.mk.injEq] at hf
        obtain ⟨hf0, hf1⟩ := hf
        subst hf0; subst hf1
        exact hret H locs ls _ dX8_item_20 hP hD hS
  refine key _ ?_ _ _ _ hP hD hS hl
  intro H locs ls pc d hP hD hS
  exact W.iret (v := rv) hx hb hr (fun t ht hW => ⟨⟨rfl, by rw [ht]; exact hP, hD⟩, hS.F ht⟩) hS.2.2 d
def p_X8_copy_L102 (v_items : (Nat → Int64)) (x1 : Int32) (x2 : Int32) (x5 : Int32) (s : Int32 × (Nat → Int64)) : Option ((Int32 × (Nat → Int64)) ⊕ (Int32 × (Nat → Int64))) := match s with
  | (i6_21, v_moved_22) => (if x5 ≤ i6_21 then (some (.inr (i6_21, v_moved_22))) else (gd (ib ((((24 : Int32) * x1) + x2) + i6_21) 96) (gd (ib i6_21 24) (some (.inl ((i6_21 + (1 : Int32)), (vp_updL v_moved_22 (tn i6_21) (v_items (tn ((((24 : Int32) * x1) + x2) + i6_21))))))))))
def p_X8_copy_L139 (x3 : Int32) (x4 : Int32) (x5 : Int32) (v_moved_29 : (Nat → Int64)) (s : Int32 × (Nat → Int64)) : Option ((Int32 × (Nat → Int64)) ⊕ (Int32 × (Nat → Int64))) := match s with
  | (i6_30, v_items_31) => (if x5 ≤ i6_30 then (some (.inr (i6_30, v_items_31))) else (gd (ib i6_30 24) (gd (ib ((((24 : Int32) * x3) + x4) + i6_30) 96) (some (.inl ((i6_30 + (1 : Int32)), (vp_updL v_items_31 (tn ((((24 : Int32) * x3) + x4) + i6_30)) (v_moved_29 (tn i6_30)))))))))
def p_X8_copy (v_lanes : (Nat → Int32)) (v_sizes : (Nat → Int32)) (v_items : (Nat → Int64)) (v_moved : (Nat → Int64)) (x1 : Int32) (x2 : Int32) (x3 : Int32) (x4 : Int32) (x5 : Int32) : Option (Int32 × (Nat → Int64) × (Nat → Int64)) :=
  (bd1 (p_X8_isSheet x1) fun r_1 => (if r_1 = (0 : Int32) then (some ((-1 : Int32), v_items, v_moved)) else (bd1 (p_X8_isSheet x3) fun r_4 => (if r_4 = (0 : Int32) then (some ((-1 : Int32), v_items, v_moved)) else (gd (ib x1 4) (if (v_lanes (tn x1)) < (0 : Int32) then (some ((-11 : Int32), v_items, v_moved)) else (gd (ib x3 4) (if (0 : Int32) ≤ (v_lanes (tn x3)) then (gd (ib x1 4) (gd (ib x3 4) (if (v_lanes (tn x1)) = (v_lanes (tn x3)) then (if x5 < (0 : Int32) then (some ((-13 : Int32), v_items, v_moved)) else (if x2 < (0 : Int32) then (some ((-13 : Int32), v_items, v_moved)) else (if x4 < (0 : Int32) then (some ((-13 : Int32), v_items, v_moved)) else (gd (ib x1 4) (if ((v_sizes (tn x1)) - x2) < x5 then (some ((-13 : Int32), v_items, v_moved)) else (gd (ib x3 4) (if x5 ≤ ((v_sizes (tn x3)) - x4) then (bd2 (loopN (p_X8_copy_L102 v_items x1 x2 x5) fuel ((0 : Int32), v_moved)) fun f6_28 v_moved_29 => (bd2 (loopN (p_X8_copy_L139 x3 x4 x5 v_moved_29) fuel ((0 : Int32), v_items)) fun f6_37 v_items_38 => (some (x5, v_items_38, v_moved_29)))) else (some ((-13 : Int32), v_items, v_moved))))))))) else (some ((-12 : Int32), v_items, v_moved))))) else (some ((-11 : Int32), v_items, v_moved))))))))))
set_option maxHeartbeats 4000000 in
set_option maxRecDepth 100000 in
theorem c_X8_copy (l : Launch) (dC : Nat → ClassId) (dI : Nat → Nat → Nat) (cI cJ cP cS : ClassId) (a0 : Nat) (a1 : Nat) (a2 : Nat) (a3 : Nat) (a4 : Nat) (a5 : Nat) (a6 : Nat) (a7 : Nat) (a8 : Nat) (a9 : Nat) (a10 : Nat) (a11 : Nat) (a12 : Nat) (a13 : Nat) (a14 : Nat) (a15 : Nat) (a16 : Nat) (v_acts : Int32) (v_keptActs : Int32) (v_typed : Int32) (v_isSet : Int32) (v_arePages : Int32) (v_place : Int32) (v_readMany : Int32) (v_lanes : (Nat → Int32)) (v_sizes : (Nat → Int32)) (v_items : (Nat → Int64)) (v_moved : (Nat → Int64))  (x1 : Int32) (x2 : Int32) (x3 : Int32) (x4 : Int32) (x5 : Int32) (rv : Int32) (v_items_o : (Nat → Int64)) (v_moved_o : (Nat → Int64)) (hf : p_X8_copy v_lanes v_sizes v_items v_moved x1 x2 x3 x4 x5 = some (rv, v_items_o, v_moved_o)) : MC l (dC, dI) (tyl cI cJ cP cS) yX8_copy (Cond.code yX8_copy cX8_copy 7 (some .int) :: TBG) ({ frames := 2, cells := 0, slots := 0, locals := 45 } : Room) [.ref a0, .int x1, .int x2, .int x3, .int x4, .int x5] [(a0, .inr (8, [.ref a1, .ref a2, .int v_acts, .ref a3, .ref a4, .int v_keptActs, .ref a5, .int v_typed, .ref a6, .ref a7, .ref a8, .ref a9, .ref a10, .int v_isSet, .ref a11, .ref a12, .ref a13, .int v_arePages, .ref a14, .ref a15, .int v_place, .ref a16, .int v_readMany])), (a6, .inl (cI, 4, .inl v_lanes)), (a7, .inl (cI, 4, .inl v_sizes)), (a8, .inl (cJ, 96, .inr (.inl v_items))), (a9, .inl (cJ, 24, .inr (.inl v_moved)))] [(a0, .inr (8, [.ref a1, .ref a2, .int v_acts, .ref a3, .ref a4, .int v_keptActs, .ref a5, .int v_typed, .ref a6, .ref a7, .ref a8, .ref a9, .ref a10, .int v_isSet, .ref a11, .ref a12, .ref a13, .int v_arePages, .ref a14, .ref a15, .int v_place, .ref a16, .int v_readMany])), (a6, .inl (cI, 4, .inl v_lanes)), (a7, .inl (cI, 4, .inl v_sizes)), (a8, .inl (cJ, 96, .inr (.inl v_items_o))), (a9, .inl (cJ, 24, .inr (.inl v_moved_o)))] (some (.int rv)) := by
  intro sz
  unfold MPost
  refine Met.ofW (cc := cX8_copy) (maxL := 7) (ret := (some .int)) (by decide) rfl ?_
  intro p e s m args below meth c s₁ B hml hv
  obtain ⟨rfl, hsz, hP, hK, hD0, hF⟩ := hv
  have hx := B.exec
  have hb := B.bytes
  have hr := B.returns
  have hT : ∀ w ∈ TBG, w.before _ s = true := fun w h => atoms_spec B.pre w (List.mem_cons_of_mem _ h)
  have hown : s.vm.findClass RX8 = some m.cls := findClass_of_methodNamed B.named
  have hlocks := B.notSynchronized
  subst hsz
  have hD := hD0.self (sz := s.heap.size)
  generalize hAe : va_A [(a0, .inr (8, [.ref a1, .ref a2, .int v_acts, .ref a3, .ref a4, .int v_keptActs, .ref a5, .int v_typed, .ref a6, .ref a7, .ref a8, .ref a9, .ref a10, .int v_isSet, .ref a11, .ref a12, .ref a13, .int v_arePages, .ref a14, .ref a15, .int v_place, .ref a16, .int v_readMany])), (a6, .inl (cI, 4, .inl v_lanes)), (a7, .inl (cI, 4, .inl v_sizes)), (a8, .inl (cJ, 96, .inr (.inl v_items))), (a9, .inl (cJ, 24, .inr (.inl v_moved)))] s.heap.size = A at hD hF ⊢
  have hA : ∀ q : Nat, s.heap.size ≤ q → A q := fun q h => by rw [← hAe]; exact Or.inr h
  have hS : va_S A s.heap s.heap [] := va_S.rf
  have hl := lv_entry ([.ref a0, .int x1, .int x2, .int x3, .int x4, .int x5]) (n := 7) (Nat.le_of_ble_eq_true rfl)
  rw [lg_entry_eq]
  generalize (lg_sl ([.ref a0, .int x1, .int x2, .int x3, .int x4, .int x5]) ++ List.replicate (7 - (lg_sl ([.ref a0, .int x1, .int x2, .int x3, .int x4, .int x5])).length) Slot.unset).toArray = ls at hl ⊢
  have hl : lv_has ls 7 [(0, .ref a0), (1, .int x1), (2, .int x2), (3, .int x3), (4, .int x4), (5, .int x5)] := hl
  generalize ([.ref a0, .int x1, .int x2, .int x3, .int x4, .int x5] : List Value).toArray = args at hT ⊢
  have key : ∀ (Q : State → Prop), (∀ (H : Heap) (locs : List Loc) (ls : Array Slot) (pc : Nat), decode cX8_copy pc = .ok (.ireturn, 1) → va_P (dC, dI) vwCl [(a0, .inr (8, [.ref a1, .ref a2, .int v_acts, .ref a3, .ref a4, .int v_keptActs, .ref a5, .int v_typed, .ref a6, .ref a7, .ref a8, .ref a9, .ref a10, .int v_isSet, .ref a11, .ref a12, .ref a13, .int v_arePages, .ref a14, .ref a15, .int v_place, .ref a16, .int v_readMany])), (a6, .inl (cI, 4, .inl v_lanes)), (a7, .inl (cI, 4, .inl v_sizes)), (a8, .inl (cJ, 96, .inr (.inl v_items_o))), (a9, .inl (cJ, 24, .inr (.inl v_moved_o)))] H → va_D A [(a0, .inr (8, [.ref a1, .ref a2, .int v_acts, .ref a3, .ref a4, .int v_keptActs, .ref a5, .int v_typed, .ref a6, .ref a7, .ref a8, .ref a9, .ref a10, .int v_isSet, .ref a11, .ref a12, .ref a13, .int v_arePages, .ref a14, .ref a15, .int v_place, .ref a16, .int v_readMany])), (a6, .inl (cI, 4, .inl v_lanes)), (a7, .inl (cI, 4, .inl v_sizes)), (a8, .inl (cJ, 96, .inr (.inl v_items_o))), (a9, .inl (cJ, 24, .inr (.inl v_moved_o)))] → va_S A s.heap H locs → W p l e ({ frames := 2, cells := 0, slots := 0, locals := 45 } : Room) s m args below meth c H locs 0 0 Q (F0 m pc ls [.int rv])) → ∀ (H : Heap) (locs : List Loc) (ls : Array Slot), va_P (dC, dI) vwCl [(a0, .inr (8, [.ref a1, .ref a2, .int v_acts, .ref a3, .ref a4, .int v_keptActs, .ref a5, .int v_typed, .ref a6, .ref a7, .ref a8, .ref a9, .ref a10, .int v_isSet, .ref a11, .ref a12, .ref a13, .int v_arePages, .ref a14, .ref a15, .int v_place, .ref a16, .int v_readMany])), (a6, .inl (cI, 4, .inl v_lanes)), (a7, .inl (cI, 4, .inl v_sizes)), (a8, .inl (cJ, 96, .inr (.inl v_items))), (a9, .inl (cJ, 24, .inr (.inl v_moved)))] H → va_D A [(a0, .inr (8, [.ref a1, .ref a2, .int v_acts, .ref a3, .ref a4, .int v_keptActs, .ref a5, .int v_typed, .ref a6, .ref a7, .ref a8, .ref a9, .ref a10, .int v_isSet, .ref a11, .ref a12, .ref a13, .int v_arePages, .ref a14, .ref a15, .int v_place, .ref a16, .int v_readMany])), (a6, .inl (cI, 4, .inl v_lanes)), (a7, .inl (cI, 4, .inl v_sizes)), (a8, .inl (cJ, 96, .inr (.inl v_items))), (a9, .inl (cJ, 24, .inr (.inl v_moved)))] → va_S A s.heap H locs → lv_has ls 7 [(0, .ref a0), (1, .int x1), (2, .int x2), (3, .int x3), (4, .int x4), (5, .int x5)] → W p l e ({ frames := 2, cells := 0, slots := 0, locals := 45 } : Room) s m args below meth c H locs 0 0 Q (F0 m 0 ls []) := by
    intro Q hret H locs ls hP hD hS hl
    refine lv_iload_n hx hb dX8_copy_0 rfl (lv_at hl 1 rfl) ?_
    obtain ⟨r_1, hq2, hf⟩ := bd1_el hf
    refine mc_S (As := [.int x1]) (rest := []) (wr := [(a0, .inr (8, [.ref a1, .ref a2, .int v_acts, .ref a3, .ref a4, .int v_keptActs, .ref a5, .int v_typed, .ref a6, .ref a7, .ref a8, .ref a9, .ref a10, .int v_isSet, .ref a11, .ref a12, .ref a13, .int v_arePages, .ref a14, .ref a15, .int v_place, .ref a16, .int v_readMany])), (a6, .inl (cI, 4, .inl v_lanes)), (a7, .inl (cI, 4, .inl v_sizes)), (a8, .inl (cJ, 96, .inr (.inl v_items))), (a9, .inl (cJ, 24, .inr (.inl v_moved)))]) (wn := [(a0, .inr (8, [.ref a1, .ref a2, .int v_acts, .ref a3, .ref a4, .int v_keptActs, .ref a5, .int v_typed, .ref a6, .ref a7, .ref a8, .ref a9, .ref a10, .int v_isSet, .ref a11, .ref a12, .ref a13, .int v_arePages, .ref a14, .ref a15, .int v_place, .ref a16, .int v_readMany])), (a6, .inl (cI, 4, .inl v_lanes)), (a7, .inl (cI, 4, .inl v_sizes)), (a8, .inl (cJ, 96, .inr (.inl v_items))), (a9, .inl (cJ, 24, .inr (.inl v_moved)))]) ⟨hx, hb, hml, hown, hT⟩ (c_X8_isSheet l dC dI cI cJ cP cS x1 r_1 hq2) (va_cwS 1 hT (gdS q_ml_X8_272 q_st_X8_isSheet q_in_X8 q_co_X8_isSheet) rfl rfl rfl hd_X8_isSheet ⟨Nat.le_of_ble_eq_true rfl, Nat.le_of_ble_eq_true rfl⟩) hK hF hP hD hS hA [] [0, 1, 2, 3, 4] [0, 1, 2, 3, 4] rfl (by decide) rfl (by decide) (by decide) rfl (by decide) rfl hl.1 rfl (Nat.le_of_ble_eq_true rfl) dX8_copy_1 ⟨Nat.zero_le _, Nat.zero_le _⟩ (fun H locs hP hD hS => ?_)
    refine W.eq (g2 := F0 m 4 ls [.int r_1]) rfl ?_
    refine lv_if_eq (tgt := 14) hx hb dX8_copy_4 (by decide) (fun c3 => ?_) (fun c3 => ?_)
    · replace hf := it_t c3 hf
      refine lv_iconst (v := (-1)) hx hb dX8_copy_14 (by decide) ?_
      replace hf := Option.some.inj hf
      simp only [Prod.mk.injEq] at hf
      obtain ⟨hf0, hf1, hf2⟩ := hf
      subst hf0; subst hf1; subst hf2
      exact hret H locs ls _ dX8_copy_15 hP hD hS
    · replace hf := it_f c3 hf
      refine lv_iload_n hx hb dX8_copy_7 rfl (lv_at hl 3 rfl) ?_
      obtain ⟨r_4, hq5, hf⟩ := bd1_el hf
      refine mc_S (As := [.int x3]) (rest := []) (wr := [(a0, .inr (8, [.ref a1, .ref a2, .int v_acts, .ref a3, .ref a4, .int v_keptActs, .ref a5, .int v_typed, .ref a6, .ref a7, .ref a8, .ref a9, .ref a10, .int v_isSet, .ref a11, .ref a12, .ref a13, .int v_arePages, .ref a14, .ref a15, .int v_place, .ref a16, .int v_readMany])), (a6, .inl (cI, 4, .inl v_lanes)), (a7, .inl (cI, 4, .inl v_sizes)), (a8, .inl (cJ, 96, .inr (.inl v_items))), (a9, .inl (cJ, 24, .inr (.inl v_moved)))]) (wn := [(a0, .inr (8, [.ref a1, .ref a2, .int v_acts, .ref a3, .ref a4, .int v_keptActs, .ref a5, .int v_typed, .ref a6, .ref a7, .ref a8, .ref a9, .ref a10, .int v_isSet, .ref a11, .ref a12, .ref a13, .int v_arePages, .ref a14, .ref a15, .int v_place, .ref a16, .int v_readMany])), (a6, .inl (cI, 4, .inl v_lanes)), (a7, .inl (cI, 4, .inl v_sizes)), (a8, .inl (cJ, 96, .inr (.inl v_items))), (a9, .inl (cJ, 24, .inr (.inl v_moved)))]) ⟨hx, hb, hml, hown, hT⟩ (c_X8_isSheet l dC dI cI cJ cP cS x3 r_4 hq5) (va_cwS 1 hT (gdS q_ml_X8_272 q_st_X8_isSheet q_in_X8 q_co_X8_isSheet) rfl rfl rfl hd_X8_isSheet ⟨Nat.le_of_ble_eq_true rfl, Nat.le_of_ble_eq_true rfl⟩) hK hF hP hD hS hA [] [0, 1, 2, 3, 4] [0, 1, 2, 3, 4] rfl (by decide) rfl (by decide) (by decide) rfl (by decide) rfl hl.1 rfl (Nat.le_of_ble_eq_true rfl) dX8_copy_8 ⟨Nat.zero_le _, Nat.zero_le _⟩ (fun H locs hP hD hS => ?_)
      refine W.eq (g2 := F0 m 11 ls [.int r_4]) rfl ?_
      refine lv_if_ne (tgt := 16) hx hb dX8_copy_11 (by decide) (fun c6 => ?_) (fun c6 => ?_)
      · replace hf := it_f c6 hf
        refine lv_aload_n hx hb dX8_copy_16 rfl (lv_at hl 0 rfl) ?_
        refine va_get (D := (dC, dI)) (ci := 8) (v := .ref a6) (C := RX8) (T := TX8) (N := 23) hx hb hT in_X8 hown hK hP 0 rfl rfl 8 (by decide) (hT _ q_fl_X8_29) (fun _ h9 => h9) rfl dX8_copy_17 ?_
        refine lv_iload_n hx hb dX8_copy_20 rfl (lv_at hl 1 rfl) ?_
        obtain ⟨h7, hf⟩ := gd_el hf
        refine ia_ld hx hb hK hP 1 0 rfl rfl (ib_in h7) (j := (tn x1)) rfl dX8_copy_21 ?_
        refine lv_if_lt (tgt := 34) hx hb dX8_copy_22 (by decide) (fun c8 => ?_) (fun c8 => ?_)
        · replace hf := it_t c8 hf
          refine lv_bipush (v := (-11)) hx hb dX8_copy_34 (by decide) ?_
          replace hf := Option.some.inj hf
          simp only [Prod.mk.injEq] at hf
          obtain ⟨hf0, hf1, hf2⟩ := hf
          subst hf0; subst hf1; subst hf2
          exact hret H locs ls _ dX8_copy_36 hP hD hS
        · replace hf := it_f c8 hf
          refine lv_aload_n hx hb dX8_copy_25 rfl (lv_at hl 0 rfl) ?_
          refine va_get (D := (dC, dI)) (ci := 8) (v := .ref a6) (C := RX8) (T := TX8) (N := 23) hx hb hT in_X8 hown hK hP 0 rfl rfl 8 (by decide) (hT _ q_fl_X8_29) (fun _ h9 => h9) rfl dX8_copy_26 ?_
          refine lv_iload_n hx hb dX8_copy_29 rfl (lv_at hl 3 rfl) ?_
          obtain ⟨h9, hf⟩ := gd_el hf
          refine ia_ld hx hb hK hP 1 0 rfl rfl (ib_in h9) (j := (tn x3)) rfl dX8_copy_30 ?_
          refine lv_if_ge (tgt := 37) hx hb dX8_copy_31 (by decide) (fun c10 => ?_) (fun c10 => ?_)
          · replace hf := it_t c10 hf
            refine lv_aload_n hx hb dX8_copy_37 rfl (lv_at hl 0 rfl) ?_
            refine va_get (D := (dC, dI)) (ci := 8) (v := .ref a6) (C := RX8) (T := TX8) (N := 23) hx hb hT in_X8 hown hK hP 0 rfl rfl 8 (by decide) (hT _ q_fl_X8_29) (fun _ h9 => h9) rfl dX8_copy_38 ?_
            refine lv_iload_n hx hb dX8_copy_41 rfl (lv_at hl 1 rfl) ?_
            obtain ⟨h11, hf⟩ := gd_el hf
            refine ia_ld hx hb hK hP 1 0 rfl rfl (ib_in h11) (j := (tn x1)) rfl dX8_copy_42 ?_
            refine lv_aload_n hx hb dX8_copy_43 rfl (lv_at hl 0 rfl) ?_
            refine va_get (D := (dC, dI)) (ci := 8) (v := .ref a6) (C := RX8) (T := TX8) (N := 23) hx hb hT in_X8 hown hK hP 0 rfl rfl 8 (by decide) (hT _ q_fl_X8_29) (fun _ h9 => h9) rfl dX8_copy_44 ?_
            refine lv_iload_n hx hb dX8_copy_47 rfl (lv_at hl 3 rfl) ?_
            obtain ⟨h12, hf⟩ := gd_el hf
            refine ia_ld hx hb hK hP 1 0 rfl rfl (ib_in h12) (j := (tn x3)) rfl dX8_copy_48 ?_
            refine lv_icmp_eq (tgt := 55) hx hb dX8_copy_49 (by decide) (fun c13 => ?_) (fun c13 => ?_)
            · replace hf := it_t c13 hf
              refine lv_iload hx hb dX8_copy_55 (lv_at hl 5 rfl) ?_
              refine lv_if_lt (tgt := 96) hx hb dX8_copy_57 (by decide) (fun c14 => ?_) (fun c14 => ?_)
              · replace hf := it_t c14 hf
                refine lv_bipush (v := (-13)) hx hb dX8_copy_96 (by decide) ?_
                replace hf := Option.some.inj hf
                simp only [Prod.mk.injEq] at hf
                obtain ⟨hf0, hf1, hf2⟩ := hf
                subst hf0; subst hf1; subst hf2
                exact hret H locs ls _ dX8_copy_98 hP hD hS
              · replace hf := it_f c14 hf
                refine lv_iload_n hx hb dX8_copy_60 rfl (lv_at hl 2 rfl) ?_
                refine lv_if_lt (tgt := 96) hx hb dX8_copy_61 (by decide) (fun c15 => ?_) (fun c15 => ?_)
                · replace hf := it_t c15 hf
                  refine lv_bipush (v := (-13)) hx hb dX8_copy_96 (by decide) ?_
                  replace hf := Option.some.inj hf
                  simp only [Prod.mk.injEq] at hf
                  obtain ⟨hf0, hf1, hf2⟩ := hf
                  subst hf0; subst hf1; subst hf2
                  exact hret H locs ls _ dX8_copy_98 hP hD hS
                · replace hf := it_f c15 hf
                  refine lv_iload hx hb dX8_copy_64 (lv_at hl 4 rfl) ?_
                  refine lv_if_lt (tgt := 96) hx hb dX8_copy_66 (by decide) (fun c16 => ?_) (fun c16 => ?_)
                  · replace hf := it_t c16 hf
                    refine lv_bipush (v := (-13)) hx hb dX8_copy_96 (by decide) ?_
                    replace hf := Option.some.inj hf
                    simp only [Prod.mk.injEq] at hf
                    obtain ⟨hf0, hf1, hf2⟩ := hf
                    subst hf0; subst hf1; subst hf2
                    exact hret H locs ls _ dX8_copy_98 hP hD hS
                  · replace hf := it_f c16 hf
                    refine lv_iload hx hb dX8_copy_69 (lv_at hl 5 rfl) ?_
                    refine lv_aload_n hx hb dX8_copy_71 rfl (lv_at hl 0 rfl) ?_
                    refine va_get (D := (dC, dI)) (ci := 8) (v := .ref a7) (C := RX8) (T := TX8) (N := 23) hx hb hT in_X8 hown hK hP 0 rfl rfl 9 (by decide) (hT _ q_fl_X8_32) (fun _ h9 => h9) rfl dX8_copy_72 ?_
                    refine lv_iload_n hx hb dX8_copy_75 rfl (lv_at hl 1 rfl) ?_
                    obtain ⟨h17, hf⟩ := gd_el hf
                    refine ia_ld hx hb hK hP 2 0 rfl rfl (ib_in h17) (j := (tn x1)) rfl dX8_copy_76 ?_
                    refine lv_iload_n hx hb dX8_copy_77 rfl (lv_at hl 2 rfl) ?_
                    refine lv_isub hx hb dX8_copy_78 ?_
                    refine lv_icmp_gt (tgt := 96) hx hb dX8_copy_79 (by decide) (fun c18 => ?_) (fun c18 => ?_)
                    · replace hf := it_t c18 hf
                      refine lv_bipush (v := (-13)) hx hb dX8_copy_96 (by decide) ?_
                      replace hf := Option.some.inj hf
                      simp only [Prod.mk.injEq] at hf
                      obtain ⟨hf0, hf1, hf2⟩ := hf
                      subst hf0; subst hf1; subst hf2
                      exact hret H locs ls _ dX8_copy_98 hP hD hS
                    · replace hf := it_f c18 hf
                      refine lv_iload hx hb dX8_copy_82 (lv_at hl 5 rfl) ?_
                      refine lv_aload_n hx hb dX8_copy_84 rfl (lv_at hl 0 rfl) ?_
                      refine va_get (D := (dC, dI)) (ci := 8) (v := .ref a7) (C := RX8) (T := TX8) (N := 23) hx hb hT in_X8 hown hK hP 0 rfl rfl 9 (by decide) (hT _ q_fl_X8_32) (fun _ h9 => h9) rfl dX8_copy_85 ?_
                      refine lv_iload_n hx hb dX8_copy_88 rfl (lv_at hl 3 rfl) ?_
                      obtain ⟨h19, hf⟩ := gd_el hf
                      refine ia_ld hx hb hK hP 2 0 rfl rfl (ib_in h19) (j := (tn x3)) rfl dX8_copy_89 ?_
                      refine lv_iload hx hb dX8_copy_90 (lv_at hl 4 rfl) ?_
                      refine lv_isub hx hb dX8_copy_92 ?_
                      refine lv_icmp_le (tgt := 99) hx hb dX8_copy_93 (by decide) (fun c20 => ?_) (fun c20 => ?_)
                      · replace hf := it_t c20 hf
                        refine lv_iconst (v := 0) hx hb dX8_copy_99 (by decide) ?_
                        refine lv_istore (lv' := [(6, .int (0 : Int32)), (0, .ref a0), (1, .int x1), (2, .int x2), (3, .int x3), (4, .int x4), (5, .int x5)]) hx hb dX8_copy_100 hl (by decide) rfl (fun ls hl => ?_)
                        have hL102 : ∀ (rr : Int32 × (Nat → Int64)), (∀ (z_26 : Int32) (z_27 : (Nat → Int64)), rr = (z_26, z_27) → ∀ (H : Heap) (locs : List Loc) (ls : Array Slot), va_P (dC, dI) vwCl [(a0, .inr (8, [.ref a1, .ref a2, .int v_acts, .ref a3, .ref a4, .int v_keptActs, .ref a5, .int v_typed, .ref a6, .ref a7, .ref a8, .ref a9, .ref a10, .int v_isSet, .ref a11, .ref a12, .ref a13, .int v_arePages, .ref a14, .ref a15, .int v_place, .ref a16, .int v_readMany])), (a6, .inl (cI, 4, .inl v_lanes)), (a7, .inl (cI, 4, .inl v_sizes)), (a8, .inl (cJ, 96, .inr (.inl v_items))), (a9, .inl (cJ, 24, .inr (.inl z_27)))] H → va_D A [(a0, .inr (8, [.ref a1, .ref a2, .int v_acts, .ref a3, .ref a4, .int v_keptActs, .ref a5, .int v_typed, .ref a6, .ref a7, .ref a8, .ref a9, .ref a10, .int v_isSet, .ref a11, .ref a12, .ref a13, .int v_arePages, .ref a14, .ref a15, .int v_place, .ref a16, .int v_readMany])), (a6, .inl (cI, 4, .inl v_lanes)), (a7, .inl (cI, 4, .inl v_sizes)), (a8, .inl (cJ, 96, .inr (.inl v_items))), (a9, .inl (cJ, 24, .inr (.inl z_27)))] → va_S A s.heap H locs → lv_has ls 7 [(0, .ref a0), (3, .int x3), (4, .int x4), (5, .int x5)] → W p l e ({ frames := 2, cells := 0, slots := 0, locals := 45 } : Room) s m args below meth c H locs 0 0 Q (F0 m 136 ls [])) → ∀ (n : Nat) (i6_21 : Int32) (v_moved_22 : (Nat → Int64)), loopN (p_X8_copy_L102 v_items x1 x2 x5) n (i6_21, v_moved_22) = some rr → ∀ (H : Heap) (locs : List Loc) (ls : Array Slot), va_P (dC, dI) vwCl [(a0, .inr (8, [.ref a1, .ref a2, .int v_acts, .ref a3, .ref a4, .int v_keptActs, .ref a5, .int v_typed, .ref a6, .ref a7, .ref a8, .ref a9, .ref a10, .int v_isSet, .ref a11, .ref a12, .ref a13, .int v_arePages, .ref a14, .ref a15, .int v_place, .ref a16, .int v_readMany])), (a6, .inl (cI, 4, .inl v_lanes)), (a7, .inl (cI, 4, .inl v_sizes)), (a8, .inl (cJ, 96, .inr (.inl v_items))), (a9, .inl (cJ, 24, .inr (.inl v_moved_22)))] H → va_D A [(a0, .inr (8, [.ref a1, .ref a2, .int v_acts, .ref a3, .ref a4, .int v_keptActs, .ref a5, .int v_typed, .ref a6, .ref a7, .ref a8, .ref a9, .ref a10, .int v_isSet, .ref a11, .ref a12, .ref a13, .int v_arePages, .ref a14, .ref a15, .int v_place, .ref a16, .int v_readMany])), (a6, .inl (cI, 4, .inl v_lanes)), (a7, .inl (cI, 4, .inl v_sizes)), (a8, .inl (cJ, 96, .inr (.inl v_items))), (a9, .inl (cJ, 24, .inr (.inl v_moved_22)))] → va_S A s.heap H locs → lv_has ls 7 [(0, .ref a0), (1, .int x1), (2, .int x2), (3, .int x3), (4, .int x4), (5, .int x5), (6, .int i6_21)] → W p l e ({ frames := 2, cells := 0, slots := 0, locals := 45 } : Room) s m args below meth c H locs 0 0 Q (F0 m 102 ls []) := by
                          intro rr hk102 n
                          induction n with
                          | zero => intro i6_21 v_moved_22 hf; cases hf
                          | succ n ih102 =>
                            intro i6_21 v_moved_22 hf H locs ls hP hD hS hl
                            obtain ⟨o102, hf, hi, he⟩ := loopN_el hf
                            refine lv_iload hx hb dX8_copy_102 (lv_at hl 6 rfl) ?_
                            refine lv_iload hx hb dX8_copy_104 (lv_at hl 5 rfl) ?_
                            refine lv_icmp_ge (tgt := 136) hx hb dX8_copy_106 (by decide) (fun c23 => ?_) (fun c23 => ?_)
                            · replace hf := it_t c23 hf
                              exact hk102 _ _ (he _ (Option.some.inj hf).symm).symm H locs ls hP hD hS (lv_sub hl [0, 3, 4, 5] rfl)
                            · replace hf := it_f c23 hf
                              refine lv_aload_n hx hb dX8_copy_109 rfl (lv_at hl 0 rfl) ?_
                              refine va_get (D := (dC, dI)) (ci := 8) (v := .ref a9) (C := RX8) (T := TX8) (N := 23) hx hb hT in_X8 hown hK hP 0 rfl rfl 11 (by decide) (hT _ q_fl_X8_39) (fun _ h9 => h9) rfl dX8_copy_110 ?_
                              refine lv_iload hx hb dX8_copy_113 (lv_at hl 6 rfl) ?_
                              refine lv_aload_n hx hb dX8_copy_115 rfl (lv_at hl 0 rfl) ?_
                              refine va_get (D := (dC, dI)) (ci := 8) (v := .ref a8) (C := RX8) (T := TX8) (N := 23) hx hb hT in_X8 hown hK hP 0 rfl rfl 10 (by decide) (hT _ q_fl_X8_35) (fun _ h9 => h9) rfl dX8_copy_116 ?_
                              refine lv_bipush (v := 24) hx hb dX8_copy_119 (by decide) ?_
                              refine lv_iload_n hx hb dX8_copy_121 rfl (lv_at hl 1 rfl) ?_
                              refine lv_imul hx hb dX8_copy_122 ?_
                              refine lv_iload_n hx hb dX8_copy_123 rfl (lv_at hl 2 rfl) ?_
                              refine lv_iadd hx hb dX8_copy_124 ?_
                              refine lv_iload hx hb dX8_copy_125 (lv_at hl 6 rfl) ?_
                              refine lv_iadd hx hb dX8_copy_127 ?_
                              obtain ⟨h24, hf⟩ := gd_el hf
                              refine la_ld hx hb hK hP 3 1 rfl rfl (ib_in h24) (j := (tn ((((24 : Int32) * x1) + x2) + i6_21))) rfl dX8_copy_128 ?_
                              obtain ⟨h25, hf⟩ := gd_el hf
                              refine la_st hx hb hK hP hD hS 4 1 rfl rfl (ib_in h25) (j := (tn i6_21)) rfl dX8_copy_129 (fun H locs hP hD hS => ?_)
                              have hP : va_P (dC, dI) vwCl [(a0, .inr (8, [.ref a1, .ref a2, .int v_acts, .ref a3, .ref a4, .int v_keptActs, .ref a5, .int v_typed, .ref a6, .ref a7, .ref a8, .ref a9, .ref a10, .int v_isSet, .ref a11, .ref a12, .ref a13, .int v_arePages, .ref a14, .ref a15, .int v_place, .ref a16, .int v_readMany])), (a6, .inl (cI, 4, .inl v_lanes)), (a7, .inl (cI, 4, .inl v_sizes)), (a8, .inl (cJ, 96, .inr (.inl v_items))), (a9, .inl (cJ, 24, .inr (.inl (vp_updL v_moved_22 (tn i6_21) (v_items (tn ((((24 : Int32) * x1) + x2) + i6_21)))))))] H := hP
                              have hD : va_D A [(a0, .inr (8, [.ref a1, .ref a2, .int v_acts, .ref a3, .ref a4, .int v_keptActs, .ref a5, .int v_typed, .ref a6, .ref a7, .ref a8, .ref a9, .ref a10, .int v_isSet, .ref a11, .ref a12, .ref a13, .int v_arePages, .ref a14, .ref a15, .int v_place, .ref a16, .int v_readMany])), (a6, .inl (cI, 4, .inl v_lanes)), (a7, .inl (cI, 4, .inl v_sizes)), (a8, .inl (cJ, 96, .inr (.inl v_items))), (a9, .inl (cJ, 24, .inr (.inl (vp_updL v_moved_22 (tn i6_21) (v_items (tn ((((24 : Int32) * x1) + x2) + i6_21)))))))] := hD
                              refine lv_iinc (v := (i6_21 + (1 : Int32))) (lv' := [(6, .int (i6_21 + (1 : Int32))), (0, .ref a0), (1, .int x1), (2, .int x2), (3, .int x3), (4, .int x4), (5, .int x5)]) hx hb dX8_copy_130 hl (k := 6) rfl rfl (by decide) rfl (fun ls hl => ?_)
                              refine lv_goto (tgt := 102) hx hb dX8_copy_133 (by decide) ?_
                              exact ih102 (i6_21 + (1 : Int32)) (vp_updL v_moved_22 (tn i6_21) (v_items (tn ((((24 : Int32) * x1) + x2) + i6_21)))) (hi _ (Option.some.inj hf).symm) H locs ls hP hD hS (lv_sub hl [1, 2, 3, 4, 5, 6, 0] rfl)
                        obtain ⟨f6_28, v_moved_29, hq, hf⟩ := bd2_el hf
                        refine hL102 (f6_28, v_moved_29) (fun z_26 z_27 h9 H locs ls hP hD hS hl => ?_) fuel (0 : Int32) v_moved hq H locs ls hP hD hS (lv_sub hl [1, 2, 3, 4, 5, 6, 0] rfl)
                        simp only [Prod.mk.injEq] at h9
                        obtain ⟨h9_0, h9_1⟩ := h9
                        subst h9_0; subst h9_1
                        refine lv_iconst (v := 0) hx hb dX8_copy_136 (by decide) ?_
                        refine lv_istore (lv' := [(6, .int (0 : Int32)), (0, .ref a0), (3, .int x3), (4, .int x4), (5, .int x5)]) hx hb dX8_copy_137 hl (by decide) rfl (fun ls hl => ?_)
                        have hL139 : ∀ (rr : Int32 × (Nat → Int64)), (∀ (z_35 : Int32) (z_36 : (Nat → Int64)), rr = (z_35, z_36) → ∀ (H : Heap) (locs : List Loc) (ls : Array Slot), va_P (dC, dI) vwCl [(a0, .inr (8, [.ref a1, .ref a2, .int v_acts, .ref a3, .ref a4, .int v_keptActs, .ref a5, .int v_typed, .ref a6, .ref a7, .ref a8, .ref a9, .ref a10, .int v_isSet, .ref a11, .ref a12, .ref a13, .int v_arePages, .ref a14, .ref a15, .int v_place, .ref a16, .int v_readMany])), (a6, .inl (cI, 4, .inl v_lanes)), (a7, .inl (cI, 4, .inl v_sizes)), (a8, .inl (cJ, 96, .inr (.inl z_36))), (a9, .inl (cJ, 24, .inr (.inl v_moved_29)))] H → va_D A [(a0, .inr (8, [.ref a1, .ref a2, .int v_acts, .ref a3, .ref a4, .int v_keptActs, .ref a5, .int v_typed, .ref a6, .ref a7, .ref a8, .ref a9, .ref a10, .int v_isSet, .ref a11, .ref a12, .ref a13, .int v_arePages, .ref a14, .ref a15, .int v_place, .ref a16, .int v_readMany])), (a6, .inl (cI, 4, .inl v_lanes)), (a7, .inl (cI, 4, .inl v_sizes)), (a8, .inl (cJ, 96, .inr (.inl z_36))), (a9, .inl (cJ, 24, .inr (.inl v_moved_29)))] → va_S A s.heap H locs → lv_has ls 7 [(5, .int x5)] → W p l e ({ frames := 2, cells := 0, slots := 0, locals := 45 } : Room) s m args below meth c H locs 0 0 Q (F0 m 174 ls [])) → ∀ (n : Nat) (i6_30 : Int32) (v_items_31 : (Nat → Int64)), loopN (p_X8_copy_L139 x3 x4 x5 v_moved_29) n (i6_30, v_items_31) = some rr → ∀ (H : Heap) (locs : List Loc) (ls : Array Slot), va_P (dC, dI) vwCl [(a0, .inr (8, [.ref a1, .ref a2, .int v_acts, .ref a3, .ref a4, .int v_keptActs, .ref a5, .int v_typed, .ref a6, .ref a7, .ref a8, .ref a9, .ref a10, .int v_isSet, .ref a11, .ref a12, .ref a13, .int v_arePages, .ref a14, .ref a15, .int v_place, .ref a16, .int v_readMany])), (a6, .inl (cI, 4, .inl v_lanes)), (a7, .inl (cI, 4, .inl v_sizes)), (a8, .inl (cJ, 96, .inr (.inl v_items_31))), (a9, .inl (cJ, 24, .inr (.inl v_moved_29)))] H → va_D A [(a0, .inr (8, [.ref a1, .ref a2, .int v_acts, .ref a3, .ref a4, .int v_keptActs, .ref a5, .int v_typed, .ref a6, .ref a7, .ref a8, .ref a9, .ref a10, .int v_isSet, .ref a11, .ref a12, .ref a13, .int v_arePages, .ref a14, .ref a15, .int v_place, .ref a16, .int v_readMany])), (a6, .inl (cI, 4, .inl v_lanes)), (a7, .inl (cI, 4, .inl v_sizes)), (a8, .inl (cJ, 96, .inr (.inl v_items_31))), (a9, .inl (cJ, 24, .inr (.inl v_moved_29)))] → va_S A s.heap H locs → lv_has ls 7 [(0, .ref a0), (3, .int x3), (4, .int x4), (5, .int x5), (6, .int i6_30)] → W p l e ({ frames := 2, cells := 0, slots := 0, locals := 45 } : Room) s m args below meth c H locs 0 0 Q (F0 m 139 ls []) := by
                          intro rr hk139 n
                          induction n with
                          | zero => intro i6_30 v_items_31 hf; cases hf
                          | succ n ih139 =>
                            intro i6_30 v_items_31 hf H locs ls hP hD hS hl
                            obtain ⟨o139, hf, hi, he⟩ := loopN_el hf
                            refine lv_iload hx hb dX8_copy_139 (lv_at hl 4 rfl) ?_
                            refine lv_iload hx hb dX8_copy_141 (lv_at hl 3 rfl) ?_
                            refine lv_icmp_ge (tgt := 174) hx hb dX8_copy_143 (by decide) (fun c32 => ?_) (fun c32 => ?_)
                            · replace hf := it_t c32 hf
                              exact hk139 _ _ (he _ (Option.some.inj hf).symm).symm H locs ls hP hD hS (lv_sub hl [3] rfl)
                            · replace hf := it_f c32 hf
                              refine lv_aload_n hx hb dX8_copy_146 rfl (lv_at hl 0 rfl) ?_
                              refine va_get (D := (dC, dI)) (ci := 8) (v := .ref a8) (C := RX8) (T := TX8) (N := 23) hx hb hT in_X8 hown hK hP 0 rfl rfl 10 (by decide) (hT _ q_fl_X8_35) (fun _ h9 => h9) rfl dX8_copy_147 ?_
                              refine lv_bipush (v := 24) hx hb dX8_copy_150 (by decide) ?_
                              refine lv_iload_n hx hb dX8_copy_152 rfl (lv_at hl 1 rfl) ?_
                              refine lv_imul hx hb dX8_copy_153 ?_
                              refine lv_iload hx hb dX8_copy_154 (lv_at hl 2 rfl) ?_
                              refine lv_iadd hx hb dX8_copy_156 ?_
                              refine lv_iload hx hb dX8_copy_157 (lv_at hl 4 rfl) ?_
                              refine lv_iadd hx hb dX8_copy_159 ?_
                              refine lv_aload_n hx hb dX8_copy_160 rfl (lv_at hl 0 rfl) ?_
                              refine va_get (D := (dC, dI)) (ci := 8) (v := .ref a9) (C := RX8) (T := TX8) (N := 23) hx hb hT in_X8 hown hK hP 0 rfl rfl 11 (by decide) (hT _ q_fl_X8_39) (fun _ h9 => h9) rfl dX8_copy_161 ?_
                              refine lv_iload hx hb dX8_copy_164 (lv_at hl 4 rfl) ?_
                              obtain ⟨h33, hf⟩ := gd_el hf
                              refine la_ld hx hb hK hP 4 1 rfl rfl (ib_in h33) (j := (tn i6_30)) rfl dX8_copy_166 ?_
                              obtain ⟨h34, hf⟩ := gd_el hf
                              refine la_st hx hb hK hP hD hS 3 1 rfl rfl (ib_in h34) (j := (tn ((((24 : Int32) * x3) + x4) + i6_30))) rfl dX8_copy_167 (fun H locs hP hD hS => ?_)
                              have hP : va_P (dC, dI) vwCl [(a0, .inr (8, [.ref a1, .ref a2, .int v_acts, .ref a3, .ref a4, .int v_keptActs, .ref a5, .int v_typed, .ref a6, .ref a7, .ref a8, .ref a9, .ref a10, .int v_isSet, .ref a11, .ref a12, .ref a13, .int v_arePages, .ref a14, .ref a15, .int v_place, .ref a16, .int v_readMany])), (a6, .inl (cI, 4, .inl v_lanes)), (a7, .inl (cI, 4, .inl v_sizes)), (a8, .inl (cJ, 96, .inr (.inl (vp_updL v_items_31 (tn ((((24 : Int32) * x3) + x4) + i6_30)) (v_moved_29 (tn i6_30)))))), (a9, .inl (cJ, 24, .inr (.inl v_moved_29)))] H := hP
                              have hD : va_D A [(a0, .inr (8, [.ref a1, .ref a2, .int v_acts, .ref a3, .ref a4, .int v_keptActs, .ref a5, .int v_typed, .ref a6, .ref a7, .ref a8, .ref a9, .ref a10, .int v_isSet, .ref a11, .ref a12, .ref a13, .int v_arePages, .ref a14, .ref a15, .int v_place, .ref a16, .int v_readMany])), (a6, .inl (cI, 4, .inl v_lanes)), (a7, .inl (cI, 4, .inl v_sizes)), (a8, .inl (cJ, 96, .inr (.inl (vp_updL v_items_31 (tn ((((24 : Int32) * x3) + x4) + i6_30)) (v_moved_29 (tn i6_30)))))), (a9, .inl (cJ, 24, .inr (.inl v_moved_29)))] := hD
                              refine lv_iinc (v := (i6_30 + (1 : Int32))) (lv' := [(6, .int (i6_30 + (1 : Int32))), (0, .ref a0), (3, .int x3), (4, .int x4), (5, .int x5)]) hx hb dX8_copy_168 hl (k := 4) rfl rfl (by decide) rfl (fun ls hl => ?_)
                              refine lv_goto (tgt := 139) hx hb dX8_copy_171 (by decide) ?_
                              exact ih139 (i6_30 + (1 : Int32)) (vp_updL v_items_31 (tn ((((24 : Int32) * x3) + x4) + i6_30)) (v_moved_29 (tn i6_30))) (hi _ (Option.some.inj hf).symm) H locs ls hP hD hS (lv_sub hl [1, 2, 3, 4, 0] rfl)
                        obtain ⟨f6_37, v_items_38, hq, hf⟩ := bd2_el hf
                        refine hL139 (f6_37, v_items_38) (fun z_35 z_36 h9 H locs ls hP hD hS hl => ?_) fuel (0 : Int32) v_items hq H locs ls hP hD hS (lv_sub hl [1, 2, 3, 4, 0] rfl)
                        simp only [Prod.mk.injEq] at h9
                        obtain ⟨h9_0, h9_1⟩ := h9
                        subst h9_0; subst h9_1
                        refine lv_iload hx hb dX8_copy_174 (lv_at hl 0 rfl) ?_
                        replace hf := Option.some.inj hf
                        simp only [Prod.mk.injEq] at hf
                        obtain ⟨hf0, hf1, hf2⟩ := hf
                        subst hf0; subst hf1; subst hf2
                        exact hret H locs ls _ dX8_copy_176 hP hD hS
                      · replace hf := it_f c20 hf
                        refine lv_bipush (v := (-13)) hx hb dX8_copy_96 (by decide) ?_
                        replace hf := Option.some.inj hf
                        simp only [Prod.mk.injEq] at hf
                        obtain ⟨hf0, hf1, hf2⟩ := hf
                        subst hf0; subst hf1; subst hf2
                        exact hret H locs ls _ dX8_copy_98 hP hD hS
            · replace hf := it_f c13 hf
              refine lv_bipush (v := (-12)) hx hb dX8_copy_52 (by decide) ?_
              replace hf := Option.some.inj hf
              simp only [Prod.mk.injEq] at hf
              obtain ⟨hf0, hf1, hf2⟩ := hf
              subst hf0; subst hf1; subst hf2
              exact hret H locs ls _ dX8_copy_54 hP hD hS
          · replace hf := it_f c10 hf
            refine lv_bipush (v := (-11)) hx hb dX8_copy_34 (by decide) ?_
            replace hf := Option.some.inj hf
            simp only [Prod.mk.injEq] at hf
            obtain ⟨hf0, hf1, hf2⟩ := hf
            subst hf0; subst hf1; subst hf2
            exact hret H locs ls _ dX8_copy_36 hP hD hS
      · replace hf := it_t c6 hf
        refine lv_iconst (v := (-1)) hx hb dX8_copy_14 (by decide) ?_
        replace hf := Option.some.inj hf
        simp only [Prod.mk.injEq] at hf
        obtain ⟨hf0, hf1, hf2⟩ := hf
        subst hf0; subst hf1; subst hf2
        exact hret H locs ls _ dX8_copy_15 hP hD hS
  refine key _ ?_ _ _ _ hP hD hS hl
  intro H locs ls pc d hP hD hS
  exact W.iret (v := rv) hx hb hr (fun t ht hW => ⟨⟨rfl, by rw [ht]; exact hP, hD⟩, hS.F ht⟩) hS.2.2 d
