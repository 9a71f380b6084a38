/-! ===== Reals: each method is its function (laid by program) ===== -/
theorem hd_X3_movedDown : yX3_movedDown.cls ≠ "java/lang/invoke/MethodHandle" ∧ yX3_movedDown.cls ≠ "java/lang/invoke/VarHandle" ∧ (parseMethodDescriptor yX3_movedDown.desc).map (fun d => d.parameters.length) = some 2 := by decide +kernel
def s_X3_movedDown (p0 : Int64) (p1 : Int32) : Int64 :=
  if p1 ≤ 62 then if (lShl (lUshr p0 p1) p1) = p0 then (lUshr p0 p1)
  else (lUshr p0 p1) ||| 1
  else 1
set_option maxHeartbeats 4000000 in
set_option maxRecDepth 100000 in
theorem pm_X3_movedDown (l : Launch) (p0 : Int64) (p1 : Int32) : PmL l yX3_movedDown wsX3_movedDown 0 0 [.long p0, .int p1] (fun _ => True) (s_X3_movedDown p0 p1) := by
  refine Met.ofW (cc := cX3_movedDown) (maxL := 5) (ret := (some .long)) (by decide) rfl ?_
  intro p e s m args below meth c s₁ B hml hv
  obtain ⟨rfl, -⟩ := hv
  have hx := B.exec
  have hb := B.bytes
  have hr := B.returns
  have hts := atoms_spec (ws := wsX3_movedDown) B.pre
  have hown : s.vm.findClass RX3 = some m.cls := findClass_of_methodNamed B.named
  have hlocks := B.notSynchronized
  have hS : va_S pv_N s.heap s.heap [] := va_S.rf
  have hl := lv_entry ([.long p0, .int p1]) (n := 5) (Nat.le_of_ble_eq_true rfl)
  rw [lg_entry_eq]
  generalize (lg_sl ([.long p0, .int p1]) ++ List.replicate (5 - (lg_sl ([.long p0, .int p1])).length) Slot.unset).toArray = ls at hl ⊢
  have hl : lv_has ls 5 [(0, .long p0), (2, .int p1)] := hl
  obtain ⟨Z, hZ⟩ : ∃ z, z = MQ below (pm_QL (s_X3_movedDown p0 p1)) ([.long p0, .int p1] : List Value).toArray s 0 0 pv_N := ⟨_, rfl⟩
  rw [← hZ]
  obtain ⟨Y, hY⟩ : ∃ y, y = s_X3_movedDown p0 p1 := ⟨_, rfl⟩
  refine lv_iload_n hx hb dX3_movedDown_0 rfl (lv_at hl 1 rfl) ?_
  refine lv_bipush (v := 62) hx hb dX3_movedDown_1 (by decide) ?_
  refine lv_icmp_le (tgt := 8) hx hb dX3_movedDown_3 (by decide) (fun c_3 => ?_) (fun c_3 => ?_)
  ·
    refine lv_lload_n hx hb dX3_movedDown_8 rfl (lv_at hl 0 rfl) ?_
    refine lv_iload_n hx hb dX3_movedDown_9 rfl (lv_at hl 1 rfl) ?_
    refine lv_lushr (v := lUshr p0 p1) hx hb dX3_movedDown_10 rfl ?_
    refine lv_topl (fun x_11 ex_11 => ?_)
    refine lv_lstore_n (lv' := [(3, .long x_11), (0, .long p0), (2, .int p1)]) hx hb dX3_movedDown_11 rfl hl (by decide) rfl (fun ls hl => ?_)
    refine lv_lload_n hx hb dX3_movedDown_12 rfl (lv_at hl 0 rfl) ?_
    refine lv_iload_n hx hb dX3_movedDown_13 rfl (lv_at hl 2 rfl) ?_
    refine lv_lshl (v := lShl x_11 p1) hx hb dX3_movedDown_14 rfl ?_
    refine lv_lload_n hx hb dX3_movedDown_15 rfl (lv_at hl 1 rfl) ?_
    refine lp_ne (tgt := 24) hx hb dX3_movedDown_16 dX3_movedDown_17 (by decide) (fun c_16 => ?_) (fun c_16 => ?_)
    ·
      refine lv_lload_n hx hb dX3_movedDown_24 rfl (lv_at hl 0 rfl) ?_
      refine lv_lconst (v := 1) hx hb dX3_movedDown_25 (by decide) ?_
      refine lv_lor hx hb dX3_movedDown_26 ?_
      rw [hZ]
      exact pm_lret (w := s_X3_movedDown p0 p1) hx hb hr hlocks hS (by subst ex_11; exact (((if_pos c_3).trans (if_neg c_16))).symm) dX3_movedDown_27
    ·
      refine lv_lload_n hx hb dX3_movedDown_20 rfl (lv_at hl 0 rfl) ?_
      refine lv_goto (tgt := 27) hx hb dX3_movedDown_21 (by decide) ?_
      rw [hZ]
      exact pm_lret (w := s_X3_movedDown p0 p1) hx hb hr hlocks hS (by subst ex_11; exact (((if_pos c_3).trans (if_pos c_16))).symm) dX3_movedDown_27
  ·
    refine lv_lconst (v := 1) hx hb dX3_movedDown_6 (by decide) ?_
    rw [hZ]
    exact pm_lret (w := s_X3_movedDown p0 p1) hx hb hr hlocks hS (by exact ((if_neg c_3)).symm) dX3_movedDown_7
theorem hd_X3_sumOfFinite : yX3_sumOfFinite.cls ≠ "java/lang/invoke/MethodHandle" ∧ yX3_sumOfFinite.cls ≠ "java/lang/invoke/VarHandle" ∧ (parseMethodDescriptor yX3_sumOfFinite.desc).map (fun d => d.parameters.length) = some 2 := by decide +kernel
def s_X3_sumOfFinite_j123 (p0 : Int64) (p1 : Int64) (z_100_0 : Int64) (x_7 : Int32) (z_123_0 : Int32) : Int64 :=
  s_X0_pack 52 (-1074) 9218868437227405312 (-9223372036854775808) z_123_0 (x_7 - 9) z_100_0
def s_X3_sumOfFinite_j100 (p0 : Int64) (p1 : Int64) (x_7 : Int32) (z_100_0 : Int64) : Int64 :=
  if 0 ≤ p0 then s_X3_sumOfFinite_j123 p0 p1 z_100_0 x_7 0
  else if z_100_0 = 0 then s_X3_sumOfFinite_j123 p0 p1 z_100_0 x_7 0
  else s_X3_sumOfFinite_j123 p0 p1 z_100_0 x_7 1
def s_X3_sumOfFinite_j80 (p0 : Int64) (p1 : Int64) (x_31 : Int64) (x_48 : Int64) (x_7 : Int32) (z_80_0 : Int32) : Int64 :=
  if z_80_0 = 0 then s_X3_sumOfFinite_j100 p0 p1 x_7 (x_31 - x_48)
  else s_X3_sumOfFinite_j100 p0 p1 x_7 (x_31 + x_48)
def s_X3_sumOfFinite_j72 (p0 : Int64) (p1 : Int64) (z_61_0 : Int32) (x_31 : Int64) (x_48 : Int64) (x_7 : Int32) (z_72_0 : Int32) : Int64 :=
  if z_61_0 = z_72_0 then s_X3_sumOfFinite_j80 p0 p1 x_31 x_48 x_7 1
  else s_X3_sumOfFinite_j80 p0 p1 x_31 x_48 x_7 0
def s_X3_sumOfFinite_j61 (p0 : Int64) (p1 : Int64) (x_31 : Int64) (x_48 : Int64) (x_7 : Int32) (z_61_0 : Int32) : Int64 :=
  if 0 ≤ p1 then s_X3_sumOfFinite_j72 p0 p1 z_61_0 x_31 x_48 x_7 0
  else s_X3_sumOfFinite_j72 p0 p1 z_61_0 x_31 x_48 x_7 1
def s_X3_sumOfFinite (p0 : Int64) (p1 : Int64) : Int64 :=
  if 0 ≤ p0 then s_X3_sumOfFinite_j61 p0 p1 (lShl (s_X0_significand 52 (-1074) 9218868437227405312 (-9223372036854775808) p0) 9) (s_X3_movedDown (lShl (s_X0_significand 52 (-1074) 9218868437227405312 (-9223372036854775808) p1) 9) ((s_X0_exponent 52 (-1074) 9218868437227405312 (-9223372036854775808) p0) - (s_X0_exponent 52 (-1074) 9218868437227405312 (-9223372036854775808) p1))) (s_X0_exponent 52 (-1074) 9218868437227405312 (-9223372036854775808) p0) 0
  else s_X3_sumOfFinite_j61 p0 p1 (lShl (s_X0_significand 52 (-1074) 9218868437227405312 (-9223372036854775808) p0) 9) (s_X3_movedDown (lShl (s_X0_significand 52 (-1074) 9218868437227405312 (-9223372036854775808) p1) 9) ((s_X0_exponent 52 (-1074) 9218868437227405312 (-9223372036854775808) p0) - (s_X0_exponent 52 (-1074) 9218868437227405312 (-9223372036854775808) p1))) (s_X0_exponent 52 (-1074) 9218868437227405312 (-9223372036854775808) p0) 1
set_option maxHeartbeats 4000000 in
set_option maxRecDepth 100000 in
theorem pm_X3_sumOfFinite (l : Launch) (dD dF : Nat) (p0 : Int64) (p1 : Int64) : PmL l yX3_sumOfFinite wsX3_sumOfFinite 3 73 [.long p0, .long p1] (fun U => KF dD dF pv_N U U.heap) (s_X3_sumOfFinite p0 p1) := by
  refine Met.ofW (cc := cX3_sumOfFinite) (maxL := 13) (ret := (some .long)) (by decide) rfl ?_
  intro p e s m args below meth c s₁ B hml hv
  obtain ⟨rfl, hF⟩ := hv
  have hx := B.exec
  have hb := B.bytes
  have hr := B.returns
  have hts := atoms_spec (ws := wsX3_sumOfFinite) B.pre
  have hown : s.vm.findClass RX3 = some m.cls := findClass_of_methodNamed B.named
  have hlocks := B.notSynchronized
  have hS : va_S pv_N s.heap s.heap [] := va_S.rf
  have hl := lv_entry ([.long p0, .long p1]) (n := 13) (Nat.le_of_ble_eq_true rfl)
  rw [lg_entry_eq]
  generalize (lg_sl ([.long p0, .long p1]) ++ List.replicate (13 - (lg_sl ([.long p0, .long p1])).length) Slot.unset).toArray = ls at hl ⊢
  have hl : lv_has ls 13 [(0, .long p0), (2, .long p1)] := hl
  obtain ⟨Z, hZ⟩ : ∃ z, z = MQ below (pm_QL (s_X3_sumOfFinite p0 p1)) ([.long p0, .long p1] : List Value).toArray s 0 0 pv_N := ⟨_, rfl⟩
  rw [← hZ]
  obtain ⟨Y, hY⟩ : ∃ y, y = s_X3_sumOfFinite p0 p1 := ⟨_, rfl⟩
  refine va_gets hx hb hF.1 hS hown (hts _ (List.mem_of_getElem? (i := 1) rfl)) (fun _ h9 => h9) dX3_sumOfFinite_0 ?_
  refine lv_lload_n hx hb dX3_sumOfFinite_3 rfl (lv_at hl 0 rfl) ?_
  refine pm_callI (va_runV (As := [.long p0]) (rest := []) ⟨hx, hb, hml, hown, hts⟩ (pm_X0_exponent l 52 (-1074) 9218868437227405312 (-9223372036854775808) dD p0) (cwV 1 hts gX3_sumOfFinite_X0_exponent rfl rfl rfl hdv_X0_exponent ⟨Nat.le_of_ble_eq_true rfl, Nat.le_of_ble_eq_true rfl⟩) ⟨KQ.fb, va_Orecv hF.2.2.1.1 hS, fun U hU hW => ⟨rfl, (KQ.call hF.2.2.1 hS U hU hW)⟩⟩ rfl rfl hl.1 rfl (lv_room (Nat.le_of_ble_eq_true rfl)) dX3_sumOfFinite_4 ⟨Nat.le_refl 0, Nat.le_refl 0⟩) hS (fun H locs _ _ hS => ?_)
  refine lv_topi (fun x_7 ex_7 => ?_)
  refine lv_istore (lv' := [(4, .int x_7), (0, .long p0), (2, .long p1)]) hx hb dX3_sumOfFinite_7 hl (by decide) rfl (fun ls hl => ?_)
  refine lv_iload hx hb dX3_sumOfFinite_9 (lv_at hl 0 rfl) ?_
  refine va_gets hx hb hF.1 hS hown (hts _ (List.mem_of_getElem? (i := 1) rfl)) (fun _ h9 => h9) dX3_sumOfFinite_11 ?_
  refine lv_lload_n hx hb dX3_sumOfFinite_14 rfl (lv_at hl 2 rfl) ?_
  refine pm_callI (va_runV (As := [.long p1]) (rest := [.int x_7]) ⟨hx, hb, hml, hown, hts⟩ (pm_X0_exponent l 52 (-1074) 9218868437227405312 (-9223372036854775808) dD p1) (cwV 1 hts gX3_sumOfFinite_X0_exponent rfl rfl rfl hdv_X0_exponent ⟨Nat.le_of_ble_eq_true rfl, Nat.le_of_ble_eq_true rfl⟩) ⟨KQ.fb, va_Orecv hF.2.2.1.1 hS, fun U hU hW => ⟨rfl, (KQ.call hF.2.2.1 hS U hU hW)⟩⟩ rfl rfl hl.1 rfl (lv_room (Nat.le_of_ble_eq_true rfl)) dX3_sumOfFinite_15 ⟨Nat.le_refl 0, Nat.le_refl 0⟩) hS (fun H locs _ _ hS => ?_)
  refine lv_isub hx hb dX3_sumOfFinite_18 ?_
  refine lv_topi (fun x_19 ex_19 => ?_)
  refine lv_istore (lv' := [(5, .int x_19), (4, .int x_7), (0, .long p0), (2, .long p1)]) hx hb dX3_sumOfFinite_19 hl (by decide) rfl (fun ls hl => ?_)
  refine va_gets hx hb hF.1 hS hown (hts _ (List.mem_of_getElem? (i := 1) rfl)) (fun _ h9 => h9) dX3_sumOfFinite_21 ?_
  refine lv_lload_n hx hb dX3_sumOfFinite_24 rfl (lv_at hl 2 rfl) ?_
  refine pm_callL (va_runV (As := [.long p0]) (rest := []) ⟨hx, hb, hml, hown, hts⟩ (pm_X0_significand l 52 (-1074) 9218868437227405312 (-9223372036854775808) dD p0) (cwV 1 hts gX3_sumOfFinite_X0_significand rfl rfl rfl hdv_X0_significand ⟨Nat.le_of_ble_eq_true rfl, Nat.le_of_ble_eq_true rfl⟩) ⟨KQ.fb, va_Orecv hF.2.2.1.1 hS, fun U hU hW => ⟨rfl, (KQ.call hF.2.2.1 hS U hU hW)⟩⟩ rfl rfl hl.1 rfl (lv_room (Nat.le_of_ble_eq_true rfl)) dX3_sumOfFinite_25 ⟨Nat.le_refl 0, Nat.le_refl 0⟩) hS (fun H locs _ _ hS => ?_)
  refine lv_bipush (v := 9) hx hb dX3_sumOfFinite_28 (by decide) ?_
  refine lv_lshl (v := lShl (s_X0_significand 52 (-1074) 9218868437227405312 (-9223372036854775808) p0) 9) hx hb dX3_sumOfFinite_30 rfl ?_
  refine lv_topl (fun x_31 ex_31 => ?_)
  refine lv_lstore (lv' := [(6, .long x_31), (5, .int x_19), (4, .int x_7), (0, .long p0), (2, .long p1)]) hx hb dX3_sumOfFinite_31 hl (by decide) rfl (fun ls hl => ?_)
  refine va_gets hx hb hF.1 hS hown (hts _ (List.mem_of_getElem? (i := 1) rfl)) (fun _ h9 => h9) dX3_sumOfFinite_33 ?_
  refine lv_lload_n hx hb dX3_sumOfFinite_36 rfl (lv_at hl 4 rfl) ?_
  refine pm_callL (va_runV (As := [.long p1]) (rest := []) ⟨hx, hb, hml, hown, hts⟩ (pm_X0_significand l 52 (-1074) 9218868437227405312 (-9223372036854775808) dD p1) (cwV 1 hts gX3_sumOfFinite_X0_significand rfl rfl rfl hdv_X0_significand ⟨Nat.le_of_ble_eq_true rfl, Nat.le_of_ble_eq_true rfl⟩) ⟨KQ.fb, va_Orecv hF.2.2.1.1 hS, fun U hU hW => ⟨rfl, (KQ.call hF.2.2.1 hS U hU hW)⟩⟩ rfl rfl hl.1 rfl (lv_room (Nat.le_of_ble_eq_true rfl)) dX3_sumOfFinite_37 ⟨Nat.le_refl 0, Nat.le_refl 0⟩) hS (fun H locs _ _ hS => ?_)
  refine lv_bipush (v := 9) hx hb dX3_sumOfFinite_40 (by decide) ?_
  refine lv_lshl (v := lShl (s_X0_significand 52 (-1074) 9218868437227405312 (-9223372036854775808) p1) 9) hx hb dX3_sumOfFinite_42 rfl ?_
  refine lv_iload hx hb dX3_sumOfFinite_43 (lv_at hl 1 rfl) ?_
  refine pm_callL (va_runS (As := [.long (lShl (s_X0_significand 52 (-1074) 9218868437227405312 (-9223372036854775808) p1) 9), .int x_19]) (rest := []) ⟨hx, hb, hml, hown, hts⟩ (pm_X3_movedDown l (lShl (s_X0_significand 52 (-1074) 9218868437227405312 (-9223372036854775808) p1) 9) x_19) (va_cwS 2 hts gX3_sumOfFinite_X3_movedDown rfl rfl rfl hd_X3_movedDown ⟨Nat.le_of_ble_eq_true rfl, Nat.le_of_ble_eq_true rfl⟩) ⟨pm_fbT, fun U hU hW => ⟨rfl, trivial⟩⟩ rfl rfl hl.1 rfl (lv_room (Nat.le_of_ble_eq_true rfl)) dX3_sumOfFinite_45 ⟨Nat.le_refl 0, Nat.le_refl 0⟩) hS (fun H locs _ _ hS => ?_)
  refine lv_topl (fun x_48 ex_48 => ?_)
  refine lv_lstore (lv' := [(8, .long x_48), (6, .long x_31), (5, .int x_19), (4, .int x_7), (0, .long p0), (2, .long p1)]) hx hb dX3_sumOfFinite_48 hl (by decide) rfl (fun ls hl => ?_)
  refine lv_lload_n hx hb dX3_sumOfFinite_50 rfl (lv_at hl 4 rfl) ?_
  refine lv_lconst (v := 0) hx hb dX3_sumOfFinite_51 (by decide) ?_
  have K_61 : ∀ (z_61_0 : Int32) (H : Heap) (locs : List Loc), va_S pv_N s.heap H locs → ∀ (ls : Array Slot), lv_has ls 13 [(0, .long p0), (2, .long p1), (4, .int x_7), (6, .long x_31), (8, .long x_48)] → s_X3_sumOfFinite p0 p1 = s_X3_sumOfFinite_j61 p0 p1 x_31 x_48 x_7 z_61_0 → W p l e (pm_R 3 73) s m ([.long p0, .long p1] : List Value).toArray below meth c H locs 0 0 Z (F0 m 61 ls [.int z_61_0]) := by
    intro z_61_0 H locs hS ls hl hK_61
    refine lv_lload_n hx hb dX3_sumOfFinite_61 rfl (lv_at hl 1 rfl) ?_
    refine lv_lconst (v := 0) hx hb dX3_sumOfFinite_62 (by decide) ?_
    have K_72 : ∀ (z_72_0 : Int32) (H : Heap) (locs : List Loc), va_S pv_N s.heap H locs → ∀ (ls : Array Slot), lv_has ls 13 [(0, .long p0), (4, .int x_7), (6, .long x_31), (8, .long x_48)] → s_X3_sumOfFinite p0 p1 = s_X3_sumOfFinite_j72 p0 p1 z_61_0 x_31 x_48 x_7 z_72_0 → W p l e (pm_R 3 73) s m ([.long p0, .long p1] : List Value).toArray below meth c H locs 0 0 Z (F0 m 72 ls [.int z_72_0, .int z_61_0]) := by
      intro z_72_0 H locs hS ls hl hK_72
      have K_80 : ∀ (z_80_0 : Int32) (H : Heap) (locs : List Loc), va_S pv_N s.heap H locs → ∀ (ls : Array Slot), lv_has ls 13 [(0, .long p0), (4, .int x_7), (6, .long x_31), (8, .long x_48)] → s_X3_sumOfFinite p0 p1 = s_X3_sumOfFinite_j80 p0 p1 x_31 x_48 x_7 z_80_0 → W p l e (pm_R 3 73) s m ([.long p0, .long p1] : List Value).toArray below meth c H locs 0 0 Z (F0 m 80 ls [.int z_80_0]) := by
        intro z_80_0 H locs hS ls hl hK_80
        refine lv_istore (lv' := [(10, .int z_80_0), (0, .long p0), (4, .int x_7), (6, .long x_31), (8, .long x_48)]) hx hb dX3_sumOfFinite_80 hl (by decide) rfl (fun ls hl => ?_)
        refine lv_iload hx hb dX3_sumOfFinite_82 (lv_at hl 0 rfl) ?_
        have K_100 : ∀ (z_100_0 : Int64) (H : Heap) (locs : List Loc), va_S pv_N s.heap H locs → ∀ (ls : Array Slot), lv_has ls 13 [(0, .long p0), (4, .int x_7)] → s_X3_sumOfFinite p0 p1 = s_X3_sumOfFinite_j100 p0 p1 x_7 z_100_0 → W p l e (pm_R 3 73) s m ([.long p0, .long p1] : List Value).toArray below meth c H locs 0 0 Z (F0 m 100 ls [.long z_100_0]) := by
          intro z_100_0 H locs hS ls hl hK_100
          refine lv_lstore (lv' := [(11, .long z_100_0), (0, .long p0), (4, .int x_7)]) hx hb dX3_sumOfFinite_100 hl (by decide) rfl (fun ls hl => ?_)
          refine va_gets hx hb hF.1 hS hown (hts _ (List.mem_of_getElem? (i := 1) rfl)) (fun _ h9 => h9) dX3_sumOfFinite_102 ?_
          refine lv_lload_n hx hb dX3_sumOfFinite_105 rfl (lv_at hl 1 rfl) ?_
          refine lv_lconst (v := 0) hx hb dX3_sumOfFinite_106 (by decide) ?_
          have K_123 : ∀ (z_123_0 : Int32) (H : Heap) (locs : List Loc), va_S pv_N s.heap H locs → ∀ (ls : Array Slot), lv_has ls 13 [(4, .int x_7), (11, .long z_100_0)] → s_X3_sumOfFinite p0 p1 = s_X3_sumOfFinite_j123 p0 p1 z_100_0 x_7 z_123_0 → W p l e (pm_R 3 73) s m ([.long p0, .long p1] : List Value).toArray below meth c H locs 0 0 Z (F0 m 123 ls [.int z_123_0, .ref dD]) := by
            intro z_123_0 H locs hS ls hl hK_123
            refine lv_iload hx hb dX3_sumOfFinite_123 (lv_at hl 0 rfl) ?_
            refine lv_bipush (v := 9) hx hb dX3_sumOfFinite_125 (by decide) ?_
            refine lv_isub hx hb dX3_sumOfFinite_127 ?_
            refine lv_lload hx hb dX3_sumOfFinite_128 (lv_at hl 1 rfl) ?_
            refine pm_callL (va_runV (As := [.int z_123_0, .int (x_7 - 9), .long z_100_0]) (rest := []) ⟨hx, hb, hml, hown, hts⟩ (pm_X0_pack l 52 (-1074) 9218868437227405312 (-9223372036854775808) dD z_123_0 (x_7 - 9) z_100_0) (cwV 3 hts gX3_sumOfFinite_X0_pack rfl rfl rfl hdv_X0_pack ⟨Nat.le_of_ble_eq_true rfl, Nat.le_of_ble_eq_true rfl⟩) ⟨KQ.fb, va_Orecv hF.2.2.1.1 hS, fun U hU hW => ⟨rfl, (KQ.call hF.2.2.1 hS U hU hW)⟩⟩ rfl rfl hl.1 rfl (lv_room (Nat.le_of_ble_eq_true rfl)) dX3_sumOfFinite_130 ⟨Nat.le_refl 0, Nat.le_refl 0⟩) hS (fun H locs _ _ hS => ?_)
            rw [hZ]
            exact pm_lret (w := s_X3_sumOfFinite p0 p1) hx hb hr hlocks hS (by subst ex_48 ex_31 ex_19 ex_7; exact (hK_123.trans rfl).symm) dX3_sumOfFinite_133
          refine lp_ge (tgt := 122) hx hb dX3_sumOfFinite_107 dX3_sumOfFinite_108 (by decide) (fun c_107 => ?_) (fun c_107 => ?_)
          ·
            refine lv_iconst (v := 0) hx hb dX3_sumOfFinite_122 (by decide) ?_
            exact K_123 0 _ _ hS ls (lv_sub hl [2, 0] rfl) (by subst ex_48 ex_31 ex_19 ex_7; exact hK_100.trans (if_pos c_107))
          ·
            refine lv_lload hx hb dX3_sumOfFinite_111 (lv_at hl 0 rfl) ?_
            refine lv_lconst (v := 0) hx hb dX3_sumOfFinite_113 (by decide) ?_
            refine lp_eq (tgt := 122) hx hb dX3_sumOfFinite_114 dX3_sumOfFinite_115 (by decide) (fun c_114 => ?_) (fun c_114 => ?_)
            ·
              refine lv_iconst (v := 0) hx hb dX3_sumOfFinite_122 (by decide) ?_
              exact K_123 0 _ _ hS ls (lv_sub hl [2, 0] rfl) (by subst ex_48 ex_31 ex_19 ex_7; exact hK_100.trans ((if_neg c_107).trans (if_pos c_114)))
            ·
              refine lv_iconst (v := 1) hx hb dX3_sumOfFinite_118 (by decide) ?_
              refine lv_goto (tgt := 123) hx hb dX3_sumOfFinite_119 (by decide) ?_
              exact K_123 1 _ _ hS ls (lv_sub hl [2, 0] rfl) (by subst ex_48 ex_31 ex_19 ex_7; exact hK_100.trans ((if_neg c_107).trans (if_neg c_114)))
        refine lv_if_eq (tgt := 95) hx hb dX3_sumOfFinite_84 (by decide) (fun c_84 => ?_) (fun c_84 => ?_)
        ·
          refine lv_lload hx hb dX3_sumOfFinite_95 (lv_at hl 3 rfl) ?_
          refine lv_lload hx hb dX3_sumOfFinite_97 (lv_at hl 4 rfl) ?_
          refine lv_lsub hx hb dX3_sumOfFinite_99 ?_
          exact K_100 (x_31 - x_48) _ _ hS ls (lv_sub hl [1, 2] rfl) (by subst ex_48 ex_31 ex_19 ex_7; exact hK_80.trans (if_pos c_84))
        ·
          refine lv_lload hx hb dX3_sumOfFinite_87 (lv_at hl 3 rfl) ?_
          refine lv_lload hx hb dX3_sumOfFinite_89 (lv_at hl 4 rfl) ?_
          refine lv_ladd hx hb dX3_sumOfFinite_91 ?_
          refine lv_goto (tgt := 100) hx hb dX3_sumOfFinite_92 (by decide) ?_
          exact K_100 (x_31 + x_48) _ _ hS ls (lv_sub hl [1, 2] rfl) (by subst ex_48 ex_31 ex_19 ex_7; exact hK_80.trans (if_neg c_84))
      refine lv_icmp_ne (tgt := 79) hx hb dX3_sumOfFinite_72 (by decide) (fun c_72 => ?_) (fun c_72 => ?_)
      ·
        refine lv_iconst (v := 0) hx hb dX3_sumOfFinite_79 (by decide) ?_
        exact K_80 0 _ _ hS ls (lv_sub hl [0, 1, 2, 3] rfl) (by subst ex_48 ex_31 ex_19 ex_7; exact hK_72.trans (if_neg c_72))
      ·
        refine lv_iconst (v := 1) hx hb dX3_sumOfFinite_75 (by decide) ?_
        refine lv_goto (tgt := 80) hx hb dX3_sumOfFinite_76 (by decide) ?_
        exact K_80 1 _ _ hS ls (lv_sub hl [0, 1, 2, 3] rfl) (by subst ex_48 ex_31 ex_19 ex_7; exact hK_72.trans (if_pos c_72))
    refine lp_ge (tgt := 71) hx hb dX3_sumOfFinite_63 dX3_sumOfFinite_64 (by decide) (fun c_63 => ?_) (fun c_63 => ?_)
    ·
      refine lv_iconst (v := 0) hx hb dX3_sumOfFinite_71 (by decide) ?_
      exact K_72 0 _ _ hS ls (lv_sub hl [0, 2, 3, 4] rfl) (by subst ex_48 ex_31 ex_19 ex_7; exact hK_61.trans (if_pos c_63))
    ·
      refine lv_iconst (v := 1) hx hb dX3_sumOfFinite_67 (by decide) ?_
      refine lv_goto (tgt := 72) hx hb dX3_sumOfFinite_68 (by decide) ?_
      exact K_72 1 _ _ hS ls (lv_sub hl [0, 2, 3, 4] rfl) (by subst ex_48 ex_31 ex_19 ex_7; exact hK_61.trans (if_neg c_63))
  refine lp_ge (tgt := 60) hx hb dX3_sumOfFinite_52 dX3_sumOfFinite_53 (by decide) (fun c_52 => ?_) (fun c_52 => ?_)
  ·
    refine lv_iconst (v := 0) hx hb dX3_sumOfFinite_60 (by decide) ?_
    exact K_61 0 _ _ hS ls (lv_sub hl [4, 5, 3, 1, 0] rfl) (by subst ex_48 ex_31 ex_19 ex_7; exact (if_pos c_52))
  ·
    refine lv_iconst (v := 1) hx hb dX3_sumOfFinite_56 (by decide) ?_
    refine lv_goto (tgt := 61) hx hb dX3_sumOfFinite_57 (by decide) ?_
    exact K_61 1 _ _ hS ls (lv_sub hl [4, 5, 3, 1, 0] rfl) (by subst ex_48 ex_31 ex_19 ex_7; exact (if_neg c_52))
theorem hd_X3_sum : yX3_sum.cls ≠ "java/lang/invoke/MethodHandle" ∧ yX3_sum.cls ≠ "java/lang/invoke/VarHandle" ∧ (parseMethodDescriptor yX3_sum.desc).map (fun d => d.parameters.length) = some 2 := by decide +kernel
def s_X3_sum_j111 (p0 : Int64) (p1 : Int64) (z_99_0 : Int64) (z_111_0 : Int64) : Int64 :=
  if (s_X0_isZero 52 (-1074) 9218868437227405312 (-9223372036854775808) z_99_0) = 0 then if (s_X0_isInfinite 52 (-1074) 9218868437227405312 (-9223372036854775808) z_99_0) = 0 then if (s_X0_isZero 52 (-1074) 9218868437227405312 (-9223372036854775808) z_111_0) = 0 then s_X3_sumOfFinite z_99_0 z_111_0
  else z_99_0
  else z_99_0
  else p0 &&& p1
def s_X3_sum_j99 (p0 : Int64) (p1 : Int64) (z_87_0 : Int32) (z_99_0 : Int64) : Int64 :=
  if z_87_0 = 0 then s_X3_sum_j111 p0 p1 z_99_0 p0
  else s_X3_sum_j111 p0 p1 z_99_0 p1
def s_X3_sum_j87 (p0 : Int64) (p1 : Int64) (z_87_0 : Int32) : Int64 :=
  if z_87_0 = 0 then s_X3_sum_j99 p0 p1 z_87_0 p1
  else s_X3_sum_j99 p0 p1 z_87_0 p0
def s_X3_sum (p0 : Int64) (p1 : Int64) : Int64 :=
  if (s_X0_isNaN 52 (-1074) 9218868437227405312 (-9223372036854775808) p0) = 0 then if (s_X0_isNaN 52 (-1074) 9218868437227405312 (-9223372036854775808) p1) = 0 then if (s_X0_isInfinite 52 (-1074) 9218868437227405312 (-9223372036854775808) p0) = 0 then if (s_X0_magnitude 52 (-1074) 9218868437227405312 (-9223372036854775808) p0) < (s_X0_magnitude 52 (-1074) 9218868437227405312 (-9223372036854775808) p1) then s_X3_sum_j87 p0 p1 0
  else s_X3_sum_j87 p0 p1 1
  else if (s_X0_isInfinite 52 (-1074) 9218868437227405312 (-9223372036854775808) p1) = 0 then p0
  else if p0 = p1 then p0
  else s_X0_plainNaN 52 (-1074) 9218868437227405312 (-9223372036854775808)
  else s_X0_plainNaN 52 (-1074) 9218868437227405312 (-9223372036854775808)
  else s_X0_plainNaN 52 (-1074) 9218868437227405312 (-9223372036854775808)
set_option maxHeartbeats 4000000 in
set_option maxRecDepth 100000 in
theorem pm_X3_sum (l : Launch) (dD dF : Nat) (p0 : Int64) (p1 : Int64) : PmL l yX3_sum wsX3_sum 4 105 [.long p0, .long p1] (fun U => KF dD dF pv_N U U.heap) (s_X3_sum p0 p1) := by
  refine Met.ofW (cc := cX3_sum) (maxL := 9) (ret := (some .long)) (by decide) rfl ?_
  intro p e s m args below meth c s₁ B hml hv
  obtain ⟨rfl, hF⟩ := hv
  have hx := B.exec
  have hb := B.bytes
  have hr := B.returns
  have hts := atoms_spec (ws := wsX3_sum) B.pre
  have hown : s.vm.findClass RX3 = some m.cls := findClass_of_methodNamed B.named
  have hlocks := B.notSynchronized
  have hS : va_S pv_N s.heap s.heap [] := va_S.rf
  have hl := lv_entry ([.long p0, .long p1]) (n := 9) (Nat.le_of_ble_eq_true rfl)
  rw [lg_entry_eq]
  generalize (lg_sl ([.long p0, .long p1]) ++ List.replicate (9 - (lg_sl ([.long p0, .long p1])).length) Slot.unset).toArray = ls at hl ⊢
  have hl : lv_has ls 9 [(0, .long p0), (2, .long p1)] := hl
  obtain ⟨Z, hZ⟩ : ∃ z, z = MQ below (pm_QL (s_X3_sum p0 p1)) ([.long p0, .long p1] : List Value).toArray s 0 0 pv_N := ⟨_, rfl⟩
  rw [← hZ]
  obtain ⟨Y, hY⟩ : ∃ y, y = s_X3_sum p0 p1 := ⟨_, rfl⟩
  refine va_gets hx hb hF.1 hS hown (hts _ (List.mem_of_getElem? (i := 1) rfl)) (fun _ h9 => h9) dX3_sum_0 ?_
  refine lv_lload_n hx hb dX3_sum_3 rfl (lv_at hl 0 rfl) ?_
  refine pm_callI (va_runV (As := [.long p0]) (rest := []) ⟨hx, hb, hml, hown, hts⟩ (pm_X0_isNaN l 52 (-1074) 9218868437227405312 (-9223372036854775808) dD p0) (cwV 1 hts gX3_sum_X0_isNaN rfl rfl rfl hdv_X0_isNaN ⟨Nat.le_of_ble_eq_true rfl, Nat.le_of_ble_eq_true rfl⟩) ⟨KQ.fb, va_Orecv hF.2.2.1.1 hS, fun U hU hW => ⟨rfl, (KQ.call hF.2.2.1 hS U hU hW)⟩⟩ rfl rfl hl.1 rfl (lv_room (Nat.le_of_ble_eq_true rfl)) dX3_sum_4 ⟨Nat.le_refl 0, Nat.le_refl 0⟩) hS (fun H locs _ _ hS => ?_)
  refine lv_if_ne (tgt := 20) hx hb dX3_sum_7 (by decide) (fun c_7 => ?_) (fun c_7 => ?_)
  ·
    refine va_gets hx hb hF.1 hS hown (hts _ (List.mem_of_getElem? (i := 1) rfl)) (fun _ h9 => h9) dX3_sum_20 ?_
    refine pm_callL (va_runV (As := []) (rest := []) ⟨hx, hb, hml, hown, hts⟩ (pm_X0_plainNaN l 52 (-1074) 9218868437227405312 (-9223372036854775808) dD) (cwV 0 hts gX3_sum_X0_plainNaN rfl rfl rfl hdv_X0_plainNaN ⟨Nat.le_of_ble_eq_true rfl, Nat.le_of_ble_eq_true rfl⟩) ⟨KQ.fb, va_Orecv hF.2.2.1.1 hS, fun U hU hW => ⟨rfl, (KQ.call hF.2.2.1 hS U hU hW)⟩⟩ rfl rfl hl.1 rfl (lv_room (Nat.le_of_ble_eq_true rfl)) dX3_sum_23 ⟨Nat.le_refl 0, Nat.le_refl 0⟩) hS (fun H locs _ _ hS => ?_)
    rw [hZ]
    exact pm_lret (w := s_X3_sum p0 p1) hx hb hr hlocks hS (by exact ((if_neg c_7)).symm) dX3_sum_26
  ·
    refine va_gets hx hb hF.1 hS hown (hts _ (List.mem_of_getElem? (i := 1) rfl)) (fun _ h9 => h9) dX3_sum_10 ?_
    refine lv_lload_n hx hb dX3_sum_13 rfl (lv_at hl 1 rfl) ?_
    refine pm_callI (va_runV (As := [.long p1]) (rest := []) ⟨hx, hb, hml, hown, hts⟩ (pm_X0_isNaN l 52 (-1074) 9218868437227405312 (-9223372036854775808) dD p1) (cwV 1 hts gX3_sum_X0_isNaN rfl rfl rfl hdv_X0_isNaN ⟨Nat.le_of_ble_eq_true rfl, Nat.le_of_ble_eq_true rfl⟩) ⟨KQ.fb, va_Orecv hF.2.2.1.1 hS, fun U hU hW => ⟨rfl, (KQ.call hF.2.2.1 hS U hU hW)⟩⟩ rfl rfl hl.1 rfl (lv_room (Nat.le_of_ble_eq_true rfl)) dX3_sum_14 ⟨Nat.le_refl 0, Nat.le_refl 0⟩) hS (fun H locs _ _ hS => ?_)
    refine lv_if_eq (tgt := 27) hx hb dX3_sum_17 (by decide) (fun c_17 => ?_) (fun c_17 => ?_)
    ·
      refine va_gets hx hb hF.1 hS hown (hts _ (List.mem_of_getElem? (i := 1) rfl)) (fun _ h9 => h9) dX3_sum_27 ?_
      refine lv_lload_n hx hb dX3_sum_30 rfl (lv_at hl 0 rfl) ?_
      refine pm_callI (va_runV (As := [.long p0]) (rest := []) ⟨hx, hb, hml, hown, hts⟩ (pm_X0_isInfinite l 52 (-1074) 9218868437227405312 (-9223372036854775808) dD p0) (cwV 1 hts gX3_sum_X0_isInfinite rfl rfl rfl hdv_X0_isInfinite ⟨Nat.le_of_ble_eq_true rfl, Nat.le_of_ble_eq_true rfl⟩) ⟨KQ.fb, va_Orecv hF.2.2.1.1 hS, fun U hU hW => ⟨rfl, (KQ.call hF.2.2.1 hS U hU hW)⟩⟩ rfl rfl hl.1 rfl (lv_room (Nat.le_of_ble_eq_true rfl)) dX3_sum_31 ⟨Nat.le_refl 0, Nat.le_refl 0⟩) hS (fun H locs _ _ hS => ?_)
      refine lv_if_eq (tgt := 64) hx hb dX3_sum_34 (by decide) (fun c_34 => ?_) (fun c_34 => ?_)
      ·
        refine va_gets hx hb hF.1 hS hown (hts _ (List.mem_of_getElem? (i := 1) rfl)) (fun _ h9 => h9) dX3_sum_64 ?_
        refine lv_lload_n hx hb dX3_sum_67 rfl (lv_at hl 0 rfl) ?_
        refine pm_callL (va_runV (As := [.long p0]) (rest := []) ⟨hx, hb, hml, hown, hts⟩ (pm_X0_magnitude l 52 (-1074) 9218868437227405312 (-9223372036854775808) dD p0) (cwV 1 hts gX3_sum_X0_magnitude rfl rfl rfl hdv_X0_magnitude ⟨Nat.le_of_ble_eq_true rfl, Nat.le_of_ble_eq_true rfl⟩) ⟨KQ.fb, va_Orecv hF.2.2.1.1 hS, fun U hU hW => ⟨rfl, (KQ.call hF.2.2.1 hS U hU hW)⟩⟩ rfl rfl hl.1 rfl (lv_room (Nat.le_of_ble_eq_true rfl)) dX3_sum_68 ⟨Nat.le_refl 0, Nat.le_refl 0⟩) hS (fun H locs _ _ hS => ?_)
        refine va_gets hx hb hF.1 hS hown (hts _ (List.mem_of_getElem? (i := 1) rfl)) (fun _ h9 => h9) dX3_sum_71 ?_
        refine lv_lload_n hx hb dX3_sum_74 rfl (lv_at hl 1 rfl) ?_
        refine pm_callL (va_runV (As := [.long p1]) (rest := [.long (s_X0_magnitude 52 (-1074) 9218868437227405312 (-9223372036854775808) p0)]) ⟨hx, hb, hml, hown, hts⟩ (pm_X0_magnitude l 52 (-1074) 9218868437227405312 (-9223372036854775808) dD p1) (cwV 1 hts gX3_sum_X0_magnitude rfl rfl rfl hdv_X0_magnitude ⟨Nat.le_of_ble_eq_true rfl, Nat.le_of_ble_eq_true rfl⟩) ⟨KQ.fb, va_Orecv hF.2.2.1.1 hS, fun U hU hW => ⟨rfl, (KQ.call hF.2.2.1 hS U hU hW)⟩⟩ rfl rfl hl.1 rfl (lv_room (Nat.le_of_ble_eq_true rfl)) dX3_sum_75 ⟨Nat.le_refl 0, Nat.le_refl 0⟩) hS (fun H locs _ _ hS => ?_)
        have K_87 : ∀ (z_87_0 : Int32) (H : Heap) (locs : List Loc), va_S pv_N s.heap H locs → ∀ (ls : Array Slot), lv_has ls 9 [(0, .long p0), (2, .long p1)] → s_X3_sum p0 p1 = s_X3_sum_j87 p0 p1 z_87_0 → W p l e (pm_R 4 105) s m ([.long p0, .long p1] : List Value).toArray below meth c H locs 0 0 Z (F0 m 87 ls [.int z_87_0]) := by
          intro z_87_0 H locs hS ls hl hK_87
          refine lv_istore (lv' := [(4, .int z_87_0), (0, .long p0), (2, .long p1)]) hx hb dX3_sum_87 hl (by decide) rfl (fun ls hl => ?_)
          refine lv_iload hx hb dX3_sum_89 (lv_at hl 0 rfl) ?_
          have K_99 : ∀ (z_99_0 : Int64) (H : Heap) (locs : List Loc), va_S pv_N s.heap H locs → ∀ (ls : Array Slot), lv_has ls 9 [(0, .long p0), (2, .long p1), (4, .int z_87_0)] → s_X3_sum p0 p1 = s_X3_sum_j99 p0 p1 z_87_0 z_99_0 → W p l e (pm_R 4 105) s m ([.long p0, .long p1] : List Value).toArray below meth c H locs 0 0 Z (F0 m 99 ls [.long z_99_0]) := by
            intro z_99_0 H locs hS ls hl hK_99
            refine lv_lstore (lv' := [(5, .long z_99_0), (0, .long p0), (2, .long p1), (4, .int z_87_0)]) hx hb dX3_sum_99 hl (by decide) rfl (fun ls hl => ?_)
            refine lv_iload hx hb dX3_sum_101 (lv_at hl 3 rfl) ?_
            have K_111 : ∀ (z_111_0 : Int64) (H : Heap) (locs : List Loc), va_S pv_N s.heap H locs → ∀ (ls : Array Slot), lv_has ls 9 [(0, .long p0), (2, .long p1), (5, .long z_99_0)] → s_X3_sum p0 p1 = s_X3_sum_j111 p0 p1 z_99_0 z_111_0 → W p l e (pm_R 4 105) s m ([.long p0, .long p1] : List Value).toArray below meth c H locs 0 0 Z (F0 m 111 ls [.long z_111_0]) := by
              intro z_111_0 H locs hS ls hl hK_111
              refine lv_lstore (lv' := [(7, .long z_111_0), (0, .long p0), (2, .long p1), (5, .long z_99_0)]) hx hb dX3_sum_111 hl (by decide) rfl (fun ls hl => ?_)
              refine va_gets hx hb hF.1 hS hown (hts _ (List.mem_of_getElem? (i := 1) rfl)) (fun _ h9 => h9) dX3_sum_113 ?_
              refine lv_lload hx hb dX3_sum_116 (lv_at hl 3 rfl) ?_
              refine pm_callI (va_runV (As := [.long z_99_0]) (rest := []) ⟨hx, hb, hml, hown, hts⟩ (pm_X0_isZero l 52 (-1074) 9218868437227405312 (-9223372036854775808) dD z_99_0) (cwV 1 hts gX3_sum_X0_isZero rfl rfl rfl hdv_X0_isZero ⟨Nat.le_of_ble_eq_true rfl, Nat.le_of_ble_eq_true rfl⟩) ⟨KQ.fb, va_Orecv hF.2.2.1.1 hS, fun U hU hW => ⟨rfl, (KQ.call hF.2.2.1 hS U hU hW)⟩⟩ rfl rfl hl.1 rfl (lv_room (Nat.le_of_ble_eq_true rfl)) dX3_sum_118 ⟨Nat.le_refl 0, Nat.le_refl 0⟩) hS (fun H locs _ _ hS => ?_)
              refine lv_if_eq (tgt := 128) hx hb dX3_sum_121 (by decide) (fun c_121 => ?_) (fun c_121 => ?_)
              ·
                refine va_gets hx hb hF.1 hS hown (hts _ (List.mem_of_getElem? (i := 1) rfl)) (fun _ h9 => h9) dX3_sum_128 ?_
                refine lv_lload hx hb dX3_sum_131 (lv_at hl 3 rfl) ?_
                refine pm_callI (va_runV (As := [.long z_99_0]) (rest := []) ⟨hx, hb, hml, hown, hts⟩ (pm_X0_isInfinite l 52 (-1074) 9218868437227405312 (-9223372036854775808) dD z_99_0) (cwV 1 hts gX3_sum_X0_isInfinite rfl rfl rfl hdv_X0_isInfinite ⟨Nat.le_of_ble_eq_true rfl, Nat.le_of_ble_eq_true rfl⟩) ⟨KQ.fb, va_Orecv hF.2.2.1.1 hS, fun U hU hW => ⟨rfl, (KQ.call hF.2.2.1 hS U hU hW)⟩⟩ rfl rfl hl.1 rfl (lv_room (Nat.le_of_ble_eq_true rfl)) dX3_sum_133 ⟨Nat.le_refl 0, Nat.le_refl 0⟩) hS (fun H locs _ _ hS => ?_)
                refine lv_if_ne (tgt := 150) hx hb dX3_sum_136 (by decide) (fun c_136 => ?_) (fun c_136 => ?_)
                ·
                  refine lv_lload hx hb dX3_sum_150 (lv_at hl 3 rfl) ?_
                  rw [hZ]
                  exact pm_lret (w := s_X3_sum p0 p1) hx hb hr hlocks hS (by exact (hK_111.trans ((if_pos c_121).trans (if_neg c_136))).symm) dX3_sum_152
                ·
                  refine va_gets hx hb hF.1 hS hown (hts _ (List.mem_of_getElem? (i := 1) rfl)) (fun _ h9 => h9) dX3_sum_139 ?_
                  refine lv_lload hx hb dX3_sum_142 (lv_at hl 0 rfl) ?_
                  refine pm_callI (va_runV (As := [.long z_111_0]) (rest := []) ⟨hx, hb, hml, hown, hts⟩ (pm_X0_isZero l 52 (-1074) 9218868437227405312 (-9223372036854775808) dD z_111_0) (cwV 1 hts gX3_sum_X0_isZero rfl rfl rfl hdv_X0_isZero ⟨Nat.le_of_ble_eq_true rfl, Nat.le_of_ble_eq_true rfl⟩) ⟨KQ.fb, va_Orecv hF.2.2.1.1 hS, fun U hU hW => ⟨rfl, (KQ.call hF.2.2.1 hS U hU hW)⟩⟩ rfl rfl hl.1 rfl (lv_room (Nat.le_of_ble_eq_true rfl)) dX3_sum_144 ⟨Nat.le_refl 0, Nat.le_refl 0⟩) hS (fun H locs _ _ hS => ?_)
                  refine lv_if_eq (tgt := 153) hx hb dX3_sum_147 (by decide) (fun c_147 => ?_) (fun c_147 => ?_)
                  ·
                    refine lv_lload hx hb dX3_sum_153 (lv_at hl 3 rfl) ?_
                    refine lv_lload hx hb dX3_sum_155 (lv_at hl 0 rfl) ?_
                    refine pm_callL (va_runS (As := [.long z_99_0, .long z_111_0]) (rest := []) ⟨hx, hb, hml, hown, hts⟩ (pm_X3_sumOfFinite l dD dF z_99_0 z_111_0) (va_cwS 2 hts gX3_sum_X3_sumOfFinite rfl rfl rfl hd_X3_sumOfFinite ⟨Nat.le_of_ble_eq_true rfl, Nat.le_of_ble_eq_true rfl⟩) ⟨KF.fb, fun U hU hW => ⟨rfl, (KF.call hF hS U hU hW)⟩⟩ rfl rfl hl.1 rfl (lv_room (Nat.le_of_ble_eq_true rfl)) dX3_sum_157 ⟨Nat.le_refl 0, Nat.le_refl 0⟩) hS (fun H locs _ _ hS => ?_)
                    rw [hZ]
                    exact pm_lret (w := s_X3_sum p0 p1) hx hb hr hlocks hS (by exact (hK_111.trans (((if_pos c_121).trans (if_pos c_136)).trans (if_pos c_147))).symm) dX3_sum_160
                  ·
                    refine lv_lload hx hb dX3_sum_150 (lv_at hl 3 rfl) ?_
                    rw [hZ]
                    exact pm_lret (w := s_X3_sum p0 p1) hx hb hr hlocks hS (by exact (hK_111.trans (((if_pos c_121).trans (if_pos c_136)).trans (if_neg c_147))).symm) dX3_sum_152
              ·
                refine lv_lload_n hx hb dX3_sum_124 rfl (lv_at hl 1 rfl) ?_
                refine lv_lload_n hx hb dX3_sum_125 rfl (lv_at hl 2 rfl) ?_
                refine lv_land hx hb dX3_sum_126 ?_
                rw [hZ]
                exact pm_lret (w := s_X3_sum p0 p1) hx hb hr hlocks hS (by exact (hK_111.trans (if_neg c_121)).symm) dX3_sum_127
            refine lv_if_eq (tgt := 110) hx hb dX3_sum_103 (by decide) (fun c_103 => ?_) (fun c_103 => ?_)
            ·
              refine lv_lload_n hx hb dX3_sum_110 rfl (lv_at hl 1 rfl) ?_
              exact K_111 p0 _ _ hS ls (lv_sub hl [1, 2, 0] rfl) (hK_99.trans (if_pos c_103))
            ·
              refine lv_lload_n hx hb dX3_sum_106 rfl (lv_at hl 2 rfl) ?_
              refine lv_goto (tgt := 111) hx hb dX3_sum_107 (by decide) ?_
              exact K_111 p1 _ _ hS ls (lv_sub hl [1, 2, 0] rfl) (hK_99.trans (if_neg c_103))
          refine lv_if_eq (tgt := 98) hx hb dX3_sum_91 (by decide) (fun c_91 => ?_) (fun c_91 => ?_)
          ·
            refine lv_lload_n hx hb dX3_sum_98 rfl (lv_at hl 2 rfl) ?_
            exact K_99 p1 _ _ hS ls (lv_sub hl [1, 2, 0] rfl) (hK_87.trans (if_pos c_91))
          ·
            refine lv_lload_n hx hb dX3_sum_94 rfl (lv_at hl 1 rfl) ?_
            refine lv_goto (tgt := 99) hx hb dX3_sum_95 (by decide) ?_
            exact K_99 p0 _ _ hS ls (lv_sub hl [1, 2, 0] rfl) (hK_87.trans (if_neg c_91))
        refine lp_lt (tgt := 86) hx hb dX3_sum_78 dX3_sum_79 (by decide) (fun c_78 => ?_) (fun c_78 => ?_)
        ·
          refine lv_iconst (v := 0) hx hb dX3_sum_86 (by decide) ?_
          exact K_87 0 _ _ hS ls (lv_sub hl [0, 1] rfl) (((((if_pos c_7).trans (if_pos c_17)).trans (if_pos c_34)).trans (if_pos c_78)))
        ·
          refine lv_iconst (v := 1) hx hb dX3_sum_82 (by decide) ?_
          refine lv_goto (tgt := 87) hx hb dX3_sum_83 (by decide) ?_
          exact K_87 1 _ _ hS ls (lv_sub hl [0, 1] rfl) (((((if_pos c_7).trans (if_pos c_17)).trans (if_pos c_34)).trans (if_neg c_78)))
      ·
        refine va_gets hx hb hF.1 hS hown (hts _ (List.mem_of_getElem? (i := 1) rfl)) (fun _ h9 => h9) dX3_sum_37 ?_
        refine lv_lload_n hx hb dX3_sum_40 rfl (lv_at hl 1 rfl) ?_
        refine pm_callI (va_runV (As := [.long p1]) (rest := []) ⟨hx, hb, hml, hown, hts⟩ (pm_X0_isInfinite l 52 (-1074) 9218868437227405312 (-9223372036854775808) dD p1) (cwV 1 hts gX3_sum_X0_isInfinite rfl rfl rfl hdv_X0_isInfinite ⟨Nat.le_of_ble_eq_true rfl, Nat.le_of_ble_eq_true rfl⟩) ⟨KQ.fb, va_Orecv hF.2.2.1.1 hS, fun U hU hW => ⟨rfl, (KQ.call hF.2.2.1 hS U hU hW)⟩⟩ rfl rfl hl.1 rfl (lv_room (Nat.le_of_ble_eq_true rfl)) dX3_sum_41 ⟨Nat.le_refl 0, Nat.le_refl 0⟩) hS (fun H locs _ _ hS => ?_)
        refine lv_if_eq (tgt := 62) hx hb dX3_sum_44 (by decide) (fun c_44 => ?_) (fun c_44 => ?_)
        ·
          refine lv_lload_n hx hb dX3_sum_62 rfl (lv_at hl 0 rfl) ?_
          rw [hZ]
          exact pm_lret (w := s_X3_sum p0 p1) hx hb hr hlocks hS (by exact (((((if_pos c_7).trans (if_pos c_17)).trans (if_neg c_34)).trans (if_pos c_44))).symm) dX3_sum_63
        ·
          refine lv_lload_n hx hb dX3_sum_47 rfl (lv_at hl 0 rfl) ?_
          refine lv_lload_n hx hb dX3_sum_48 rfl (lv_at hl 1 rfl) ?_
          refine lp_eq (tgt := 62) hx hb dX3_sum_49 dX3_sum_50 (by decide) (fun c_49 => ?_) (fun c_49 => ?_)
          ·
            refine lv_lload_n hx hb dX3_sum_62 rfl (lv_at hl 0 rfl) ?_
            rw [hZ]
            exact pm_lret (w := s_X3_sum p0 p1) hx hb hr hlocks hS (by exact ((((((if_pos c_7).trans (if_pos c_17)).trans (if_neg c_34)).trans (if_neg c_44)).trans (if_pos c_49))).symm) dX3_sum_63
          ·
            refine va_gets hx hb hF.1 hS hown (hts _ (List.mem_of_getElem? (i := 1) rfl)) (fun _ h9 => h9) dX3_sum_53 ?_
            refine pm_callL (va_runV (As := []) (rest := []) ⟨hx, hb, hml, hown, hts⟩ (pm_X0_plainNaN l 52 (-1074) 9218868437227405312 (-9223372036854775808) dD) (cwV 0 hts gX3_sum_X0_plainNaN rfl rfl rfl hdv_X0_plainNaN ⟨Nat.le_of_ble_eq_true rfl, Nat.le_of_ble_eq_true rfl⟩) ⟨KQ.fb, va_Orecv hF.2.2.1.1 hS, fun U hU hW => ⟨rfl, (KQ.call hF.2.2.1 hS U hU hW)⟩⟩ rfl rfl hl.1 rfl (lv_room (Nat.le_of_ble_eq_true rfl)) dX3_sum_56 ⟨Nat.le_refl 0, Nat.le_refl 0⟩) hS (fun H locs _ _ hS => ?_)
            refine lv_goto (tgt := 63) hx hb dX3_sum_59 (by decide) ?_
            rw [hZ]
            exact pm_lret (w := s_X3_sum p0 p1) hx hb hr hlocks hS (by exact ((((((if_pos c_7).trans (if_pos c_17)).trans (if_neg c_34)).trans (if_neg c_44)).trans (if_neg c_49))).symm) dX3_sum_63
    ·
      refine va_gets hx hb hF.1 hS hown (hts _ (List.mem_of_getElem? (i := 1) rfl)) (fun _ h9 => h9) dX3_sum_20 ?_
      refine pm_callL (va_runV (As := []) (rest := []) ⟨hx, hb, hml, hown, hts⟩ (pm_X0_plainNaN l 52 (-1074) 9218868437227405312 (-9223372036854775808) dD) (cwV 0 hts gX3_sum_X0_plainNaN rfl rfl rfl hdv_X0_plainNaN ⟨Nat.le_of_ble_eq_true rfl, Nat.le_of_ble_eq_true rfl⟩) ⟨KQ.fb, va_Orecv hF.2.2.1.1 hS, fun U hU hW => ⟨rfl, (KQ.call hF.2.2.1 hS U hU hW)⟩⟩ rfl rfl hl.1 rfl (lv_room (Nat.le_of_ble_eq_true rfl)) dX3_sum_23 ⟨Nat.le_refl 0, Nat.le_refl 0⟩) hS (fun H locs _ _ hS => ?_)
      rw [hZ]
      exact pm_lret (w := s_X3_sum p0 p1) hx hb hr hlocks hS (by exact (((if_pos c_7).trans (if_neg c_17))).symm) dX3_sum_26
theorem hd_X3_difference : yX3_difference.cls ≠ "java/lang/invoke/MethodHandle" ∧ yX3_difference.cls ≠ "java/lang/invoke/VarHandle" ∧ (parseMethodDescriptor yX3_difference.desc).map (fun d => d.parameters.length) = some 2 := by decide +kernel
def s_X3_difference (p0 : Int64) (p1 : Int64) : Int64 :=
  s_X3_sum p0 (p1 ^^^ (-9223372036854775808))
set_option maxHeartbeats 4000000 in
set_option maxRecDepth 100000 in
theorem pm_X3_difference (l : Launch) (dD dF : Nat) (p0 : Int64) (p1 : Int64) : PmL l yX3_difference wsX3_difference 5 133 [.long p0, .long p1] (fun U => KF dD dF pv_N U U.heap) (s_X3_difference p0 p1) := by
  refine Met.ofW (cc := cX3_difference) (maxL := 4) (ret := (some .long)) (by decide) rfl ?_
  intro p e s m args below meth c s₁ B hml hv
  obtain ⟨rfl, hF⟩ := hv
  have hx := B.exec
  have hb := B.bytes
  have hr := B.returns
  have hts := atoms_spec (ws := wsX3_difference) B.pre
  have hown : s.vm.findClass RX3 = some m.cls := findClass_of_methodNamed B.named
  have hlocks := B.notSynchronized
  have hS : va_S pv_N s.heap s.heap [] := va_S.rf
  have hl := lv_entry ([.long p0, .long p1]) (n := 4) (Nat.le_of_ble_eq_true rfl)
  rw [lg_entry_eq]
  generalize (lg_sl ([.long p0, .long p1]) ++ List.replicate (4 - (lg_sl ([.long p0, .long p1])).length) Slot.unset).toArray = ls at hl ⊢
  have hl : lv_has ls 4 [(0, .long p0), (2, .long p1)] := hl
  obtain ⟨Z, hZ⟩ : ∃ z, z = MQ below (pm_QL (s_X3_difference p0 p1)) ([.long p0, .long p1] : List Value).toArray s 0 0 pv_N := ⟨_, rfl⟩
  rw [← hZ]
  obtain ⟨Y, hY⟩ : ∃ y, y = s_X3_difference p0 p1 := ⟨_, rfl⟩
  refine lv_lload_n hx hb dX3_difference_0 rfl (lv_at hl 0 rfl) ?_
  refine lv_lload_n hx hb dX3_difference_1 rfl (lv_at hl 1 rfl) ?_
  refine lv_ldc2 (v := (-9223372036854775808)) hx hb hown (hts _ (List.mem_of_getElem? (i := 1) rfl)) dX3_difference_2 ?_
  refine lv_lxor hx hb dX3_difference_5 ?_
  refine pm_callL (va_runS (As := [.long p0, .long (p1 ^^^ (-9223372036854775808))]) (rest := []) ⟨hx, hb, hml, hown, hts⟩ (pm_X3_sum l dD dF p0 (p1 ^^^ (-9223372036854775808))) (va_cwS 2 hts gX3_difference_X3_sum rfl rfl rfl hd_X3_sum ⟨Nat.le_of_ble_eq_true rfl, Nat.le_of_ble_eq_true rfl⟩) ⟨KF.fb, fun U hU hW => ⟨rfl, (KF.call hF hS U hU hW)⟩⟩ rfl rfl hl.1 rfl (lv_room (Nat.le_of_ble_eq_true rfl)) dX3_difference_6 ⟨Nat.le_refl 0, Nat.le_refl 0⟩) hS (fun H locs _ _ hS => ?_)
  rw [hZ]
  exact pm_lret (w := s_X3_difference p0 p1) hx hb hr hlocks hS (by exact rfl) dX3_difference_9
theorem hd_X3_productOfFinite : yX3_productOfFinite.cls ≠ "java/lang/invoke/MethodHandle" ∧ yX3_productOfFinite.cls ≠ "java/lang/invoke/VarHandle" ∧ (parseMethodDescriptor yX3_productOfFinite.desc).map (fun d => d.parameters.length) = some 2 := by decide +kernel
def s_X3_productOfFinite_j156 (p0 : Int64) (p1 : Int64) (x_104 : Int64) (x_121 : Int32) (z_156_0 : Int32) : Int64 :=
  s_X0_pack 52 (-1074) 9218868437227405312 (-9223372036854775808) z_156_0 ((x_121 + 54) - 10) x_104
def s_X3_productOfFinite_j148 (p0 : Int64) (p1 : Int64) (z_137_0 : Int32) (x_104 : Int64) (x_121 : Int32) (z_148_0 : Int32) : Int64 :=
  if z_137_0 = z_148_0 then s_X3_productOfFinite_j156 p0 p1 x_104 x_121 0
  else s_X3_productOfFinite_j156 p0 p1 x_104 x_121 1
def s_X3_productOfFinite_j137 (p0 : Int64) (p1 : Int64) (x_104 : Int64) (x_121 : Int32) (z_137_0 : Int32) : Int64 :=
  if 0 ≤ p1 then s_X3_productOfFinite_j148 p0 p1 z_137_0 x_104 x_121 0
  else s_X3_productOfFinite_j148 p0 p1 z_137_0 x_104 x_121 1
def s_X3_productOfFinite (p0 : Int64) (p1 : Int64) : Int64 :=
  if 0 ≤ p0 then s_X3_productOfFinite_j137 p0 p1 ((lShl (((lUshr (s_X0_significand 52 (-1074) 9218868437227405312 (-9223372036854775808) p0) 27) * (lUshr (s_X0_significand 52 (-1074) 9218868437227405312 (-9223372036854775808) p1) 27)) + (lUshr (((lUshr (s_X0_significand 52 (-1074) 9218868437227405312 (-9223372036854775808) p0) 27) * ((s_X0_significand 52 (-1074) 9218868437227405312 (-9223372036854775808) p1) &&& (134217727))) + (((s_X0_significand 52 (-1074) 9218868437227405312 (-9223372036854775808) p0) &&& (134217727)) * (lUshr (s_X0_significand 52 (-1074) 9218868437227405312 (-9223372036854775808) p1) 27))) 27)) 10) + (s_X3_movedDown ((((s_X0_significand 52 (-1074) 9218868437227405312 (-9223372036854775808) p0) &&& (134217727)) * ((s_X0_significand 52 (-1074) 9218868437227405312 (-9223372036854775808) p1) &&& (134217727))) + (lShl ((((lUshr (s_X0_significand 52 (-1074) 9218868437227405312 (-9223372036854775808) p0) 27) * ((s_X0_significand 52 (-1074) 9218868437227405312 (-9223372036854775808) p1) &&& (134217727))) + (((s_X0_significand 52 (-1074) 9218868437227405312 (-9223372036854775808) p0) &&& (134217727)) * (lUshr (s_X0_significand 52 (-1074) 9218868437227405312 (-9223372036854775808) p1) 27))) &&& (134217727)) 27)) 44)) ((s_X0_exponent 52 (-1074) 9218868437227405312 (-9223372036854775808) p0) + (s_X0_exponent 52 (-1074) 9218868437227405312 (-9223372036854775808) p1)) 0
  else s_X3_productOfFinite_j137 p0 p1 ((lShl (((lUshr (s_X0_significand 52 (-1074) 9218868437227405312 (-9223372036854775808) p0) 27) * (lUshr (s_X0_significand 52 (-1074) 9218868437227405312 (-9223372036854775808) p1) 27)) + (lUshr (((lUshr (s_X0_significand 52 (-1074) 9218868437227405312 (-9223372036854775808) p0) 27) * ((s_X0_significand 52 (-1074) 9218868437227405312 (-9223372036854775808) p1) &&& (134217727))) + (((s_X0_significand 52 (-1074) 9218868437227405312 (-9223372036854775808) p0) &&& (134217727)) * (lUshr (s_X0_significand 52 (-1074) 9218868437227405312 (-9223372036854775808) p1) 27))) 27)) 10) + (s_X3_movedDown ((((s_X0_significand 52 (-1074) 9218868437227405312 (-9223372036854775808) p0) &&& (134217727)) * ((s_X0_significand 52 (-1074) 9218868437227405312 (-9223372036854775808) p1) &&& (134217727))) + (lShl ((((lUshr (s_X0_significand 52 (-1074) 9218868437227405312 (-9223372036854775808) p0) 27) * ((s_X0_significand 52 (-1074) 9218868437227405312 (-9223372036854775808) p1) &&& (134217727))) + (((s_X0_significand 52 (-1074) 9218868437227405312 (-9223372036854775808) p0) &&& (134217727)) * (lUshr (s_X0_significand 52 (-1074) 9218868437227405312 (-9223372036854775808) p1) 27))) &&& (134217727)) 27)) 44)) ((s_X0_exponent 52 (-1074) 9218868437227405312 (-9223372036854775808) p0) + (s_X0_exponent 52 (-1074) 9218868437227405312 (-9223372036854775808) p1)) 1
set_option maxHeartbeats 4000000 in
set_option maxRecDepth 100000 in
theorem pm_X3_productOfFinite (l : Launch) (dD dF : Nat) (p0 : Int64) (p1 : Int64) : PmL l yX3_productOfFinite wsX3_productOfFinite 3 73 [.long p0, .long p1] (fun U => KF dD dF pv_N U U.heap) (s_X3_productOfFinite p0 p1) := by
  refine Met.ofW (cc := cX3_productOfFinite) (maxL := 25) (ret := (some .long)) (by decide) rfl ?_
  intro p e s m args below meth c s₁ B hml hv
  obtain ⟨rfl, hF⟩ := hv
  have hx := B.exec
  have hb := B.bytes
  have hr := B.returns
  have hts := atoms_spec (ws := wsX3_productOfFinite) B.pre
  have hown : s.vm.findClass RX3 = some m.cls := findClass_of_methodNamed B.named
  have hlocks := B.notSynchronized
  have hS : va_S pv_N s.heap s.heap [] := va_S.rf
  have hl := lv_entry ([.long p0, .long p1]) (n := 25) (Nat.le_of_ble_eq_true rfl)
  rw [lg_entry_eq]
  generalize (lg_sl ([.long p0, .long p1]) ++ List.replicate (25 - (lg_sl ([.long p0, .long p1])).length) Slot.unset).toArray = ls at hl ⊢
  have hl : lv_has ls 25 [(0, .long p0), (2, .long p1)] := hl
  obtain ⟨Z, hZ⟩ : ∃ z, z = MQ below (pm_QL (s_X3_productOfFinite p0 p1)) ([.long p0, .long p1] : List Value).toArray s 0 0 pv_N := ⟨_, rfl⟩
  rw [← hZ]
  obtain ⟨Y, hY⟩ : ∃ y, y = s_X3_productOfFinite p0 p1 := ⟨_, rfl⟩
  refine va_gets hx hb hF.1 hS hown (hts _ (List.mem_of_getElem? (i := 1) rfl)) (fun _ h9 => h9) dX3_productOfFinite_0 ?_
  refine lv_lload_n hx hb dX3_productOfFinite_3 rfl (lv_at hl 0 rfl) ?_
  refine pm_callL (va_runV (As := [.long p0]) (rest := []) ⟨hx, hb, hml, hown, hts⟩ (pm_X0_significand l 52 (-1074) 9218868437227405312 (-9223372036854775808) dD p0) (cwV 1 hts gX3_productOfFinite_X0_significand rfl rfl rfl hdv_X0_significand ⟨Nat.le_of_ble_eq_true rfl, Nat.le_of_ble_eq_true rfl⟩) ⟨KQ.fb, va_Orecv hF.2.2.1.1 hS, fun U hU hW => ⟨rfl, (KQ.call hF.2.2.1 hS U hU hW)⟩⟩ rfl rfl hl.1 rfl (lv_room (Nat.le_of_ble_eq_true rfl)) dX3_productOfFinite_4 ⟨Nat.le_refl 0, Nat.le_refl 0⟩) hS (fun H locs _ _ hS => ?_)
  refine lv_topl (fun x_7 ex_7 => ?_)
  refine lv_lstore (lv' := [(4, .long x_7), (0, .long p0), (2, .long p1)]) hx hb dX3_productOfFinite_7 hl (by decide) rfl (fun ls hl => ?_)
  refine va_gets hx hb hF.1 hS hown (hts _ (List.mem_of_getElem? (i := 1) rfl)) (fun _ h9 => h9) dX3_productOfFinite_9 ?_
  refine lv_lload_n hx hb dX3_productOfFinite_12 rfl (lv_at hl 2 rfl) ?_
  refine pm_callL (va_runV (As := [.long p1]) (rest := []) ⟨hx, hb, hml, hown, hts⟩ (pm_X0_significand l 52 (-1074) 9218868437227405312 (-9223372036854775808) dD p1) (cwV 1 hts gX3_productOfFinite_X0_significand rfl rfl rfl hdv_X0_significand ⟨Nat.le_of_ble_eq_true rfl, Nat.le_of_ble_eq_true rfl⟩) ⟨KQ.fb, va_Orecv hF.2.2.1.1 hS, fun U hU hW => ⟨rfl, (KQ.call hF.2.2.1 hS U hU hW)⟩⟩ rfl rfl hl.1 rfl (lv_room (Nat.le_of_ble_eq_true rfl)) dX3_productOfFinite_13 ⟨Nat.le_refl 0, Nat.le_refl 0⟩) hS (fun H locs _ _ hS => ?_)
  refine lv_topl (fun x_16 ex_16 => ?_)
  refine lv_lstore (lv' := [(6, .long x_16), (4, .long x_7), (0, .long p0), (2, .long p1)]) hx hb dX3_productOfFinite_16 hl (by decide) rfl (fun ls hl => ?_)
  refine lv_lload hx hb dX3_productOfFinite_18 (lv_at hl 1 rfl) ?_
  refine lv_bipush (v := 27) hx hb dX3_productOfFinite_20 (by decide) ?_
  refine lv_lushr (v := lUshr x_7 27) hx hb dX3_productOfFinite_22 rfl ?_
  refine lv_topl (fun x_23 ex_23 => ?_)
  refine lv_lstore (lv' := [(8, .long x_23), (6, .long x_16), (4, .long x_7), (0, .long p0), (2, .long p1)]) hx hb dX3_productOfFinite_23 hl (by decide) rfl (fun ls hl => ?_)
  refine lv_lload hx hb dX3_productOfFinite_25 (lv_at hl 2 rfl) ?_
  refine lv_ldc2 (v := (134217727)) hx hb hown (hts _ (List.mem_of_getElem? (i := 2) rfl)) dX3_productOfFinite_27 ?_
  refine lv_land hx hb dX3_productOfFinite_30 ?_
  refine lv_topl (fun x_31 ex_31 => ?_)
  refine lv_lstore (lv' := [(10, .long x_31), (8, .long x_23), (6, .long x_16), (4, .long x_7), (0, .long p0), (2, .long p1)]) hx hb dX3_productOfFinite_31 hl (by decide) rfl (fun ls hl => ?_)
  refine lv_lload hx hb dX3_productOfFinite_33 (lv_at hl 2 rfl) ?_
  refine lv_bipush (v := 27) hx hb dX3_productOfFinite_35 (by decide) ?_
  refine lv_lushr (v := lUshr x_16 27) hx hb dX3_productOfFinite_37 rfl ?_
  refine lv_topl (fun x_38 ex_38 => ?_)
  refine lv_lstore (lv' := [(12, .long x_38), (10, .long x_31), (8, .long x_23), (6, .long x_16), (4, .long x_7), (0, .long p0), (2, .long p1)]) hx hb dX3_productOfFinite_38 hl (by decide) rfl (fun ls hl => ?_)
  refine lv_lload hx hb dX3_productOfFinite_40 (lv_at hl 3 rfl) ?_
  refine lv_ldc2 (v := (134217727)) hx hb hown (hts _ (List.mem_of_getElem? (i := 2) rfl)) dX3_productOfFinite_42 ?_
  refine lv_land hx hb dX3_productOfFinite_45 ?_
  refine lv_topl (fun x_46 ex_46 => ?_)
  refine lv_lstore (lv' := [(14, .long x_46), (12, .long x_38), (10, .long x_31), (8, .long x_23), (6, .long x_16), (4, .long x_7), (0, .long p0), (2, .long p1)]) hx hb dX3_productOfFinite_46 hl (by decide) rfl (fun ls hl => ?_)
  refine lv_lload hx hb dX3_productOfFinite_48 (lv_at hl 3 rfl) ?_
  refine lv_lload hx hb dX3_productOfFinite_50 (lv_at hl 0 rfl) ?_
  refine lv_lmul hx hb dX3_productOfFinite_52 ?_
  refine lv_lload hx hb dX3_productOfFinite_53 (lv_at hl 2 rfl) ?_
  refine lv_lload hx hb dX3_productOfFinite_55 (lv_at hl 1 rfl) ?_
  refine lv_lmul hx hb dX3_productOfFinite_57 ?_
  refine lv_ladd hx hb dX3_productOfFinite_58 ?_
  refine lv_topl (fun x_59 ex_59 => ?_)
  refine lv_lstore (lv' := [(16, .long x_59), (14, .long x_46), (12, .long x_38), (10, .long x_31), (8, .long x_23), (6, .long x_16), (4, .long x_7), (0, .long p0), (2, .long p1)]) hx hb dX3_productOfFinite_59 hl (by decide) rfl (fun ls hl => ?_)
  refine lv_lload hx hb dX3_productOfFinite_61 (lv_at hl 4 rfl) ?_
  refine lv_lload hx hb dX3_productOfFinite_63 (lv_at hl 2 rfl) ?_
  refine lv_lmul hx hb dX3_productOfFinite_65 ?_
  refine lv_lload hx hb dX3_productOfFinite_66 (lv_at hl 0 rfl) ?_
  refine lv_bipush (v := 27) hx hb dX3_productOfFinite_68 (by decide) ?_
  refine lv_lushr (v := lUshr x_59 27) hx hb dX3_productOfFinite_70 rfl ?_
  refine lv_ladd hx hb dX3_productOfFinite_71 ?_
  refine lv_topl (fun x_72 ex_72 => ?_)
  refine lv_lstore (lv' := [(18, .long x_72), (16, .long x_59), (14, .long x_46), (12, .long x_38), (10, .long x_31), (8, .long x_23), (6, .long x_16), (4, .long x_7), (0, .long p0), (2, .long p1)]) hx hb dX3_productOfFinite_72 hl (by decide) rfl (fun ls hl => ?_)
  refine lv_lload hx hb dX3_productOfFinite_74 (lv_at hl 4 rfl) ?_
  refine lv_lload hx hb dX3_productOfFinite_76 (lv_at hl 2 rfl) ?_
  refine lv_lmul hx hb dX3_productOfFinite_78 ?_
  refine lv_lload hx hb dX3_productOfFinite_79 (lv_at hl 1 rfl) ?_
  refine lv_ldc2 (v := (134217727)) hx hb hown (hts _ (List.mem_of_getElem? (i := 2) rfl)) dX3_productOfFinite_81 ?_
  refine lv_land hx hb dX3_productOfFinite_84 ?_
  refine lv_bipush (v := 27) hx hb dX3_productOfFinite_85 (by decide) ?_
  refine lv_lshl (v := lShl (x_59 &&& (134217727)) 27) hx hb dX3_productOfFinite_87 rfl ?_
  refine lv_ladd hx hb dX3_productOfFinite_88 ?_
  refine lv_topl (fun x_89 ex_89 => ?_)
  refine lv_lstore (lv' := [(20, .long x_89), (18, .long x_72), (16, .long x_59), (14, .long x_46), (12, .long x_38), (10, .long x_31), (8, .long x_23), (6, .long x_16), (4, .long x_7), (0, .long p0), (2, .long p1)]) hx hb dX3_productOfFinite_89 hl (by decide) rfl (fun ls hl => ?_)
  refine lv_lload hx hb dX3_productOfFinite_91 (lv_at hl 1 rfl) ?_
  refine lv_bipush (v := 10) hx hb dX3_productOfFinite_93 (by decide) ?_
  refine lv_lshl (v := lShl x_72 10) hx hb dX3_productOfFinite_95 rfl ?_
  refine lv_lload hx hb dX3_productOfFinite_96 (lv_at hl 0 rfl) ?_
  refine lv_bipush (v := 44) hx hb dX3_productOfFinite_98 (by decide) ?_
  refine pm_callL (va_runS (As := [.long x_89, .int 44]) (rest := [.long (lShl x_72 10)]) ⟨hx, hb, hml, hown, hts⟩ (pm_X3_movedDown l x_89 44) (va_cwS 2 hts gX3_productOfFinite_X3_movedDown rfl rfl rfl hd_X3_movedDown ⟨Nat.le_of_ble_eq_true rfl, Nat.le_of_ble_eq_true rfl⟩) ⟨pm_fbT, fun U hU hW => ⟨rfl, trivial⟩⟩ rfl rfl hl.1 rfl (lv_room (Nat.le_of_ble_eq_true rfl)) dX3_productOfFinite_100 ⟨Nat.le_refl 0, Nat.le_refl 0⟩) hS (fun H locs _ _ hS => ?_)
  refine lv_ladd hx hb dX3_productOfFinite_103 ?_
  refine lv_topl (fun x_104 ex_104 => ?_)
  refine lv_lstore (lv' := [(22, .long x_104), (20, .long x_89), (18, .long x_72), (16, .long x_59), (14, .long x_46), (12, .long x_38), (10, .long x_31), (8, .long x_23), (6, .long x_16), (4, .long x_7), (0, .long p0), (2, .long p1)]) hx hb dX3_productOfFinite_104 hl (by decide) rfl (fun ls hl => ?_)
  refine va_gets hx hb hF.1 hS hown (hts _ (List.mem_of_getElem? (i := 1) rfl)) (fun _ h9 => h9) dX3_productOfFinite_106 ?_
  refine lv_lload_n hx hb dX3_productOfFinite_109 rfl (lv_at hl 10 rfl) ?_
  refine pm_callI (va_runV (As := [.long p0]) (rest := []) ⟨hx, hb, hml, hown, hts⟩ (pm_X0_exponent l 52 (-1074) 9218868437227405312 (-9223372036854775808) dD p0) (cwV 1 hts gX3_productOfFinite_X0_exponent rfl rfl rfl hdv_X0_exponent ⟨Nat.le_of_ble_eq_true rfl, Nat.le_of_ble_eq_true rfl⟩) ⟨KQ.fb, va_Orecv hF.2.2.1.1 hS, fun U hU hW => ⟨rfl, (KQ.call hF.2.2.1 hS U hU hW)⟩⟩ rfl rfl hl.1 rfl (lv_room (Nat.le_of_ble_eq_true rfl)) dX3_productOfFinite_110 ⟨Nat.le_refl 0, Nat.le_refl 0⟩) hS (fun H locs _ _ hS => ?_)
  refine va_gets hx hb hF.1 hS hown (hts _ (List.mem_of_getElem? (i := 1) rfl)) (fun _ h9 => h9) dX3_productOfFinite_113 ?_
  refine lv_lload_n hx hb dX3_productOfFinite_116 rfl (lv_at hl 11 rfl) ?_
  refine pm_callI (va_runV (As := [.long p1]) (rest := [.int (s_X0_exponent 52 (-1074) 9218868437227405312 (-9223372036854775808) p0)]) ⟨hx, hb, hml, hown, hts⟩ (pm_X0_exponent l 52 (-1074) 9218868437227405312 (-9223372036854775808) dD p1) (cwV 1 hts gX3_productOfFinite_X0_exponent rfl rfl rfl hdv_X0_exponent ⟨Nat.le_of_ble_eq_true rfl, Nat.le_of_ble_eq_true rfl⟩) ⟨KQ.fb, va_Orecv hF.2.2.1.1 hS, fun U hU hW => ⟨rfl, (KQ.call hF.2.2.1 hS U hU hW)⟩⟩ rfl rfl hl.1 rfl (lv_room (Nat.le_of_ble_eq_true rfl)) dX3_productOfFinite_117 ⟨Nat.le_refl 0, Nat.le_refl 0⟩) hS (fun H locs _ _ hS => ?_)
  refine lv_iadd hx hb dX3_productOfFinite_120 ?_
  refine lv_topi (fun x_121 ex_121 => ?_)
  refine lv_istore (lv' := [(24, .int x_121), (22, .long x_104), (20, .long x_89), (18, .long x_72), (16, .long x_59), (14, .long x_46), (12, .long x_38), (10, .long x_31), (8, .long x_23), (6, .long x_16), (4, .long x_7), (0, .long p0), (2, .long p1)]) hx hb dX3_productOfFinite_121 hl (by decide) rfl (fun ls hl => ?_)
  refine va_gets hx hb hF.1 hS hown (hts _ (List.mem_of_getElem? (i := 1) rfl)) (fun _ h9 => h9) dX3_productOfFinite_123 ?_
  refine lv_lload_n hx hb dX3_productOfFinite_126 rfl (lv_at hl 11 rfl) ?_
  refine lv_lconst (v := 0) hx hb dX3_productOfFinite_127 (by decide) ?_
  have K_137 : ∀ (z_137_0 : Int32) (H : Heap) (locs : List Loc), va_S pv_N s.heap H locs → ∀ (ls : Array Slot), lv_has ls 25 [(2, .long p1), (22, .long x_104), (24, .int x_121)] → s_X3_productOfFinite p0 p1 = s_X3_productOfFinite_j137 p0 p1 x_104 x_121 z_137_0 → W p l e (pm_R 3 73) s m ([.long p0, .long p1] : List Value).toArray below meth c H locs 0 0 Z (F0 m 137 ls [.int z_137_0, .ref dD]) := by
    intro z_137_0 H locs hS ls hl hK_137
    refine lv_lload_n hx hb dX3_productOfFinite_137 rfl (lv_at hl 0 rfl) ?_
    refine lv_lconst (v := 0) hx hb dX3_productOfFinite_138 (by decide) ?_
    have K_148 : ∀ (z_148_0 : Int32) (H : Heap) (locs : List Loc), va_S pv_N s.heap H locs → ∀ (ls : Array Slot), lv_has ls 25 [(22, .long x_104), (24, .int x_121)] → s_X3_productOfFinite p0 p1 = s_X3_productOfFinite_j148 p0 p1 z_137_0 x_104 x_121 z_148_0 → W p l e (pm_R 3 73) s m ([.long p0, .long p1] : List Value).toArray below meth c H locs 0 0 Z (F0 m 148 ls [.int z_148_0, .int z_137_0, .ref dD]) := by
      intro z_148_0 H locs hS ls hl hK_148
      have K_156 : ∀ (z_156_0 : Int32) (H : Heap) (locs : List Loc), va_S pv_N s.heap H locs → ∀ (ls : Array Slot), lv_has ls 25 [(22, .long x_104), (24, .int x_121)] → s_X3_productOfFinite p0 p1 = s_X3_productOfFinite_j156 p0 p1 x_104 x_121 z_156_0 → W p l e (pm_R 3 73) s m ([.long p0, .long p1] : List Value).toArray below meth c H locs 0 0 Z (F0 m 156 ls [.int z_156_0, .ref dD]) := by
        intro z_156_0 H locs hS ls hl hK_156
        refine lv_iload hx hb dX3_productOfFinite_156 (lv_at hl 1 rfl) ?_
        refine lv_bipush (v := 54) hx hb dX3_productOfFinite_158 (by decide) ?_
        refine lv_iadd hx hb dX3_productOfFinite_160 ?_
        refine lv_bipush (v := 10) hx hb dX3_productOfFinite_161 (by decide) ?_
        refine lv_isub hx hb dX3_productOfFinite_163 ?_
        refine lv_lload hx hb dX3_productOfFinite_164 (lv_at hl 0 rfl) ?_
        refine pm_callL (va_runV (As := [.int z_156_0, .int ((x_121 + 54) - 10), .long x_104]) (rest := []) ⟨hx, hb, hml, hown, hts⟩ (pm_X0_pack l 52 (-1074) 9218868437227405312 (-9223372036854775808) dD z_156_0 ((x_121 + 54) - 10) x_104) (cwV 3 hts gX3_productOfFinite_X0_pack rfl rfl rfl hdv_X0_pack ⟨Nat.le_of_ble_eq_true rfl, Nat.le_of_ble_eq_true rfl⟩) ⟨KQ.fb, va_Orecv hF.2.2.1.1 hS, fun U hU hW => ⟨rfl, (KQ.call hF.2.2.1 hS U hU hW)⟩⟩ rfl rfl hl.1 rfl (lv_room (Nat.le_of_ble_eq_true rfl)) dX3_productOfFinite_166 ⟨Nat.le_refl 0, Nat.le_refl 0⟩) hS (fun H locs _ _ hS => ?_)
        rw [hZ]
        exact pm_lret (w := s_X3_productOfFinite p0 p1) hx hb hr hlocks hS (by subst ex_121 ex_104 ex_89 ex_72 ex_59 ex_46 ex_38 ex_31 ex_23 ex_16 ex_7; exact (hK_156.trans rfl).symm) dX3_productOfFinite_169
      refine lv_icmp_eq (tgt := 155) hx hb dX3_productOfFinite_148 (by decide) (fun c_148 => ?_) (fun c_148 => ?_)
      ·
        refine lv_iconst (v := 0) hx hb dX3_productOfFinite_155 (by decide) ?_
        exact K_156 0 _ _ hS ls (lv_sub hl [0, 1] rfl) (by subst ex_121 ex_104 ex_89 ex_72 ex_59 ex_46 ex_38 ex_31 ex_23 ex_16 ex_7; exact hK_148.trans (if_pos c_148))
      ·
        refine lv_iconst (v := 1) hx hb dX3_productOfFinite_151 (by decide) ?_
        refine lv_goto (tgt := 156) hx hb dX3_productOfFinite_152 (by decide) ?_
        exact K_156 1 _ _ hS ls (lv_sub hl [0, 1] rfl) (by subst ex_121 ex_104 ex_89 ex_72 ex_59 ex_46 ex_38 ex_31 ex_23 ex_16 ex_7; exact hK_148.trans (if_neg c_148))
    refine lp_ge (tgt := 147) hx hb dX3_productOfFinite_139 dX3_productOfFinite_140 (by decide) (fun c_139 => ?_) (fun c_139 => ?_)
    ·
      refine lv_iconst (v := 0) hx hb dX3_productOfFinite_147 (by decide) ?_
      exact K_148 0 _ _ hS ls (lv_sub hl [1, 2] rfl) (by subst ex_121 ex_104 ex_89 ex_72 ex_59 ex_46 ex_38 ex_31 ex_23 ex_16 ex_7; exact hK_137.trans (if_pos c_139))
    ·
      refine lv_iconst (v := 1) hx hb dX3_productOfFinite_143 (by decide) ?_
      refine lv_goto (tgt := 148) hx hb dX3_productOfFinite_144 (by decide) ?_
      exact K_148 1 _ _ hS ls (lv_sub hl [1, 2] rfl) (by subst ex_121 ex_104 ex_89 ex_72 ex_59 ex_46 ex_38 ex_31 ex_23 ex_16 ex_7; exact hK_137.trans (if_neg c_139))
  refine lp_ge (tgt := 136) hx hb dX3_productOfFinite_128 dX3_productOfFinite_129 (by decide) (fun c_128 => ?_) (fun c_128 => ?_)
  ·
    refine lv_iconst (v := 0) hx hb dX3_productOfFinite_136 (by decide) ?_
    exact K_137 0 _ _ hS ls (lv_sub hl [12, 1, 0] rfl) (by subst ex_121 ex_104 ex_89 ex_72 ex_59 ex_46 ex_38 ex_31 ex_23 ex_16 ex_7; exact (if_pos c_128))
  ·
    refine lv_iconst (v := 1) hx hb dX3_productOfFinite_132 (by decide) ?_
    refine lv_goto (tgt := 137) hx hb dX3_productOfFinite_133 (by decide) ?_
    exact K_137 1 _ _ hS ls (lv_sub hl [12, 1, 0] rfl) (by subst ex_121 ex_104 ex_89 ex_72 ex_59 ex_46 ex_38 ex_31 ex_23 ex_16 ex_7; exact (if_neg c_128))
theorem hd_X3_product : yX3_product.cls ≠ "java/lang/invoke/MethodHandle" ∧ yX3_product.cls ≠ "java/lang/invoke/VarHandle" ∧ (parseMethodDescriptor yX3_product.desc).map (fun d => d.parameters.length) = some 2 := by decide +kernel
def s_X3_product_j83 (p0 : Int64) (p1 : Int64) (z_61_0 : Int32) (x_34 : Int64) : Int64 :=
  if z_61_0 = 0 then x_34 ||| 9218868437227405312
  else s_X0_plainNaN 52 (-1074) 9218868437227405312 (-9223372036854775808)
def s_X3_product_j61 (p0 : Int64) (p1 : Int64) (x_34 : Int64) (z_61_0 : Int32) : Int64 :=
  if (s_X0_isInfinite 52 (-1074) 9218868437227405312 (-9223372036854775808) p0) = 0 then if (s_X0_isInfinite 52 (-1074) 9218868437227405312 (-9223372036854775808) p1) = 0 then if z_61_0 = 0 then s_X3_productOfFinite p0 p1
  else x_34
  else s_X3_product_j83 p0 p1 z_61_0 x_34
  else s_X3_product_j83 p0 p1 z_61_0 x_34
def s_X3_product (p0 : Int64) (p1 : Int64) : Int64 :=
  if (s_X0_isNaN 52 (-1074) 9218868437227405312 (-9223372036854775808) p0) = 0 then if (s_X0_isNaN 52 (-1074) 9218868437227405312 (-9223372036854775808) p1) = 0 then if (s_X0_isZero 52 (-1074) 9218868437227405312 (-9223372036854775808) p0) = 0 then if (s_X0_isZero 52 (-1074) 9218868437227405312 (-9223372036854775808) p1) = 0 then s_X3_product_j61 p0 p1 ((p0 ^^^ p1) &&& (-9223372036854775808)) 0
  else s_X3_product_j61 p0 p1 ((p0 ^^^ p1) &&& (-9223372036854775808)) 1
  else s_X3_product_j61 p0 p1 ((p0 ^^^ p1) &&& (-9223372036854775808)) 1
  else s_X0_plainNaN 52 (-1074) 9218868437227405312 (-9223372036854775808)
  else s_X0_plainNaN 52 (-1074) 9218868437227405312 (-9223372036854775808)
set_option maxHeartbeats 4000000 in
set_option maxRecDepth 100000 in
theorem pm_X3_product (l : Launch) (dD dF : Nat) (p0 : Int64) (p1 : Int64) : PmL l yX3_product wsX3_product 4 117 [.long p0, .long p1] (fun U => KF dD dF pv_N U U.heap) (s_X3_product p0 p1) := by
  refine Met.ofW (cc := cX3_product) (maxL := 7) (ret := (some .long)) (by decide) rfl ?_
  intro p e s m args below meth c s₁ B hml hv
  obtain ⟨rfl, hF⟩ := hv
  have hx := B.exec
  have hb := B.bytes
  have hr := B.returns
  have hts := atoms_spec (ws := wsX3_product) B.pre
  have hown : s.vm.findClass RX3 = some m.cls := findClass_of_methodNamed B.named
  have hlocks := B.notSynchronized
  have hS : va_S pv_N s.heap s.heap [] := va_S.rf
  have hl := lv_entry ([.long p0, .long p1]) (n := 7) (Nat.le_of_ble_eq_true rfl)
  rw [lg_entry_eq]
  generalize (lg_sl ([.long p0, .long p1]) ++ List.replicate (7 - (lg_sl ([.long p0, .long p1])).length) Slot.unset).toArray = ls at hl ⊢
  have hl : lv_has ls 7 [(0, .long p0), (2, .long p1)] := hl
  obtain ⟨Z, hZ⟩ : ∃ z, z = MQ below (pm_QL (s_X3_product p0 p1)) ([.long p0, .long p1] : List Value).toArray s 0 0 pv_N := ⟨_, rfl⟩
  rw [← hZ]
  obtain ⟨Y, hY⟩ : ∃ y, y = s_X3_product p0 p1 := ⟨_, rfl⟩
  refine va_gets hx hb hF.1 hS hown (hts _ (List.mem_of_getElem? (i := 1) rfl)) (fun _ h9 => h9) dX3_product_0 ?_
  refine lv_lload_n hx hb dX3_product_3 rfl (lv_at hl 0 rfl) ?_
  refine pm_callI (va_runV (As := [.long p0]) (rest := []) ⟨hx, hb, hml, hown, hts⟩ (pm_X0_isNaN l 52 (-1074) 9218868437227405312 (-9223372036854775808) dD p0) (cwV 1 hts gX3_product_X0_isNaN rfl rfl rfl hdv_X0_isNaN ⟨Nat.le_of_ble_eq_true rfl, Nat.le_of_ble_eq_true rfl⟩) ⟨KQ.fb, va_Orecv hF.2.2.1.1 hS, fun U hU hW => ⟨rfl, (KQ.call hF.2.2.1 hS U hU hW)⟩⟩ rfl rfl hl.1 rfl (lv_room (Nat.le_of_ble_eq_true rfl)) dX3_product_4 ⟨Nat.le_refl 0, Nat.le_refl 0⟩) hS (fun H locs _ _ hS => ?_)
  refine lv_if_ne (tgt := 20) hx hb dX3_product_7 (by decide) (fun c_7 => ?_) (fun c_7 => ?_)
  ·
    refine va_gets hx hb hF.1 hS hown (hts _ (List.mem_of_getElem? (i := 1) rfl)) (fun _ h9 => h9) dX3_product_20 ?_
    refine pm_callL (va_runV (As := []) (rest := []) ⟨hx, hb, hml, hown, hts⟩ (pm_X0_plainNaN l 52 (-1074) 9218868437227405312 (-9223372036854775808) dD) (cwV 0 hts gX3_product_X0_plainNaN rfl rfl rfl hdv_X0_plainNaN ⟨Nat.le_of_ble_eq_true rfl, Nat.le_of_ble_eq_true rfl⟩) ⟨KQ.fb, va_Orecv hF.2.2.1.1 hS, fun U hU hW => ⟨rfl, (KQ.call hF.2.2.1 hS U hU hW)⟩⟩ rfl rfl hl.1 rfl (lv_room (Nat.le_of_ble_eq_true rfl)) dX3_product_23 ⟨Nat.le_refl 0, Nat.le_refl 0⟩) hS (fun H locs _ _ hS => ?_)
    rw [hZ]
    exact pm_lret (w := s_X3_product p0 p1) hx hb hr hlocks hS (by exact ((if_neg c_7)).symm) dX3_product_26
  ·
    refine va_gets hx hb hF.1 hS hown (hts _ (List.mem_of_getElem? (i := 1) rfl)) (fun _ h9 => h9) dX3_product_10 ?_
    refine lv_lload_n hx hb dX3_product_13 rfl (lv_at hl 1 rfl) ?_
    refine pm_callI (va_runV (As := [.long p1]) (rest := []) ⟨hx, hb, hml, hown, hts⟩ (pm_X0_isNaN l 52 (-1074) 9218868437227405312 (-9223372036854775808) dD p1) (cwV 1 hts gX3_product_X0_isNaN rfl rfl rfl hdv_X0_isNaN ⟨Nat.le_of_ble_eq_true rfl, Nat.le_of_ble_eq_true rfl⟩) ⟨KQ.fb, va_Orecv hF.2.2.1.1 hS, fun U hU hW => ⟨rfl, (KQ.call hF.2.2.1 hS U hU hW)⟩⟩ rfl rfl hl.1 rfl (lv_room (Nat.le_of_ble_eq_true rfl)) dX3_product_14 ⟨Nat.le_refl 0, Nat.le_refl 0⟩) hS (fun H locs _ _ hS => ?_)
    refine lv_if_eq (tgt := 27) hx hb dX3_product_17 (by decide) (fun c_17 => ?_) (fun c_17 => ?_)
    ·
      refine lv_lload_n hx hb dX3_product_27 rfl (lv_at hl 0 rfl) ?_
      refine lv_lload_n hx hb dX3_product_28 rfl (lv_at hl 1 rfl) ?_
      refine lv_lxor hx hb dX3_product_29 ?_
      refine lv_ldc2 (v := (-9223372036854775808)) hx hb hown (hts _ (List.mem_of_getElem? (i := 2) rfl)) dX3_product_30 ?_
      refine lv_land hx hb dX3_product_33 ?_
      refine lv_topl (fun x_34 ex_34 => ?_)
      refine lv_lstore (lv' := [(4, .long x_34), (0, .long p0), (2, .long p1)]) hx hb dX3_product_34 hl (by decide) rfl (fun ls hl => ?_)
      refine va_gets hx hb hF.1 hS hown (hts _ (List.mem_of_getElem? (i := 1) rfl)) (fun _ h9 => h9) dX3_product_36 ?_
      refine lv_lload_n hx hb dX3_product_39 rfl (lv_at hl 1 rfl) ?_
      refine pm_callI (va_runV (As := [.long p0]) (rest := []) ⟨hx, hb, hml, hown, hts⟩ (pm_X0_isZero l 52 (-1074) 9218868437227405312 (-9223372036854775808) dD p0) (cwV 1 hts gX3_product_X0_isZero rfl rfl rfl hdv_X0_isZero ⟨Nat.le_of_ble_eq_true rfl, Nat.le_of_ble_eq_true rfl⟩) ⟨KQ.fb, va_Orecv hF.2.2.1.1 hS, fun U hU hW => ⟨rfl, (KQ.call hF.2.2.1 hS U hU hW)⟩⟩ rfl rfl hl.1 rfl (lv_room (Nat.le_of_ble_eq_true rfl)) dX3_product_40 ⟨Nat.le_refl 0, Nat.le_refl 0⟩) hS (fun H locs _ _ hS => ?_)
      have K_61 : ∀ (z_61_0 : Int32) (H : Heap) (locs : List Loc), va_S pv_N s.heap H locs → ∀ (ls : Array Slot), lv_has ls 7 [(0, .long p0), (2, .long p1), (4, .long x_34)] → s_X3_product p0 p1 = s_X3_product_j61 p0 p1 x_34 z_61_0 → W p l e (pm_R 4 117) s m ([.long p0, .long p1] : List Value).toArray below meth c H locs 0 0 Z (F0 m 61 ls [.int z_61_0]) := by
        intro z_61_0 H locs hS ls hl hK_61
        refine lv_istore (lv' := [(6, .int z_61_0), (0, .long p0), (2, .long p1), (4, .long x_34)]) hx hb dX3_product_61 hl (by decide) rfl (fun ls hl => ?_)
        refine va_gets hx hb hF.1 hS hown (hts _ (List.mem_of_getElem? (i := 1) rfl)) (fun _ h9 => h9) dX3_product_63 ?_
        refine lv_lload_n hx hb dX3_product_66 rfl (lv_at hl 1 rfl) ?_
        refine pm_callI (va_runV (As := [.long p0]) (rest := []) ⟨hx, hb, hml, hown, hts⟩ (pm_X0_isInfinite l 52 (-1074) 9218868437227405312 (-9223372036854775808) dD p0) (cwV 1 hts gX3_product_X0_isInfinite rfl rfl rfl hdv_X0_isInfinite ⟨Nat.le_of_ble_eq_true rfl, Nat.le_of_ble_eq_true rfl⟩) ⟨KQ.fb, va_Orecv hF.2.2.1.1 hS, fun U hU hW => ⟨rfl, (KQ.call hF.2.2.1 hS U hU hW)⟩⟩ rfl rfl hl.1 rfl (lv_room (Nat.le_of_ble_eq_true rfl)) dX3_product_67 ⟨Nat.le_refl 0, Nat.le_refl 0⟩) hS (fun H locs _ _ hS => ?_)
        have K_83 : ∀ (H : Heap) (locs : List Loc), va_S pv_N s.heap H locs → ∀ (ls : Array Slot), lv_has ls 7 [(4, .long x_34), (6, .int z_61_0)] → s_X3_product p0 p1 = s_X3_product_j83 p0 p1 z_61_0 x_34 → W p l e (pm_R 4 117) s m ([.long p0, .long p1] : List Value).toArray below meth c H locs 0 0 Z (F0 m 83 ls []) := by
          intro H locs hS ls hl hK_83
          refine lv_iload hx hb dX3_product_83 (lv_at hl 1 rfl) ?_
          refine lv_if_eq (tgt := 97) hx hb dX3_product_85 (by decide) (fun c_85 => ?_) (fun c_85 => ?_)
          ·
            refine lv_lload hx hb dX3_product_97 (lv_at hl 0 rfl) ?_
            refine va_gets hx hb hF.1 hS hown (hts _ (List.mem_of_getElem? (i := 1) rfl)) (fun _ h9 => h9) dX3_product_99 ?_
            refine vk_getf hx hb hF.2.2.1.2.2.2.1 hS hown (hts _ (List.mem_of_getElem? (i := 3) rfl)) (fun _ h9 => h9) dX3_product_102 ?_
            refine lv_lor hx hb dX3_product_105 ?_
            rw [hZ]
            exact pm_lret (w := s_X3_product p0 p1) hx hb hr hlocks hS (by subst ex_34; exact (hK_83.trans (if_pos c_85)).symm) dX3_product_106
          ·
            refine va_gets hx hb hF.1 hS hown (hts _ (List.mem_of_getElem? (i := 1) rfl)) (fun _ h9 => h9) dX3_product_88 ?_
            refine pm_callL (va_runV (As := []) (rest := []) ⟨hx, hb, hml, hown, hts⟩ (pm_X0_plainNaN l 52 (-1074) 9218868437227405312 (-9223372036854775808) dD) (cwV 0 hts gX3_product_X0_plainNaN rfl rfl rfl hdv_X0_plainNaN ⟨Nat.le_of_ble_eq_true rfl, Nat.le_of_ble_eq_true rfl⟩) ⟨KQ.fb, va_Orecv hF.2.2.1.1 hS, fun U hU hW => ⟨rfl, (KQ.call hF.2.2.1 hS U hU hW)⟩⟩ rfl rfl hl.1 rfl (lv_room (Nat.le_of_ble_eq_true rfl)) dX3_product_91 ⟨Nat.le_refl 0, Nat.le_refl 0⟩) hS (fun H locs _ _ hS => ?_)
            refine lv_goto (tgt := 106) hx hb dX3_product_94 (by decide) ?_
            rw [hZ]
            exact pm_lret (w := s_X3_product p0 p1) hx hb hr hlocks hS (by subst ex_34; exact (hK_83.trans (if_neg c_85)).symm) dX3_product_106
        refine lv_if_ne (tgt := 83) hx hb dX3_product_70 (by decide) (fun c_70 => ?_) (fun c_70 => ?_)
        ·
          exact K_83 _ _ hS ls (lv_sub hl [3, 0] rfl) (by subst ex_34; exact hK_61.trans (if_neg c_70))
        ·
          refine va_gets hx hb hF.1 hS hown (hts _ (List.mem_of_getElem? (i := 1) rfl)) (fun _ h9 => h9) dX3_product_73 ?_
          refine lv_lload_n hx hb dX3_product_76 rfl (lv_at hl 2 rfl) ?_
          refine pm_callI (va_runV (As := [.long p1]) (rest := []) ⟨hx, hb, hml, hown, hts⟩ (pm_X0_isInfinite l 52 (-1074) 9218868437227405312 (-9223372036854775808) dD p1) (cwV 1 hts gX3_product_X0_isInfinite rfl rfl rfl hdv_X0_isInfinite ⟨Nat.le_of_ble_eq_true rfl, Nat.le_of_ble_eq_true rfl⟩) ⟨KQ.fb, va_Orecv hF.2.2.1.1 hS, fun U hU hW => ⟨rfl, (KQ.call hF.2.2.1 hS U hU hW)⟩⟩ rfl rfl hl.1 rfl (lv_room (Nat.le_of_ble_eq_true rfl)) dX3_product_77 ⟨Nat.le_refl 0, Nat.le_refl 0⟩) hS (fun H locs _ _ hS => ?_)
          refine lv_if_eq (tgt := 107) hx hb dX3_product_80 (by decide) (fun c_80 => ?_) (fun c_80 => ?_)
          ·
            refine lv_iload hx hb dX3_product_107 (lv_at hl 0 rfl) ?_
            refine lv_if_eq (tgt := 117) hx hb dX3_product_109 (by decide) (fun c_109 => ?_) (fun c_109 => ?_)
            ·
              refine lv_lload_n hx hb dX3_product_117 rfl (lv_at hl 1 rfl) ?_
              refine lv_lload_n hx hb dX3_product_118 rfl (lv_at hl 2 rfl) ?_
              refine pm_callL (va_runS (As := [.long p0, .long p1]) (rest := []) ⟨hx, hb, hml, hown, hts⟩ (pm_X3_productOfFinite l dD dF p0 p1) (va_cwS 2 hts gX3_product_X3_productOfFinite rfl rfl rfl hd_X3_productOfFinite ⟨Nat.le_of_ble_eq_true rfl, Nat.le_of_ble_eq_true rfl⟩) ⟨KF.fb, fun U hU hW => ⟨rfl, (KF.call hF hS U hU hW)⟩⟩ rfl rfl hl.1 rfl (lv_room (Nat.le_of_ble_eq_true rfl)) dX3_product_119 ⟨Nat.le_refl 0, Nat.le_refl 0⟩) hS (fun H locs _ _ hS => ?_)
              rw [hZ]
              exact pm_lret (w := s_X3_product p0 p1) hx hb hr hlocks hS (by subst ex_34; exact (hK_61.trans (((if_pos c_70).trans (if_pos c_80)).trans (if_pos c_109))).symm) dX3_product_122
            ·
              refine lv_lload hx hb dX3_product_112 (lv_at hl 3 rfl) ?_
              refine lv_goto (tgt := 122) hx hb dX3_product_114 (by decide) ?_
              rw [hZ]
              exact pm_lret (w := s_X3_product p0 p1) hx hb hr hlocks hS (by subst ex_34; exact (hK_61.trans (((if_pos c_70).trans (if_pos c_80)).trans (if_neg c_109))).symm) dX3_product_122
          ·
            exact K_83 _ _ hS ls (lv_sub hl [3, 0] rfl) (by subst ex_34; exact hK_61.trans ((if_pos c_70).trans (if_neg c_80)))
      refine lv_if_ne (tgt := 56) hx hb dX3_product_43 (by decide) (fun c_43 => ?_) (fun c_43 => ?_)
      ·
        refine lv_iconst (v := 1) hx hb dX3_product_56 (by decide) ?_
        refine lv_goto (tgt := 61) hx hb dX3_product_57 (by decide) ?_
        exact K_61 1 _ _ hS ls (lv_sub hl [1, 2, 0] rfl) (by subst ex_34; exact (((if_pos c_7).trans (if_pos c_17)).trans (if_neg c_43)))
      ·
        refine va_gets hx hb hF.1 hS hown (hts _ (List.mem_of_getElem? (i := 1) rfl)) (fun _ h9 => h9) dX3_product_46 ?_
        refine lv_lload_n hx hb dX3_product_49 rfl (lv_at hl 2 rfl) ?_
        refine pm_callI (va_runV (As := [.long p1]) (rest := []) ⟨hx, hb, hml, hown, hts⟩ (pm_X0_isZero l 52 (-1074) 9218868437227405312 (-9223372036854775808) dD p1) (cwV 1 hts gX3_product_X0_isZero rfl rfl rfl hdv_X0_isZero ⟨Nat.le_of_ble_eq_true rfl, Nat.le_of_ble_eq_true rfl⟩) ⟨KQ.fb, va_Orecv hF.2.2.1.1 hS, fun U hU hW => ⟨rfl, (KQ.call hF.2.2.1 hS U hU hW)⟩⟩ rfl rfl hl.1 rfl (lv_room (Nat.le_of_ble_eq_true rfl)) dX3_product_50 ⟨Nat.le_refl 0, Nat.le_refl 0⟩) hS (fun H locs _ _ hS => ?_)
        refine lv_if_eq (tgt := 60) hx hb dX3_product_53 (by decide) (fun c_53 => ?_) (fun c_53 => ?_)
        ·
          refine lv_iconst (v := 0) hx hb dX3_product_60 (by decide) ?_
          exact K_61 0 _ _ hS ls (lv_sub hl [1, 2, 0] rfl) (by subst ex_34; exact ((((if_pos c_7).trans (if_pos c_17)).trans (if_pos c_43)).trans (if_pos c_53)))
        ·
          refine lv_iconst (v := 1) hx hb dX3_product_56 (by decide) ?_
          refine lv_goto (tgt := 61) hx hb dX3_product_57 (by decide) ?_
          exact K_61 1 _ _ hS ls (lv_sub hl [1, 2, 0] rfl) (by subst ex_34; exact ((((if_pos c_7).trans (if_pos c_17)).trans (if_pos c_43)).trans (if_neg c_53)))
    ·
      refine va_gets hx hb hF.1 hS hown (hts _ (List.mem_of_getElem? (i := 1) rfl)) (fun _ h9 => h9) dX3_product_20 ?_
      refine pm_callL (va_runV (As := []) (rest := []) ⟨hx, hb, hml, hown, hts⟩ (pm_X0_plainNaN l 52 (-1074) 9218868437227405312 (-9223372036854775808) dD) (cwV 0 hts gX3_product_X0_plainNaN rfl rfl rfl hdv_X0_plainNaN ⟨Nat.le_of_ble_eq_true rfl, Nat.le_of_ble_eq_true rfl⟩) ⟨KQ.fb, va_Orecv hF.2.2.1.1 hS, fun U hU hW => ⟨rfl, (KQ.call hF.2.2.1 hS U hU hW)⟩⟩ rfl rfl hl.1 rfl (lv_room (Nat.le_of_ble_eq_true rfl)) dX3_product_23 ⟨Nat.le_refl 0, Nat.le_refl 0⟩) hS (fun H locs _ _ hS => ?_)
      rw [hZ]
      exact pm_lret (w := s_X3_product p0 p1) hx hb hr hlocks hS (by exact (((if_pos c_7).trans (if_neg c_17))).symm) dX3_product_26
def rdS (n : Nat) : Int32 := nI (7 - n)
theorem rdS_s {n : Nat} (h : n + 1 ≤ 7) : rdS (n + 1) + 1 = rdS n := by
  match n, h with
  | 0, _ => decide
  | 1, _ => decide
  | 2, _ => decide
  | 3, _ => decide
  | 4, _ => decide
  | 5, _ => decide
  | 6, _ => decide
theorem rdS_p {n : Nat} (h : ¬ 6 ≤ rdS (n + 1)) : 1 ≤ n := by
  match n, h with
  | 0, h => exact absurd (by decide) h
  | n + 1, _ => omega
theorem hd_X3_quotientOfFinite : yX3_quotientOfFinite.cls ≠ "java/lang/invoke/MethodHandle" ∧ yX3_quotientOfFinite.cls ≠ "java/lang/invoke/VarHandle" ∧ (parseMethodDescriptor yX3_quotientOfFinite.desc).map (fun d => d.parameters.length) = some 2 := by decide +kernel
def s_X3_quotientOfFinite_j148 (p0 : Int64) (p1 : Int64) (y_52_6 : Int64) (y_52_8 : Int64) (x_113 : Int32) (z_148_0 : Int32) : Int64 :=
  if y_52_6 = 0 then s_X0_pack 52 (-1074) 9218868437227405312 (-9223372036854775808) z_148_0 x_113 y_52_8
  else s_X0_pack 52 (-1074) 9218868437227405312 (-9223372036854775808) z_148_0 x_113 (y_52_8 ||| 1)
def s_X3_quotientOfFinite_j140 (p0 : Int64) (p1 : Int64) (y_52_6 : Int64) (y_52_8 : Int64) (z_129_0 : Int32) (x_113 : Int32) (z_140_0 : Int32) : Int64 :=
  if z_129_0 = z_140_0 then s_X3_quotientOfFinite_j148 p0 p1 y_52_6 y_52_8 x_113 0
  else s_X3_quotientOfFinite_j148 p0 p1 y_52_6 y_52_8 x_113 1
def s_X3_quotientOfFinite_j129 (p0 : Int64) (p1 : Int64) (y_52_6 : Int64) (y_52_8 : Int64) (x_113 : Int32) (z_129_0 : Int32) : Int64 :=
  if 0 ≤ p1 then s_X3_quotientOfFinite_j140 p0 p1 y_52_6 y_52_8 z_129_0 x_113 0
  else s_X3_quotientOfFinite_j140 p0 p1 y_52_6 y_52_8 z_129_0 x_113 1
def s_X3_quotientOfFinite_l52 (p0 : Int64) (p1 : Int64) (x_7 : Int64) : Nat → Int64 → Int64 → Int32 → Int32 → Int64
  | 0, _, _, _, _ => 0
  | n + 1, y_52_6, y_52_8, y_52_10, y_52_11 =>
  if 6 ≤ y_52_11 then if 0 ≤ p0 then s_X3_quotientOfFinite_j129 p0 p1 y_52_6 y_52_8 (((s_X0_exponent 52 (-1074) 9218868437227405312 (-9223372036854775808) p0) - (s_X0_exponent 52 (-1074) 9218868437227405312 (-9223372036854775808) p1)) - y_52_10) 0
  else s_X3_quotientOfFinite_j129 p0 p1 y_52_6 y_52_8 (((s_X0_exponent 52 (-1074) 9218868437227405312 (-9223372036854775808) p0) - (s_X0_exponent 52 (-1074) 9218868437227405312 (-9223372036854775808) p1)) - y_52_10) 1
  else s_X3_quotientOfFinite_l52 p0 p1 x_7 n ((lShl y_52_6 10) - (lShl y_52_6 10) / x_7 * x_7) ((lShl y_52_8 10) + ((lShl y_52_6 10) / x_7)) (y_52_10 + 10) (y_52_11 + 1)
def s_X3_quotientOfFinite (p0 : Int64) (p1 : Int64) : Int64 :=
  if (s_X0_significand 52 (-1074) 9218868437227405312 (-9223372036854775808) p1) = 0 then s_X0_plainNaN 52 (-1074) 9218868437227405312 (-9223372036854775808)
  else s_X3_quotientOfFinite_l52 p0 p1 (s_X0_significand 52 (-1074) 9218868437227405312 (-9223372036854775808) p1) 7 ((s_X0_significand 52 (-1074) 9218868437227405312 (-9223372036854775808) p0) - (s_X0_significand 52 (-1074) 9218868437227405312 (-9223372036854775808) p0) / (s_X0_significand 52 (-1074) 9218868437227405312 (-9223372036854775808) p1) * (s_X0_significand 52 (-1074) 9218868437227405312 (-9223372036854775808) p1)) ((s_X0_significand 52 (-1074) 9218868437227405312 (-9223372036854775808) p0) / (s_X0_significand 52 (-1074) 9218868437227405312 (-9223372036854775808) p1)) 0 0
set_option maxHeartbeats 4000000 in
set_option maxRecDepth 100000 in
theorem pm_X3_quotientOfFinite (l : Launch) (dD dF : Nat) (p0 : Int64) (p1 : Int64) : PmL l yX3_quotientOfFinite wsX3_quotientOfFinite 3 73 [.long p0, .long p1] (fun U => KF dD dF pv_N U U.heap) (s_X3_quotientOfFinite p0 p1) := by
  refine Met.ofW (cc := cX3_quotientOfFinite) (maxL := 12) (ret := (some .long)) (by decide) rfl ?_
  intro p e s m args below meth c s₁ B hml hv
  obtain ⟨rfl, hF⟩ := hv
  have hx := B.exec
  have hb := B.bytes
  have hr := B.returns
  have hts := atoms_spec (ws := wsX3_quotientOfFinite) B.pre
  have hown : s.vm.findClass RX3 = some m.cls := findClass_of_methodNamed B.named
  have hlocks := B.notSynchronized
  have hS : va_S pv_N s.heap s.heap [] := va_S.rf
  have hl := lv_entry ([.long p0, .long p1]) (n := 12) (Nat.le_of_ble_eq_true rfl)
  rw [lg_entry_eq]
  generalize (lg_sl ([.long p0, .long p1]) ++ List.replicate (12 - (lg_sl ([.long p0, .long p1])).length) Slot.unset).toArray = ls at hl ⊢
  have hl : lv_has ls 12 [(0, .long p0), (2, .long p1)] := hl
  obtain ⟨Z, hZ⟩ : ∃ z, z = MQ below (pm_QL (s_X3_quotientOfFinite p0 p1)) ([.long p0, .long p1] : List Value).toArray s 0 0 pv_N := ⟨_, rfl⟩
  rw [← hZ]
  obtain ⟨Y, hY⟩ : ∃ y, y = s_X3_quotientOfFinite p0 p1 := ⟨_, rfl⟩
  refine va_gets hx hb hF.1 hS hown (hts _ (List.mem_of_getElem? (i := 1) rfl)) (fun _ h9 => h9) dX3_quotientOfFinite_0 ?_
  refine lv_lload_n hx hb dX3_quotientOfFinite_3 rfl (lv_at hl 1 rfl) ?_
  refine pm_callL (va_runV (As := [.long p1]) (rest := []) ⟨hx, hb, hml, hown, hts⟩ (pm_X0_significand l 52 (-1074) 9218868437227405312 (-9223372036854775808) dD p1) (cwV 1 hts gX3_quotientOfFinite_X0_significand rfl rfl rfl hdv_X0_significand ⟨Nat.le_of_ble_eq_true rfl, Nat.le_of_ble_eq_true rfl⟩) ⟨KQ.fb, va_Orecv hF.2.2.1.1 hS, fun U hU hW => ⟨rfl, (KQ.call hF.2.2.1 hS U hU hW)⟩⟩ rfl rfl hl.1 rfl (lv_room (Nat.le_of_ble_eq_true rfl)) dX3_quotientOfFinite_4 ⟨Nat.le_refl 0, Nat.le_refl 0⟩) hS (fun H locs _ _ hS => ?_)
  refine lv_topl (fun x_7 ex_7 => ?_)
  refine lv_lstore (lv' := [(4, .long x_7), (0, .long p0), (2, .long p1)]) hx hb dX3_quotientOfFinite_7 hl (by decide) rfl (fun ls hl => ?_)
  refine lv_lload hx hb dX3_quotientOfFinite_9 (lv_at hl 0 rfl) ?_
  refine lv_lconst (v := 0) hx hb dX3_quotientOfFinite_11 (by decide) ?_
  refine lp_ne (tgt := 23) hx hb dX3_quotientOfFinite_12 dX3_quotientOfFinite_13 (by decide) (fun c_12 => ?_) (fun c_12 => ?_)
  ·
    refine va_gets hx hb hF.1 hS hown (hts _ (List.mem_of_getElem? (i := 1) rfl)) (fun _ h9 => h9) dX3_quotientOfFinite_23 ?_
    refine lv_lload_n hx hb dX3_quotientOfFinite_26 rfl (lv_at hl 1 rfl) ?_
    refine pm_callL (va_runV (As := [.long p0]) (rest := []) ⟨hx, hb, hml, hown, hts⟩ (pm_X0_significand l 52 (-1074) 9218868437227405312 (-9223372036854775808) dD p0) (cwV 1 hts gX3_quotientOfFinite_X0_significand rfl rfl rfl hdv_X0_significand ⟨Nat.le_of_ble_eq_true rfl, Nat.le_of_ble_eq_true rfl⟩) ⟨KQ.fb, va_Orecv hF.2.2.1.1 hS, fun U hU hW => ⟨rfl, (KQ.call hF.2.2.1 hS U hU hW)⟩⟩ rfl rfl hl.1 rfl (lv_room (Nat.le_of_ble_eq_true rfl)) dX3_quotientOfFinite_27 ⟨Nat.le_refl 0, Nat.le_refl 0⟩) hS (fun H locs _ _ hS => ?_)
    refine lv_topl (fun x_30 ex_30 => ?_)
    refine lv_lstore (lv' := [(6, .long x_30), (4, .long x_7), (0, .long p0), (2, .long p1)]) hx hb dX3_quotientOfFinite_30 hl (by decide) rfl (fun ls hl => ?_)
    refine lv_lload hx hb dX3_quotientOfFinite_32 (lv_at hl 0 rfl) ?_
    refine lv_lload hx hb dX3_quotientOfFinite_34 (lv_at hl 1 rfl) ?_
    refine lv_ldiv hx hb dX3_quotientOfFinite_36 (c_12) ?_
    refine lv_topl (fun x_37 ex_37 => ?_)
    refine lv_lstore (lv' := [(8, .long x_37), (6, .long x_30), (4, .long x_7), (0, .long p0), (2, .long p1)]) hx hb dX3_quotientOfFinite_37 hl (by decide) rfl (fun ls hl => ?_)
    refine lv_lload hx hb dX3_quotientOfFinite_39 (lv_at hl 1 rfl) ?_
    refine lv_lload hx hb dX3_quotientOfFinite_41 (lv_at hl 2 rfl) ?_
    refine lv_lrem hx hb dX3_quotientOfFinite_43 (c_12) ?_
    refine lv_topl (fun x_44 ex_44 => ?_)
    refine lv_lstore (lv' := [(6, .long x_44), (8, .long x_37), (4, .long x_7), (0, .long p0), (2, .long p1)]) hx hb dX3_quotientOfFinite_44 hl (by decide) rfl (fun ls hl => ?_)
    refine lv_iconst (v := 0) hx hb dX3_quotientOfFinite_46 (by decide) ?_
    refine lv_istore (lv' := [(10, .int 0), (6, .long x_44), (8, .long x_37), (4, .long x_7), (0, .long p0), (2, .long p1)]) hx hb dX3_quotientOfFinite_47 hl (by decide) rfl (fun ls hl => ?_)
    refine lv_iconst (v := 0) hx hb dX3_quotientOfFinite_49 (by decide) ?_
    refine lv_istore (lv' := [(11, .int 0), (10, .int 0), (6, .long x_44), (8, .long x_37), (4, .long x_7), (0, .long p0), (2, .long p1)]) hx hb dX3_quotientOfFinite_50 hl (by decide) rfl (fun ls hl => ?_)
    have K_52 : ∀ (n : Nat) (y_52_6 : Int64) (y_52_8 : Int64) (y_52_10 : Int32) (y_52_11 : Int32) (H : Heap) (locs : List Loc), va_S pv_N s.heap H locs → ∀ (ls : Array Slot), lv_has ls 12 [(0, .long p0), (2, .long p1), (4, .long x_7), (6, .long y_52_6), (8, .long y_52_8), (10, .int y_52_10), (11, .int y_52_11)] → (y_52_11 = rdS n ∧ 1 ≤ n ∧ n ≤ 7) → s_X3_quotientOfFinite p0 p1 = s_X3_quotientOfFinite_l52 p0 p1 x_7 n y_52_6 y_52_8 y_52_10 y_52_11 → W p l e (pm_R 3 73) s m ([.long p0, .long p1] : List Value).toArray below meth c H locs 0 0 Z (F0 m 52 ls []) := by
      intro n
      induction n with
      | zero =>
        intro y_52_6 y_52_8 y_52_10 y_52_11 H locs hS ls hl hI hK_52
        exact absurd hI.2.1 (by decide)
      | succ n ih =>
        intro y_52_6 y_52_8 y_52_10 y_52_11 H locs hS ls hl hI hK_52
        refine lv_iload hx hb dX3_quotientOfFinite_52 (lv_at hl 6 rfl) ?_
        refine lv_bipush (v := 6) hx hb dX3_quotientOfFinite_54 (by decide) ?_
        refine lv_icmp_ge (tgt := 95) hx hb dX3_quotientOfFinite_56 (by decide) (fun c_56 => ?_) (fun c_56 => ?_)
        ·
          refine va_gets hx hb hF.1 hS hown (hts _ (List.mem_of_getElem? (i := 1) rfl)) (fun _ h9 => h9) dX3_quotientOfFinite_95 ?_
          refine lv_lload_n hx hb dX3_quotientOfFinite_98 rfl (lv_at hl 0 rfl) ?_
          refine pm_callI (va_runV (As := [.long p0]) (rest := []) ⟨hx, hb, hml, hown, hts⟩ (pm_X0_exponent l 52 (-1074) 9218868437227405312 (-9223372036854775808) dD p0) (cwV 1 hts gX3_quotientOfFinite_X0_exponent rfl rfl rfl hdv_X0_exponent ⟨Nat.le_of_ble_eq_true rfl, Nat.le_of_ble_eq_true rfl⟩) ⟨KQ.fb, va_Orecv hF.2.2.1.1 hS, fun U hU hW => ⟨rfl, (KQ.call hF.2.2.1 hS U hU hW)⟩⟩ rfl rfl hl.1 rfl (lv_room (Nat.le_of_ble_eq_true rfl)) dX3_quotientOfFinite_99 ⟨Nat.le_refl 0, Nat.le_refl 0⟩) hS (fun H locs _ _ hS => ?_)
          refine va_gets hx hb hF.1 hS hown (hts _ (List.mem_of_getElem? (i := 1) rfl)) (fun _ h9 => h9) dX3_quotientOfFinite_102 ?_
          refine lv_lload_n hx hb dX3_quotientOfFinite_105 rfl (lv_at hl 1 rfl) ?_
          refine pm_callI (va_runV (As := [.long p1]) (rest := [.int (s_X0_exponent 52 (-1074) 9218868437227405312 (-9223372036854775808) p0)]) ⟨hx, hb, hml, hown, hts⟩ (pm_X0_exponent l 52 (-1074) 9218868437227405312 (-9223372036854775808) dD p1) (cwV 1 hts gX3_quotientOfFinite_X0_exponent rfl rfl rfl hdv_X0_exponent ⟨Nat.le_of_ble_eq_true rfl, Nat.le_of_ble_eq_true rfl⟩) ⟨KQ.fb, va_Orecv hF.2.2.1.1 hS, fun U hU hW => ⟨rfl, (KQ.call hF.2.2.1 hS U hU hW)⟩⟩ rfl rfl hl.1 rfl (lv_room (Nat.le_of_ble_eq_true rfl)) dX3_quotientOfFinite_106 ⟨Nat.le_refl 0, Nat.le_refl 0⟩) hS (fun H locs _ _ hS => ?_)
          refine lv_isub hx hb dX3_quotientOfFinite_109 ?_
          refine lv_iload hx hb dX3_quotientOfFinite_110 (lv_at hl 5 rfl) ?_
          refine lv_isub hx hb dX3_quotientOfFinite_112 ?_
          refine lv_topi (fun x_113 ex_113 => ?_)
          refine lv_istore (lv' := [(11, .int x_113), (0, .long p0), (2, .long p1), (4, .long x_7), (6, .long y_52_6), (8, .long y_52_8), (10, .int y_52_10)]) hx hb dX3_quotientOfFinite_113 hl (by decide) rfl (fun ls hl => ?_)
          refine va_gets hx hb hF.1 hS hown (hts _ (List.mem_of_getElem? (i := 1) rfl)) (fun _ h9 => h9) dX3_quotientOfFinite_115 ?_
          refine lv_lload_n hx hb dX3_quotientOfFinite_118 rfl (lv_at hl 1 rfl) ?_
          refine lv_lconst (v := 0) hx hb dX3_quotientOfFinite_119 (by decide) ?_
          have K_129 : ∀ (z_129_0 : Int32) (H : Heap) (locs : List Loc), va_S pv_N s.heap H locs → ∀ (ls : Array Slot), lv_has ls 12 [(2, .long p1), (6, .long y_52_6), (8, .long y_52_8), (11, .int x_113)] → s_X3_quotientOfFinite p0 p1 = s_X3_quotientOfFinite_j129 p0 p1 y_52_6 y_52_8 x_113 z_129_0 → W p l e (pm_R 3 73) s m ([.long p0, .long p1] : List Value).toArray below meth c H locs 0 0 Z (F0 m 129 ls [.int z_129_0, .ref dD]) := by
            intro z_129_0 H locs hS ls hl hK_129
            refine lv_lload_n hx hb dX3_quotientOfFinite_129 rfl (lv_at hl 0 rfl) ?_
            refine lv_lconst (v := 0) hx hb dX3_quotientOfFinite_130 (by decide) ?_
            have K_140 : ∀ (z_140_0 : Int32) (H : Heap) (locs : List Loc), va_S pv_N s.heap H locs → ∀ (ls : Array Slot), lv_has ls 12 [(6, .long y_52_6), (8, .long y_52_8), (11, .int x_113)] → s_X3_quotientOfFinite p0 p1 = s_X3_quotientOfFinite_j140 p0 p1 y_52_6 y_52_8 z_129_0 x_113 z_140_0 → W p l e (pm_R 3 73) s m ([.long p0, .long p1] : List Value).toArray below meth c H locs 0 0 Z (F0 m 140 ls [.int z_140_0, .int z_129_0, .ref dD]) := by
              intro z_140_0 H locs hS ls hl hK_140
              have K_148 : ∀ (z_148_0 : Int32) (H : Heap) (locs : List Loc), va_S pv_N s.heap H locs → ∀ (ls : Array Slot), lv_has ls 12 [(6, .long y_52_6), (8, .long y_52_8), (11, .int x_113)] → s_X3_quotientOfFinite p0 p1 = s_X3_quotientOfFinite_j148 p0 p1 y_52_6 y_52_8 x_113 z_148_0 → W p l e (pm_R 3 73) s m ([.long p0, .long p1] : List Value).toArray below meth c H locs 0 0 Z (F0 m 148 ls [.int z_148_0, .ref dD]) := by
                intro z_148_0 H locs hS ls hl hK_148
                refine lv_iload hx hb dX3_quotientOfFinite_148 (lv_at hl 2 rfl) ?_
                refine lv_lload hx hb dX3_quotientOfFinite_150 (lv_at hl 0 rfl) ?_
                refine lv_lconst (v := 0) hx hb dX3_quotientOfFinite_152 (by decide) ?_
                refine lp_ne (tgt := 162) hx hb dX3_quotientOfFinite_153 dX3_quotientOfFinite_154 (by decide) (fun c_153 => ?_) (fun c_153 => ?_)
                ·
                  refine lv_lload hx hb dX3_quotientOfFinite_162 (lv_at hl 1 rfl) ?_
                  refine lv_lconst (v := 1) hx hb dX3_quotientOfFinite_164 (by decide) ?_
                  refine lv_lor hx hb dX3_quotientOfFinite_165 ?_
                  refine pm_callL (va_runV (As := [.int z_148_0, .int x_113, .long (y_52_8 ||| 1)]) (rest := []) ⟨hx, hb, hml, hown, hts⟩ (pm_X0_pack l 52 (-1074) 9218868437227405312 (-9223372036854775808) dD z_148_0 x_113 (y_52_8 ||| 1)) (cwV 3 hts gX3_quotientOfFinite_X0_pack rfl rfl rfl hdv_X0_pack ⟨Nat.le_of_ble_eq_true rfl, Nat.le_of_ble_eq_true rfl⟩) ⟨KQ.fb, va_Orecv hF.2.2.1.1 hS, fun U hU hW => ⟨rfl, (KQ.call hF.2.2.1 hS U hU hW)⟩⟩ rfl rfl hl.1 rfl (lv_room (Nat.le_of_ble_eq_true rfl)) dX3_quotientOfFinite_166 ⟨Nat.le_refl 0, Nat.le_refl 0⟩) hS (fun H locs _ _ hS => ?_)
                  rw [hZ]
                  exact pm_lret (w := s_X3_quotientOfFinite p0 p1) hx hb hr hlocks hS (by subst ex_113 ex_44 ex_37 ex_30 ex_7; exact (hK_148.trans (if_neg c_153)).symm) dX3_quotientOfFinite_169
                ·
                  refine lv_lload hx hb dX3_quotientOfFinite_157 (lv_at hl 1 rfl) ?_
                  refine lv_goto (tgt := 166) hx hb dX3_quotientOfFinite_159 (by decide) ?_
                  refine pm_callL (va_runV (As := [.int z_148_0, .int x_113, .long y_52_8]) (rest := []) ⟨hx, hb, hml, hown, hts⟩ (pm_X0_pack l 52 (-1074) 9218868437227405312 (-9223372036854775808) dD z_148_0 x_113 y_52_8) (cwV 3 hts gX3_quotientOfFinite_X0_pack rfl rfl rfl hdv_X0_pack ⟨Nat.le_of_ble_eq_true rfl, Nat.le_of_ble_eq_true rfl⟩) ⟨KQ.fb, va_Orecv hF.2.2.1.1 hS, fun U hU hW => ⟨rfl, (KQ.call hF.2.2.1 hS U hU hW)⟩⟩ rfl rfl hl.1 rfl (lv_room (Nat.le_of_ble_eq_true rfl)) dX3_quotientOfFinite_166 ⟨Nat.le_refl 0, Nat.le_refl 0⟩) hS (fun H locs _ _ hS => ?_)
                  rw [hZ]
                  exact pm_lret (w := s_X3_quotientOfFinite p0 p1) hx hb hr hlocks hS (by subst ex_113 ex_44 ex_37 ex_30 ex_7; exact (hK_148.trans (if_pos c_153)).symm) dX3_quotientOfFinite_169
              refine lv_icmp_eq (tgt := 147) hx hb dX3_quotientOfFinite_140 (by decide) (fun c_140 => ?_) (fun c_140 => ?_)
              ·
                refine lv_iconst (v := 0) hx hb dX3_quotientOfFinite_147 (by decide) ?_
                exact K_148 0 _ _ hS ls (lv_sub hl [0, 1, 2] rfl) (by subst ex_113 ex_44 ex_37 ex_30 ex_7; exact hK_140.trans (if_pos c_140))
              ·
                refine lv_iconst (v := 1) hx hb dX3_quotientOfFinite_143 (by decide) ?_
                refine lv_goto (tgt := 148) hx hb dX3_quotientOfFinite_144 (by decide) ?_
                exact K_148 1 _ _ hS ls (lv_sub hl [0, 1, 2] rfl) (by subst ex_113 ex_44 ex_37 ex_30 ex_7; exact hK_140.trans (if_neg c_140))
            refine lp_ge (tgt := 139) hx hb dX3_quotientOfFinite_131 dX3_quotientOfFinite_132 (by decide) (fun c_131 => ?_) (fun c_131 => ?_)
            ·
              refine lv_iconst (v := 0) hx hb dX3_quotientOfFinite_139 (by decide) ?_
              exact K_140 0 _ _ hS ls (lv_sub hl [1, 2, 3] rfl) (by subst ex_113 ex_44 ex_37 ex_30 ex_7; exact hK_129.trans (if_pos c_131))
            ·
              refine lv_iconst (v := 1) hx hb dX3_quotientOfFinite_135 (by decide) ?_
              refine lv_goto (tgt := 140) hx hb dX3_quotientOfFinite_136 (by decide) ?_
              exact K_140 1 _ _ hS ls (lv_sub hl [1, 2, 3] rfl) (by subst ex_113 ex_44 ex_37 ex_30 ex_7; exact hK_129.trans (if_neg c_131))
          refine lp_ge (tgt := 128) hx hb dX3_quotientOfFinite_120 dX3_quotientOfFinite_121 (by decide) (fun c_120 => ?_) (fun c_120 => ?_)
          ·
            refine lv_iconst (v := 0) hx hb dX3_quotientOfFinite_128 (by decide) ?_
            exact K_129 0 _ _ hS ls (lv_sub hl [2, 4, 5, 0] rfl) (by subst ex_113 ex_44 ex_37 ex_30 ex_7; exact hK_52.trans ((if_pos c_56).trans (if_pos c_120)))
          ·
            refine lv_iconst (v := 1) hx hb dX3_quotientOfFinite_124 (by decide) ?_
            refine lv_goto (tgt := 129) hx hb dX3_quotientOfFinite_125 (by decide) ?_
            exact K_129 1 _ _ hS ls (lv_sub hl [2, 4, 5, 0] rfl) (by subst ex_113 ex_44 ex_37 ex_30 ex_7; exact hK_52.trans ((if_pos c_56).trans (if_neg c_120)))
        ·
          refine lv_lload hx hb dX3_quotientOfFinite_59 (lv_at hl 3 rfl) ?_
          refine lv_bipush (v := 10) hx hb dX3_quotientOfFinite_61 (by decide) ?_
          refine lv_lshl (v := lShl y_52_6 10) hx hb dX3_quotientOfFinite_63 rfl ?_
          refine lv_topl (fun x_64 ex_64 => ?_)
          refine lv_lstore (lv' := [(6, .long x_64), (0, .long p0), (2, .long p1), (4, .long x_7), (8, .long y_52_8), (10, .int y_52_10), (11, .int y_52_11)]) hx hb dX3_quotientOfFinite_64 hl (by decide) rfl (fun ls hl => ?_)
          refine lv_lload hx hb dX3_quotientOfFinite_66 (lv_at hl 4 rfl) ?_
          refine lv_bipush (v := 10) hx hb dX3_quotientOfFinite_68 (by decide) ?_
          refine lv_lshl (v := lShl y_52_8 10) hx hb dX3_quotientOfFinite_70 rfl ?_
          refine lv_lload hx hb dX3_quotientOfFinite_71 (lv_at hl 0 rfl) ?_
          refine lv_lload hx hb dX3_quotientOfFinite_73 (lv_at hl 3 rfl) ?_
          refine lv_ldiv hx hb dX3_quotientOfFinite_75 (c_12) ?_
          refine lv_ladd hx hb dX3_quotientOfFinite_76 ?_
          refine lv_topl (fun x_77 ex_77 => ?_)
          refine lv_lstore (lv' := [(8, .long x_77), (6, .long x_64), (0, .long p0), (2, .long p1), (4, .long x_7), (10, .int y_52_10), (11, .int y_52_11)]) hx hb dX3_quotientOfFinite_77 hl (by decide) rfl (fun ls hl => ?_)
          refine lv_lload hx hb dX3_quotientOfFinite_79 (lv_at hl 1 rfl) ?_
          refine lv_lload hx hb dX3_quotientOfFinite_81 (lv_at hl 4 rfl) ?_
          refine lv_lrem hx hb dX3_quotientOfFinite_83 (c_12) ?_
          refine lv_topl (fun x_84 ex_84 => ?_)
          refine lv_lstore (lv' := [(6, .long x_84), (8, .long x_77), (0, .long p0), (2, .long p1), (4, .long x_7), (10, .int y_52_10), (11, .int y_52_11)]) hx hb dX3_quotientOfFinite_84 hl (by decide) rfl (fun ls hl => ?_)
          obtain ⟨x_86, ex_86⟩ : ∃ y : Int32, y = y_52_10 + 10 := ⟨_, rfl⟩
          refine lv_iinc (v := x_86) (lv' := [(10, .int x_86), (6, .long x_84), (8, .long x_77), (0, .long p0), (2, .long p1), (4, .long x_7), (11, .int y_52_11)]) hx hb dX3_quotientOfFinite_86 hl (k := 5) rfl (by rw [ex_86]; rfl) (by decide) rfl (fun ls hl => ?_)
          obtain ⟨x_89, ex_89⟩ : ∃ y : Int32, y = y_52_11 + 1 := ⟨_, rfl⟩
          refine lv_iinc (v := x_89) (lv' := [(11, .int x_89), (10, .int x_86), (6, .long x_84), (8, .long x_77), (0, .long p0), (2, .long p1), (4, .long x_7)]) hx hb dX3_quotientOfFinite_89 hl (k := 6) rfl (by rw [ex_89]; rfl) (by decide) rfl (fun ls hl => ?_)
          refine lv_goto (tgt := 52) hx hb dX3_quotientOfFinite_92 (by decide) ?_
          exact ih x_84 x_77 x_86 x_89 _ _ hS ls (lv_sub hl [4, 5, 6, 2, 3, 1, 0] rfl) (by subst ex_89; have h1 := rdS_p (n := n) (by rw [← hI.1]; exact c_56); exact ⟨by rw [hI.1]; exact rdS_s hI.2.2, h1, by omega⟩) (by subst ex_89 ex_86 ex_84 ex_77 ex_64 ex_44 ex_37 ex_30 ex_7; exact hK_52.trans (if_neg c_56))
    exact K_52 (7) x_44 x_37 0 0 _ _ hS ls (lv_sub hl [5, 6, 4, 2, 3, 1, 0] rfl) (⟨rfl, by decide, by decide⟩) (by subst ex_44 ex_37 ex_30 ex_7; exact (if_neg c_12))
  ·
    refine va_gets hx hb hF.1 hS hown (hts _ (List.mem_of_getElem? (i := 1) rfl)) (fun _ h9 => h9) dX3_quotientOfFinite_16 ?_
    refine pm_callL (va_runV (As := []) (rest := []) ⟨hx, hb, hml, hown, hts⟩ (pm_X0_plainNaN l 52 (-1074) 9218868437227405312 (-9223372036854775808) dD) (cwV 0 hts gX3_quotientOfFinite_X0_plainNaN rfl rfl rfl hdv_X0_plainNaN ⟨Nat.le_of_ble_eq_true rfl, Nat.le_of_ble_eq_true rfl⟩) ⟨KQ.fb, va_Orecv hF.2.2.1.1 hS, fun U hU hW => ⟨rfl, (KQ.call hF.2.2.1 hS U hU hW)⟩⟩ rfl rfl hl.1 rfl (lv_room (Nat.le_of_ble_eq_true rfl)) dX3_quotientOfFinite_19 ⟨Nat.le_refl 0, Nat.le_refl 0⟩) hS (fun H locs _ _ hS => ?_)
    rw [hZ]
    exact pm_lret (w := s_X3_quotientOfFinite p0 p1) hx hb hr hlocks hS (by subst ex_7; exact ((if_pos c_12)).symm) dX3_quotientOfFinite_22
theorem hd_X3_quotient : yX3_quotient.cls ≠ "java/lang/invoke/MethodHandle" ∧ yX3_quotient.cls ≠ "java/lang/invoke/VarHandle" ∧ (parseMethodDescriptor yX3_quotient.desc).map (fun d => d.parameters.length) = some 2 := by decide +kernel
def s_X3_quotient (p0 : Int64) (p1 : Int64) : Int64 :=
  if (s_X0_isNaN 52 (-1074) 9218868437227405312 (-9223372036854775808) p0) = 0 then if (s_X0_isNaN 52 (-1074) 9218868437227405312 (-9223372036854775808) p1) = 0 then if (s_X0_isInfinite 52 (-1074) 9218868437227405312 (-9223372036854775808) p0) = 0 then if (s_X0_isZero 52 (-1074) 9218868437227405312 (-9223372036854775808) p1) = 0 then if (s_X0_isZero 52 (-1074) 9218868437227405312 (-9223372036854775808) p0) = 0 then if (s_X0_isInfinite 52 (-1074) 9218868437227405312 (-9223372036854775808) p1) = 0 then s_X3_quotientOfFinite p0 p1
  else ((p0 ^^^ p1) &&& (-9223372036854775808))
  else ((p0 ^^^ p1) &&& (-9223372036854775808))
  else if (s_X0_isZero 52 (-1074) 9218868437227405312 (-9223372036854775808) p0) = 0 then ((p0 ^^^ p1) &&& (-9223372036854775808)) ||| 9218868437227405312
  else s_X0_plainNaN 52 (-1074) 9218868437227405312 (-9223372036854775808)
  else if (s_X0_isInfinite 52 (-1074) 9218868437227405312 (-9223372036854775808) p1) = 0 then ((p0 ^^^ p1) &&& (-9223372036854775808)) ||| 9218868437227405312
  else s_X0_plainNaN 52 (-1074) 9218868437227405312 (-9223372036854775808)
  else s_X0_plainNaN 52 (-1074) 9218868437227405312 (-9223372036854775808)
  else s_X0_plainNaN 52 (-1074) 9218868437227405312 (-9223372036854775808)
set_option maxHeartbeats 4000000 in
set_option maxRecDepth 100000 in
theorem pm_X3_quotient (l : Launch) (dD dF : Nat) (p0 : Int64) (p1 : Int64) : PmL l yX3_quotient wsX3_quotient 4 104 [.long p0, .long p1] (fun U => KF dD dF pv_N U U.heap) (s_X3_quotient p0 p1) := by
  refine Met.ofW (cc := cX3_quotient) (maxL := 6) (ret := (some .long)) (by decide) rfl ?_
  intro p e s m args below meth c s₁ B hml hv
  obtain ⟨rfl, hF⟩ := hv
  have hx := B.exec
  have hb := B.bytes
  have hr := B.returns
  have hts := atoms_spec (ws := wsX3_quotient) B.pre
  have hown : s.vm.findClass RX3 = some m.cls := findClass_of_methodNamed B.named
  have hlocks := B.notSynchronized
  have hS : va_S pv_N s.heap s.heap [] := va_S.rf
  have hl := lv_entry ([.long p0, .long p1]) (n := 6) (Nat.le_of_ble_eq_true rfl)
  rw [lg_entry_eq]
  generalize (lg_sl ([.long p0, .long p1]) ++ List.replicate (6 - (lg_sl ([.long p0, .long p1])).length) Slot.unset).toArray = ls at hl ⊢
  have hl : lv_has ls 6 [(0, .long p0), (2, .long p1)] := hl
  obtain ⟨Z, hZ⟩ : ∃ z, z = MQ below (pm_QL (s_X3_quotient p0 p1)) ([.long p0, .long p1] : List Value).toArray s 0 0 pv_N := ⟨_, rfl⟩
  rw [← hZ]
  obtain ⟨Y, hY⟩ : ∃ y, y = s_X3_quotient p0 p1 := ⟨_, rfl⟩
  refine va_gets hx hb hF.1 hS hown (hts _ (List.mem_of_getElem? (i := 1) rfl)) (fun _ h9 => h9) dX3_quotient_0 ?_
  refine lv_lload_n hx hb dX3_quotient_3 rfl (lv_at hl 0 rfl) ?_
  refine pm_callI (va_runV (As := [.long p0]) (rest := []) ⟨hx, hb, hml, hown, hts⟩ (pm_X0_isNaN l 52 (-1074) 9218868437227405312 (-9223372036854775808) dD p0) (cwV 1 hts gX3_quotient_X0_isNaN rfl rfl rfl hdv_X0_isNaN ⟨Nat.le_of_ble_eq_true rfl, Nat.le_of_ble_eq_true rfl⟩) ⟨KQ.fb, va_Orecv hF.2.2.1.1 hS, fun U hU hW => ⟨rfl, (KQ.call hF.2.2.1 hS U hU hW)⟩⟩ rfl rfl hl.1 rfl (lv_room (Nat.le_of_ble_eq_true rfl)) dX3_quotient_4 ⟨Nat.le_refl 0, Nat.le_refl 0⟩) hS (fun H locs _ _ hS => ?_)
  refine lv_if_ne (tgt := 20) hx hb dX3_quotient_7 (by decide) (fun c_7 => ?_) (fun c_7 => ?_)
  ·
    refine va_gets hx hb hF.1 hS hown (hts _ (List.mem_of_getElem? (i := 1) rfl)) (fun _ h9 => h9) dX3_quotient_20 ?_
    refine pm_callL (va_runV (As := []) (rest := []) ⟨hx, hb, hml, hown, hts⟩ (pm_X0_plainNaN l 52 (-1074) 9218868437227405312 (-9223372036854775808) dD) (cwV 0 hts gX3_quotient_X0_plainNaN rfl rfl rfl hdv_X0_plainNaN ⟨Nat.le_of_ble_eq_true rfl, Nat.le_of_ble_eq_true rfl⟩) ⟨KQ.fb, va_Orecv hF.2.2.1.1 hS, fun U hU hW => ⟨rfl, (KQ.call hF.2.2.1 hS U hU hW)⟩⟩ rfl rfl hl.1 rfl (lv_room (Nat.le_of_ble_eq_true rfl)) dX3_quotient_23 ⟨Nat.le_refl 0, Nat.le_refl 0⟩) hS (fun H locs _ _ hS => ?_)
    rw [hZ]
    exact pm_lret (w := s_X3_quotient p0 p1) hx hb hr hlocks hS (by exact ((if_neg c_7)).symm) dX3_quotient_26
  ·
    refine va_gets hx hb hF.1 hS hown (hts _ (List.mem_of_getElem? (i := 1) rfl)) (fun _ h9 => h9) dX3_quotient_10 ?_
    refine lv_lload_n hx hb dX3_quotient_13 rfl (lv_at hl 1 rfl) ?_
    refine pm_callI (va_runV (As := [.long p1]) (rest := []) ⟨hx, hb, hml, hown, hts⟩ (pm_X0_isNaN l 52 (-1074) 9218868437227405312 (-9223372036854775808) dD p1) (cwV 1 hts gX3_quotient_X0_isNaN rfl rfl rfl hdv_X0_isNaN ⟨Nat.le_of_ble_eq_true rfl, Nat.le_of_ble_eq_true rfl⟩) ⟨KQ.fb, va_Orecv hF.2.2.1.1 hS, fun U hU hW => ⟨rfl, (KQ.call hF.2.2.1 hS U hU hW)⟩⟩ rfl rfl hl.1 rfl (lv_room (Nat.le_of_ble_eq_true rfl)) dX3_quotient_14 ⟨Nat.le_refl 0, Nat.le_refl 0⟩) hS (fun H locs _ _ hS => ?_)
    refine lv_if_eq (tgt := 27) hx hb dX3_quotient_17 (by decide) (fun c_17 => ?_) (fun c_17 => ?_)
    ·
      refine lv_lload_n hx hb dX3_quotient_27 rfl (lv_at hl 0 rfl) ?_
      refine lv_lload_n hx hb dX3_quotient_28 rfl (lv_at hl 1 rfl) ?_
      refine lv_lxor hx hb dX3_quotient_29 ?_
      refine lv_ldc2 (v := (-9223372036854775808)) hx hb hown (hts _ (List.mem_of_getElem? (i := 2) rfl)) dX3_quotient_30 ?_
      refine lv_land hx hb dX3_quotient_33 ?_
      refine lv_topl (fun x_34 ex_34 => ?_)
      refine lv_lstore (lv' := [(4, .long x_34), (0, .long p0), (2, .long p1)]) hx hb dX3_quotient_34 hl (by decide) rfl (fun ls hl => ?_)
      refine va_gets hx hb hF.1 hS hown (hts _ (List.mem_of_getElem? (i := 1) rfl)) (fun _ h9 => h9) dX3_quotient_36 ?_
      refine lv_lload_n hx hb dX3_quotient_39 rfl (lv_at hl 1 rfl) ?_
      refine pm_callI (va_runV (As := [.long p0]) (rest := []) ⟨hx, hb, hml, hown, hts⟩ (pm_X0_isInfinite l 52 (-1074) 9218868437227405312 (-9223372036854775808) dD p0) (cwV 1 hts gX3_quotient_X0_isInfinite rfl rfl rfl hdv_X0_isInfinite ⟨Nat.le_of_ble_eq_true rfl, Nat.le_of_ble_eq_true rfl⟩) ⟨KQ.fb, va_Orecv hF.2.2.1.1 hS, fun U hU hW => ⟨rfl, (KQ.call hF.2.2.1 hS U hU hW)⟩⟩ rfl rfl hl.1 rfl (lv_room (Nat.le_of_ble_eq_true rfl)) dX3_quotient_40 ⟨Nat.le_refl 0, Nat.le_refl 0⟩) hS (fun H locs _ _ hS => ?_)
      refine lv_if_eq (tgt := 75) hx hb dX3_quotient_43 (by decide) (fun c_43 => ?_) (fun c_43 => ?_)
      ·
        refine va_gets hx hb hF.1 hS hown (hts _ (List.mem_of_getElem? (i := 1) rfl)) (fun _ h9 => h9) dX3_quotient_75 ?_
        refine lv_lload_n hx hb dX3_quotient_78 rfl (lv_at hl 2 rfl) ?_
        refine pm_callI (va_runV (As := [.long p1]) (rest := []) ⟨hx, hb, hml, hown, hts⟩ (pm_X0_isZero l 52 (-1074) 9218868437227405312 (-9223372036854775808) dD p1) (cwV 1 hts gX3_quotient_X0_isZero rfl rfl rfl hdv_X0_isZero ⟨Nat.le_of_ble_eq_true rfl, Nat.le_of_ble_eq_true rfl⟩) ⟨KQ.fb, va_Orecv hF.2.2.1.1 hS, fun U hU hW => ⟨rfl, (KQ.call hF.2.2.1 hS U hU hW)⟩⟩ rfl rfl hl.1 rfl (lv_room (Nat.le_of_ble_eq_true rfl)) dX3_quotient_79 ⟨Nat.le_refl 0, Nat.le_refl 0⟩) hS (fun H locs _ _ hS => ?_)
        refine lv_if_eq (tgt := 114) hx hb dX3_quotient_82 (by decide) (fun c_82 => ?_) (fun c_82 => ?_)
        ·
          refine va_gets hx hb hF.1 hS hown (hts _ (List.mem_of_getElem? (i := 1) rfl)) (fun _ h9 => h9) dX3_quotient_114 ?_
          refine lv_lload_n hx hb dX3_quotient_117 rfl (lv_at hl 1 rfl) ?_
          refine pm_callI (va_runV (As := [.long p0]) (rest := []) ⟨hx, hb, hml, hown, hts⟩ (pm_X0_isZero l 52 (-1074) 9218868437227405312 (-9223372036854775808) dD p0) (cwV 1 hts gX3_quotient_X0_isZero rfl rfl rfl hdv_X0_isZero ⟨Nat.le_of_ble_eq_true rfl, Nat.le_of_ble_eq_true rfl⟩) ⟨KQ.fb, va_Orecv hF.2.2.1.1 hS, fun U hU hW => ⟨rfl, (KQ.call hF.2.2.1 hS U hU hW)⟩⟩ rfl rfl hl.1 rfl (lv_room (Nat.le_of_ble_eq_true rfl)) dX3_quotient_118 ⟨Nat.le_refl 0, Nat.le_refl 0⟩) hS (fun H locs _ _ hS => ?_)
          refine lv_if_ne (tgt := 134) hx hb dX3_quotient_121 (by decide) (fun c_121 => ?_) (fun c_121 => ?_)
          ·
            refine lv_lload hx hb dX3_quotient_134 (lv_at hl 0 rfl) ?_
            refine lv_goto (tgt := 144) hx hb dX3_quotient_136 (by decide) ?_
            rw [hZ]
            exact pm_lret (w := s_X3_quotient p0 p1) hx hb hr hlocks hS (by subst ex_34; exact ((((((if_pos c_7).trans (if_pos c_17)).trans (if_pos c_43)).trans (if_pos c_82)).trans (if_neg c_121))).symm) dX3_quotient_144
          ·
            refine va_gets hx hb hF.1 hS hown (hts _ (List.mem_of_getElem? (i := 1) rfl)) (fun _ h9 => h9) dX3_quotient_124 ?_
            refine lv_lload_n hx hb dX3_quotient_127 rfl (lv_at hl 2 rfl) ?_
            refine pm_callI (va_runV (As := [.long p1]) (rest := []) ⟨hx, hb, hml, hown, hts⟩ (pm_X0_isInfinite l 52 (-1074) 9218868437227405312 (-9223372036854775808) dD p1) (cwV 1 hts gX3_quotient_X0_isInfinite rfl rfl rfl hdv_X0_isInfinite ⟨Nat.le_of_ble_eq_true rfl, Nat.le_of_ble_eq_true rfl⟩) ⟨KQ.fb, va_Orecv hF.2.2.1.1 hS, fun U hU hW => ⟨rfl, (KQ.call hF.2.2.1 hS U hU hW)⟩⟩ rfl rfl hl.1 rfl (lv_room (Nat.le_of_ble_eq_true rfl)) dX3_quotient_128 ⟨Nat.le_refl 0, Nat.le_refl 0⟩) hS (fun H locs _ _ hS => ?_)
            refine lv_if_eq (tgt := 139) hx hb dX3_quotient_131 (by decide) (fun c_131 => ?_) (fun c_131 => ?_)
            ·
              refine lv_lload_n hx hb dX3_quotient_139 rfl (lv_at hl 1 rfl) ?_
              refine lv_lload_n hx hb dX3_quotient_140 rfl (lv_at hl 2 rfl) ?_
              refine pm_callL (va_runS (As := [.long p0, .long p1]) (rest := []) ⟨hx, hb, hml, hown, hts⟩ (pm_X3_quotientOfFinite l dD dF p0 p1) (va_cwS 2 hts gX3_quotient_X3_quotientOfFinite rfl rfl rfl hd_X3_quotientOfFinite ⟨Nat.le_of_ble_eq_true rfl, Nat.le_of_ble_eq_true rfl⟩) ⟨KF.fb, fun U hU hW => ⟨rfl, (KF.call hF hS U hU hW)⟩⟩ rfl rfl hl.1 rfl (lv_room (Nat.le_of_ble_eq_true rfl)) dX3_quotient_141 ⟨Nat.le_refl 0, Nat.le_refl 0⟩) hS (fun H locs _ _ hS => ?_)
              rw [hZ]
              exact pm_lret (w := s_X3_quotient p0 p1) hx hb hr hlocks hS (by subst ex_34; exact (((((((if_pos c_7).trans (if_pos c_17)).trans (if_pos c_43)).trans (if_pos c_82)).trans (if_pos c_121)).trans (if_pos c_131))).symm) dX3_quotient_144
            ·
              refine lv_lload hx hb dX3_quotient_134 (lv_at hl 0 rfl) ?_
              refine lv_goto (tgt := 144) hx hb dX3_quotient_136 (by decide) ?_
              rw [hZ]
              exact pm_lret (w := s_X3_quotient p0 p1) hx hb hr hlocks hS (by subst ex_34; exact (((((((if_pos c_7).trans (if_pos c_17)).trans (if_pos c_43)).trans (if_pos c_82)).trans (if_pos c_121)).trans (if_neg c_131))).symm) dX3_quotient_144
        ·
          refine va_gets hx hb hF.1 hS hown (hts _ (List.mem_of_getElem? (i := 1) rfl)) (fun _ h9 => h9) dX3_quotient_85 ?_
          refine lv_lload_n hx hb dX3_quotient_88 rfl (lv_at hl 1 rfl) ?_
          refine pm_callI (va_runV (As := [.long p0]) (rest := []) ⟨hx, hb, hml, hown, hts⟩ (pm_X0_isZero l 52 (-1074) 9218868437227405312 (-9223372036854775808) dD p0) (cwV 1 hts gX3_quotient_X0_isZero rfl rfl rfl hdv_X0_isZero ⟨Nat.le_of_ble_eq_true rfl, Nat.le_of_ble_eq_true rfl⟩) ⟨KQ.fb, va_Orecv hF.2.2.1.1 hS, fun U hU hW => ⟨rfl, (KQ.call hF.2.2.1 hS U hU hW)⟩⟩ rfl rfl hl.1 rfl (lv_room (Nat.le_of_ble_eq_true rfl)) dX3_quotient_89 ⟨Nat.le_refl 0, Nat.le_refl 0⟩) hS (fun H locs _ _ hS => ?_)
          refine lv_if_eq (tgt := 104) hx hb dX3_quotient_92 (by decide) (fun c_92 => ?_) (fun c_92 => ?_)
          ·
            refine lv_lload hx hb dX3_quotient_104 (lv_at hl 0 rfl) ?_
            refine va_gets hx hb hF.1 hS hown (hts _ (List.mem_of_getElem? (i := 1) rfl)) (fun _ h9 => h9) dX3_quotient_106 ?_
            refine vk_getf hx hb hF.2.2.1.2.2.2.1 hS hown (hts _ (List.mem_of_getElem? (i := 3) rfl)) (fun _ h9 => h9) dX3_quotient_109 ?_
            refine lv_lor hx hb dX3_quotient_112 ?_
            rw [hZ]
            exact pm_lret (w := s_X3_quotient p0 p1) hx hb hr hlocks hS (by subst ex_34; exact ((((((if_pos c_7).trans (if_pos c_17)).trans (if_pos c_43)).trans (if_neg c_82)).trans (if_pos c_92))).symm) dX3_quotient_113
          ·
            refine va_gets hx hb hF.1 hS hown (hts _ (List.mem_of_getElem? (i := 1) rfl)) (fun _ h9 => h9) dX3_quotient_95 ?_
            refine pm_callL (va_runV (As := []) (rest := []) ⟨hx, hb, hml, hown, hts⟩ (pm_X0_plainNaN l 52 (-1074) 9218868437227405312 (-9223372036854775808) dD) (cwV 0 hts gX3_quotient_X0_plainNaN rfl rfl rfl hdv_X0_plainNaN ⟨Nat.le_of_ble_eq_true rfl, Nat.le_of_ble_eq_true rfl⟩) ⟨KQ.fb, va_Orecv hF.2.2.1.1 hS, fun U hU hW => ⟨rfl, (KQ.call hF.2.2.1 hS U hU hW)⟩⟩ rfl rfl hl.1 rfl (lv_room (Nat.le_of_ble_eq_true rfl)) dX3_quotient_98 ⟨Nat.le_refl 0, Nat.le_refl 0⟩) hS (fun H locs _ _ hS => ?_)
            refine lv_goto (tgt := 113) hx hb dX3_quotient_101 (by decide) ?_
            rw [hZ]
            exact pm_lret (w := s_X3_quotient p0 p1) hx hb hr hlocks hS (by subst ex_34; exact ((((((if_pos c_7).trans (if_pos c_17)).trans (if_pos c_43)).trans (if_neg c_82)).trans (if_neg c_92))).symm) dX3_quotient_113
      ·
        refine va_gets hx hb hF.1 hS hown (hts _ (List.mem_of_getElem? (i := 1) rfl)) (fun _ h9 => h9) dX3_quotient_46 ?_
        refine lv_lload_n hx hb dX3_quotient_49 rfl (lv_at hl 2 rfl) ?_
        refine pm_callI (va_runV (As := [.long p1]) (rest := []) ⟨hx, hb, hml, hown, hts⟩ (pm_X0_isInfinite l 52 (-1074) 9218868437227405312 (-9223372036854775808) dD p1) (cwV 1 hts gX3_quotient_X0_isInfinite rfl rfl rfl hdv_X0_isInfinite ⟨Nat.le_of_ble_eq_true rfl, Nat.le_of_ble_eq_true rfl⟩) ⟨KQ.fb, va_Orecv hF.2.2.1.1 hS, fun U hU hW => ⟨rfl, (KQ.call hF.2.2.1 hS U hU hW)⟩⟩ rfl rfl hl.1 rfl (lv_room (Nat.le_of_ble_eq_true rfl)) dX3_quotient_50 ⟨Nat.le_refl 0, Nat.le_refl 0⟩) hS (fun H locs _ _ hS => ?_)
        refine lv_if_eq (tgt := 65) hx hb dX3_quotient_53 (by decide) (fun c_53 => ?_) (fun c_53 => ?_)
        ·
          refine lv_lload hx hb dX3_quotient_65 (lv_at hl 0 rfl) ?_
          refine va_gets hx hb hF.1 hS hown (hts _ (List.mem_of_getElem? (i := 1) rfl)) (fun _ h9 => h9) dX3_quotient_67 ?_
          refine vk_getf hx hb hF.2.2.1.2.2.2.1 hS hown (hts _ (List.mem_of_getElem? (i := 3) rfl)) (fun _ h9 => h9) dX3_quotient_70 ?_
          refine lv_lor hx hb dX3_quotient_73 ?_
          rw [hZ]
          exact pm_lret (w := s_X3_quotient p0 p1) hx hb hr hlocks hS (by subst ex_34; exact (((((if_pos c_7).trans (if_pos c_17)).trans (if_neg c_43)).trans (if_pos c_53))).symm) dX3_quotient_74
        ·
          refine va_gets hx hb hF.1 hS hown (hts _ (List.mem_of_getElem? (i := 1) rfl)) (fun _ h9 => h9) dX3_quotient_56 ?_
          refine pm_callL (va_runV (As := []) (rest := []) ⟨hx, hb, hml, hown, hts⟩ (pm_X0_plainNaN l 52 (-1074) 9218868437227405312 (-9223372036854775808) dD) (cwV 0 hts gX3_quotient_X0_plainNaN rfl rfl rfl hdv_X0_plainNaN ⟨Nat.le_of_ble_eq_true rfl, Nat.le_of_ble_eq_true rfl⟩) ⟨KQ.fb, va_Orecv hF.2.2.1.1 hS, fun U hU hW => ⟨rfl, (KQ.call hF.2.2.1 hS U hU hW)⟩⟩ rfl rfl hl.1 rfl (lv_room (Nat.le_of_ble_eq_true rfl)) dX3_quotient_59 ⟨Nat.le_refl 0, Nat.le_refl 0⟩) hS (fun H locs _ _ hS => ?_)
          refine lv_goto (tgt := 74) hx hb dX3_quotient_62 (by decide) ?_
          rw [hZ]
          exact pm_lret (w := s_X3_quotient p0 p1) hx hb hr hlocks hS (by subst ex_34; exact (((((if_pos c_7).trans (if_pos c_17)).trans (if_neg c_43)).trans (if_neg c_53))).symm) dX3_quotient_74
    ·
      refine va_gets hx hb hF.1 hS hown (hts _ (List.mem_of_getElem? (i := 1) rfl)) (fun _ h9 => h9) dX3_quotient_20 ?_
      refine pm_callL (va_runV (As := []) (rest := []) ⟨hx, hb, hml, hown, hts⟩ (pm_X0_plainNaN l 52 (-1074) 9218868437227405312 (-9223372036854775808) dD) (cwV 0 hts gX3_quotient_X0_plainNaN rfl rfl rfl hdv_X0_plainNaN ⟨Nat.le_of_ble_eq_true rfl, Nat.le_of_ble_eq_true rfl⟩) ⟨KQ.fb, va_Orecv hF.2.2.1.1 hS, fun U hU hW => ⟨rfl, (KQ.call hF.2.2.1 hS U hU hW)⟩⟩ rfl rfl hl.1 rfl (lv_room (Nat.le_of_ble_eq_true rfl)) dX3_quotient_23 ⟨Nat.le_refl 0, Nat.le_refl 0⟩) hS (fun H locs _ _ hS => ?_)
      rw [hZ]
      exact pm_lret (w := s_X3_quotient p0 p1) hx hb hr hlocks hS (by exact (((if_pos c_7).trans (if_neg c_17))).symm) dX3_quotient_26
theorem i32_m10 {y : Int32} (h : ¬ y ≤ 0) : (y + (-10)).toInt = y.toInt - 10 ∧ 0 < y.toInt := by
  have h1 : 0 < y.toInt := by
    have h2 : ¬ y.toInt ≤ (0 : Int32).toInt := fun z => h (Int32.le_iff_toInt_le.mpr z)
    have h3 : (0 : Int32).toInt = 0 := by decide
    omega
  have h2 := Int32.toInt_lt y
  refine ⟨?_, h1⟩
  rw [Int32.toInt_add]
  have h3 : (-10 : Int32).toInt = -10 := by decide
  rw [h3, Int.bmod_def]
  omega
theorem hd_X3_remainderOfFinite : yX3_remainderOfFinite.cls ≠ "java/lang/invoke/MethodHandle" ∧ yX3_remainderOfFinite.cls ≠ "java/lang/invoke/VarHandle" ∧ (parseMethodDescriptor yX3_remainderOfFinite.desc).map (fun d => d.parameters.length) = some 2 := by decide +kernel
def s_X3_remainderOfFinite_l56 (p0 : Int64) (p1 : Int64) (x_30 : Int32) (x_7 : Int64) : Nat → Int64 → Int32 → Int64
  | 0, _, _ => 0
  | n + 1, y_56_7, y_56_9 =>
  if y_56_9 ≤ 0 then if 0 ≤ p0 then s_X0_pack 52 (-1074) 9218868437227405312 (-9223372036854775808) 0 x_30 y_56_7
  else s_X0_pack 52 (-1074) 9218868437227405312 (-9223372036854775808) 1 x_30 y_56_7
  else s_X3_remainderOfFinite_l56 p0 p1 x_30 x_7 n ((lShl y_56_7 (if 10 < y_56_9 then 10 else y_56_9)) - (lShl y_56_7 (if 10 < y_56_9 then 10 else y_56_9)) / x_7 * x_7) (y_56_9 + (-10))
def s_X3_remainderOfFinite (p0 : Int64) (p1 : Int64) : Int64 :=
  if (s_X0_significand 52 (-1074) 9218868437227405312 (-9223372036854775808) p1) = 0 then s_X0_plainNaN 52 (-1074) 9218868437227405312 (-9223372036854775808)
  else s_X3_remainderOfFinite_l56 p0 p1 (s_X0_exponent 52 (-1074) 9218868437227405312 (-9223372036854775808) p1) (s_X0_significand 52 (-1074) 9218868437227405312 (-9223372036854775808) p1) (((s_X0_exponent 52 (-1074) 9218868437227405312 (-9223372036854775808) p0) - (s_X0_exponent 52 (-1074) 9218868437227405312 (-9223372036854775808) p1)).toInt.toNat + 1) ((s_X0_significand 52 (-1074) 9218868437227405312 (-9223372036854775808) p0) - (s_X0_significand 52 (-1074) 9218868437227405312 (-9223372036854775808) p0) / (s_X0_significand 52 (-1074) 9218868437227405312 (-9223372036854775808) p1) * (s_X0_significand 52 (-1074) 9218868437227405312 (-9223372036854775808) p1)) ((s_X0_exponent 52 (-1074) 9218868437227405312 (-9223372036854775808) p0) - (s_X0_exponent 52 (-1074) 9218868437227405312 (-9223372036854775808) p1))
set_option maxHeartbeats 4000000 in
set_option maxRecDepth 100000 in
theorem pm_X3_remainderOfFinite (l : Launch) (dD dF : Nat) (p0 : Int64) (p1 : Int64) : PmL l yX3_remainderOfFinite wsX3_remainderOfFinite 3 73 [.long p0, .long p1] (fun U => KF dD dF pv_N U U.heap) (s_X3_remainderOfFinite p0 p1) := by
  refine Met.ofW (cc := cX3_remainderOfFinite) (maxL := 10) (ret := (some .long)) (by decide) rfl ?_
  intro p e s m args below meth c s₁ B hml hv
  obtain ⟨rfl, hF⟩ := hv
  have hx := B.exec
  have hb := B.bytes
  have hr := B.returns
  have hts := atoms_spec (ws := wsX3_remainderOfFinite) B.pre
  have hown : s.vm.findClass RX3 = some m.cls := findClass_of_methodNamed B.named
  have hlocks := B.notSynchronized
  have hS : va_S pv_N s.heap s.heap [] := va_S.rf
  have hl := lv_entry ([.long p0, .long p1]) (n := 10) (Nat.le_of_ble_eq_true rfl)
  rw [lg_entry_eq]
  generalize (lg_sl ([.long p0, .long p1]) ++ List.replicate (10 - (lg_sl ([.long p0, .long p1])).length) Slot.unset).toArray = ls at hl ⊢
  have hl : lv_has ls 10 [(0, .long p0), (2, .long p1)] := hl
  obtain ⟨Z, hZ⟩ : ∃ z, z = MQ below (pm_QL (s_X3_remainderOfFinite p0 p1)) ([.long p0, .long p1] : List Value).toArray s 0 0 pv_N := ⟨_, rfl⟩
  rw [← hZ]
  obtain ⟨Y, hY⟩ : ∃ y, y = s_X3_remainderOfFinite p0 p1 := ⟨_, rfl⟩
  refine va_gets hx hb hF.1 hS hown (hts _ (List.mem_of_getElem? (i := 1) rfl)) (fun _ h9 => h9) dX3_remainderOfFinite_0 ?_
  refine lv_lload_n hx hb dX3_remainderOfFinite_3 rfl (lv_at hl 1 rfl) ?_
  refine pm_callL (va_runV (As := [.long p1]) (rest := []) ⟨hx, hb, hml, hown, hts⟩ (pm_X0_significand l 52 (-1074) 9218868437227405312 (-9223372036854775808) dD p1) (cwV 1 hts gX3_remainderOfFinite_X0_significand rfl rfl rfl hdv_X0_significand ⟨Nat.le_of_ble_eq_true rfl, Nat.le_of_ble_eq_true rfl⟩) ⟨KQ.fb, va_Orecv hF.2.2.1.1 hS, fun U hU hW => ⟨rfl, (KQ.call hF.2.2.1 hS U hU hW)⟩⟩ rfl rfl hl.1 rfl (lv_room (Nat.le_of_ble_eq_true rfl)) dX3_remainderOfFinite_4 ⟨Nat.le_refl 0, Nat.le_refl 0⟩) hS (fun H locs _ _ hS => ?_)
  refine lv_topl (fun x_7 ex_7 => ?_)
  refine lv_lstore (lv' := [(4, .long x_7), (0, .long p0), (2, .long p1)]) hx hb dX3_remainderOfFinite_7 hl (by decide) rfl (fun ls hl => ?_)
  refine lv_lload hx hb dX3_remainderOfFinite_9 (lv_at hl 0 rfl) ?_
  refine lv_lconst (v := 0) hx hb dX3_remainderOfFinite_11 (by decide) ?_
  refine lp_ne (tgt := 23) hx hb dX3_remainderOfFinite_12 dX3_remainderOfFinite_13 (by decide) (fun c_12 => ?_) (fun c_12 => ?_)
  ·
    refine va_gets hx hb hF.1 hS hown (hts _ (List.mem_of_getElem? (i := 1) rfl)) (fun _ h9 => h9) dX3_remainderOfFinite_23 ?_
    refine lv_lload_n hx hb dX3_remainderOfFinite_26 rfl (lv_at hl 2 rfl) ?_
    refine pm_callI (va_runV (As := [.long p1]) (rest := []) ⟨hx, hb, hml, hown, hts⟩ (pm_X0_exponent l 52 (-1074) 9218868437227405312 (-9223372036854775808) dD p1) (cwV 1 hts gX3_remainderOfFinite_X0_exponent rfl rfl rfl hdv_X0_exponent ⟨Nat.le_of_ble_eq_true rfl, Nat.le_of_ble_eq_true rfl⟩) ⟨KQ.fb, va_Orecv hF.2.2.1.1 hS, fun U hU hW => ⟨rfl, (KQ.call hF.2.2.1 hS U hU hW)⟩⟩ rfl rfl hl.1 rfl (lv_room (Nat.le_of_ble_eq_true rfl)) dX3_remainderOfFinite_27 ⟨Nat.le_refl 0, Nat.le_refl 0⟩) hS (fun H locs _ _ hS => ?_)
    refine lv_topi (fun x_30 ex_30 => ?_)
    refine lv_istore (lv' := [(6, .int x_30), (4, .long x_7), (0, .long p0), (2, .long p1)]) hx hb dX3_remainderOfFinite_30 hl (by decide) rfl (fun ls hl => ?_)
    refine va_gets hx hb hF.1 hS hown (hts _ (List.mem_of_getElem? (i := 1) rfl)) (fun _ h9 => h9) dX3_remainderOfFinite_32 ?_
    refine lv_lload_n hx hb dX3_remainderOfFinite_35 rfl (lv_at hl 2 rfl) ?_
    refine pm_callL (va_runV (As := [.long p0]) (rest := []) ⟨hx, hb, hml, hown, hts⟩ (pm_X0_significand l 52 (-1074) 9218868437227405312 (-9223372036854775808) dD p0) (cwV 1 hts gX3_remainderOfFinite_X0_significand rfl rfl rfl hdv_X0_significand ⟨Nat.le_of_ble_eq_true rfl, Nat.le_of_ble_eq_true rfl⟩) ⟨KQ.fb, va_Orecv hF.2.2.1.1 hS, fun U hU hW => ⟨rfl, (KQ.call hF.2.2.1 hS U hU hW)⟩⟩ rfl rfl hl.1 rfl (lv_room (Nat.le_of_ble_eq_true rfl)) dX3_remainderOfFinite_36 ⟨Nat.le_refl 0, Nat.le_refl 0⟩) hS (fun H locs _ _ hS => ?_)
    refine lv_lload hx hb dX3_remainderOfFinite_39 (lv_at hl 1 rfl) ?_
    refine lv_lrem hx hb dX3_remainderOfFinite_41 (c_12) ?_
    refine lv_topl (fun x_42 ex_42 => ?_)
    refine lv_lstore (lv' := [(7, .long x_42), (6, .int x_30), (4, .long x_7), (0, .long p0), (2, .long p1)]) hx hb dX3_remainderOfFinite_42 hl (by decide) rfl (fun ls hl => ?_)
    refine va_gets hx hb hF.1 hS hown (hts _ (List.mem_of_getElem? (i := 1) rfl)) (fun _ h9 => h9) dX3_remainderOfFinite_44 ?_
    refine lv_lload_n hx hb dX3_remainderOfFinite_47 rfl (lv_at hl 3 rfl) ?_
    refine pm_callI (va_runV (As := [.long p0]) (rest := []) ⟨hx, hb, hml, hown, hts⟩ (pm_X0_exponent l 52 (-1074) 9218868437227405312 (-9223372036854775808) dD p0) (cwV 1 hts gX3_remainderOfFinite_X0_exponent rfl rfl rfl hdv_X0_exponent ⟨Nat.le_of_ble_eq_true rfl, Nat.le_of_ble_eq_true rfl⟩) ⟨KQ.fb, va_Orecv hF.2.2.1.1 hS, fun U hU hW => ⟨rfl, (KQ.call hF.2.2.1 hS U hU hW)⟩⟩ rfl rfl hl.1 rfl (lv_room (Nat.le_of_ble_eq_true rfl)) dX3_remainderOfFinite_48 ⟨Nat.le_refl 0, Nat.le_refl 0⟩) hS (fun H locs _ _ hS => ?_)
    refine lv_iload hx hb dX3_remainderOfFinite_51 (lv_at hl 1 rfl) ?_
    refine lv_isub hx hb dX3_remainderOfFinite_53 ?_
    refine lv_topi (fun x_54 ex_54 => ?_)
    refine lv_istore (lv' := [(9, .int x_54), (7, .long x_42), (6, .int x_30), (4, .long x_7), (0, .long p0), (2, .long p1)]) hx hb dX3_remainderOfFinite_54 hl (by decide) rfl (fun ls hl => ?_)
    have K_56 : ∀ (n : Nat) (y_56_7 : Int64) (y_56_9 : Int32) (H : Heap) (locs : List Loc), va_S pv_N s.heap H locs → ∀ (ls : Array Slot), lv_has ls 10 [(0, .long p0), (4, .long x_7), (6, .int x_30), (7, .long y_56_7), (9, .int y_56_9)] → ((y_56_9).toInt < (n : Int) ∧ 1 ≤ n) → s_X3_remainderOfFinite p0 p1 = s_X3_remainderOfFinite_l56 p0 p1 x_30 x_7 n y_56_7 y_56_9 → W p l e (pm_R 3 73) s m ([.long p0, .long p1] : List Value).toArray below meth c H locs 0 0 Z (F0 m 56 ls []) := by
      intro n
      induction n with
      | zero =>
        intro y_56_7 y_56_9 H locs hS ls hl hI hK_56
        exact absurd hI.2 (by decide)
      | succ n ih =>
        intro y_56_7 y_56_9 H locs hS ls hl hI hK_56
        refine lv_iload hx hb dX3_remainderOfFinite_56 (lv_at hl 4 rfl) ?_
        refine lv_if_le (tgt := 82) hx hb dX3_remainderOfFinite_58 (by decide) (fun c_58 => ?_) (fun c_58 => ?_)
        ·
          refine va_gets hx hb hF.1 hS hown (hts _ (List.mem_of_getElem? (i := 1) rfl)) (fun _ h9 => h9) dX3_remainderOfFinite_82 ?_
          refine lv_lload_n hx hb dX3_remainderOfFinite_85 rfl (lv_at hl 0 rfl) ?_
          refine lv_lconst (v := 0) hx hb dX3_remainderOfFinite_86 (by decide) ?_
          refine lp_ge (tgt := 95) hx hb dX3_remainderOfFinite_87 dX3_remainderOfFinite_88 (by decide) (fun c_87 => ?_) (fun c_87 => ?_)
          ·
            refine lv_iconst (v := 0) hx hb dX3_remainderOfFinite_95 (by decide) ?_
            refine lv_iload hx hb dX3_remainderOfFinite_96 (lv_at hl 2 rfl) ?_
            refine lv_lload hx hb dX3_remainderOfFinite_98 (lv_at hl 3 rfl) ?_
            refine pm_callL (va_runV (As := [.int 0, .int x_30, .long y_56_7]) (rest := []) ⟨hx, hb, hml, hown, hts⟩ (pm_X0_pack l 52 (-1074) 9218868437227405312 (-9223372036854775808) dD 0 x_30 y_56_7) (cwV 3 hts gX3_remainderOfFinite_X0_pack rfl rfl rfl hdv_X0_pack ⟨Nat.le_of_ble_eq_true rfl, Nat.le_of_ble_eq_true rfl⟩) ⟨KQ.fb, va_Orecv hF.2.2.1.1 hS, fun U hU hW => ⟨rfl, (KQ.call hF.2.2.1 hS U hU hW)⟩⟩ rfl rfl hl.1 rfl (lv_room (Nat.le_of_ble_eq_true rfl)) dX3_remainderOfFinite_100 ⟨Nat.le_refl 0, Nat.le_refl 0⟩) hS (fun H locs _ _ hS => ?_)
            rw [hZ]
            exact pm_lret (w := s_X3_remainderOfFinite p0 p1) hx hb hr hlocks hS (by subst ex_54 ex_42 ex_30 ex_7; exact (hK_56.trans ((if_pos c_58).trans (if_pos c_87))).symm) dX3_remainderOfFinite_103
          ·
            refine lv_iconst (v := 1) hx hb dX3_remainderOfFinite_91 (by decide) ?_
            refine lv_goto (tgt := 96) hx hb dX3_remainderOfFinite_92 (by decide) ?_
            refine lv_iload hx hb dX3_remainderOfFinite_96 (lv_at hl 2 rfl) ?_
            refine lv_lload hx hb dX3_remainderOfFinite_98 (lv_at hl 3 rfl) ?_
            refine pm_callL (va_runV (As := [.int 1, .int x_30, .long y_56_7]) (rest := []) ⟨hx, hb, hml, hown, hts⟩ (pm_X0_pack l 52 (-1074) 9218868437227405312 (-9223372036854775808) dD 1 x_30 y_56_7) (cwV 3 hts gX3_remainderOfFinite_X0_pack rfl rfl rfl hdv_X0_pack ⟨Nat.le_of_ble_eq_true rfl, Nat.le_of_ble_eq_true rfl⟩) ⟨KQ.fb, va_Orecv hF.2.2.1.1 hS, fun U hU hW => ⟨rfl, (KQ.call hF.2.2.1 hS U hU hW)⟩⟩ rfl rfl hl.1 rfl (lv_room (Nat.le_of_ble_eq_true rfl)) dX3_remainderOfFinite_100 ⟨Nat.le_refl 0, Nat.le_refl 0⟩) hS (fun H locs _ _ hS => ?_)
            rw [hZ]
            exact pm_lret (w := s_X3_remainderOfFinite p0 p1) hx hb hr hlocks hS (by subst ex_54 ex_42 ex_30 ex_7; exact (hK_56.trans ((if_pos c_58).trans (if_neg c_87))).symm) dX3_remainderOfFinite_103
        ·
          refine lv_lload hx hb dX3_remainderOfFinite_61 (lv_at hl 3 rfl) ?_
          refine lv_iload hx hb dX3_remainderOfFinite_63 (lv_at hl 4 rfl) ?_
          refine lv_bipush (v := 10) hx hb dX3_remainderOfFinite_65 (by decide) ?_
          refine va_mmin hx hb (hml.trans hl.1.symm) hown (hts _ (List.mem_of_getElem? (i := 2) rfl)) (hts _ (List.mem_of_getElem? (i := 3) rfl)) (hts _ (List.mem_of_getElem? (i := 4) rfl)) (hts _ (List.mem_of_getElem? (i := 5) rfl)) (Nat.le_of_ble_eq_true rfl) (Nat.le_of_ble_eq_true rfl) (Nat.le_refl 0) (Nat.le_refl 0) dX3_remainderOfFinite_67 ?_
          refine lv_lshl (v := lShl y_56_7 (if 10 < y_56_9 then 10 else y_56_9)) hx hb dX3_remainderOfFinite_70 rfl ?_
          refine lv_lload hx hb dX3_remainderOfFinite_71 (lv_at hl 1 rfl) ?_
          refine lv_lrem hx hb dX3_remainderOfFinite_73 (c_12) ?_
          refine lv_topl (fun x_74 ex_74 => ?_)
          refine lv_lstore (lv' := [(7, .long x_74), (0, .long p0), (4, .long x_7), (6, .int x_30), (9, .int y_56_9)]) hx hb dX3_remainderOfFinite_74 hl (by decide) rfl (fun ls hl => ?_)
          obtain ⟨x_76, ex_76⟩ : ∃ y : Int32, y = y_56_9 + (-10) := ⟨_, rfl⟩
          refine lv_iinc (v := x_76) (lv' := [(9, .int x_76), (7, .long x_74), (0, .long p0), (4, .long x_7), (6, .int x_30)]) hx hb dX3_remainderOfFinite_76 hl (k := 4) rfl (by rw [ex_76]; rfl) (by decide) rfl (fun ls hl => ?_)
          refine lv_goto (tgt := 56) hx hb dX3_remainderOfFinite_79 (by decide) ?_
          exact ih x_74 x_76 _ _ hS ls (lv_sub hl [2, 3, 4, 1, 0] rfl) (by subst ex_76; have h1 := i32_m10 c_58; have h2 := hI.1; exact ⟨by omega, by omega⟩) (by subst ex_76 ex_74 ex_54 ex_42 ex_30 ex_7; exact hK_56.trans (if_neg c_58))
    exact K_56 (x_54.toInt.toNat + 1) x_42 x_54 _ _ hS ls (lv_sub hl [4, 3, 2, 1, 0] rfl) (⟨by omega, by omega⟩) (by subst ex_54 ex_42 ex_30 ex_7; exact (if_neg c_12))
  ·
    refine va_gets hx hb hF.1 hS hown (hts _ (List.mem_of_getElem? (i := 1) rfl)) (fun _ h9 => h9) dX3_remainderOfFinite_16 ?_
    refine pm_callL (va_runV (As := []) (rest := []) ⟨hx, hb, hml, hown, hts⟩ (pm_X0_plainNaN l 52 (-1074) 9218868437227405312 (-9223372036854775808) dD) (cwV 0 hts gX3_remainderOfFinite_X0_plainNaN rfl rfl rfl hdv_X0_plainNaN ⟨Nat.le_of_ble_eq_true rfl, Nat.le_of_ble_eq_true rfl⟩) ⟨KQ.fb, va_Orecv hF.2.2.1.1 hS, fun U hU hW => ⟨rfl, (KQ.call hF.2.2.1 hS U hU hW)⟩⟩ rfl rfl hl.1 rfl (lv_room (Nat.le_of_ble_eq_true rfl)) dX3_remainderOfFinite_19 ⟨Nat.le_refl 0, Nat.le_refl 0⟩) hS (fun H locs _ _ hS => ?_)
    rw [hZ]
    exact pm_lret (w := s_X3_remainderOfFinite p0 p1) hx hb hr hlocks hS (by subst ex_7; exact ((if_pos c_12)).symm) dX3_remainderOfFinite_22
theorem hd_X3_remainder : yX3_remainder.cls ≠ "java/lang/invoke/MethodHandle" ∧ yX3_remainder.cls ≠ "java/lang/invoke/VarHandle" ∧ (parseMethodDescriptor yX3_remainder.desc).map (fun d => d.parameters.length) = some 2 := by decide +kernel
def s_X3_remainder_j82 (p0 : Int64) (p1 : Int64) (z_82_0 : Int32) : Int64 :=
  if z_82_0 = 0 then s_X3_remainderOfFinite p0 p1
  else p0
def s_X3_remainder_j25 (p0 : Int64) (p1 : Int64) (z_25_0 : Int32) : Int64 :=
  if z_25_0 = 0 then if (s_X0_isInfinite 52 (-1074) 9218868437227405312 (-9223372036854775808) p0) = 0 then if (s_X0_isZero 52 (-1074) 9218868437227405312 (-9223372036854775808) p1) = 0 then if (s_X0_magnitude 52 (-1074) 9218868437227405312 (-9223372036854775808) p1) ≤ (s_X0_magnitude 52 (-1074) 9218868437227405312 (-9223372036854775808) p0) then s_X3_remainder_j82 p0 p1 0
  else s_X3_remainder_j82 p0 p1 1
  else s_X0_plainNaN 52 (-1074) 9218868437227405312 (-9223372036854775808)
  else s_X0_plainNaN 52 (-1074) 9218868437227405312 (-9223372036854775808)
  else s_X0_plainNaN 52 (-1074) 9218868437227405312 (-9223372036854775808)
def s_X3_remainder (p0 : Int64) (p1 : Int64) : Int64 :=
  if (s_X0_isNaN 52 (-1074) 9218868437227405312 (-9223372036854775808) p0) = 0 then if (s_X0_isNaN 52 (-1074) 9218868437227405312 (-9223372036854775808) p1) = 0 then s_X3_remainder_j25 p0 p1 0
  else s_X3_remainder_j25 p0 p1 1
  else s_X3_remainder_j25 p0 p1 1
set_option maxHeartbeats 4000000 in
set_option maxRecDepth 100000 in
theorem pm_X3_remainder (l : Launch) (dD dF : Nat) (p0 : Int64) (p1 : Int64) : PmL l yX3_remainder wsX3_remainder 4 102 [.long p0, .long p1] (fun U => KF dD dF pv_N U U.heap) (s_X3_remainder p0 p1) := by
  refine Met.ofW (cc := cX3_remainder) (maxL := 6) (ret := (some .long)) (by decide) rfl ?_
  intro p e s m args below meth c s₁ B hml hv
  obtain ⟨rfl, hF⟩ := hv
  have hx := B.exec
  have hb := B.bytes
  have hr := B.returns
  have hts := atoms_spec (ws := wsX3_remainder) B.pre
  have hown : s.vm.findClass RX3 = some m.cls := findClass_of_methodNamed B.named
  have hlocks := B.notSynchronized
  have hS : va_S pv_N s.heap s.heap [] := va_S.rf
  have hl := lv_entry ([.long p0, .long p1]) (n := 6) (Nat.le_of_ble_eq_true rfl)
  rw [lg_entry_eq]
  generalize (lg_sl ([.long p0, .long p1]) ++ List.replicate (6 - (lg_sl ([.long p0, .long p1])).length) Slot.unset).toArray = ls at hl ⊢
  have hl : lv_has ls 6 [(0, .long p0), (2, .long p1)] := hl
  obtain ⟨Z, hZ⟩ : ∃ z, z = MQ below (pm_QL (s_X3_remainder p0 p1)) ([.long p0, .long p1] : List Value).toArray s 0 0 pv_N := ⟨_, rfl⟩
  rw [← hZ]
  obtain ⟨Y, hY⟩ : ∃ y, y = s_X3_remainder p0 p1 := ⟨_, rfl⟩
  refine va_gets hx hb hF.1 hS hown (hts _ (List.mem_of_getElem? (i := 1) rfl)) (fun _ h9 => h9) dX3_remainder_0 ?_
  refine lv_lload_n hx hb dX3_remainder_3 rfl (lv_at hl 0 rfl) ?_
  refine pm_callI (va_runV (As := [.long p0]) (rest := []) ⟨hx, hb, hml, hown, hts⟩ (pm_X0_isNaN l 52 (-1074) 9218868437227405312 (-9223372036854775808) dD p0) (cwV 1 hts gX3_remainder_X0_isNaN rfl rfl rfl hdv_X0_isNaN ⟨Nat.le_of_ble_eq_true rfl, Nat.le_of_ble_eq_true rfl⟩) ⟨KQ.fb, va_Orecv hF.2.2.1.1 hS, fun U hU hW => ⟨rfl, (KQ.call hF.2.2.1 hS U hU hW)⟩⟩ rfl rfl hl.1 rfl (lv_room (Nat.le_of_ble_eq_true rfl)) dX3_remainder_4 ⟨Nat.le_refl 0, Nat.le_refl 0⟩) hS (fun H locs _ _ hS => ?_)
  have K_25 : ∀ (z_25_0 : Int32) (H : Heap) (locs : List Loc), va_S pv_N s.heap H locs → ∀ (ls : Array Slot), lv_has ls 6 [(0, .long p0), (2, .long p1)] → s_X3_remainder p0 p1 = s_X3_remainder_j25 p0 p1 z_25_0 → W p l e (pm_R 4 102) s m ([.long p0, .long p1] : List Value).toArray below meth c H locs 0 0 Z (F0 m 25 ls [.int z_25_0]) := by
    intro z_25_0 H locs hS ls hl hK_25
    refine lv_istore (lv' := [(4, .int z_25_0), (0, .long p0), (2, .long p1)]) hx hb dX3_remainder_25 hl (by decide) rfl (fun ls hl => ?_)
    refine lv_iload hx hb dX3_remainder_27 (lv_at hl 0 rfl) ?_
    refine lv_if_ne (tgt := 52) hx hb dX3_remainder_29 (by decide) (fun c_29 => ?_) (fun c_29 => ?_)
    ·
      refine va_gets hx hb hF.1 hS hown (hts _ (List.mem_of_getElem? (i := 1) rfl)) (fun _ h9 => h9) dX3_remainder_52 ?_
      refine pm_callL (va_runV (As := []) (rest := []) ⟨hx, hb, hml, hown, hts⟩ (pm_X0_plainNaN l 52 (-1074) 9218868437227405312 (-9223372036854775808) dD) (cwV 0 hts gX3_remainder_X0_plainNaN rfl rfl rfl hdv_X0_plainNaN ⟨Nat.le_of_ble_eq_true rfl, Nat.le_of_ble_eq_true rfl⟩) ⟨KQ.fb, va_Orecv hF.2.2.1.1 hS, fun U hU hW => ⟨rfl, (KQ.call hF.2.2.1 hS U hU hW)⟩⟩ rfl rfl hl.1 rfl (lv_room (Nat.le_of_ble_eq_true rfl)) dX3_remainder_55 ⟨Nat.le_refl 0, Nat.le_refl 0⟩) hS (fun H locs _ _ hS => ?_)
      rw [hZ]
      exact pm_lret (w := s_X3_remainder p0 p1) hx hb hr hlocks hS (by exact (hK_25.trans (if_neg c_29)).symm) dX3_remainder_58
    ·
      refine va_gets hx hb hF.1 hS hown (hts _ (List.mem_of_getElem? (i := 1) rfl)) (fun _ h9 => h9) dX3_remainder_32 ?_
      refine lv_lload_n hx hb dX3_remainder_35 rfl (lv_at hl 1 rfl) ?_
      refine pm_callI (va_runV (As := [.long p0]) (rest := []) ⟨hx, hb, hml, hown, hts⟩ (pm_X0_isInfinite l 52 (-1074) 9218868437227405312 (-9223372036854775808) dD p0) (cwV 1 hts gX3_remainder_X0_isInfinite rfl rfl rfl hdv_X0_isInfinite ⟨Nat.le_of_ble_eq_true rfl, Nat.le_of_ble_eq_true rfl⟩) ⟨KQ.fb, va_Orecv hF.2.2.1.1 hS, fun U hU hW => ⟨rfl, (KQ.call hF.2.2.1 hS U hU hW)⟩⟩ rfl rfl hl.1 rfl (lv_room (Nat.le_of_ble_eq_true rfl)) dX3_remainder_36 ⟨Nat.le_refl 0, Nat.le_refl 0⟩) hS (fun H locs _ _ hS => ?_)
      refine lv_if_ne (tgt := 52) hx hb dX3_remainder_39 (by decide) (fun c_39 => ?_) (fun c_39 => ?_)
      ·
        refine va_gets hx hb hF.1 hS hown (hts _ (List.mem_of_getElem? (i := 1) rfl)) (fun _ h9 => h9) dX3_remainder_52 ?_
        refine pm_callL (va_runV (As := []) (rest := []) ⟨hx, hb, hml, hown, hts⟩ (pm_X0_plainNaN l 52 (-1074) 9218868437227405312 (-9223372036854775808) dD) (cwV 0 hts gX3_remainder_X0_plainNaN rfl rfl rfl hdv_X0_plainNaN ⟨Nat.le_of_ble_eq_true rfl, Nat.le_of_ble_eq_true rfl⟩) ⟨KQ.fb, va_Orecv hF.2.2.1.1 hS, fun U hU hW => ⟨rfl, (KQ.call hF.2.2.1 hS U hU hW)⟩⟩ rfl rfl hl.1 rfl (lv_room (Nat.le_of_ble_eq_true rfl)) dX3_remainder_55 ⟨Nat.le_refl 0, Nat.le_refl 0⟩) hS (fun H locs _ _ hS => ?_)
        rw [hZ]
        exact pm_lret (w := s_X3_remainder p0 p1) hx hb hr hlocks hS (by exact (hK_25.trans ((if_pos c_29).trans (if_neg c_39))).symm) dX3_remainder_58
      ·
        refine va_gets hx hb hF.1 hS hown (hts _ (List.mem_of_getElem? (i := 1) rfl)) (fun _ h9 => h9) dX3_remainder_42 ?_
        refine lv_lload_n hx hb dX3_remainder_45 rfl (lv_at hl 2 rfl) ?_
        refine pm_callI (va_runV (As := [.long p1]) (rest := []) ⟨hx, hb, hml, hown, hts⟩ (pm_X0_isZero l 52 (-1074) 9218868437227405312 (-9223372036854775808) dD p1) (cwV 1 hts gX3_remainder_X0_isZero rfl rfl rfl hdv_X0_isZero ⟨Nat.le_of_ble_eq_true rfl, Nat.le_of_ble_eq_true rfl⟩) ⟨KQ.fb, va_Orecv hF.2.2.1.1 hS, fun U hU hW => ⟨rfl, (KQ.call hF.2.2.1 hS U hU hW)⟩⟩ rfl rfl hl.1 rfl (lv_room (Nat.le_of_ble_eq_true rfl)) dX3_remainder_46 ⟨Nat.le_refl 0, Nat.le_refl 0⟩) hS (fun H locs _ _ hS => ?_)
        refine lv_if_eq (tgt := 59) hx hb dX3_remainder_49 (by decide) (fun c_49 => ?_) (fun c_49 => ?_)
        ·
          refine va_gets hx hb hF.1 hS hown (hts _ (List.mem_of_getElem? (i := 1) rfl)) (fun _ h9 => h9) dX3_remainder_59 ?_
          refine lv_lload_n hx hb dX3_remainder_62 rfl (lv_at hl 1 rfl) ?_
          refine pm_callL (va_runV (As := [.long p0]) (rest := []) ⟨hx, hb, hml, hown, hts⟩ (pm_X0_magnitude l 52 (-1074) 9218868437227405312 (-9223372036854775808) dD p0) (cwV 1 hts gX3_remainder_X0_magnitude rfl rfl rfl hdv_X0_magnitude ⟨Nat.le_of_ble_eq_true rfl, Nat.le_of_ble_eq_true rfl⟩) ⟨KQ.fb, va_Orecv hF.2.2.1.1 hS, fun U hU hW => ⟨rfl, (KQ.call hF.2.2.1 hS U hU hW)⟩⟩ rfl rfl hl.1 rfl (lv_room (Nat.le_of_ble_eq_true rfl)) dX3_remainder_63 ⟨Nat.le_refl 0, Nat.le_refl 0⟩) hS (fun H locs _ _ hS => ?_)
          refine va_gets hx hb hF.1 hS hown (hts _ (List.mem_of_getElem? (i := 1) rfl)) (fun _ h9 => h9) dX3_remainder_66 ?_
          refine lv_lload_n hx hb dX3_remainder_69 rfl (lv_at hl 2 rfl) ?_
          refine pm_callL (va_runV (As := [.long p1]) (rest := [.long (s_X0_magnitude 52 (-1074) 9218868437227405312 (-9223372036854775808) p0)]) ⟨hx, hb, hml, hown, hts⟩ (pm_X0_magnitude l 52 (-1074) 9218868437227405312 (-9223372036854775808) dD p1) (cwV 1 hts gX3_remainder_X0_magnitude rfl rfl rfl hdv_X0_magnitude ⟨Nat.le_of_ble_eq_true rfl, Nat.le_of_ble_eq_true rfl⟩) ⟨KQ.fb, va_Orecv hF.2.2.1.1 hS, fun U hU hW => ⟨rfl, (KQ.call hF.2.2.1 hS U hU hW)⟩⟩ rfl rfl hl.1 rfl (lv_room (Nat.le_of_ble_eq_true rfl)) dX3_remainder_70 ⟨Nat.le_refl 0, Nat.le_refl 0⟩) hS (fun H locs _ _ hS => ?_)
          have K_82 : ∀ (z_82_0 : Int32) (H : Heap) (locs : List Loc), va_S pv_N s.heap H locs → ∀ (ls : Array Slot), lv_has ls 6 [(0, .long p0), (2, .long p1)] → s_X3_remainder p0 p1 = s_X3_remainder_j82 p0 p1 z_82_0 → W p l e (pm_R 4 102) s m ([.long p0, .long p1] : List Value).toArray below meth c H locs 0 0 Z (F0 m 82 ls [.int z_82_0]) := by
            intro z_82_0 H locs hS ls hl hK_82
            refine lv_istore (lv' := [(5, .int z_82_0), (0, .long p0), (2, .long p1)]) hx hb dX3_remainder_82 hl (by decide) rfl (fun ls hl => ?_)
            refine lv_iload hx hb dX3_remainder_84 (lv_at hl 0 rfl) ?_
            refine lv_if_eq (tgt := 93) hx hb dX3_remainder_86 (by decide) (fun c_86 => ?_) (fun c_86 => ?_)
            ·
              refine lv_lload_n hx hb dX3_remainder_93 rfl (lv_at hl 1 rfl) ?_
              refine lv_lload_n hx hb dX3_remainder_94 rfl (lv_at hl 2 rfl) ?_
              refine pm_callL (va_runS (As := [.long p0, .long p1]) (rest := []) ⟨hx, hb, hml, hown, hts⟩ (pm_X3_remainderOfFinite l dD dF p0 p1) (va_cwS 2 hts gX3_remainder_X3_remainderOfFinite rfl rfl rfl hd_X3_remainderOfFinite ⟨Nat.le_of_ble_eq_true rfl, Nat.le_of_ble_eq_true rfl⟩) ⟨KF.fb, fun U hU hW => ⟨rfl, (KF.call hF hS U hU hW)⟩⟩ rfl rfl hl.1 rfl (lv_room (Nat.le_of_ble_eq_true rfl)) dX3_remainder_95 ⟨Nat.le_refl 0, Nat.le_refl 0⟩) hS (fun H locs _ _ hS => ?_)
              rw [hZ]
              exact pm_lret (w := s_X3_remainder p0 p1) hx hb hr hlocks hS (by exact (hK_82.trans (if_pos c_86)).symm) dX3_remainder_98
            ·
              refine lv_lload_n hx hb dX3_remainder_89 rfl (lv_at hl 1 rfl) ?_
              refine lv_goto (tgt := 98) hx hb dX3_remainder_90 (by decide) ?_
              rw [hZ]
              exact pm_lret (w := s_X3_remainder p0 p1) hx hb hr hlocks hS (by exact (hK_82.trans (if_neg c_86)).symm) dX3_remainder_98
          refine lp_ge (tgt := 81) hx hb dX3_remainder_73 dX3_remainder_74 (by decide) (fun c_73 => ?_) (fun c_73 => ?_)
          ·
            refine lv_iconst (v := 0) hx hb dX3_remainder_81 (by decide) ?_
            exact K_82 0 _ _ hS ls (lv_sub hl [1, 2] rfl) (hK_25.trans ((((if_pos c_29).trans (if_pos c_39)).trans (if_pos c_49)).trans (if_pos c_73)))
          ·
            refine lv_iconst (v := 1) hx hb dX3_remainder_77 (by decide) ?_
            refine lv_goto (tgt := 82) hx hb dX3_remainder_78 (by decide) ?_
            exact K_82 1 _ _ hS ls (lv_sub hl [1, 2] rfl) (hK_25.trans ((((if_pos c_29).trans (if_pos c_39)).trans (if_pos c_49)).trans (if_neg c_73)))
        ·
          refine va_gets hx hb hF.1 hS hown (hts _ (List.mem_of_getElem? (i := 1) rfl)) (fun _ h9 => h9) dX3_remainder_52 ?_
          refine pm_callL (va_runV (As := []) (rest := []) ⟨hx, hb, hml, hown, hts⟩ (pm_X0_plainNaN l 52 (-1074) 9218868437227405312 (-9223372036854775808) dD) (cwV 0 hts gX3_remainder_X0_plainNaN rfl rfl rfl hdv_X0_plainNaN ⟨Nat.le_of_ble_eq_true rfl, Nat.le_of_ble_eq_true rfl⟩) ⟨KQ.fb, va_Orecv hF.2.2.1.1 hS, fun U hU hW => ⟨rfl, (KQ.call hF.2.2.1 hS U hU hW)⟩⟩ rfl rfl hl.1 rfl (lv_room (Nat.le_of_ble_eq_true rfl)) dX3_remainder_55 ⟨Nat.le_refl 0, Nat.le_refl 0⟩) hS (fun H locs _ _ hS => ?_)
          rw [hZ]
          exact pm_lret (w := s_X3_remainder p0 p1) hx hb hr hlocks hS (by exact (hK_25.trans (((if_pos c_29).trans (if_pos c_39)).trans (if_neg c_49))).symm) dX3_remainder_58
  refine lv_if_ne (tgt := 20) hx hb dX3_remainder_7 (by decide) (fun c_7 => ?_) (fun c_7 => ?_)
  ·
    refine lv_iconst (v := 1) hx hb dX3_remainder_20 (by decide) ?_
    refine lv_goto (tgt := 25) hx hb dX3_remainder_21 (by decide) ?_
    exact K_25 1 _ _ hS ls (lv_sub hl [0, 1] rfl) ((if_neg c_7))
  ·
    refine va_gets hx hb hF.1 hS hown (hts _ (List.mem_of_getElem? (i := 1) rfl)) (fun _ h9 => h9) dX3_remainder_10 ?_
    refine lv_lload_n hx hb dX3_remainder_13 rfl (lv_at hl 1 rfl) ?_
    refine pm_callI (va_runV (As := [.long p1]) (rest := []) ⟨hx, hb, hml, hown, hts⟩ (pm_X0_isNaN l 52 (-1074) 9218868437227405312 (-9223372036854775808) dD p1) (cwV 1 hts gX3_remainder_X0_isNaN rfl rfl rfl hdv_X0_isNaN ⟨Nat.le_of_ble_eq_true rfl, Nat.le_of_ble_eq_true rfl⟩) ⟨KQ.fb, va_Orecv hF.2.2.1.1 hS, fun U hU hW => ⟨rfl, (KQ.call hF.2.2.1 hS U hU hW)⟩⟩ rfl rfl hl.1 rfl (lv_room (Nat.le_of_ble_eq_true rfl)) dX3_remainder_14 ⟨Nat.le_refl 0, Nat.le_refl 0⟩) hS (fun H locs _ _ hS => ?_)
    refine lv_if_eq (tgt := 24) hx hb dX3_remainder_17 (by decide) (fun c_17 => ?_) (fun c_17 => ?_)
    ·
      refine lv_iconst (v := 0) hx hb dX3_remainder_24 (by decide) ?_
      exact K_25 0 _ _ hS ls (lv_sub hl [0, 1] rfl) (((if_pos c_7).trans (if_pos c_17)))
    ·
      refine lv_iconst (v := 1) hx hb dX3_remainder_20 (by decide) ?_
      refine lv_goto (tgt := 25) hx hb dX3_remainder_21 (by decide) ?_
      exact K_25 1 _ _ hS ls (lv_sub hl [0, 1] rfl) (((if_pos c_7).trans (if_neg c_17)))
theorem hd_X3_rankWithSignOfZero : yX3_rankWithSignOfZero.cls ≠ "java/lang/invoke/MethodHandle" ∧ yX3_rankWithSignOfZero.cls ≠ "java/lang/invoke/VarHandle" ∧ (parseMethodDescriptor yX3_rankWithSignOfZero.desc).map (fun d => d.parameters.length) = some 1 := by decide +kernel
def s_X3_rankWithSignOfZero (p0 : Int64) : Int64 :=
  if 0 ≤ p0 then p0
  else (s_X0_magnitude 52 (-1074) 9218868437227405312 (-9223372036854775808) p0) ^^^ (-1)
set_option maxHeartbeats 4000000 in
set_option maxRecDepth 100000 in
theorem pm_X3_rankWithSignOfZero (l : Launch) (dD dF : Nat) (p0 : Int64) : PmL l yX3_rankWithSignOfZero wsX3_rankWithSignOfZero 1 22 [.long p0] (fun U => KF dD dF pv_N U U.heap) (s_X3_rankWithSignOfZero p0) := by
  refine Met.ofW (cc := cX3_rankWithSignOfZero) (maxL := 2) (ret := (some .long)) (by decide) rfl ?_
  intro p e s m args below meth c s₁ B hml hv
  obtain ⟨rfl, hF⟩ := hv
  have hx := B.exec
  have hb := B.bytes
  have hr := B.returns
  have hts := atoms_spec (ws := wsX3_rankWithSignOfZero) B.pre
  have hown : s.vm.findClass RX3 = some m.cls := findClass_of_methodNamed B.named
  have hlocks := B.notSynchronized
  have hS : va_S pv_N s.heap s.heap [] := va_S.rf
  have hl := lv_entry ([.long p0]) (n := 2) (Nat.le_of_ble_eq_true rfl)
  rw [lg_entry_eq]
  generalize (lg_sl ([.long p0]) ++ List.replicate (2 - (lg_sl ([.long p0])).length) Slot.unset).toArray = ls at hl ⊢
  have hl : lv_has ls 2 [(0, .long p0)] := hl
  obtain ⟨Z, hZ⟩ : ∃ z, z = MQ below (pm_QL (s_X3_rankWithSignOfZero p0)) ([.long p0] : List Value).toArray s 0 0 pv_N := ⟨_, rfl⟩
  rw [← hZ]
  obtain ⟨Y, hY⟩ : ∃ y, y = s_X3_rankWithSignOfZero p0 := ⟨_, rfl⟩
  refine lv_lload_n hx hb dX3_rankWithSignOfZero_0 rfl (lv_at hl 0 rfl) ?_
  refine lv_lconst (v := 0) hx hb dX3_rankWithSignOfZero_1 (by decide) ?_
  refine lp_ge (tgt := 20) hx hb dX3_rankWithSignOfZero_2 dX3_rankWithSignOfZero_3 (by decide) (fun c_2 => ?_) (fun c_2 => ?_)
  ·
    refine lv_lload_n hx hb dX3_rankWithSignOfZero_20 rfl (lv_at hl 0 rfl) ?_
    rw [hZ]
    exact pm_lret (w := s_X3_rankWithSignOfZero p0) hx hb hr hlocks hS (by exact ((if_pos c_2)).symm) dX3_rankWithSignOfZero_21
  ·
    refine va_gets hx hb hF.1 hS hown (hts _ (List.mem_of_getElem? (i := 1) rfl)) (fun _ h9 => h9) dX3_rankWithSignOfZero_6 ?_
    refine lv_lload_n hx hb dX3_rankWithSignOfZero_9 rfl (lv_at hl 0 rfl) ?_
    refine pm_callL (va_runV (As := [.long p0]) (rest := []) ⟨hx, hb, hml, hown, hts⟩ (pm_X0_magnitude l 52 (-1074) 9218868437227405312 (-9223372036854775808) dD p0) (cwV 1 hts gX3_rankWithSignOfZero_X0_magnitude rfl rfl rfl hdv_X0_magnitude ⟨Nat.le_of_ble_eq_true rfl, Nat.le_of_ble_eq_true rfl⟩) ⟨KQ.fb, va_Orecv hF.2.2.1.1 hS, fun U hU hW => ⟨rfl, (KQ.call hF.2.2.1 hS U hU hW)⟩⟩ rfl rfl hl.1 rfl (lv_room (Nat.le_of_ble_eq_true rfl)) dX3_rankWithSignOfZero_10 ⟨Nat.le_refl 0, Nat.le_refl 0⟩) hS (fun H locs _ _ hS => ?_)
    refine lv_ldc2 (v := (-1)) hx hb hown (hts _ (List.mem_of_getElem? (i := 2) rfl)) dX3_rankWithSignOfZero_13 ?_
    refine lv_lxor hx hb dX3_rankWithSignOfZero_16 ?_
    refine lv_goto (tgt := 21) hx hb dX3_rankWithSignOfZero_17 (by decide) ?_
    rw [hZ]
    exact pm_lret (w := s_X3_rankWithSignOfZero p0) hx hb hr hlocks hS (by exact ((if_neg c_2)).symm) dX3_rankWithSignOfZero_21
theorem hd_X3_rank : yX3_rank.cls ≠ "java/lang/invoke/MethodHandle" ∧ yX3_rank.cls ≠ "java/lang/invoke/VarHandle" ∧ (parseMethodDescriptor yX3_rank.desc).map (fun d => d.parameters.length) = some 1 := by decide +kernel
def s_X3_rank (p0 : Int64) : Int64 :=
  if 0 ≤ p0 then p0
  else -(s_X0_magnitude 52 (-1074) 9218868437227405312 (-9223372036854775808) p0)
set_option maxHeartbeats 4000000 in
set_option maxRecDepth 100000 in
theorem pm_X3_rank (l : Launch) (dD dF : Nat) (p0 : Int64) : PmL l yX3_rank wsX3_rank 1 22 [.long p0] (fun U => KF dD dF pv_N U U.heap) (s_X3_rank p0) := by
  refine Met.ofW (cc := cX3_rank) (maxL := 2) (ret := (some .long)) (by decide) rfl ?_
  intro p e s m args below meth c s₁ B hml hv
  obtain ⟨rfl, hF⟩ := hv
  have hx := B.exec
  have hb := B.bytes
  have hr := B.returns
  have hts := atoms_spec (ws := wsX3_rank) B.pre
  have hown : s.vm.findClass RX3 = some m.cls := findClass_of_methodNamed B.named
  have hlocks := B.notSynchronized
  have hS : va_S pv_N s.heap s.heap [] := va_S.rf
  have hl := lv_entry ([.long p0]) (n := 2) (Nat.le_of_ble_eq_true rfl)
  rw [lg_entry_eq]
  generalize (lg_sl ([.long p0]) ++ List.replicate (2 - (lg_sl ([.long p0])).length) Slot.unset).toArray = ls at hl ⊢
  have hl : lv_has ls 2 [(0, .long p0)] := hl
  obtain ⟨Z, hZ⟩ : ∃ z, z = MQ below (pm_QL (s_X3_rank p0)) ([.long p0] : List Value).toArray s 0 0 pv_N := ⟨_, rfl⟩
  rw [← hZ]
  obtain ⟨Y, hY⟩ : ∃ y, y = s_X3_rank p0 := ⟨_, rfl⟩
  refine lv_lload_n hx hb dX3_rank_0 rfl (lv_at hl 0 rfl) ?_
  refine lv_lconst (v := 0) hx hb dX3_rank_1 (by decide) ?_
  refine lp_ge (tgt := 17) hx hb dX3_rank_2 dX3_rank_3 (by decide) (fun c_2 => ?_) (fun c_2 => ?_)
  ·
    refine lv_lload_n hx hb dX3_rank_17 rfl (lv_at hl 0 rfl) ?_
    rw [hZ]
    exact pm_lret (w := s_X3_rank p0) hx hb hr hlocks hS (by exact ((if_pos c_2)).symm) dX3_rank_18
  ·
    refine va_gets hx hb hF.1 hS hown (hts _ (List.mem_of_getElem? (i := 1) rfl)) (fun _ h9 => h9) dX3_rank_6 ?_
    refine lv_lload_n hx hb dX3_rank_9 rfl (lv_at hl 0 rfl) ?_
    refine pm_callL (va_runV (As := [.long p0]) (rest := []) ⟨hx, hb, hml, hown, hts⟩ (pm_X0_magnitude l 52 (-1074) 9218868437227405312 (-9223372036854775808) dD p0) (cwV 1 hts gX3_rank_X0_magnitude rfl rfl rfl hdv_X0_magnitude ⟨Nat.le_of_ble_eq_true rfl, Nat.le_of_ble_eq_true rfl⟩) ⟨KQ.fb, va_Orecv hF.2.2.1.1 hS, fun U hU hW => ⟨rfl, (KQ.call hF.2.2.1 hS U hU hW)⟩⟩ rfl rfl hl.1 rfl (lv_room (Nat.le_of_ble_eq_true rfl)) dX3_rank_10 ⟨Nat.le_refl 0, Nat.le_refl 0⟩) hS (fun H locs _ _ hS => ?_)
    refine lv_lneg hx hb dX3_rank_13 ?_
    refine lv_goto (tgt := 18) hx hb dX3_rank_14 (by decide) ?_
    rw [hZ]
    exact pm_lret (w := s_X3_rank p0) hx hb hr hlocks hS (by exact ((if_neg c_2)).symm) dX3_rank_18
theorem hd_X3_greater : yX3_greater.cls ≠ "java/lang/invoke/MethodHandle" ∧ yX3_greater.cls ≠ "java/lang/invoke/VarHandle" ∧ (parseMethodDescriptor yX3_greater.desc).map (fun d => d.parameters.length) = some 2 := by decide +kernel
def s_X3_greater (p0 : Int64) (p1 : Int64) : Int64 :=
  if (s_X0_isNaN 52 (-1074) 9218868437227405312 (-9223372036854775808) p0) = 0 then if (s_X0_isNaN 52 (-1074) 9218868437227405312 (-9223372036854775808) p1) = 0 then if (s_X3_rankWithSignOfZero p0) < (s_X3_rankWithSignOfZero p1) then p1
  else p0
  else s_X0_plainNaN 52 (-1074) 9218868437227405312 (-9223372036854775808)
  else s_X0_plainNaN 52 (-1074) 9218868437227405312 (-9223372036854775808)
set_option maxHeartbeats 4000000 in
set_option maxRecDepth 100000 in
theorem pm_X3_greater (l : Launch) (dD dF : Nat) (p0 : Int64) (p1 : Int64) : PmL l yX3_greater wsX3_greater 2 44 [.long p0, .long p1] (fun U => KF dD dF pv_N U U.heap) (s_X3_greater p0 p1) := by
  refine Met.ofW (cc := cX3_greater) (maxL := 4) (ret := (some .long)) (by decide) rfl ?_
  intro p e s m args below meth c s₁ B hml hv
  obtain ⟨rfl, hF⟩ := hv
  have hx := B.exec
  have hb := B.bytes
  have hr := B.returns
  have hts := atoms_spec (ws := wsX3_greater) B.pre
  have hown : s.vm.findClass RX3 = some m.cls := findClass_of_methodNamed B.named
  have hlocks := B.notSynchronized
  have hS : va_S pv_N s.heap s.heap [] := va_S.rf
  have hl := lv_entry ([.long p0, .long p1]) (n := 4) (Nat.le_of_ble_eq_true rfl)
  rw [lg_entry_eq]
  generalize (lg_sl ([.long p0, .long p1]) ++ List.replicate (4 - (lg_sl ([.long p0, .long p1])).length) Slot.unset).toArray = ls at hl ⊢
  have hl : lv_has ls 4 [(0, .long p0), (2, .long p1)] := hl
  obtain ⟨Z, hZ⟩ : ∃ z, z = MQ below (pm_QL (s_X3_greater p0 p1)) ([.long p0, .long p1] : List Value).toArray s 0 0 pv_N := ⟨_, rfl⟩
  rw [← hZ]
  obtain ⟨Y, hY⟩ : ∃ y, y = s_X3_greater p0 p1 := ⟨_, rfl⟩
  refine va_gets hx hb hF.1 hS hown (hts _ (List.mem_of_getElem? (i := 1) rfl)) (fun _ h9 => h9) dX3_greater_0 ?_
  refine lv_lload_n hx hb dX3_greater_3 rfl (lv_at hl 0 rfl) ?_
  refine pm_callI (va_runV (As := [.long p0]) (rest := []) ⟨hx, hb, hml, hown, hts⟩ (pm_X0_isNaN l 52 (-1074) 9218868437227405312 (-9223372036854775808) dD p0) (cwV 1 hts gX3_greater_X0_isNaN rfl rfl rfl hdv_X0_isNaN ⟨Nat.le_of_ble_eq_true rfl, Nat.le_of_ble_eq_true rfl⟩) ⟨KQ.fb, va_Orecv hF.2.2.1.1 hS, fun U hU hW => ⟨rfl, (KQ.call hF.2.2.1 hS U hU hW)⟩⟩ rfl rfl hl.1 rfl (lv_room (Nat.le_of_ble_eq_true rfl)) dX3_greater_4 ⟨Nat.le_refl 0, Nat.le_refl 0⟩) hS (fun H locs _ _ hS => ?_)
  refine lv_if_ne (tgt := 20) hx hb dX3_greater_7 (by decide) (fun c_7 => ?_) (fun c_7 => ?_)
  ·
    refine va_gets hx hb hF.1 hS hown (hts _ (List.mem_of_getElem? (i := 1) rfl)) (fun _ h9 => h9) dX3_greater_20 ?_
    refine pm_callL (va_runV (As := []) (rest := []) ⟨hx, hb, hml, hown, hts⟩ (pm_X0_plainNaN l 52 (-1074) 9218868437227405312 (-9223372036854775808) dD) (cwV 0 hts gX3_greater_X0_plainNaN rfl rfl rfl hdv_X0_plainNaN ⟨Nat.le_of_ble_eq_true rfl, Nat.le_of_ble_eq_true rfl⟩) ⟨KQ.fb, va_Orecv hF.2.2.1.1 hS, fun U hU hW => ⟨rfl, (KQ.call hF.2.2.1 hS U hU hW)⟩⟩ rfl rfl hl.1 rfl (lv_room (Nat.le_of_ble_eq_true rfl)) dX3_greater_23 ⟨Nat.le_refl 0, Nat.le_refl 0⟩) hS (fun H locs _ _ hS => ?_)
    rw [hZ]
    exact pm_lret (w := s_X3_greater p0 p1) hx hb hr hlocks hS (by exact ((if_neg c_7)).symm) dX3_greater_26
  ·
    refine va_gets hx hb hF.1 hS hown (hts _ (List.mem_of_getElem? (i := 1) rfl)) (fun _ h9 => h9) dX3_greater_10 ?_
    refine lv_lload_n hx hb dX3_greater_13 rfl (lv_at hl 1 rfl) ?_
    refine pm_callI (va_runV (As := [.long p1]) (rest := []) ⟨hx, hb, hml, hown, hts⟩ (pm_X0_isNaN l 52 (-1074) 9218868437227405312 (-9223372036854775808) dD p1) (cwV 1 hts gX3_greater_X0_isNaN rfl rfl rfl hdv_X0_isNaN ⟨Nat.le_of_ble_eq_true rfl, Nat.le_of_ble_eq_true rfl⟩) ⟨KQ.fb, va_Orecv hF.2.2.1.1 hS, fun U hU hW => ⟨rfl, (KQ.call hF.2.2.1 hS U hU hW)⟩⟩ rfl rfl hl.1 rfl (lv_room (Nat.le_of_ble_eq_true rfl)) dX3_greater_14 ⟨Nat.le_refl 0, Nat.le_refl 0⟩) hS (fun H locs _ _ hS => ?_)
    refine lv_if_eq (tgt := 27) hx hb dX3_greater_17 (by decide) (fun c_17 => ?_) (fun c_17 => ?_)
    ·
      refine lv_lload_n hx hb dX3_greater_27 rfl (lv_at hl 0 rfl) ?_
      refine pm_callL (va_runS (As := [.long p0]) (rest := []) ⟨hx, hb, hml, hown, hts⟩ (pm_X3_rankWithSignOfZero l dD dF p0) (va_cwS 1 hts gX3_greater_X3_rankWithSignOfZero rfl rfl rfl hd_X3_rankWithSignOfZero ⟨Nat.le_of_ble_eq_true rfl, Nat.le_of_ble_eq_true rfl⟩) ⟨KF.fb, fun U hU hW => ⟨rfl, (KF.call hF hS U hU hW)⟩⟩ rfl rfl hl.1 rfl (lv_room (Nat.le_of_ble_eq_true rfl)) dX3_greater_28 ⟨Nat.le_refl 0, Nat.le_refl 0⟩) hS (fun H locs _ _ hS => ?_)
      refine lv_lload_n hx hb dX3_greater_31 rfl (lv_at hl 1 rfl) ?_
      refine pm_callL (va_runS (As := [.long p1]) (rest := [.long (s_X3_rankWithSignOfZero p0)]) ⟨hx, hb, hml, hown, hts⟩ (pm_X3_rankWithSignOfZero l dD dF p1) (va_cwS 1 hts gX3_greater_X3_rankWithSignOfZero rfl rfl rfl hd_X3_rankWithSignOfZero ⟨Nat.le_of_ble_eq_true rfl, Nat.le_of_ble_eq_true rfl⟩) ⟨KF.fb, fun U hU hW => ⟨rfl, (KF.call hF hS U hU hW)⟩⟩ rfl rfl hl.1 rfl (lv_room (Nat.le_of_ble_eq_true rfl)) dX3_greater_32 ⟨Nat.le_refl 0, Nat.le_refl 0⟩) hS (fun H locs _ _ hS => ?_)
      refine lp_lt (tgt := 43) hx hb dX3_greater_35 dX3_greater_36 (by decide) (fun c_35 => ?_) (fun c_35 => ?_)
      ·
        refine lv_lload_n hx hb dX3_greater_43 rfl (lv_at hl 1 rfl) ?_
        rw [hZ]
        exact pm_lret (w := s_X3_greater p0 p1) hx hb hr hlocks hS (by exact ((((if_pos c_7).trans (if_pos c_17)).trans (if_pos c_35))).symm) dX3_greater_44
      ·
        refine lv_lload_n hx hb dX3_greater_39 rfl (lv_at hl 0 rfl) ?_
        refine lv_goto (tgt := 44) hx hb dX3_greater_40 (by decide) ?_
        rw [hZ]
        exact pm_lret (w := s_X3_greater p0 p1) hx hb hr hlocks hS (by exact ((((if_pos c_7).trans (if_pos c_17)).trans (if_neg c_35))).symm) dX3_greater_44
    ·
      refine va_gets hx hb hF.1 hS hown (hts _ (List.mem_of_getElem? (i := 1) rfl)) (fun _ h9 => h9) dX3_greater_20 ?_
      refine pm_callL (va_runV (As := []) (rest := []) ⟨hx, hb, hml, hown, hts⟩ (pm_X0_plainNaN l 52 (-1074) 9218868437227405312 (-9223372036854775808) dD) (cwV 0 hts gX3_greater_X0_plainNaN rfl rfl rfl hdv_X0_plainNaN ⟨Nat.le_of_ble_eq_true rfl, Nat.le_of_ble_eq_true rfl⟩) ⟨KQ.fb, va_Orecv hF.2.2.1.1 hS, fun U hU hW => ⟨rfl, (KQ.call hF.2.2.1 hS U hU hW)⟩⟩ rfl rfl hl.1 rfl (lv_room (Nat.le_of_ble_eq_true rfl)) dX3_greater_23 ⟨Nat.le_refl 0, Nat.le_refl 0⟩) hS (fun H locs _ _ hS => ?_)
      rw [hZ]
      exact pm_lret (w := s_X3_greater p0 p1) hx hb hr hlocks hS (by exact (((if_pos c_7).trans (if_neg c_17))).symm) dX3_greater_26
theorem hd_X3_lesser : yX3_lesser.cls ≠ "java/lang/invoke/MethodHandle" ∧ yX3_lesser.cls ≠ "java/lang/invoke/VarHandle" ∧ (parseMethodDescriptor yX3_lesser.desc).map (fun d => d.parameters.length) = some 2 := by decide +kernel
def s_X3_lesser (p0 : Int64) (p1 : Int64) : Int64 :=
  if (s_X0_isNaN 52 (-1074) 9218868437227405312 (-9223372036854775808) p0) = 0 then if (s_X0_isNaN 52 (-1074) 9218868437227405312 (-9223372036854775808) p1) = 0 then if (s_X3_rankWithSignOfZero p1) < (s_X3_rankWithSignOfZero p0) then p1
  else p0
  else s_X0_plainNaN 52 (-1074) 9218868437227405312 (-9223372036854775808)
  else s_X0_plainNaN 52 (-1074) 9218868437227405312 (-9223372036854775808)
set_option maxHeartbeats 4000000 in
set_option maxRecDepth 100000 in
theorem pm_X3_lesser (l : Launch) (dD dF : Nat) (p0 : Int64) (p1 : Int64) : PmL l yX3_lesser wsX3_lesser 2 44 [.long p0, .long p1] (fun U => KF dD dF pv_N U U.heap) (s_X3_lesser p0 p1) := by
  refine Met.ofW (cc := cX3_lesser) (maxL := 4) (ret := (some .long)) (by decide) rfl ?_
  intro p e s m args below meth c s₁ B hml hv
  obtain ⟨rfl, hF⟩ := hv
  have hx := B.exec
  have hb := B.bytes
  have hr := B.returns
  have hts := atoms_spec (ws := wsX3_lesser) B.pre
  have hown : s.vm.findClass RX3 = some m.cls := findClass_of_methodNamed B.named
  have hlocks := B.notSynchronized
  have hS : va_S pv_N s.heap s.heap [] := va_S.rf
  have hl := lv_entry ([.long p0, .long p1]) (n := 4) (Nat.le_of_ble_eq_true rfl)
  rw [lg_entry_eq]
  generalize (lg_sl ([.long p0, .long p1]) ++ List.replicate (4 - (lg_sl ([.long p0, .long p1])).length) Slot.unset).toArray = ls at hl ⊢
  have hl : lv_has ls 4 [(0, .long p0), (2, .long p1)] := hl
  obtain ⟨Z, hZ⟩ : ∃ z, z = MQ below (pm_QL (s_X3_lesser p0 p1)) ([.long p0, .long p1] : List Value).toArray s 0 0 pv_N := ⟨_, rfl⟩
  rw [← hZ]
  obtain ⟨Y, hY⟩ : ∃ y, y = s_X3_lesser p0 p1 := ⟨_, rfl⟩
  refine va_gets hx hb hF.1 hS hown (hts _ (List.mem_of_getElem? (i := 1) rfl)) (fun _ h9 => h9) dX3_lesser_0 ?_
  refine lv_lload_n hx hb dX3_lesser_3 rfl (lv_at hl 0 rfl) ?_
  refine pm_callI (va_runV (As := [.long p0]) (rest := []) ⟨hx, hb, hml, hown, hts⟩ (pm_X0_isNaN l 52 (-1074) 9218868437227405312 (-9223372036854775808) dD p0) (cwV 1 hts gX3_lesser_X0_isNaN rfl rfl rfl hdv_X0_isNaN ⟨Nat.le_of_ble_eq_true rfl, Nat.le_of_ble_eq_true rfl⟩) ⟨KQ.fb, va_Orecv hF.2.2.1.1 hS, fun U hU hW => ⟨rfl, (KQ.call hF.2.2.1 hS U hU hW)⟩⟩ rfl rfl hl.1 rfl (lv_room (Nat.le_of_ble_eq_true rfl)) dX3_lesser_4 ⟨Nat.le_refl 0, Nat.le_refl 0⟩) hS (fun H locs _ _ hS => ?_)
  refine lv_if_ne (tgt := 20) hx hb dX3_lesser_7 (by decide) (fun c_7 => ?_) (fun c_7 => ?_)
  ·
    refine va_gets hx hb hF.1 hS hown (hts _ (List.mem_of_getElem? (i := 1) rfl)) (fun _ h9 => h9) dX3_lesser_20 ?_
    refine pm_callL (va_runV (As := []) (rest := []) ⟨hx, hb, hml, hown, hts⟩ (pm_X0_plainNaN l 52 (-1074) 9218868437227405312 (-9223372036854775808) dD) (cwV 0 hts gX3_lesser_X0_plainNaN rfl rfl rfl hdv_X0_plainNaN ⟨Nat.le_of_ble_eq_true rfl, Nat.le_of_ble_eq_true rfl⟩) ⟨KQ.fb, va_Orecv hF.2.2.1.1 hS, fun U hU hW => ⟨rfl, (KQ.call hF.2.2.1 hS U hU hW)⟩⟩ rfl rfl hl.1 rfl (lv_room (Nat.le_of_ble_eq_true rfl)) dX3_lesser_23 ⟨Nat.le_refl 0, Nat.le_refl 0⟩) hS (fun H locs _ _ hS => ?_)
    rw [hZ]
    exact pm_lret (w := s_X3_lesser p0 p1) hx hb hr hlocks hS (by exact ((if_neg c_7)).symm) dX3_lesser_26
  ·
    refine va_gets hx hb hF.1 hS hown (hts _ (List.mem_of_getElem? (i := 1) rfl)) (fun _ h9 => h9) dX3_lesser_10 ?_
    refine lv_lload_n hx hb dX3_lesser_13 rfl (lv_at hl 1 rfl) ?_
    refine pm_callI (va_runV (As := [.long p1]) (rest := []) ⟨hx, hb, hml, hown, hts⟩ (pm_X0_isNaN l 52 (-1074) 9218868437227405312 (-9223372036854775808) dD p1) (cwV 1 hts gX3_lesser_X0_isNaN rfl rfl rfl hdv_X0_isNaN ⟨Nat.le_of_ble_eq_true rfl, Nat.le_of_ble_eq_true rfl⟩) ⟨KQ.fb, va_Orecv hF.2.2.1.1 hS, fun U hU hW => ⟨rfl, (KQ.call hF.2.2.1 hS U hU hW)⟩⟩ rfl rfl hl.1 rfl (lv_room (Nat.le_of_ble_eq_true rfl)) dX3_lesser_14 ⟨Nat.le_refl 0, Nat.le_refl 0⟩) hS (fun H locs _ _ hS => ?_)
    refine lv_if_eq (tgt := 27) hx hb dX3_lesser_17 (by decide) (fun c_17 => ?_) (fun c_17 => ?_)
    ·
      refine lv_lload_n hx hb dX3_lesser_27 rfl (lv_at hl 0 rfl) ?_
      refine pm_callL (va_runS (As := [.long p0]) (rest := []) ⟨hx, hb, hml, hown, hts⟩ (pm_X3_rankWithSignOfZero l dD dF p0) (va_cwS 1 hts gX3_lesser_X3_rankWithSignOfZero rfl rfl rfl hd_X3_rankWithSignOfZero ⟨Nat.le_of_ble_eq_true rfl, Nat.le_of_ble_eq_true rfl⟩) ⟨KF.fb, fun U hU hW => ⟨rfl, (KF.call hF hS U hU hW)⟩⟩ rfl rfl hl.1 rfl (lv_room (Nat.le_of_ble_eq_true rfl)) dX3_lesser_28 ⟨Nat.le_refl 0, Nat.le_refl 0⟩) hS (fun H locs _ _ hS => ?_)
      refine lv_lload_n hx hb dX3_lesser_31 rfl (lv_at hl 1 rfl) ?_
      refine pm_callL (va_runS (As := [.long p1]) (rest := [.long (s_X3_rankWithSignOfZero p0)]) ⟨hx, hb, hml, hown, hts⟩ (pm_X3_rankWithSignOfZero l dD dF p1) (va_cwS 1 hts gX3_lesser_X3_rankWithSignOfZero rfl rfl rfl hd_X3_rankWithSignOfZero ⟨Nat.le_of_ble_eq_true rfl, Nat.le_of_ble_eq_true rfl⟩) ⟨KF.fb, fun U hU hW => ⟨rfl, (KF.call hF hS U hU hW)⟩⟩ rfl rfl hl.1 rfl (lv_room (Nat.le_of_ble_eq_true rfl)) dX3_lesser_32 ⟨Nat.le_refl 0, Nat.le_refl 0⟩) hS (fun H locs _ _ hS => ?_)
      refine lp_gt (tgt := 43) hx hb dX3_lesser_35 dX3_lesser_36 (by decide) (fun c_35 => ?_) (fun c_35 => ?_)
      ·
        refine lv_lload_n hx hb dX3_lesser_43 rfl (lv_at hl 1 rfl) ?_
        rw [hZ]
        exact pm_lret (w := s_X3_lesser p0 p1) hx hb hr hlocks hS (by exact ((((if_pos c_7).trans (if_pos c_17)).trans (if_pos c_35))).symm) dX3_lesser_44
      ·
        refine lv_lload_n hx hb dX3_lesser_39 rfl (lv_at hl 0 rfl) ?_
        refine lv_goto (tgt := 44) hx hb dX3_lesser_40 (by decide) ?_
        rw [hZ]
        exact pm_lret (w := s_X3_lesser p0 p1) hx hb hr hlocks hS (by exact ((((if_pos c_7).trans (if_pos c_17)).trans (if_neg c_35))).symm) dX3_lesser_44
    ·
      refine va_gets hx hb hF.1 hS hown (hts _ (List.mem_of_getElem? (i := 1) rfl)) (fun _ h9 => h9) dX3_lesser_20 ?_
      refine pm_callL (va_runV (As := []) (rest := []) ⟨hx, hb, hml, hown, hts⟩ (pm_X0_plainNaN l 52 (-1074) 9218868437227405312 (-9223372036854775808) dD) (cwV 0 hts gX3_lesser_X0_plainNaN rfl rfl rfl hdv_X0_plainNaN ⟨Nat.le_of_ble_eq_true rfl, Nat.le_of_ble_eq_true rfl⟩) ⟨KQ.fb, va_Orecv hF.2.2.1.1 hS, fun U hU hW => ⟨rfl, (KQ.call hF.2.2.1 hS U hU hW)⟩⟩ rfl rfl hl.1 rfl (lv_room (Nat.le_of_ble_eq_true rfl)) dX3_lesser_23 ⟨Nat.le_refl 0, Nat.le_refl 0⟩) hS (fun H locs _ _ hS => ?_)
      rw [hZ]
      exact pm_lret (w := s_X3_lesser p0 p1) hx hb hr hlocks hS (by exact (((if_pos c_7).trans (if_neg c_17))).symm) dX3_lesser_26
theorem hd_X3_withSignOf : yX3_withSignOf.cls ≠ "java/lang/invoke/MethodHandle" ∧ yX3_withSignOf.cls ≠ "java/lang/invoke/VarHandle" ∧ (parseMethodDescriptor yX3_withSignOf.desc).map (fun d => d.parameters.length) = some 2 := by decide +kernel
def s_X3_withSignOf_j36 (p0 : Int64) (p1 : Int64) (z_36_0 : Int64) : Int64 :=
  z_36_0 ||| (s_X0_magnitude 52 (-1074) 9218868437227405312 (-9223372036854775808) p0)
def s_X3_withSignOf (p0 : Int64) (p1 : Int64) : Int64 :=
  if (s_X0_isNaN 52 (-1074) 9218868437227405312 (-9223372036854775808) p0) = 0 then if (s_X0_isNaN 52 (-1074) 9218868437227405312 (-9223372036854775808) p1) = 0 then s_X3_withSignOf_j36 p0 p1 (p1 &&& (-9223372036854775808))
  else s_X3_withSignOf_j36 p0 p1 0
  else s_X0_plainNaN 52 (-1074) 9218868437227405312 (-9223372036854775808)
set_option maxHeartbeats 4000000 in
set_option maxRecDepth 100000 in
theorem pm_X3_withSignOf (l : Launch) (dD dF : Nat) (p0 : Int64) (p1 : Int64) : PmL l yX3_withSignOf wsX3_withSignOf 2 44 [.long p0, .long p1] (fun U => KF dD dF pv_N U U.heap) (s_X3_withSignOf p0 p1) := by
  refine Met.ofW (cc := cX3_withSignOf) (maxL := 6) (ret := (some .long)) (by decide) rfl ?_
  intro p e s m args below meth c s₁ B hml hv
  obtain ⟨rfl, hF⟩ := hv
  have hx := B.exec
  have hb := B.bytes
  have hr := B.returns
  have hts := atoms_spec (ws := wsX3_withSignOf) B.pre
  have hown : s.vm.findClass RX3 = some m.cls := findClass_of_methodNamed B.named
  have hlocks := B.notSynchronized
  have hS : va_S pv_N s.heap s.heap [] := va_S.rf
  have hl := lv_entry ([.long p0, .long p1]) (n := 6) (Nat.le_of_ble_eq_true rfl)
  rw [lg_entry_eq]
  generalize (lg_sl ([.long p0, .long p1]) ++ List.replicate (6 - (lg_sl ([.long p0, .long p1])).length) Slot.unset).toArray = ls at hl ⊢
  have hl : lv_has ls 6 [(0, .long p0), (2, .long p1)] := hl
  obtain ⟨Z, hZ⟩ : ∃ z, z = MQ below (pm_QL (s_X3_withSignOf p0 p1)) ([.long p0, .long p1] : List Value).toArray s 0 0 pv_N := ⟨_, rfl⟩
  rw [← hZ]
  obtain ⟨Y, hY⟩ : ∃ y, y = s_X3_withSignOf p0 p1 := ⟨_, rfl⟩
  refine va_gets hx hb hF.1 hS hown (hts _ (List.mem_of_getElem? (i := 1) rfl)) (fun _ h9 => h9) dX3_withSignOf_0 ?_
  refine lv_lload_n hx hb dX3_withSignOf_3 rfl (lv_at hl 0 rfl) ?_
  refine pm_callI (va_runV (As := [.long p0]) (rest := []) ⟨hx, hb, hml, hown, hts⟩ (pm_X0_isNaN l 52 (-1074) 9218868437227405312 (-9223372036854775808) dD p0) (cwV 1 hts gX3_withSignOf_X0_isNaN rfl rfl rfl hdv_X0_isNaN ⟨Nat.le_of_ble_eq_true rfl, Nat.le_of_ble_eq_true rfl⟩) ⟨KQ.fb, va_Orecv hF.2.2.1.1 hS, fun U hU hW => ⟨rfl, (KQ.call hF.2.2.1 hS U hU hW)⟩⟩ rfl rfl hl.1 rfl (lv_room (Nat.le_of_ble_eq_true rfl)) dX3_withSignOf_4 ⟨Nat.le_refl 0, Nat.le_refl 0⟩) hS (fun H locs _ _ hS => ?_)
  refine lv_if_eq (tgt := 17) hx hb dX3_withSignOf_7 (by decide) (fun c_7 => ?_) (fun c_7 => ?_)
  ·
    refine va_gets hx hb hF.1 hS hown (hts _ (List.mem_of_getElem? (i := 1) rfl)) (fun _ h9 => h9) dX3_withSignOf_17 ?_
    refine lv_lload_n hx hb dX3_withSignOf_20 rfl (lv_at hl 1 rfl) ?_
    refine pm_callI (va_runV (As := [.long p1]) (rest := []) ⟨hx, hb, hml, hown, hts⟩ (pm_X0_isNaN l 52 (-1074) 9218868437227405312 (-9223372036854775808) dD p1) (cwV 1 hts gX3_withSignOf_X0_isNaN rfl rfl rfl hdv_X0_isNaN ⟨Nat.le_of_ble_eq_true rfl, Nat.le_of_ble_eq_true rfl⟩) ⟨KQ.fb, va_Orecv hF.2.2.1.1 hS, fun U hU hW => ⟨rfl, (KQ.call hF.2.2.1 hS U hU hW)⟩⟩ rfl rfl hl.1 rfl (lv_room (Nat.le_of_ble_eq_true rfl)) dX3_withSignOf_21 ⟨Nat.le_refl 0, Nat.le_refl 0⟩) hS (fun H locs _ _ hS => ?_)
    have K_36 : ∀ (z_36_0 : Int64) (H : Heap) (locs : List Loc), va_S pv_N s.heap H locs → ∀ (ls : Array Slot), lv_has ls 6 [(0, .long p0)] → s_X3_withSignOf p0 p1 = s_X3_withSignOf_j36 p0 p1 z_36_0 → W p l e (pm_R 2 44) s m ([.long p0, .long p1] : List Value).toArray below meth c H locs 0 0 Z (F0 m 36 ls [.long z_36_0]) := by
      intro z_36_0 H locs hS ls hl hK_36
      refine lv_lstore (lv' := [(4, .long z_36_0), (0, .long p0)]) hx hb dX3_withSignOf_36 hl (by decide) rfl (fun ls hl => ?_)
      refine lv_lload hx hb dX3_withSignOf_38 (lv_at hl 0 rfl) ?_
      refine va_gets hx hb hF.1 hS hown (hts _ (List.mem_of_getElem? (i := 1) rfl)) (fun _ h9 => h9) dX3_withSignOf_40 ?_
      refine lv_lload_n hx hb dX3_withSignOf_43 rfl (lv_at hl 1 rfl) ?_
      refine pm_callL (va_runV (As := [.long p0]) (rest := [.long z_36_0]) ⟨hx, hb, hml, hown, hts⟩ (pm_X0_magnitude l 52 (-1074) 9218868437227405312 (-9223372036854775808) dD p0) (cwV 1 hts gX3_withSignOf_X0_magnitude rfl rfl rfl hdv_X0_magnitude ⟨Nat.le_of_ble_eq_true rfl, Nat.le_of_ble_eq_true rfl⟩) ⟨KQ.fb, va_Orecv hF.2.2.1.1 hS, fun U hU hW => ⟨rfl, (KQ.call hF.2.2.1 hS U hU hW)⟩⟩ rfl rfl hl.1 rfl (lv_room (Nat.le_of_ble_eq_true rfl)) dX3_withSignOf_44 ⟨Nat.le_refl 0, Nat.le_refl 0⟩) hS (fun H locs _ _ hS => ?_)
      refine lv_lor hx hb dX3_withSignOf_47 ?_
      rw [hZ]
      exact pm_lret (w := s_X3_withSignOf p0 p1) hx hb hr hlocks hS (by exact (hK_36.trans rfl).symm) dX3_withSignOf_48
    refine lv_if_eq (tgt := 31) hx hb dX3_withSignOf_24 (by decide) (fun c_24 => ?_) (fun c_24 => ?_)
    ·
      refine lv_lload_n hx hb dX3_withSignOf_31 rfl (lv_at hl 1 rfl) ?_
      refine lv_ldc2 (v := (-9223372036854775808)) hx hb hown (hts _ (List.mem_of_getElem? (i := 2) rfl)) dX3_withSignOf_32 ?_
      refine lv_land hx hb dX3_withSignOf_35 ?_
      exact K_36 (p1 &&& (-9223372036854775808)) _ _ hS ls (lv_sub hl [0] rfl) (((if_pos c_7).trans (if_pos c_24)))
    ·
      refine lv_lconst (v := 0) hx hb dX3_withSignOf_27 (by decide) ?_
      refine lv_goto (tgt := 36) hx hb dX3_withSignOf_28 (by decide) ?_
      exact K_36 0 _ _ hS ls (lv_sub hl [0] rfl) (((if_pos c_7).trans (if_neg c_24)))
  ·
    refine va_gets hx hb hF.1 hS hown (hts _ (List.mem_of_getElem? (i := 1) rfl)) (fun _ h9 => h9) dX3_withSignOf_10 ?_
    refine pm_callL (va_runV (As := []) (rest := []) ⟨hx, hb, hml, hown, hts⟩ (pm_X0_plainNaN l 52 (-1074) 9218868437227405312 (-9223372036854775808) dD) (cwV 0 hts gX3_withSignOf_X0_plainNaN rfl rfl rfl hdv_X0_plainNaN ⟨Nat.le_of_ble_eq_true rfl, Nat.le_of_ble_eq_true rfl⟩) ⟨KQ.fb, va_Orecv hF.2.2.1.1 hS, fun U hU hW => ⟨rfl, (KQ.call hF.2.2.1 hS U hU hW)⟩⟩ rfl rfl hl.1 rfl (lv_room (Nat.le_of_ble_eq_true rfl)) dX3_withSignOf_13 ⟨Nat.le_refl 0, Nat.le_refl 0⟩) hS (fun H locs _ _ hS => ?_)
    rw [hZ]
    exact pm_lret (w := s_X3_withSignOf p0 p1) hx hb hr hlocks hS (by exact ((if_neg c_7)).symm) dX3_withSignOf_16
theorem hd_X3_isTrue : yX3_isTrue.cls ≠ "java/lang/invoke/MethodHandle" ∧ yX3_isTrue.cls ≠ "java/lang/invoke/VarHandle" ∧ (parseMethodDescriptor yX3_isTrue.desc).map (fun d => d.parameters.length) = some 3 := by decide +kernel
def s_X3_isTrue_j20 (p0 : Int32) (p1 : Int64) (p2 : Int64) : Int32 :=
  if p0 = 5 then 1
  else 0
def s_X3_isTrue (p0 : Int32) (p1 : Int64) (p2 : Int64) : Int32 :=
  if (s_X0_isNaN 52 (-1074) 9218868437227405312 (-9223372036854775808) p1) = 0 then if (s_X0_isNaN 52 (-1074) 9218868437227405312 (-9223372036854775808) p2) = 0 then if p0 = 0 then if (s_X3_rank p2) ≤ (s_X3_rank p1) then 0
  else 1
  else if p0 = 1 then if (s_X3_rank p2) < (s_X3_rank p1) then 0
  else 1
  else if p0 = 2 then if (s_X3_rank p1) ≤ (s_X3_rank p2) then 0
  else 1
  else if p0 = 3 then if (s_X3_rank p1) < (s_X3_rank p2) then 0
  else 1
  else if p0 = 4 then if (s_X3_rank p1) = (s_X3_rank p2) then 1
  else 0
  else if (s_X3_rank p1) = (s_X3_rank p2) then 0
  else 1
  else s_X3_isTrue_j20 p0 p1 p2
  else s_X3_isTrue_j20 p0 p1 p2
set_option maxHeartbeats 4000000 in
set_option maxRecDepth 100000 in
theorem pm_X3_isTrue (l : Launch) (dD dF : Nat) (p0 : Int32) (p1 : Int64) (p2 : Int64) : PmI l yX3_isTrue wsX3_isTrue 2 44 [.int p0, .long p1, .long p2] (fun U => KF dD dF pv_N U U.heap) (s_X3_isTrue p0 p1 p2) := by
  refine Met.ofW (cc := cX3_isTrue) (maxL := 9) (ret := (some .boolean)) (by decide) rfl ?_
  intro p e s m args below meth c s₁ B hml hv
  obtain ⟨rfl, hF⟩ := hv
  have hx := B.exec
  have hb := B.bytes
  have hr := B.returns
  have hts := atoms_spec (ws := wsX3_isTrue) B.pre
  have hown : s.vm.findClass RX3 = some m.cls := findClass_of_methodNamed B.named
  have hlocks := B.notSynchronized
  have hS : va_S pv_N s.heap s.heap [] := va_S.rf
  have hl := lv_entry ([.int p0, .long p1, .long p2]) (n := 9) (Nat.le_of_ble_eq_true rfl)
  rw [lg_entry_eq]
  generalize (lg_sl ([.int p0, .long p1, .long p2]) ++ List.replicate (9 - (lg_sl ([.int p0, .long p1, .long p2])).length) Slot.unset).toArray = ls at hl ⊢
  have hl : lv_has ls 9 [(0, .int p0), (1, .long p1), (3, .long p2)] := hl
  obtain ⟨Z, hZ⟩ : ∃ z, z = MQ below (pm_QI (s_X3_isTrue p0 p1 p2)) ([.int p0, .long p1, .long p2] : List Value).toArray s 0 0 pv_N := ⟨_, rfl⟩
  rw [← hZ]
  obtain ⟨Y, hY⟩ : ∃ y, y = s_X3_isTrue p0 p1 p2 := ⟨_, rfl⟩
  refine va_gets hx hb hF.1 hS hown (hts _ (List.mem_of_getElem? (i := 1) rfl)) (fun _ h9 => h9) dX3_isTrue_0 ?_
  refine lv_lload_n hx hb dX3_isTrue_3 rfl (lv_at hl 1 rfl) ?_
  refine pm_callI (va_runV (As := [.long p1]) (rest := []) ⟨hx, hb, hml, hown, hts⟩ (pm_X0_isNaN l 52 (-1074) 9218868437227405312 (-9223372036854775808) dD p1) (cwV 1 hts gX3_isTrue_X0_isNaN rfl rfl rfl hdv_X0_isNaN ⟨Nat.le_of_ble_eq_true rfl, Nat.le_of_ble_eq_true rfl⟩) ⟨KQ.fb, va_Orecv hF.2.2.1.1 hS, fun U hU hW => ⟨rfl, (KQ.call hF.2.2.1 hS U hU hW)⟩⟩ rfl rfl hl.1 rfl (lv_room (Nat.le_of_ble_eq_true rfl)) dX3_isTrue_4 ⟨Nat.le_refl 0, Nat.le_refl 0⟩) hS (fun H locs _ _ hS => ?_)
  have K_20 : ∀ (H : Heap) (locs : List Loc), va_S pv_N s.heap H locs → ∀ (ls : Array Slot), lv_has ls 9 [(0, .int p0)] → s_X3_isTrue p0 p1 p2 = s_X3_isTrue_j20 p0 p1 p2 → W p l e (pm_R 2 44) s m ([.int p0, .long p1, .long p2] : List Value).toArray below meth c H locs 0 0 Z (F0 m 20 ls []) := by
    intro H locs hS ls hl hK_20
    refine lv_iload_n hx hb dX3_isTrue_20 rfl (lv_at hl 0 rfl) ?_
    refine lv_iconst (v := 5) hx hb dX3_isTrue_21 (by decide) ?_
    refine lv_icmp_ne (tgt := 29) hx hb dX3_isTrue_22 (by decide) (fun c_22 => ?_) (fun c_22 => ?_)
    ·
      refine lv_iconst (v := 0) hx hb dX3_isTrue_29 (by decide) ?_
      rw [hZ]
      exact pm_zret (w := s_X3_isTrue p0 p1 p2) hx hb hr hlocks hS (nz_0) (by exact (hK_20.trans (if_neg c_22)).symm) dX3_isTrue_30
    ·
      refine lv_iconst (v := 1) hx hb dX3_isTrue_25 (by decide) ?_
      refine lv_goto (tgt := 30) hx hb dX3_isTrue_26 (by decide) ?_
      rw [hZ]
      exact pm_zret (w := s_X3_isTrue p0 p1 p2) hx hb hr hlocks hS (nz_1) (by exact (hK_20.trans (if_pos c_22)).symm) dX3_isTrue_30
  refine lv_if_ne (tgt := 20) hx hb dX3_isTrue_7 (by decide) (fun c_7 => ?_) (fun c_7 => ?_)
  ·
    exact K_20 _ _ hS ls (lv_sub hl [0] rfl) ((if_neg c_7))
  ·
    refine va_gets hx hb hF.1 hS hown (hts _ (List.mem_of_getElem? (i := 1) rfl)) (fun _ h9 => h9) dX3_isTrue_10 ?_
    refine lv_lload_n hx hb dX3_isTrue_13 rfl (lv_at hl 2 rfl) ?_
    refine pm_callI (va_runV (As := [.long p2]) (rest := []) ⟨hx, hb, hml, hown, hts⟩ (pm_X0_isNaN l 52 (-1074) 9218868437227405312 (-9223372036854775808) dD p2) (cwV 1 hts gX3_isTrue_X0_isNaN rfl rfl rfl hdv_X0_isNaN ⟨Nat.le_of_ble_eq_true rfl, Nat.le_of_ble_eq_true rfl⟩) ⟨KQ.fb, va_Orecv hF.2.2.1.1 hS, fun U hU hW => ⟨rfl, (KQ.call hF.2.2.1 hS U hU hW)⟩⟩ rfl rfl hl.1 rfl (lv_room (Nat.le_of_ble_eq_true rfl)) dX3_isTrue_14 ⟨Nat.le_refl 0, Nat.le_refl 0⟩) hS (fun H locs _ _ hS => ?_)
    refine lv_if_eq (tgt := 31) hx hb dX3_isTrue_17 (by decide) (fun c_17 => ?_) (fun c_17 => ?_)
    ·
      refine lv_lload_n hx hb dX3_isTrue_31 rfl (lv_at hl 1 rfl) ?_
      refine pm_callL (va_runS (As := [.long p1]) (rest := []) ⟨hx, hb, hml, hown, hts⟩ (pm_X3_rank l dD dF p1) (va_cwS 1 hts gX3_isTrue_X3_rank rfl rfl rfl hd_X3_rank ⟨Nat.le_of_ble_eq_true rfl, Nat.le_of_ble_eq_true rfl⟩) ⟨KF.fb, fun U hU hW => ⟨rfl, (KF.call hF hS U hU hW)⟩⟩ rfl rfl hl.1 rfl (lv_room (Nat.le_of_ble_eq_true rfl)) dX3_isTrue_32 ⟨Nat.le_refl 0, Nat.le_refl 0⟩) hS (fun H locs _ _ hS => ?_)
      refine lv_topl (fun x_35 ex_35 => ?_)
      refine lv_lstore (lv' := [(5, .long x_35), (0, .int p0), (1, .long p1), (3, .long p2)]) hx hb dX3_isTrue_35 hl (by decide) rfl (fun ls hl => ?_)
      refine lv_lload_n hx hb dX3_isTrue_37 rfl (lv_at hl 3 rfl) ?_
      refine pm_callL (va_runS (As := [.long p2]) (rest := []) ⟨hx, hb, hml, hown, hts⟩ (pm_X3_rank l dD dF p2) (va_cwS 1 hts gX3_isTrue_X3_rank rfl rfl rfl hd_X3_rank ⟨Nat.le_of_ble_eq_true rfl, Nat.le_of_ble_eq_true rfl⟩) ⟨KF.fb, fun U hU hW => ⟨rfl, (KF.call hF hS U hU hW)⟩⟩ rfl rfl hl.1 rfl (lv_room (Nat.le_of_ble_eq_true rfl)) dX3_isTrue_38 ⟨Nat.le_refl 0, Nat.le_refl 0⟩) hS (fun H locs _ _ hS => ?_)
      refine lv_topl (fun x_41 ex_41 => ?_)
      refine lv_lstore (lv' := [(7, .long x_41), (5, .long x_35), (0, .int p0), (1, .long p1), (3, .long p2)]) hx hb dX3_isTrue_41 hl (by decide) rfl (fun ls hl => ?_)
      refine lv_iload_n hx hb dX3_isTrue_43 rfl (lv_at hl 2 rfl) ?_
      by_cases c_44_0 : p0 = 0
      · refine lv_tableIn (off := 36) (tgt := 80) hx hb dX3_isTrue_44 (by rw [c_44_0]; decide) (by rw [c_44_0]; decide) (by rw [c_44_0]; decide) (by decide) ?_
        refine lv_lload hx hb dX3_isTrue_80 (lv_at hl 1 rfl) ?_
        refine lv_lload hx hb dX3_isTrue_82 (lv_at hl 0 rfl) ?_
        refine lp_ge (tgt := 92) hx hb dX3_isTrue_84 dX3_isTrue_85 (by decide) (fun c_84 => ?_) (fun c_84 => ?_)
        ·
          refine lv_iconst (v := 0) hx hb dX3_isTrue_92 (by decide) ?_
          rw [hZ]
          exact pm_zret (w := s_X3_isTrue p0 p1 p2) hx hb hr hlocks hS (nz_0) (by subst ex_41 ex_35; exact (((((if_pos c_7).trans (if_pos c_17)).trans (if_pos c_44_0)).trans (if_pos c_84))).symm) dX3_isTrue_93
        ·
          refine lv_iconst (v := 1) hx hb dX3_isTrue_88 (by decide) ?_
          refine lv_goto (tgt := 93) hx hb dX3_isTrue_89 (by decide) ?_
          rw [hZ]
          exact pm_zret (w := s_X3_isTrue p0 p1 p2) hx hb hr hlocks hS (nz_1) (by subst ex_41 ex_35; exact (((((if_pos c_7).trans (if_pos c_17)).trans (if_pos c_44_0)).trans (if_neg c_84))).symm) dX3_isTrue_93
      ·
        by_cases c_44_1 : p0 = 1
        · refine lv_tableIn (off := 50) (tgt := 94) hx hb dX3_isTrue_44 (by rw [c_44_1]; decide) (by rw [c_44_1]; decide) (by rw [c_44_1]; decide) (by decide) ?_
          refine lv_lload hx hb dX3_isTrue_94 (lv_at hl 1 rfl) ?_
          refine lv_lload hx hb dX3_isTrue_96 (lv_at hl 0 rfl) ?_
          refine lp_gt (tgt := 106) hx hb dX3_isTrue_98 dX3_isTrue_99 (by decide) (fun c_98 => ?_) (fun c_98 => ?_)
          ·
            refine lv_iconst (v := 0) hx hb dX3_isTrue_106 (by decide) ?_
            rw [hZ]
            exact pm_zret (w := s_X3_isTrue p0 p1 p2) hx hb hr hlocks hS (nz_0) (by subst ex_41 ex_35; exact ((((((if_pos c_7).trans (if_pos c_17)).trans (if_neg c_44_0)).trans (if_pos c_44_1)).trans (if_pos c_98))).symm) dX3_isTrue_107
          ·
            refine lv_iconst (v := 1) hx hb dX3_isTrue_102 (by decide) ?_
            refine lv_goto (tgt := 107) hx hb dX3_isTrue_103 (by decide) ?_
            rw [hZ]
            exact pm_zret (w := s_X3_isTrue p0 p1 p2) hx hb hr hlocks hS (nz_1) (by subst ex_41 ex_35; exact ((((((if_pos c_7).trans (if_pos c_17)).trans (if_neg c_44_0)).trans (if_pos c_44_1)).trans (if_neg c_98))).symm) dX3_isTrue_107
        ·
          by_cases c_44_2 : p0 = 2
          · refine lv_tableIn (off := 64) (tgt := 108) hx hb dX3_isTrue_44 (by rw [c_44_2]; decide) (by rw [c_44_2]; decide) (by rw [c_44_2]; decide) (by decide) ?_
            refine lv_lload hx hb dX3_isTrue_108 (lv_at hl 1 rfl) ?_
            refine lv_lload hx hb dX3_isTrue_110 (lv_at hl 0 rfl) ?_
            refine lp_le (tgt := 120) hx hb dX3_isTrue_112 dX3_isTrue_113 (by decide) (fun c_112 => ?_) (fun c_112 => ?_)
            ·
              refine lv_iconst (v := 0) hx hb dX3_isTrue_120 (by decide) ?_
              rw [hZ]
              exact pm_zret (w := s_X3_isTrue p0 p1 p2) hx hb hr hlocks hS (nz_0) (by subst ex_41 ex_35; exact (((((((if_pos c_7).trans (if_pos c_17)).trans (if_neg c_44_0)).trans (if_neg c_44_1)).trans (if_pos c_44_2)).trans (if_pos c_112))).symm) dX3_isTrue_121
            ·
              refine lv_iconst (v := 1) hx hb dX3_isTrue_116 (by decide) ?_
              refine lv_goto (tgt := 121) hx hb dX3_isTrue_117 (by decide) ?_
              rw [hZ]
              exact pm_zret (w := s_X3_isTrue p0 p1 p2) hx hb hr hlocks hS (nz_1) (by subst ex_41 ex_35; exact (((((((if_pos c_7).trans (if_pos c_17)).trans (if_neg c_44_0)).trans (if_neg c_44_1)).trans (if_pos c_44_2)).trans (if_neg c_112))).symm) dX3_isTrue_121
          ·
            by_cases c_44_3 : p0 = 3
            · refine lv_tableIn (off := 78) (tgt := 122) hx hb dX3_isTrue_44 (by rw [c_44_3]; decide) (by rw [c_44_3]; decide) (by rw [c_44_3]; decide) (by decide) ?_
              refine lv_lload hx hb dX3_isTrue_122 (lv_at hl 1 rfl) ?_
              refine lv_lload hx hb dX3_isTrue_124 (lv_at hl 0 rfl) ?_
              refine lp_lt (tgt := 134) hx hb dX3_isTrue_126 dX3_isTrue_127 (by decide) (fun c_126 => ?_) (fun c_126 => ?_)
              ·
                refine lv_iconst (v := 0) hx hb dX3_isTrue_134 (by decide) ?_
                rw [hZ]
                exact pm_zret (w := s_X3_isTrue p0 p1 p2) hx hb hr hlocks hS (nz_0) (by subst ex_41 ex_35; exact ((((((((if_pos c_7).trans (if_pos c_17)).trans (if_neg c_44_0)).trans (if_neg c_44_1)).trans (if_neg c_44_2)).trans (if_pos c_44_3)).trans (if_pos c_126))).symm) dX3_isTrue_135
              ·
                refine lv_iconst (v := 1) hx hb dX3_isTrue_130 (by decide) ?_
                refine lv_goto (tgt := 135) hx hb dX3_isTrue_131 (by decide) ?_
                rw [hZ]
                exact pm_zret (w := s_X3_isTrue p0 p1 p2) hx hb hr hlocks hS (nz_1) (by subst ex_41 ex_35; exact ((((((((if_pos c_7).trans (if_pos c_17)).trans (if_neg c_44_0)).trans (if_neg c_44_1)).trans (if_neg c_44_2)).trans (if_pos c_44_3)).trans (if_neg c_126))).symm) dX3_isTrue_135
            ·
              by_cases c_44_4 : p0 = 4
              · refine lv_tableIn (off := 92) (tgt := 136) hx hb dX3_isTrue_44 (by rw [c_44_4]; decide) (by rw [c_44_4]; decide) (by rw [c_44_4]; decide) (by decide) ?_
                refine lv_lload hx hb dX3_isTrue_136 (lv_at hl 1 rfl) ?_
                refine lv_lload hx hb dX3_isTrue_138 (lv_at hl 0 rfl) ?_
                refine lp_ne (tgt := 148) hx hb dX3_isTrue_140 dX3_isTrue_141 (by decide) (fun c_140 => ?_) (fun c_140 => ?_)
                ·
                  refine lv_iconst (v := 0) hx hb dX3_isTrue_148 (by decide) ?_
                  rw [hZ]
                  exact pm_zret (w := s_X3_isTrue p0 p1 p2) hx hb hr hlocks hS (nz_0) (by subst ex_41 ex_35; exact (((((((((if_pos c_7).trans (if_pos c_17)).trans (if_neg c_44_0)).trans (if_neg c_44_1)).trans (if_neg c_44_2)).trans (if_neg c_44_3)).trans (if_pos c_44_4)).trans (if_neg c_140))).symm) dX3_isTrue_149
                ·
                  refine lv_iconst (v := 1) hx hb dX3_isTrue_144 (by decide) ?_
                  refine lv_goto (tgt := 149) hx hb dX3_isTrue_145 (by decide) ?_
                  rw [hZ]
                  exact pm_zret (w := s_X3_isTrue p0 p1 p2) hx hb hr hlocks hS (nz_1) (by subst ex_41 ex_35; exact (((((((((if_pos c_7).trans (if_pos c_17)).trans (if_neg c_44_0)).trans (if_neg c_44_1)).trans (if_neg c_44_2)).trans (if_neg c_44_3)).trans (if_pos c_44_4)).trans (if_pos c_140))).symm) dX3_isTrue_149
              ·
                have nc_44_0 : (p0).toInt ≠ 0 := fun h => c_44_0 (Int32.toInt.inj (h.trans (by decide)))
                have nc_44_1 : (p0).toInt ≠ 1 := fun h => c_44_1 (Int32.toInt.inj (h.trans (by decide)))
                have nc_44_2 : (p0).toInt ≠ 2 := fun h => c_44_2 (Int32.toInt.inj (h.trans (by decide)))
                have nc_44_3 : (p0).toInt ≠ 3 := fun h => c_44_3 (Int32.toInt.inj (h.trans (by decide)))
                have nc_44_4 : (p0).toInt ≠ 4 := fun h => c_44_4 (Int32.toInt.inj (h.trans (by decide)))
                refine lv_tableOut (tgt := 150) hx hb dX3_isTrue_44 (by omega) (by decide) ?_
                refine lv_lload hx hb dX3_isTrue_150 (lv_at hl 1 rfl) ?_
                refine lv_lload hx hb dX3_isTrue_152 (lv_at hl 0 rfl) ?_
                refine lp_eq (tgt := 162) hx hb dX3_isTrue_154 dX3_isTrue_155 (by decide) (fun c_154 => ?_) (fun c_154 => ?_)
                ·
                  refine lv_iconst (v := 0) hx hb dX3_isTrue_162 (by decide) ?_
                  rw [hZ]
                  exact pm_zret (w := s_X3_isTrue p0 p1 p2) hx hb hr hlocks hS (nz_0) (by subst ex_41 ex_35; exact (((((((((if_pos c_7).trans (if_pos c_17)).trans (if_neg c_44_0)).trans (if_neg c_44_1)).trans (if_neg c_44_2)).trans (if_neg c_44_3)).trans (if_neg c_44_4)).trans (if_pos c_154))).symm) dX3_isTrue_163
                ·
                  refine lv_iconst (v := 1) hx hb dX3_isTrue_158 (by decide) ?_
                  refine lv_goto (tgt := 163) hx hb dX3_isTrue_159 (by decide) ?_
                  rw [hZ]
                  exact pm_zret (w := s_X3_isTrue p0 p1 p2) hx hb hr hlocks hS (nz_1) (by subst ex_41 ex_35; exact (((((((((if_pos c_7).trans (if_pos c_17)).trans (if_neg c_44_0)).trans (if_neg c_44_1)).trans (if_neg c_44_2)).trans (if_neg c_44_3)).trans (if_neg c_44_4)).trans (if_neg c_154))).symm) dX3_isTrue_163
    ·
      exact K_20 _ _ hS ls (lv_sub hl [0] rfl) (((if_pos c_7).trans (if_neg c_17)))
theorem hd_X3_power : yX3_power.cls ≠ "java/lang/invoke/MethodHandle" ∧ yX3_power.cls ≠ "java/lang/invoke/VarHandle" ∧ (parseMethodDescriptor yX3_power.desc).map (fun d => d.parameters.length) = some 1 := by decide +kernel
def s_X3_power (p0 : Int64) : Int32 :=
  ((lUshr (s_X0_magnitude 52 (-1074) 9218868437227405312 (-9223372036854775808) p0) 52).toInt32) - 1023
set_option maxHeartbeats 4000000 in
set_option maxRecDepth 100000 in
theorem pm_X3_power (l : Launch) (dD dF : Nat) (p0 : Int64) : PmI l yX3_power wsX3_power 1 22 [.long p0] (fun U => KF dD dF pv_N U U.heap) (s_X3_power p0) := by
  refine Met.ofW (cc := cX3_power) (maxL := 2) (ret := (some .int)) (by decide) rfl ?_
  intro p e s m args below meth c s₁ B hml hv
  obtain ⟨rfl, hF⟩ := hv
  have hx := B.exec
  have hb := B.bytes
  have hr := B.returns
  have hts := atoms_spec (ws := wsX3_power) B.pre
  have hown : s.vm.findClass RX3 = some m.cls := findClass_of_methodNamed B.named
  have hlocks := B.notSynchronized
  have hS : va_S pv_N s.heap s.heap [] := va_S.rf
  have hl := lv_entry ([.long p0]) (n := 2) (Nat.le_of_ble_eq_true rfl)
  rw [lg_entry_eq]
  generalize (lg_sl ([.long p0]) ++ List.replicate (2 - (lg_sl ([.long p0])).length) Slot.unset).toArray = ls at hl ⊢
  have hl : lv_has ls 2 [(0, .long p0)] := hl
  obtain ⟨Z, hZ⟩ : ∃ z, z = MQ below (pm_QI (s_X3_power p0)) ([.long p0] : List Value).toArray s 0 0 pv_N := ⟨_, rfl⟩
  rw [← hZ]
  obtain ⟨Y, hY⟩ : ∃ y, y = s_X3_power p0 := ⟨_, rfl⟩
  refine va_gets hx hb hF.1 hS hown (hts _ (List.mem_of_getElem? (i := 1) rfl)) (fun _ h9 => h9) dX3_power_0 ?_
  refine lv_lload_n hx hb dX3_power_3 rfl (lv_at hl 0 rfl) ?_
  refine pm_callL (va_runV (As := [.long p0]) (rest := []) ⟨hx, hb, hml, hown, hts⟩ (pm_X0_magnitude l 52 (-1074) 9218868437227405312 (-9223372036854775808) dD p0) (cwV 1 hts gX3_power_X0_magnitude rfl rfl rfl hdv_X0_magnitude ⟨Nat.le_of_ble_eq_true rfl, Nat.le_of_ble_eq_true rfl⟩) ⟨KQ.fb, va_Orecv hF.2.2.1.1 hS, fun U hU hW => ⟨rfl, (KQ.call hF.2.2.1 hS U hU hW)⟩⟩ rfl rfl hl.1 rfl (lv_room (Nat.le_of_ble_eq_true rfl)) dX3_power_4 ⟨Nat.le_refl 0, Nat.le_refl 0⟩) hS (fun H locs _ _ hS => ?_)
  refine va_gets hx hb hF.1 hS hown (hts _ (List.mem_of_getElem? (i := 1) rfl)) (fun _ h9 => h9) dX3_power_7 ?_
  refine vk_getf hx hb hF.2.2.1.2.1 hS hown (hts _ (List.mem_of_getElem? (i := 2) rfl)) (fun _ h9 => h9) dX3_power_10 ?_
  refine lv_lushr (v := lUshr (s_X0_magnitude 52 (-1074) 9218868437227405312 (-9223372036854775808) p0) 52) hx hb dX3_power_13 rfl ?_
  refine lv_l2i (v := (lUshr (s_X0_magnitude 52 (-1074) 9218868437227405312 (-9223372036854775808) p0) 52).toInt32) hx hb dX3_power_14 rfl ?_
  refine lv_sipush (v := 1023) hx hb dX3_power_15 (by decide) ?_
  refine lv_isub hx hb dX3_power_18 ?_
  rw [hZ]
  exact pm_iret (w := s_X3_power p0) hx hb hr hlocks hS (by exact rfl) dX3_power_19
theorem hd_X3_floor : yX3_floor.cls ≠ "java/lang/invoke/MethodHandle" ∧ yX3_floor.cls ≠ "java/lang/invoke/VarHandle" ∧ (parseMethodDescriptor yX3_floor.desc).map (fun d => d.parameters.length) = some 1 := by decide +kernel
def s_X3_floor_j71 (p0 : Int64) (x_57 : Int64) (z_71_0 : Int64) : Int64 :=
  z_71_0 &&& (x_57 ^^^ (-1))
def s_X3_floor (p0 : Int64) : Int64 :=
  if 52 ≤ (s_X3_power p0) then p0
  else if (s_X0_isZero 52 (-1074) 9218868437227405312 (-9223372036854775808) p0) = 0 then if 0 ≤ (s_X3_power p0) then if 0 ≤ p0 then s_X3_floor_j71 p0 (lUshr ((lShl 1 52) - 1) (s_X3_power p0)) p0
  else s_X3_floor_j71 p0 (lUshr ((lShl 1 52) - 1) (s_X3_power p0)) (p0 + (lUshr ((lShl 1 52) - 1) (s_X3_power p0)))
  else if 0 ≤ p0 then 0
  else (-4616189618054758400)
  else p0
set_option maxHeartbeats 4000000 in
set_option maxRecDepth 100000 in
theorem pm_X3_floor (l : Launch) (dD dF : Nat) (p0 : Int64) : PmL l yX3_floor wsX3_floor 2 44 [.long p0] (fun U => KF dD dF pv_N U U.heap) (s_X3_floor p0) := by
  refine Met.ofW (cc := cX3_floor) (maxL := 7) (ret := (some .long)) (by decide) rfl ?_
  intro p e s m args below meth c s₁ B hml hv
  obtain ⟨rfl, hF⟩ := hv
  have hx := B.exec
  have hb := B.bytes
  have hr := B.returns
  have hts := atoms_spec (ws := wsX3_floor) B.pre
  have hown : s.vm.findClass RX3 = some m.cls := findClass_of_methodNamed B.named
  have hlocks := B.notSynchronized
  have hS : va_S pv_N s.heap s.heap [] := va_S.rf
  have hl := lv_entry ([.long p0]) (n := 7) (Nat.le_of_ble_eq_true rfl)
  rw [lg_entry_eq]
  generalize (lg_sl ([.long p0]) ++ List.replicate (7 - (lg_sl ([.long p0])).length) Slot.unset).toArray = ls at hl ⊢
  have hl : lv_has ls 7 [(0, .long p0)] := hl
  obtain ⟨Z, hZ⟩ : ∃ z, z = MQ below (pm_QL (s_X3_floor p0)) ([.long p0] : List Value).toArray s 0 0 pv_N := ⟨_, rfl⟩
  rw [← hZ]
  obtain ⟨Y, hY⟩ : ∃ y, y = s_X3_floor p0 := ⟨_, rfl⟩
  refine lv_lload_n hx hb dX3_floor_0 rfl (lv_at hl 0 rfl) ?_
  refine pm_callI (va_runS (As := [.long p0]) (rest := []) ⟨hx, hb, hml, hown, hts⟩ (pm_X3_power l dD dF p0) (va_cwS 1 hts gX3_floor_X3_power rfl rfl rfl hd_X3_power ⟨Nat.le_of_ble_eq_true rfl, Nat.le_of_ble_eq_true rfl⟩) ⟨KF.fb, fun U hU hW => ⟨rfl, (KF.call hF hS U hU hW)⟩⟩ rfl rfl hl.1 rfl (lv_room (Nat.le_of_ble_eq_true rfl)) dX3_floor_1 ⟨Nat.le_refl 0, Nat.le_refl 0⟩) hS (fun H locs _ _ hS => ?_)
  refine lv_topi (fun x_4 ex_4 => ?_)
  refine lv_istore_n (lv' := [(2, .int x_4), (0, .long p0)]) hx hb dX3_floor_4 rfl hl (by decide) rfl (fun ls hl => ?_)
  refine lv_iload_n hx hb dX3_floor_5 rfl (lv_at hl 0 rfl) ?_
  refine va_gets hx hb hF.1 hS hown (hts _ (List.mem_of_getElem? (i := 1) rfl)) (fun _ h9 => h9) dX3_floor_6 ?_
  refine vk_getf hx hb hF.2.2.1.2.1 hS hown (hts _ (List.mem_of_getElem? (i := 2) rfl)) (fun _ h9 => h9) dX3_floor_9 ?_
  refine lv_icmp_ge (tgt := 25) hx hb dX3_floor_12 (by decide) (fun c_12 => ?_) (fun c_12 => ?_)
  ·
    refine lv_lload_n hx hb dX3_floor_25 rfl (lv_at hl 1 rfl) ?_
    rw [hZ]
    exact pm_lret (w := s_X3_floor p0) hx hb hr hlocks hS (by subst ex_4; exact ((if_pos c_12)).symm) dX3_floor_26
  ·
    refine va_gets hx hb hF.1 hS hown (hts _ (List.mem_of_getElem? (i := 1) rfl)) (fun _ h9 => h9) dX3_floor_15 ?_
    refine lv_lload_n hx hb dX3_floor_18 rfl (lv_at hl 1 rfl) ?_
    refine pm_callI (va_runV (As := [.long p0]) (rest := []) ⟨hx, hb, hml, hown, hts⟩ (pm_X0_isZero l 52 (-1074) 9218868437227405312 (-9223372036854775808) dD p0) (cwV 1 hts gX3_floor_X0_isZero rfl rfl rfl hdv_X0_isZero ⟨Nat.le_of_ble_eq_true rfl, Nat.le_of_ble_eq_true rfl⟩) ⟨KQ.fb, va_Orecv hF.2.2.1.1 hS, fun U hU hW => ⟨rfl, (KQ.call hF.2.2.1 hS U hU hW)⟩⟩ rfl rfl hl.1 rfl (lv_room (Nat.le_of_ble_eq_true rfl)) dX3_floor_19 ⟨Nat.le_refl 0, Nat.le_refl 0⟩) hS (fun H locs _ _ hS => ?_)
    refine lv_if_eq (tgt := 27) hx hb dX3_floor_22 (by decide) (fun c_22 => ?_) (fun c_22 => ?_)
    ·
      refine lv_iload_n hx hb dX3_floor_27 rfl (lv_at hl 0 rfl) ?_
      refine lv_if_ge (tgt := 45) hx hb dX3_floor_28 (by decide) (fun c_28 => ?_) (fun c_28 => ?_)
      ·
        refine lv_lconst (v := 1) hx hb dX3_floor_45 (by decide) ?_
        refine va_gets hx hb hF.1 hS hown (hts _ (List.mem_of_getElem? (i := 1) rfl)) (fun _ h9 => h9) dX3_floor_46 ?_
        refine vk_getf hx hb hF.2.2.1.2.1 hS hown (hts _ (List.mem_of_getElem? (i := 2) rfl)) (fun _ h9 => h9) dX3_floor_49 ?_
        refine lv_lshl (v := lShl 1 52) hx hb dX3_floor_52 rfl ?_
        refine lv_lconst (v := 1) hx hb dX3_floor_53 (by decide) ?_
        refine lv_lsub hx hb dX3_floor_54 ?_
        refine lv_iload_n hx hb dX3_floor_55 rfl (lv_at hl 0 rfl) ?_
        refine lv_lushr (v := lUshr ((lShl 1 52) - 1) x_4) hx hb dX3_floor_56 rfl ?_
        refine lv_topl (fun x_57 ex_57 => ?_)
        refine lv_lstore_n (lv' := [(3, .long x_57), (2, .int x_4), (0, .long p0)]) hx hb dX3_floor_57 rfl hl (by decide) rfl (fun ls hl => ?_)
        refine lv_lload_n hx hb dX3_floor_58 rfl (lv_at hl 2 rfl) ?_
        refine lv_lconst (v := 0) hx hb dX3_floor_59 (by decide) ?_
        have K_71 : ∀ (z_71_0 : Int64) (H : Heap) (locs : List Loc), va_S pv_N s.heap H locs → ∀ (ls : Array Slot), lv_has ls 7 [(3, .long x_57)] → s_X3_floor p0 = s_X3_floor_j71 p0 x_57 z_71_0 → W p l e (pm_R 2 44) s m ([.long p0] : List Value).toArray below meth c H locs 0 0 Z (F0 m 71 ls [.long z_71_0]) := by
          intro z_71_0 H locs hS ls hl hK_71
          refine lv_lstore (lv' := [(5, .long z_71_0), (3, .long x_57)]) hx hb dX3_floor_71 hl (by decide) rfl (fun ls hl => ?_)
          refine lv_lload hx hb dX3_floor_73 (lv_at hl 0 rfl) ?_
          refine lv_lload_n hx hb dX3_floor_75 rfl (lv_at hl 1 rfl) ?_
          refine lv_ldc2 (v := (-1)) hx hb hown (hts _ (List.mem_of_getElem? (i := 4) rfl)) dX3_floor_76 ?_
          refine lv_lxor hx hb dX3_floor_79 ?_
          refine lv_land hx hb dX3_floor_80 ?_
          rw [hZ]
          exact pm_lret (w := s_X3_floor p0) hx hb hr hlocks hS (by subst ex_57 ex_4; exact (hK_71.trans rfl).symm) dX3_floor_81
        refine lp_ge (tgt := 70) hx hb dX3_floor_60 dX3_floor_61 (by decide) (fun c_60 => ?_) (fun c_60 => ?_)
        ·
          refine lv_lload_n hx hb dX3_floor_70 rfl (lv_at hl 2 rfl) ?_
          exact K_71 p0 _ _ hS ls (lv_sub hl [0] rfl) (by subst ex_57 ex_4; exact ((((if_neg c_12).trans (if_pos c_22)).trans (if_pos c_28)).trans (if_pos c_60)))
        ·
          refine lv_lload_n hx hb dX3_floor_64 rfl (lv_at hl 2 rfl) ?_
          refine lv_lload_n hx hb dX3_floor_65 rfl (lv_at hl 0 rfl) ?_
          refine lv_ladd hx hb dX3_floor_66 ?_
          refine lv_goto (tgt := 71) hx hb dX3_floor_67 (by decide) ?_
          exact K_71 (p0 + x_57) _ _ hS ls (lv_sub hl [0] rfl) (by subst ex_57 ex_4; exact ((((if_neg c_12).trans (if_pos c_22)).trans (if_pos c_28)).trans (if_neg c_60)))
      ·
        refine lv_lload_n hx hb dX3_floor_31 rfl (lv_at hl 1 rfl) ?_
        refine lv_lconst (v := 0) hx hb dX3_floor_32 (by decide) ?_
        refine lp_ge (tgt := 43) hx hb dX3_floor_33 dX3_floor_34 (by decide) (fun c_33 => ?_) (fun c_33 => ?_)
        ·
          refine lv_lconst (v := 0) hx hb dX3_floor_43 (by decide) ?_
          rw [hZ]
          exact pm_lret (w := s_X3_floor p0) hx hb hr hlocks hS (by subst ex_4; exact (((((if_neg c_12).trans (if_pos c_22)).trans (if_neg c_28)).trans (if_pos c_33))).symm) dX3_floor_44
        ·
          refine lv_ldc2 (v := (-4616189618054758400)) hx hb hown (hts _ (List.mem_of_getElem? (i := 3) rfl)) dX3_floor_37 ?_
          refine lv_goto (tgt := 44) hx hb dX3_floor_40 (by decide) ?_
          rw [hZ]
          exact pm_lret (w := s_X3_floor p0) hx hb hr hlocks hS (by subst ex_4; exact (((((if_neg c_12).trans (if_pos c_22)).trans (if_neg c_28)).trans (if_neg c_33))).symm) dX3_floor_44
    ·
      refine lv_lload_n hx hb dX3_floor_25 rfl (lv_at hl 1 rfl) ?_
      rw [hZ]
      exact pm_lret (w := s_X3_floor p0) hx hb hr hlocks hS (by subst ex_4; exact (((if_neg c_12).trans (if_neg c_22))).symm) dX3_floor_26
theorem hd_X3_nearestWhole : yX3_nearestWhole.cls ≠ "java/lang/invoke/MethodHandle" ∧ yX3_nearestWhole.cls ≠ "java/lang/invoke/VarHandle" ∧ (parseMethodDescriptor yX3_nearestWhole.desc).map (fun d => d.parameters.length) = some 1 := by decide +kernel
def s_X3_nearestWhole (p0 : Int64) : Int64 :=
  if (s_X3_power p0) < 52 then if 0 ≤ p0 then s_X0_pack 52 (-1074) 9218868437227405312 (-9223372036854775808) 0 0 (s_X0_rounded (s_X0_significand 52 (-1074) 9218868437227405312 (-9223372036854775808) p0) (-(s_X0_exponent 52 (-1074) 9218868437227405312 (-9223372036854775808) p0)))
  else s_X0_pack 52 (-1074) 9218868437227405312 (-9223372036854775808) 1 0 (s_X0_rounded (s_X0_significand 52 (-1074) 9218868437227405312 (-9223372036854775808) p0) (-(s_X0_exponent 52 (-1074) 9218868437227405312 (-9223372036854775808) p0)))
  else p0
set_option maxHeartbeats 4000000 in
set_option maxRecDepth 100000 in
theorem pm_X3_nearestWhole (l : Launch) (dD dF : Nat) (p0 : Int64) : PmL l yX3_nearestWhole wsX3_nearestWhole 3 73 [.long p0] (fun U => KF dD dF pv_N U U.heap) (s_X3_nearestWhole p0) := by
  refine Met.ofW (cc := cX3_nearestWhole) (maxL := 4) (ret := (some .long)) (by decide) rfl ?_
  intro p e s m args below meth c s₁ B hml hv
  obtain ⟨rfl, hF⟩ := hv
  have hx := B.exec
  have hb := B.bytes
  have hr := B.returns
  have hts := atoms_spec (ws := wsX3_nearestWhole) B.pre
  have hown : s.vm.findClass RX3 = some m.cls := findClass_of_methodNamed B.named
  have hlocks := B.notSynchronized
  have hS : va_S pv_N s.heap s.heap [] := va_S.rf
  have hl := lv_entry ([.long p0]) (n := 4) (Nat.le_of_ble_eq_true rfl)
  rw [lg_entry_eq]
  generalize (lg_sl ([.long p0]) ++ List.replicate (4 - (lg_sl ([.long p0])).length) Slot.unset).toArray = ls at hl ⊢
  have hl : lv_has ls 4 [(0, .long p0)] := hl
  obtain ⟨Z, hZ⟩ : ∃ z, z = MQ below (pm_QL (s_X3_nearestWhole p0)) ([.long p0] : List Value).toArray s 0 0 pv_N := ⟨_, rfl⟩
  rw [← hZ]
  obtain ⟨Y, hY⟩ : ∃ y, y = s_X3_nearestWhole p0 := ⟨_, rfl⟩
  refine lv_lload_n hx hb dX3_nearestWhole_0 rfl (lv_at hl 0 rfl) ?_
  refine pm_callI (va_runS (As := [.long p0]) (rest := []) ⟨hx, hb, hml, hown, hts⟩ (pm_X3_power l dD dF p0) (va_cwS 1 hts gX3_nearestWhole_X3_power rfl rfl rfl hd_X3_power ⟨Nat.le_of_ble_eq_true rfl, Nat.le_of_ble_eq_true rfl⟩) ⟨KF.fb, fun U hU hW => ⟨rfl, (KF.call hF hS U hU hW)⟩⟩ rfl rfl hl.1 rfl (lv_room (Nat.le_of_ble_eq_true rfl)) dX3_nearestWhole_1 ⟨Nat.le_refl 0, Nat.le_refl 0⟩) hS (fun H locs _ _ hS => ?_)
  refine va_gets hx hb hF.1 hS hown (hts _ (List.mem_of_getElem? (i := 1) rfl)) (fun _ h9 => h9) dX3_nearestWhole_4 ?_
  refine vk_getf hx hb hF.2.2.1.2.1 hS hown (hts _ (List.mem_of_getElem? (i := 2) rfl)) (fun _ h9 => h9) dX3_nearestWhole_7 ?_
  refine lv_icmp_lt (tgt := 15) hx hb dX3_nearestWhole_10 (by decide) (fun c_10 => ?_) (fun c_10 => ?_)
  ·
    refine va_gets hx hb hF.1 hS hown (hts _ (List.mem_of_getElem? (i := 1) rfl)) (fun _ h9 => h9) dX3_nearestWhole_15 ?_
    refine lv_lload_n hx hb dX3_nearestWhole_18 rfl (lv_at hl 0 rfl) ?_
    refine pm_callL (va_runV (As := [.long p0]) (rest := []) ⟨hx, hb, hml, hown, hts⟩ (pm_X0_significand l 52 (-1074) 9218868437227405312 (-9223372036854775808) dD p0) (cwV 1 hts gX3_nearestWhole_X0_significand rfl rfl rfl hdv_X0_significand ⟨Nat.le_of_ble_eq_true rfl, Nat.le_of_ble_eq_true rfl⟩) ⟨KQ.fb, va_Orecv hF.2.2.1.1 hS, fun U hU hW => ⟨rfl, (KQ.call hF.2.2.1 hS U hU hW)⟩⟩ rfl rfl hl.1 rfl (lv_room (Nat.le_of_ble_eq_true rfl)) dX3_nearestWhole_19 ⟨Nat.le_refl 0, Nat.le_refl 0⟩) hS (fun H locs _ _ hS => ?_)
    refine va_gets hx hb hF.1 hS hown (hts _ (List.mem_of_getElem? (i := 1) rfl)) (fun _ h9 => h9) dX3_nearestWhole_22 ?_
    refine lv_lload_n hx hb dX3_nearestWhole_25 rfl (lv_at hl 0 rfl) ?_
    refine pm_callI (va_runV (As := [.long p0]) (rest := [.long (s_X0_significand 52 (-1074) 9218868437227405312 (-9223372036854775808) p0)]) ⟨hx, hb, hml, hown, hts⟩ (pm_X0_exponent l 52 (-1074) 9218868437227405312 (-9223372036854775808) dD p0) (cwV 1 hts gX3_nearestWhole_X0_exponent rfl rfl rfl hdv_X0_exponent ⟨Nat.le_of_ble_eq_true rfl, Nat.le_of_ble_eq_true rfl⟩) ⟨KQ.fb, va_Orecv hF.2.2.1.1 hS, fun U hU hW => ⟨rfl, (KQ.call hF.2.2.1 hS U hU hW)⟩⟩ rfl rfl hl.1 rfl (lv_room (Nat.le_of_ble_eq_true rfl)) dX3_nearestWhole_26 ⟨Nat.le_refl 0, Nat.le_refl 0⟩) hS (fun H locs _ _ hS => ?_)
    refine lv_ineg hx hb dX3_nearestWhole_29 ?_
    refine pm_callL (va_runS (As := [.long (s_X0_significand 52 (-1074) 9218868437227405312 (-9223372036854775808) p0), .int (-(s_X0_exponent 52 (-1074) 9218868437227405312 (-9223372036854775808) p0))]) (rest := []) ⟨hx, hb, hml, hown, hts⟩ (pm_X0_rounded l (s_X0_significand 52 (-1074) 9218868437227405312 (-9223372036854775808) p0) (-(s_X0_exponent 52 (-1074) 9218868437227405312 (-9223372036854775808) p0))) (va_cwS 2 hts gX3_nearestWhole_X0_rounded rfl rfl rfl hd_X0_rounded ⟨Nat.le_of_ble_eq_true rfl, Nat.le_of_ble_eq_true rfl⟩) ⟨pm_fbT, fun U hU hW => ⟨rfl, trivial⟩⟩ rfl rfl hl.1 rfl (lv_room (Nat.le_of_ble_eq_true rfl)) dX3_nearestWhole_30 ⟨Nat.le_refl 0, Nat.le_refl 0⟩) hS (fun H locs _ _ hS => ?_)
    refine lv_topl (fun x_33 ex_33 => ?_)
    refine lv_lstore_n (lv' := [(2, .long x_33), (0, .long p0)]) hx hb dX3_nearestWhole_33 rfl hl (by decide) rfl (fun ls hl => ?_)
    refine va_gets hx hb hF.1 hS hown (hts _ (List.mem_of_getElem? (i := 1) rfl)) (fun _ h9 => h9) dX3_nearestWhole_34 ?_
    refine lv_lload_n hx hb dX3_nearestWhole_37 rfl (lv_at hl 1 rfl) ?_
    refine lv_lconst (v := 0) hx hb dX3_nearestWhole_38 (by decide) ?_
    refine lp_ge (tgt := 47) hx hb dX3_nearestWhole_39 dX3_nearestWhole_40 (by decide) (fun c_39 => ?_) (fun c_39 => ?_)
    ·
      refine lv_iconst (v := 0) hx hb dX3_nearestWhole_47 (by decide) ?_
      refine lv_iconst (v := 0) hx hb dX3_nearestWhole_48 (by decide) ?_
      refine lv_lload_n hx hb dX3_nearestWhole_49 rfl (lv_at hl 0 rfl) ?_
      refine pm_callL (va_runV (As := [.int 0, .int 0, .long x_33]) (rest := []) ⟨hx, hb, hml, hown, hts⟩ (pm_X0_pack l 52 (-1074) 9218868437227405312 (-9223372036854775808) dD 0 0 x_33) (cwV 3 hts gX3_nearestWhole_X0_pack rfl rfl rfl hdv_X0_pack ⟨Nat.le_of_ble_eq_true rfl, Nat.le_of_ble_eq_true rfl⟩) ⟨KQ.fb, va_Orecv hF.2.2.1.1 hS, fun U hU hW => ⟨rfl, (KQ.call hF.2.2.1 hS U hU hW)⟩⟩ rfl rfl hl.1 rfl (lv_room (Nat.le_of_ble_eq_true rfl)) dX3_nearestWhole_50 ⟨Nat.le_refl 0, Nat.le_refl 0⟩) hS (fun H locs _ _ hS => ?_)
      rw [hZ]
      exact pm_lret (w := s_X3_nearestWhole p0) hx hb hr hlocks hS (by subst ex_33; exact (((if_pos c_10).trans (if_pos c_39))).symm) dX3_nearestWhole_53
    ·
      refine lv_iconst (v := 1) hx hb dX3_nearestWhole_43 (by decide) ?_
      refine lv_goto (tgt := 48) hx hb dX3_nearestWhole_44 (by decide) ?_
      refine lv_iconst (v := 0) hx hb dX3_nearestWhole_48 (by decide) ?_
      refine lv_lload_n hx hb dX3_nearestWhole_49 rfl (lv_at hl 0 rfl) ?_
      refine pm_callL (va_runV (As := [.int 1, .int 0, .long x_33]) (rest := []) ⟨hx, hb, hml, hown, hts⟩ (pm_X0_pack l 52 (-1074) 9218868437227405312 (-9223372036854775808) dD 1 0 x_33) (cwV 3 hts gX3_nearestWhole_X0_pack rfl rfl rfl hdv_X0_pack ⟨Nat.le_of_ble_eq_true rfl, Nat.le_of_ble_eq_true rfl⟩) ⟨KQ.fb, va_Orecv hF.2.2.1.1 hS, fun U hU hW => ⟨rfl, (KQ.call hF.2.2.1 hS U hU hW)⟩⟩ rfl rfl hl.1 rfl (lv_room (Nat.le_of_ble_eq_true rfl)) dX3_nearestWhole_50 ⟨Nat.le_refl 0, Nat.le_refl 0⟩) hS (fun H locs _ _ hS => ?_)
      rw [hZ]
      exact pm_lret (w := s_X3_nearestWhole p0) hx hb hr hlocks hS (by subst ex_33; exact (((if_pos c_10).trans (if_neg c_39))).symm) dX3_nearestWhole_53
  ·
    refine lv_lload_n hx hb dX3_nearestWhole_13 rfl (lv_at hl 0 rfl) ?_
    rw [hZ]
    exact pm_lret (w := s_X3_nearestWhole p0) hx hb hr hlocks hS (by exact ((if_neg c_10)).symm) dX3_nearestWhole_14
theorem hd_X3_distanceToNext : yX3_distanceToNext.cls ≠ "java/lang/invoke/MethodHandle" ∧ yX3_distanceToNext.cls ≠ "java/lang/invoke/VarHandle" ∧ (parseMethodDescriptor yX3_distanceToNext.desc).map (fun d => d.parameters.length) = some 1 := by decide +kernel
def s_X3_distanceToNext (p0 : Int64) : Int64 :=
  if (s_X0_isInfinite 52 (-1074) 9218868437227405312 (-9223372036854775808) p0) = 0 then s_X0_pack 52 (-1074) 9218868437227405312 (-9223372036854775808) 0 (if (s_X0_exponent 52 (-1074) 9218868437227405312 (-9223372036854775808) p0) < (-1074) then (-1074) else (s_X0_exponent 52 (-1074) 9218868437227405312 (-9223372036854775808) p0)) 1
  else 9218868437227405312
set_option maxHeartbeats 4000000 in
set_option maxRecDepth 100000 in
theorem pm_X3_distanceToNext (l : Launch) (dD dF : Nat) (p0 : Int64) : PmL l yX3_distanceToNext wsX3_distanceToNext 3 70 [.long p0] (fun U => KF dD dF pv_N U U.heap) (s_X3_distanceToNext p0) := by
  refine Met.ofW (cc := cX3_distanceToNext) (maxL := 3) (ret := (some .long)) (by decide) rfl ?_
  intro p e s m args below meth c s₁ B hml hv
  obtain ⟨rfl, hF⟩ := hv
  have hx := B.exec
  have hb := B.bytes
  have hr := B.returns
  have hts := atoms_spec (ws := wsX3_distanceToNext) B.pre
  have hown : s.vm.findClass RX3 = some m.cls := findClass_of_methodNamed B.named
  have hlocks := B.notSynchronized
  have hS : va_S pv_N s.heap s.heap [] := va_S.rf
  have hl := lv_entry ([.long p0]) (n := 3) (Nat.le_of_ble_eq_true rfl)
  rw [lg_entry_eq]
  generalize (lg_sl ([.long p0]) ++ List.replicate (3 - (lg_sl ([.long p0])).length) Slot.unset).toArray = ls at hl ⊢
  have hl : lv_has ls 3 [(0, .long p0)] := hl
  obtain ⟨Z, hZ⟩ : ∃ z, z = MQ below (pm_QL (s_X3_distanceToNext p0)) ([.long p0] : List Value).toArray s 0 0 pv_N := ⟨_, rfl⟩
  rw [← hZ]
  obtain ⟨Y, hY⟩ : ∃ y, y = s_X3_distanceToNext p0 := ⟨_, rfl⟩
  refine va_gets hx hb hF.1 hS hown (hts _ (List.mem_of_getElem? (i := 1) rfl)) (fun _ h9 => h9) dX3_distanceToNext_0 ?_
  refine lv_lload_n hx hb dX3_distanceToNext_3 rfl (lv_at hl 0 rfl) ?_
  refine pm_callI (va_runV (As := [.long p0]) (rest := []) ⟨hx, hb, hml, hown, hts⟩ (pm_X0_isInfinite l 52 (-1074) 9218868437227405312 (-9223372036854775808) dD p0) (cwV 1 hts gX3_distanceToNext_X0_isInfinite rfl rfl rfl hdv_X0_isInfinite ⟨Nat.le_of_ble_eq_true rfl, Nat.le_of_ble_eq_true rfl⟩) ⟨KQ.fb, va_Orecv hF.2.2.1.1 hS, fun U hU hW => ⟨rfl, (KQ.call hF.2.2.1 hS U hU hW)⟩⟩ rfl rfl hl.1 rfl (lv_room (Nat.le_of_ble_eq_true rfl)) dX3_distanceToNext_4 ⟨Nat.le_refl 0, Nat.le_refl 0⟩) hS (fun H locs _ _ hS => ?_)
  refine lv_if_eq (tgt := 17) hx hb dX3_distanceToNext_7 (by decide) (fun c_7 => ?_) (fun c_7 => ?_)
  ·
    refine va_gets hx hb hF.1 hS hown (hts _ (List.mem_of_getElem? (i := 1) rfl)) (fun _ h9 => h9) dX3_distanceToNext_17 ?_
    refine lv_lload_n hx hb dX3_distanceToNext_20 rfl (lv_at hl 0 rfl) ?_
    refine pm_callI (va_runV (As := [.long p0]) (rest := []) ⟨hx, hb, hml, hown, hts⟩ (pm_X0_exponent l 52 (-1074) 9218868437227405312 (-9223372036854775808) dD p0) (cwV 1 hts gX3_distanceToNext_X0_exponent rfl rfl rfl hdv_X0_exponent ⟨Nat.le_of_ble_eq_true rfl, Nat.le_of_ble_eq_true rfl⟩) ⟨KQ.fb, va_Orecv hF.2.2.1.1 hS, fun U hU hW => ⟨rfl, (KQ.call hF.2.2.1 hS U hU hW)⟩⟩ rfl rfl hl.1 rfl (lv_room (Nat.le_of_ble_eq_true rfl)) dX3_distanceToNext_21 ⟨Nat.le_refl 0, Nat.le_refl 0⟩) hS (fun H locs _ _ hS => ?_)
    refine va_gets hx hb hF.1 hS hown (hts _ (List.mem_of_getElem? (i := 1) rfl)) (fun _ h9 => h9) dX3_distanceToNext_24 ?_
    refine vk_getf hx hb hF.2.2.1.2.2.1 hS hown (hts _ (List.mem_of_getElem? (i := 3) rfl)) (fun _ h9 => h9) dX3_distanceToNext_27 ?_
    refine va_mmax hx hb (hml.trans hl.1.symm) hown (hts _ (List.mem_of_getElem? (i := 4) rfl)) (hts _ (List.mem_of_getElem? (i := 5) rfl)) (hts _ (List.mem_of_getElem? (i := 6) rfl)) (hts _ (List.mem_of_getElem? (i := 7) rfl)) (Nat.le_of_ble_eq_true rfl) (Nat.le_of_ble_eq_true rfl) (Nat.le_refl 0) (Nat.le_refl 0) dX3_distanceToNext_30 ?_
    refine lv_topi (fun x_33 ex_33 => ?_)
    refine lv_istore_n (lv' := [(2, .int x_33), (0, .long p0)]) hx hb dX3_distanceToNext_33 rfl hl (by decide) rfl (fun ls hl => ?_)
    refine va_gets hx hb hF.1 hS hown (hts _ (List.mem_of_getElem? (i := 1) rfl)) (fun _ h9 => h9) dX3_distanceToNext_34 ?_
    refine lv_iconst (v := 0) hx hb dX3_distanceToNext_37 (by decide) ?_
    refine lv_iload_n hx hb dX3_distanceToNext_38 rfl (lv_at hl 0 rfl) ?_
    refine lv_lconst (v := 1) hx hb dX3_distanceToNext_39 (by decide) ?_
    refine pm_callL (va_runV (As := [.int 0, .int x_33, .long 1]) (rest := []) ⟨hx, hb, hml, hown, hts⟩ (pm_X0_pack l 52 (-1074) 9218868437227405312 (-9223372036854775808) dD 0 x_33 1) (cwV 3 hts gX3_distanceToNext_X0_pack rfl rfl rfl hdv_X0_pack ⟨Nat.le_of_ble_eq_true rfl, Nat.le_of_ble_eq_true rfl⟩) ⟨KQ.fb, va_Orecv hF.2.2.1.1 hS, fun U hU hW => ⟨rfl, (KQ.call hF.2.2.1 hS U hU hW)⟩⟩ rfl rfl hl.1 rfl (lv_room (Nat.le_of_ble_eq_true rfl)) dX3_distanceToNext_40 ⟨Nat.le_refl 0, Nat.le_refl 0⟩) hS (fun H locs _ _ hS => ?_)
    rw [hZ]
    exact pm_lret (w := s_X3_distanceToNext p0) hx hb hr hlocks hS (by subst ex_33; exact ((if_pos c_7)).symm) dX3_distanceToNext_43
  ·
    refine va_gets hx hb hF.1 hS hown (hts _ (List.mem_of_getElem? (i := 1) rfl)) (fun _ h9 => h9) dX3_distanceToNext_10 ?_
    refine vk_getf hx hb hF.2.2.1.2.2.2.1 hS hown (hts _ (List.mem_of_getElem? (i := 2) rfl)) (fun _ h9 => h9) dX3_distanceToNext_13 ?_
    rw [hZ]
    exact pm_lret (w := s_X3_distanceToNext p0) hx hb hr hlocks hS (by exact ((if_neg c_7)).symm) dX3_distanceToNext_16
theorem hd_X3_nextUp : yX3_nextUp.cls ≠ "java/lang/invoke/MethodHandle" ∧ yX3_nextUp.cls ≠ "java/lang/invoke/VarHandle" ∧ (parseMethodDescriptor yX3_nextUp.desc).map (fun d => d.parameters.length) = some 1 := by decide +kernel
def s_X3_nextUp (p0 : Int64) : Int64 :=
  if (s_X0_isZero 52 (-1074) 9218868437227405312 (-9223372036854775808) p0) = 0 then if 0 ≤ p0 then if (s_X0_isInfinite 52 (-1074) 9218868437227405312 (-9223372036854775808) p0) = 0 then p0 + 1
  else p0
  else p0 - 1
  else 1
set_option maxHeartbeats 4000000 in
set_option maxRecDepth 100000 in
theorem pm_X3_nextUp (l : Launch) (dD dF : Nat) (p0 : Int64) : PmL l yX3_nextUp wsX3_nextUp 2 44 [.long p0] (fun U => KF dD dF pv_N U U.heap) (s_X3_nextUp p0) := by
  refine Met.ofW (cc := cX3_nextUp) (maxL := 2) (ret := (some .long)) (by decide) rfl ?_
  intro p e s m args below meth c s₁ B hml hv
  obtain ⟨rfl, hF⟩ := hv
  have hx := B.exec
  have hb := B.bytes
  have hr := B.returns
  have hts := atoms_spec (ws := wsX3_nextUp) B.pre
  have hown : s.vm.findClass RX3 = some m.cls := findClass_of_methodNamed B.named
  have hlocks := B.notSynchronized
  have hS : va_S pv_N s.heap s.heap [] := va_S.rf
  have hl := lv_entry ([.long p0]) (n := 2) (Nat.le_of_ble_eq_true rfl)
  rw [lg_entry_eq]
  generalize (lg_sl ([.long p0]) ++ List.replicate (2 - (lg_sl ([.long p0])).length) Slot.unset).toArray = ls at hl ⊢
  have hl : lv_has ls 2 [(0, .long p0)] := hl
  obtain ⟨Z, hZ⟩ : ∃ z, z = MQ below (pm_QL (s_X3_nextUp p0)) ([.long p0] : List Value).toArray s 0 0 pv_N := ⟨_, rfl⟩
  rw [← hZ]
  obtain ⟨Y, hY⟩ : ∃ y, y = s_X3_nextUp p0 := ⟨_, rfl⟩
  refine va_gets hx hb hF.1 hS hown (hts _ (List.mem_of_getElem? (i := 1) rfl)) (fun _ h9 => h9) dX3_nextUp_0 ?_
  refine lv_lload_n hx hb dX3_nextUp_3 rfl (lv_at hl 0 rfl) ?_
  refine pm_callI (va_runV (As := [.long p0]) (rest := []) ⟨hx, hb, hml, hown, hts⟩ (pm_X0_isZero l 52 (-1074) 9218868437227405312 (-9223372036854775808) dD p0) (cwV 1 hts gX3_nextUp_X0_isZero rfl rfl rfl hdv_X0_isZero ⟨Nat.le_of_ble_eq_true rfl, Nat.le_of_ble_eq_true rfl⟩) ⟨KQ.fb, va_Orecv hF.2.2.1.1 hS, fun U hU hW => ⟨rfl, (KQ.call hF.2.2.1 hS U hU hW)⟩⟩ rfl rfl hl.1 rfl (lv_room (Nat.le_of_ble_eq_true rfl)) dX3_nextUp_4 ⟨Nat.le_refl 0, Nat.le_refl 0⟩) hS (fun H locs _ _ hS => ?_)
  refine lv_if_eq (tgt := 12) hx hb dX3_nextUp_7 (by decide) (fun c_7 => ?_) (fun c_7 => ?_)
  ·
    refine lv_lload_n hx hb dX3_nextUp_12 rfl (lv_at hl 0 rfl) ?_
    refine lv_lconst (v := 0) hx hb dX3_nextUp_13 (by decide) ?_
    refine lp_ge (tgt := 22) hx hb dX3_nextUp_14 dX3_nextUp_15 (by decide) (fun c_14 => ?_) (fun c_14 => ?_)
    ·
      refine va_gets hx hb hF.1 hS hown (hts _ (List.mem_of_getElem? (i := 1) rfl)) (fun _ h9 => h9) dX3_nextUp_22 ?_
      refine lv_lload_n hx hb dX3_nextUp_25 rfl (lv_at hl 0 rfl) ?_
      refine pm_callI (va_runV (As := [.long p0]) (rest := []) ⟨hx, hb, hml, hown, hts⟩ (pm_X0_isInfinite l 52 (-1074) 9218868437227405312 (-9223372036854775808) dD p0) (cwV 1 hts gX3_nextUp_X0_isInfinite rfl rfl rfl hdv_X0_isInfinite ⟨Nat.le_of_ble_eq_true rfl, Nat.le_of_ble_eq_true rfl⟩) ⟨KQ.fb, va_Orecv hF.2.2.1.1 hS, fun U hU hW => ⟨rfl, (KQ.call hF.2.2.1 hS U hU hW)⟩⟩ rfl rfl hl.1 rfl (lv_room (Nat.le_of_ble_eq_true rfl)) dX3_nextUp_26 ⟨Nat.le_refl 0, Nat.le_refl 0⟩) hS (fun H locs _ _ hS => ?_)
      refine lv_if_eq (tgt := 36) hx hb dX3_nextUp_29 (by decide) (fun c_29 => ?_) (fun c_29 => ?_)
      ·
        refine lv_lload_n hx hb dX3_nextUp_36 rfl (lv_at hl 0 rfl) ?_
        refine lv_lconst (v := 1) hx hb dX3_nextUp_37 (by decide) ?_
        refine lv_ladd hx hb dX3_nextUp_38 ?_
        rw [hZ]
        exact pm_lret (w := s_X3_nextUp p0) hx hb hr hlocks hS (by exact ((((if_pos c_7).trans (if_pos c_14)).trans (if_pos c_29))).symm) dX3_nextUp_39
      ·
        refine lv_lload_n hx hb dX3_nextUp_32 rfl (lv_at hl 0 rfl) ?_
        refine lv_goto (tgt := 39) hx hb dX3_nextUp_33 (by decide) ?_
        rw [hZ]
        exact pm_lret (w := s_X3_nextUp p0) hx hb hr hlocks hS (by exact ((((if_pos c_7).trans (if_pos c_14)).trans (if_neg c_29))).symm) dX3_nextUp_39
    ·
      refine lv_lload_n hx hb dX3_nextUp_18 rfl (lv_at hl 0 rfl) ?_
      refine lv_lconst (v := 1) hx hb dX3_nextUp_19 (by decide) ?_
      refine lv_lsub hx hb dX3_nextUp_20 ?_
      rw [hZ]
      exact pm_lret (w := s_X3_nextUp p0) hx hb hr hlocks hS (by exact (((if_pos c_7).trans (if_neg c_14))).symm) dX3_nextUp_21
  ·
    refine lv_lconst (v := 1) hx hb dX3_nextUp_10 (by decide) ?_
    rw [hZ]
    exact pm_lret (w := s_X3_nextUp p0) hx hb hr hlocks hS (by exact ((if_neg c_7)).symm) dX3_nextUp_11
theorem hd_X3_scaled : yX3_scaled.cls ≠ "java/lang/invoke/MethodHandle" ∧ yX3_scaled.cls ≠ "java/lang/invoke/VarHandle" ∧ (parseMethodDescriptor yX3_scaled.desc).map (fun d => d.parameters.length) = some 2 := by decide +kernel
def s_X3_scaled_j26 (p0 : Int64) (p1 : Int32) (z_26_0 : Int32) : Int64 :=
  s_X0_pack 52 (-1074) 9218868437227405312 (-9223372036854775808) z_26_0 ((s_X0_exponent 52 (-1074) 9218868437227405312 (-9223372036854775808) p0) + p1) (s_X0_significand 52 (-1074) 9218868437227405312 (-9223372036854775808) p0)
def s_X3_scaled (p0 : Int64) (p1 : Int32) : Int64 :=
  if (s_X0_isInfinite 52 (-1074) 9218868437227405312 (-9223372036854775808) p0) = 0 then if 0 ≤ p0 then s_X3_scaled_j26 p0 p1 0
  else s_X3_scaled_j26 p0 p1 1
  else p0
set_option maxHeartbeats 4000000 in
set_option maxRecDepth 100000 in
theorem pm_X3_scaled (l : Launch) (dD dF : Nat) (p0 : Int64) (p1 : Int32) : PmL l yX3_scaled wsX3_scaled 3 73 [.long p0, .int p1] (fun U => KF dD dF pv_N U U.heap) (s_X3_scaled p0 p1) := by
  refine Met.ofW (cc := cX3_scaled) (maxL := 3) (ret := (some .long)) (by decide) rfl ?_
  intro p e s m args below meth c s₁ B hml hv
  obtain ⟨rfl, hF⟩ := hv
  have hx := B.exec
  have hb := B.bytes
  have hr := B.returns
  have hts := atoms_spec (ws := wsX3_scaled) B.pre
  have hown : s.vm.findClass RX3 = some m.cls := findClass_of_methodNamed B.named
  have hlocks := B.notSynchronized
  have hS : va_S pv_N s.heap s.heap [] := va_S.rf
  have hl := lv_entry ([.long p0, .int p1]) (n := 3) (Nat.le_of_ble_eq_true rfl)
  rw [lg_entry_eq]
  generalize (lg_sl ([.long p0, .int p1]) ++ List.replicate (3 - (lg_sl ([.long p0, .int p1])).length) Slot.unset).toArray = ls at hl ⊢
  have hl : lv_has ls 3 [(0, .long p0), (2, .int p1)] := hl
  obtain ⟨Z, hZ⟩ : ∃ z, z = MQ below (pm_QL (s_X3_scaled p0 p1)) ([.long p0, .int p1] : List Value).toArray s 0 0 pv_N := ⟨_, rfl⟩
  rw [← hZ]
  obtain ⟨Y, hY⟩ : ∃ y, y = s_X3_scaled p0 p1 := ⟨_, rfl⟩
  refine va_gets hx hb hF.1 hS hown (hts _ (List.mem_of_getElem? (i := 1) rfl)) (fun _ h9 => h9) dX3_scaled_0 ?_
  refine lv_lload_n hx hb dX3_scaled_3 rfl (lv_at hl 0 rfl) ?_
  refine pm_callI (va_runV (As := [.long p0]) (rest := []) ⟨hx, hb, hml, hown, hts⟩ (pm_X0_isInfinite l 52 (-1074) 9218868437227405312 (-9223372036854775808) dD p0) (cwV 1 hts gX3_scaled_X0_isInfinite rfl rfl rfl hdv_X0_isInfinite ⟨Nat.le_of_ble_eq_true rfl, Nat.le_of_ble_eq_true rfl⟩) ⟨KQ.fb, va_Orecv hF.2.2.1.1 hS, fun U hU hW => ⟨rfl, (KQ.call hF.2.2.1 hS U hU hW)⟩⟩ rfl rfl hl.1 rfl (lv_room (Nat.le_of_ble_eq_true rfl)) dX3_scaled_4 ⟨Nat.le_refl 0, Nat.le_refl 0⟩) hS (fun H locs _ _ hS => ?_)
  refine lv_if_eq (tgt := 12) hx hb dX3_scaled_7 (by decide) (fun c_7 => ?_) (fun c_7 => ?_)
  ·
    refine va_gets hx hb hF.1 hS hown (hts _ (List.mem_of_getElem? (i := 1) rfl)) (fun _ h9 => h9) dX3_scaled_12 ?_
    refine lv_lload_n hx hb dX3_scaled_15 rfl (lv_at hl 0 rfl) ?_
    refine lv_lconst (v := 0) hx hb dX3_scaled_16 (by decide) ?_
    have K_26 : ∀ (z_26_0 : Int32) (H : Heap) (locs : List Loc), va_S pv_N s.heap H locs → ∀ (ls : Array Slot), lv_has ls 3 [(0, .long p0), (2, .int p1)] → s_X3_scaled p0 p1 = s_X3_scaled_j26 p0 p1 z_26_0 → W p l e (pm_R 3 73) s m ([.long p0, .int p1] : List Value).toArray below meth c H locs 0 0 Z (F0 m 26 ls [.int z_26_0, .ref dD]) := by
      intro z_26_0 H locs hS ls hl hK_26
      refine va_gets hx hb hF.1 hS hown (hts _ (List.mem_of_getElem? (i := 1) rfl)) (fun _ h9 => h9) dX3_scaled_26 ?_
      refine lv_lload_n hx hb dX3_scaled_29 rfl (lv_at hl 0 rfl) ?_
      refine pm_callI (va_runV (As := [.long p0]) (rest := [.int z_26_0, .ref dD]) ⟨hx, hb, hml, hown, hts⟩ (pm_X0_exponent l 52 (-1074) 9218868437227405312 (-9223372036854775808) dD p0) (cwV 1 hts gX3_scaled_X0_exponent rfl rfl rfl hdv_X0_exponent ⟨Nat.le_of_ble_eq_true rfl, Nat.le_of_ble_eq_true rfl⟩) ⟨KQ.fb, va_Orecv hF.2.2.1.1 hS, fun U hU hW => ⟨rfl, (KQ.call hF.2.2.1 hS U hU hW)⟩⟩ rfl rfl hl.1 rfl (lv_room (Nat.le_of_ble_eq_true rfl)) dX3_scaled_30 ⟨Nat.le_refl 0, Nat.le_refl 0⟩) hS (fun H locs _ _ hS => ?_)
      refine lv_iload_n hx hb dX3_scaled_33 rfl (lv_at hl 1 rfl) ?_
      refine lv_iadd hx hb dX3_scaled_34 ?_
      refine va_gets hx hb hF.1 hS hown (hts _ (List.mem_of_getElem? (i := 1) rfl)) (fun _ h9 => h9) dX3_scaled_35 ?_
      refine lv_lload_n hx hb dX3_scaled_38 rfl (lv_at hl 0 rfl) ?_
      refine pm_callL (va_runV (As := [.long p0]) (rest := [.int ((s_X0_exponent 52 (-1074) 9218868437227405312 (-9223372036854775808) p0) + p1), .int z_26_0, .ref dD]) ⟨hx, hb, hml, hown, hts⟩ (pm_X0_significand l 52 (-1074) 9218868437227405312 (-9223372036854775808) dD p0) (cwV 1 hts gX3_scaled_X0_significand rfl rfl rfl hdv_X0_significand ⟨Nat.le_of_ble_eq_true rfl, Nat.le_of_ble_eq_true rfl⟩) ⟨KQ.fb, va_Orecv hF.2.2.1.1 hS, fun U hU hW => ⟨rfl, (KQ.call hF.2.2.1 hS U hU hW)⟩⟩ rfl rfl hl.1 rfl (lv_room (Nat.le_of_ble_eq_true rfl)) dX3_scaled_39 ⟨Nat.le_refl 0, Nat.le_refl 0⟩) hS (fun H locs _ _ hS => ?_)
      refine pm_callL (va_runV (As := [.int z_26_0, .int ((s_X0_exponent 52 (-1074) 9218868437227405312 (-9223372036854775808) p0) + p1), .long (s_X0_significand 52 (-1074) 9218868437227405312 (-9223372036854775808) p0)]) (rest := []) ⟨hx, hb, hml, hown, hts⟩ (pm_X0_pack l 52 (-1074) 9218868437227405312 (-9223372036854775808) dD z_26_0 ((s_X0_exponent 52 (-1074) 9218868437227405312 (-9223372036854775808) p0) + p1) (s_X0_significand 52 (-1074) 9218868437227405312 (-9223372036854775808) p0)) (cwV 3 hts gX3_scaled_X0_pack rfl rfl rfl hdv_X0_pack ⟨Nat.le_of_ble_eq_true rfl, Nat.le_of_ble_eq_true rfl⟩) ⟨KQ.fb, va_Orecv hF.2.2.1.1 hS, fun U hU hW => ⟨rfl, (KQ.call hF.2.2.1 hS U hU hW)⟩⟩ rfl rfl hl.1 rfl (lv_room (Nat.le_of_ble_eq_true rfl)) dX3_scaled_42 ⟨Nat.le_refl 0, Nat.le_refl 0⟩) hS (fun H locs _ _ hS => ?_)
      rw [hZ]
      exact pm_lret (w := s_X3_scaled p0 p1) hx hb hr hlocks hS (by exact (hK_26.trans rfl).symm) dX3_scaled_45
    refine lp_ge (tgt := 25) hx hb dX3_scaled_17 dX3_scaled_18 (by decide) (fun c_17 => ?_) (fun c_17 => ?_)
    ·
      refine lv_iconst (v := 0) hx hb dX3_scaled_25 (by decide) ?_
      exact K_26 0 _ _ hS ls (lv_sub hl [0, 1] rfl) (((if_pos c_7).trans (if_pos c_17)))
    ·
      refine lv_iconst (v := 1) hx hb dX3_scaled_21 (by decide) ?_
      refine lv_goto (tgt := 26) hx hb dX3_scaled_22 (by decide) ?_
      exact K_26 1 _ _ hS ls (lv_sub hl [0, 1] rfl) (((if_pos c_7).trans (if_neg c_17)))
  ·
    refine lv_lload_n hx hb dX3_scaled_10 rfl (lv_at hl 0 rfl) ?_
    rw [hZ]
    exact pm_lret (w := s_X3_scaled p0 p1) hx hb hr hlocks hS (by exact ((if_neg c_7)).symm) dX3_scaled_11
theorem hd_X3_converted : yX3_converted.cls ≠ "java/lang/invoke/MethodHandle" ∧ yX3_converted.cls ≠ "java/lang/invoke/VarHandle" ∧ (parseMethodDescriptor yX3_converted.desc).map (fun d => d.parameters.length) = some 3 := by decide +kernel
def s_X3_converted (fb1 le1 : Int32) (inf1 sb1 : Int64) (fb2 le2 : Int32) (inf2 sb2 : Int64) (p2 : Int64) : Int64 :=
  if (s_X0_isNaN fb1 le1 inf1 sb1 p2) = 0 then if (s_X0_isInfinite fb1 le1 inf1 sb1 p2) = 0 then s_X0_pack fb2 le2 inf2 sb2 (s_X0_isNegative fb1 le1 inf1 sb1 p2) (s_X0_exponent fb1 le1 inf1 sb1 p2) (s_X0_significand fb1 le1 inf1 sb1 p2)
  else if (s_X0_isNegative fb1 le1 inf1 sb1 p2) = 0 then inf2
  else sb2 ||| inf2
  else s_X0_plainNaN fb2 le2 inf2 sb2
set_option maxHeartbeats 4000000 in
set_option maxRecDepth 100000 in
theorem pm_X3_converted (l : Launch) (fb1 le1 : Int32) (inf1 sb1 : Int64) (q1 : Nat) (fb2 le2 : Int32) (inf2 sb2 : Int64) (q2 : Nat) (p2 : Int64) : PmL l yX3_converted wsX3_converted 3 73 [.ref q1, .ref q2, .long p2] (fun U => KQ fb1 le1 inf1 sb1 q1 pv_N U U.heap ∧ KQ fb2 le2 inf2 sb2 q2 pv_N U U.heap) (s_X3_converted fb1 le1 inf1 sb1 fb2 le2 inf2 sb2 p2) := by
  refine Met.ofW (cc := cX3_converted) (maxL := 5) (ret := (some .long)) (by decide) rfl ?_
  intro p e s m args below meth c s₁ B hml hv
  obtain ⟨rfl, hq1, hq2⟩ := hv
  have hx := B.exec
  have hb := B.bytes
  have hr := B.returns
  have hts := atoms_spec (ws := wsX3_converted) B.pre
  have hown : s.vm.findClass RX3 = some m.cls := findClass_of_methodNamed B.named
  have hlocks := B.notSynchronized
  have hS : va_S pv_N s.heap s.heap [] := va_S.rf
  have hl := lv_entry ([.ref q1, .ref q2, .long p2]) (n := 5) (Nat.le_of_ble_eq_true rfl)
  rw [lg_entry_eq]
  generalize (lg_sl ([.ref q1, .ref q2, .long p2]) ++ List.replicate (5 - (lg_sl ([.ref q1, .ref q2, .long p2])).length) Slot.unset).toArray = ls at hl ⊢
  have hl : lv_has ls 5 [(0, .ref q1), (1, .ref q2), (2, .long p2)] := hl
  obtain ⟨Z, hZ⟩ : ∃ z, z = MQ below (pm_QL (s_X3_converted fb1 le1 inf1 sb1 fb2 le2 inf2 sb2 p2)) ([.ref q1, .ref q2, .long p2] : List Value).toArray s 0 0 pv_N := ⟨_, rfl⟩
  rw [← hZ]
  obtain ⟨Y, hY⟩ : ∃ y, y = s_X3_converted fb1 le1 inf1 sb1 fb2 le2 inf2 sb2 p2 := ⟨_, rfl⟩
  refine lv_aload_n hx hb dX3_converted_0 rfl (lv_at hl 0 rfl) ?_
  refine lv_lload_n hx hb dX3_converted_1 rfl (lv_at hl 2 rfl) ?_
  refine pm_callI (va_runV (As := [.long p2]) (rest := []) ⟨hx, hb, hml, hown, hts⟩ (pm_X0_isNaN l fb1 le1 inf1 sb1 q1 p2) (cwV 1 hts gX3_converted_X0_isNaN rfl rfl rfl hdv_X0_isNaN ⟨Nat.le_of_ble_eq_true rfl, Nat.le_of_ble_eq_true rfl⟩) ⟨KQ.fb, va_Orecv hq1.1 hS, fun U hU hW => ⟨rfl, (KQ.call hq1 hS U hU hW)⟩⟩ rfl rfl hl.1 rfl (lv_room (Nat.le_of_ble_eq_true rfl)) dX3_converted_2 ⟨Nat.le_refl 0, Nat.le_refl 0⟩) hS (fun H locs _ _ hS => ?_)
  refine lv_if_eq (tgt := 13) hx hb dX3_converted_5 (by decide) (fun c_5 => ?_) (fun c_5 => ?_)
  ·
    refine lv_aload_n hx hb dX3_converted_13 rfl (lv_at hl 0 rfl) ?_
    refine lv_lload_n hx hb dX3_converted_14 rfl (lv_at hl 2 rfl) ?_
    refine pm_callI (va_runV (As := [.long p2]) (rest := []) ⟨hx, hb, hml, hown, hts⟩ (pm_X0_isNegative l fb1 le1 inf1 sb1 q1 p2) (cwV 1 hts gX3_converted_X0_isNegative rfl rfl rfl hdv_X0_isNegative ⟨Nat.le_of_ble_eq_true rfl, Nat.le_of_ble_eq_true rfl⟩) ⟨KQ.fb, va_Orecv hq1.1 hS, fun U hU hW => ⟨rfl, (KQ.call hq1 hS U hU hW)⟩⟩ rfl rfl hl.1 rfl (lv_room (Nat.le_of_ble_eq_true rfl)) dX3_converted_15 ⟨Nat.le_refl 0, Nat.le_refl 0⟩) hS (fun H locs _ _ hS => ?_)
    refine lv_topi (fun x_18 ex_18 => ?_)
    refine lv_istore (lv' := [(4, .int x_18), (0, .ref q1), (1, .ref q2), (2, .long p2)]) hx hb dX3_converted_18 hl (by decide) rfl (fun ls hl => ?_)
    refine lv_aload_n hx hb dX3_converted_20 rfl (lv_at hl 1 rfl) ?_
    refine lv_lload_n hx hb dX3_converted_21 rfl (lv_at hl 3 rfl) ?_
    refine pm_callI (va_runV (As := [.long p2]) (rest := []) ⟨hx, hb, hml, hown, hts⟩ (pm_X0_isInfinite l fb1 le1 inf1 sb1 q1 p2) (cwV 1 hts gX3_converted_X0_isInfinite rfl rfl rfl hdv_X0_isInfinite ⟨Nat.le_of_ble_eq_true rfl, Nat.le_of_ble_eq_true rfl⟩) ⟨KQ.fb, va_Orecv hq1.1 hS, fun U hU hW => ⟨rfl, (KQ.call hq1 hS U hU hW)⟩⟩ rfl rfl hl.1 rfl (lv_room (Nat.le_of_ble_eq_true rfl)) dX3_converted_22 ⟨Nat.le_refl 0, Nat.le_refl 0⟩) hS (fun H locs _ _ hS => ?_)
    refine lv_if_eq (tgt := 50) hx hb dX3_converted_25 (by decide) (fun c_25 => ?_) (fun c_25 => ?_)
    ·
      refine lv_aload_n hx hb dX3_converted_50 rfl (lv_at hl 2 rfl) ?_
      refine lv_iload hx hb dX3_converted_51 (lv_at hl 0 rfl) ?_
      refine lv_aload_n hx hb dX3_converted_53 rfl (lv_at hl 1 rfl) ?_
      refine lv_lload_n hx hb dX3_converted_54 rfl (lv_at hl 3 rfl) ?_
      refine pm_callI (va_runV (As := [.long p2]) (rest := [.int x_18, .ref q2]) ⟨hx, hb, hml, hown, hts⟩ (pm_X0_exponent l fb1 le1 inf1 sb1 q1 p2) (cwV 1 hts gX3_converted_X0_exponent rfl rfl rfl hdv_X0_exponent ⟨Nat.le_of_ble_eq_true rfl, Nat.le_of_ble_eq_true rfl⟩) ⟨KQ.fb, va_Orecv hq1.1 hS, fun U hU hW => ⟨rfl, (KQ.call hq1 hS U hU hW)⟩⟩ rfl rfl hl.1 rfl (lv_room (Nat.le_of_ble_eq_true rfl)) dX3_converted_55 ⟨Nat.le_refl 0, Nat.le_refl 0⟩) hS (fun H locs _ _ hS => ?_)
      refine lv_aload_n hx hb dX3_converted_58 rfl (lv_at hl 1 rfl) ?_
      refine lv_lload_n hx hb dX3_converted_59 rfl (lv_at hl 3 rfl) ?_
      refine pm_callL (va_runV (As := [.long p2]) (rest := [.int (s_X0_exponent fb1 le1 inf1 sb1 p2), .int x_18, .ref q2]) ⟨hx, hb, hml, hown, hts⟩ (pm_X0_significand l fb1 le1 inf1 sb1 q1 p2) (cwV 1 hts gX3_converted_X0_significand rfl rfl rfl hdv_X0_significand ⟨Nat.le_of_ble_eq_true rfl, Nat.le_of_ble_eq_true rfl⟩) ⟨KQ.fb, va_Orecv hq1.1 hS, fun U hU hW => ⟨rfl, (KQ.call hq1 hS U hU hW)⟩⟩ rfl rfl hl.1 rfl (lv_room (Nat.le_of_ble_eq_true rfl)) dX3_converted_60 ⟨Nat.le_refl 0, Nat.le_refl 0⟩) hS (fun H locs _ _ hS => ?_)
      refine pm_callL (va_runV (As := [.int x_18, .int (s_X0_exponent fb1 le1 inf1 sb1 p2), .long (s_X0_significand fb1 le1 inf1 sb1 p2)]) (rest := []) ⟨hx, hb, hml, hown, hts⟩ (pm_X0_pack l fb2 le2 inf2 sb2 q2 x_18 (s_X0_exponent fb1 le1 inf1 sb1 p2) (s_X0_significand fb1 le1 inf1 sb1 p2)) (cwV 3 hts gX3_converted_X0_pack rfl rfl rfl hdv_X0_pack ⟨Nat.le_of_ble_eq_true rfl, Nat.le_of_ble_eq_true rfl⟩) ⟨KQ.fb, va_Orecv hq2.1 hS, fun U hU hW => ⟨rfl, (KQ.call hq2 hS U hU hW)⟩⟩ rfl rfl hl.1 rfl (lv_room (Nat.le_of_ble_eq_true rfl)) dX3_converted_63 ⟨Nat.le_refl 0, Nat.le_refl 0⟩) hS (fun H locs _ _ hS => ?_)
      rw [hZ]
      exact pm_lret (w := s_X3_converted fb1 le1 inf1 sb1 fb2 le2 inf2 sb2 p2) hx hb hr hlocks hS (by subst ex_18; exact (((if_pos c_5).trans (if_pos c_25))).symm) dX3_converted_66
    ·
      refine lv_iload hx hb dX3_converted_28 (lv_at hl 0 rfl) ?_
      refine lv_if_eq (tgt := 45) hx hb dX3_converted_30 (by decide) (fun c_30 => ?_) (fun c_30 => ?_)
      ·
        refine lv_aload_n hx hb dX3_converted_45 rfl (lv_at hl 2 rfl) ?_
        refine vk_getf hx hb hq2.2.2.2.1 hS hown (hts _ (List.mem_of_getElem? (i := 2) rfl)) (fun _ h9 => h9) dX3_converted_46 ?_
        rw [hZ]
        exact pm_lret (w := s_X3_converted fb1 le1 inf1 sb1 fb2 le2 inf2 sb2 p2) hx hb hr hlocks hS (by subst ex_18; exact ((((if_pos c_5).trans (if_neg c_25)).trans (if_pos c_30))).symm) dX3_converted_49
      ·
        refine lv_aload_n hx hb dX3_converted_33 rfl (lv_at hl 2 rfl) ?_
        refine vk_getf hx hb hq2.2.2.2.2 hS hown (hts _ (List.mem_of_getElem? (i := 1) rfl)) (fun _ h9 => h9) dX3_converted_34 ?_
        refine lv_aload_n hx hb dX3_converted_37 rfl (lv_at hl 2 rfl) ?_
        refine vk_getf hx hb hq2.2.2.2.1 hS hown (hts _ (List.mem_of_getElem? (i := 2) rfl)) (fun _ h9 => h9) dX3_converted_38 ?_
        refine lv_lor hx hb dX3_converted_41 ?_
        refine lv_goto (tgt := 49) hx hb dX3_converted_42 (by decide) ?_
        rw [hZ]
        exact pm_lret (w := s_X3_converted fb1 le1 inf1 sb1 fb2 le2 inf2 sb2 p2) hx hb hr hlocks hS (by subst ex_18; exact ((((if_pos c_5).trans (if_neg c_25)).trans (if_neg c_30))).symm) dX3_converted_49
  ·
    refine lv_aload_n hx hb dX3_converted_8 rfl (lv_at hl 1 rfl) ?_
    refine pm_callL (va_runV (As := []) (rest := []) ⟨hx, hb, hml, hown, hts⟩ (pm_X0_plainNaN l fb2 le2 inf2 sb2 q2) (cwV 0 hts gX3_converted_X0_plainNaN rfl rfl rfl hdv_X0_plainNaN ⟨Nat.le_of_ble_eq_true rfl, Nat.le_of_ble_eq_true rfl⟩) ⟨KQ.fb, va_Orecv hq2.1 hS, fun U hU hW => ⟨rfl, (KQ.call hq2 hS U hU hW)⟩⟩ rfl rfl hl.1 rfl (lv_room (Nat.le_of_ble_eq_true rfl)) dX3_converted_9 ⟨Nat.le_refl 0, Nat.le_refl 0⟩) hS (fun H locs _ _ hS => ?_)
    rw [hZ]
    exact pm_lret (w := s_X3_converted fb1 le1 inf1 sb1 fb2 le2 inf2 sb2 p2) hx hb hr hlocks hS (by exact ((if_neg c_5)).symm) dX3_converted_12
theorem hd_X3_fromLong : yX3_fromLong.cls ≠ "java/lang/invoke/MethodHandle" ∧ yX3_fromLong.cls ≠ "java/lang/invoke/VarHandle" ∧ (parseMethodDescriptor yX3_fromLong.desc).map (fun d => d.parameters.length) = some 2 := by decide +kernel
def s_X3_fromLong_j30 (fb1 le1 : Int32) (inf1 sb1 : Int64) (p1 : Int64) (z_30_0 : Int32) : Int64 :=
  s_X0_pack fb1 le1 inf1 sb1 z_30_0 0 (if 0 < p1 then p1 else -p1)
def s_X3_fromLong (fb1 le1 : Int32) (inf1 sb1 : Int64) (p1 : Int64) : Int64 :=
  if p1 = (-9223372036854775808) then s_X0_pack fb1 le1 inf1 sb1 1 1 (4611686018427387904)
  else if 0 ≤ p1 then s_X3_fromLong_j30 fb1 le1 inf1 sb1 p1 0
  else s_X3_fromLong_j30 fb1 le1 inf1 sb1 p1 1
set_option maxHeartbeats 4000000 in
set_option maxRecDepth 100000 in
theorem pm_X3_fromLong (l : Launch) (fb1 le1 : Int32) (inf1 sb1 : Int64) (q1 : Nat) (p1 : Int64) : PmL l yX3_fromLong wsX3_fromLong 2 58 [.ref q1, .long p1] (fun U => KQ fb1 le1 inf1 sb1 q1 pv_N U U.heap) (s_X3_fromLong fb1 le1 inf1 sb1 p1) := by
  refine Met.ofW (cc := cX3_fromLong) (maxL := 3) (ret := (some .long)) (by decide) rfl ?_
  intro p e s m args below meth c s₁ B hml hv
  obtain ⟨rfl, hq1⟩ := hv
  have hx := B.exec
  have hb := B.bytes
  have hr := B.returns
  have hts := atoms_spec (ws := wsX3_fromLong) B.pre
  have hown : s.vm.findClass RX3 = some m.cls := findClass_of_methodNamed B.named
  have hlocks := B.notSynchronized
  have hS : va_S pv_N s.heap s.heap [] := va_S.rf
  have hl := lv_entry ([.ref q1, .long p1]) (n := 3) (Nat.le_of_ble_eq_true rfl)
  rw [lg_entry_eq]
  generalize (lg_sl ([.ref q1, .long p1]) ++ List.replicate (3 - (lg_sl ([.ref q1, .long p1])).length) Slot.unset).toArray = ls at hl ⊢
  have hl : lv_has ls 3 [(0, .ref q1), (1, .long p1)] := hl
  obtain ⟨Z, hZ⟩ : ∃ z, z = MQ below (pm_QL (s_X3_fromLong fb1 le1 inf1 sb1 p1)) ([.ref q1, .long p1] : List Value).toArray s 0 0 pv_N := ⟨_, rfl⟩
  rw [← hZ]
  obtain ⟨Y, hY⟩ : ∃ y, y = s_X3_fromLong fb1 le1 inf1 sb1 p1 := ⟨_, rfl⟩
  refine lv_lload_n hx hb dX3_fromLong_0 rfl (lv_at hl 1 rfl) ?_
  refine lv_ldc2 (v := (-9223372036854775808)) hx hb hown (hts _ (List.mem_of_getElem? (i := 1) rfl)) dX3_fromLong_1 ?_
  refine lp_ne (tgt := 18) hx hb dX3_fromLong_4 dX3_fromLong_5 (by decide) (fun c_4 => ?_) (fun c_4 => ?_)
  ·
    refine lv_aload_n hx hb dX3_fromLong_18 rfl (lv_at hl 0 rfl) ?_
    refine lv_lload_n hx hb dX3_fromLong_19 rfl (lv_at hl 1 rfl) ?_
    refine lv_lconst (v := 0) hx hb dX3_fromLong_20 (by decide) ?_
    have K_30 : ∀ (z_30_0 : Int32) (H : Heap) (locs : List Loc), va_S pv_N s.heap H locs → ∀ (ls : Array Slot), lv_has ls 3 [(1, .long p1)] → s_X3_fromLong fb1 le1 inf1 sb1 p1 = s_X3_fromLong_j30 fb1 le1 inf1 sb1 p1 z_30_0 → W p l e (pm_R 2 58) s m ([.ref q1, .long p1] : List Value).toArray below meth c H locs 0 0 Z (F0 m 30 ls [.int z_30_0, .ref q1]) := by
      intro z_30_0 H locs hS ls hl hK_30
      refine lv_iconst (v := 0) hx hb dX3_fromLong_30 (by decide) ?_
      refine lv_lload_n hx hb dX3_fromLong_31 rfl (lv_at hl 0 rfl) ?_
      refine va_mabs_long hx hb (hml.trans hl.1.symm) hown (hts _ (List.mem_of_getElem? (i := 3) rfl)) (hts _ (List.mem_of_getElem? (i := 4) rfl)) (hts _ (List.mem_of_getElem? (i := 5) rfl)) (hts _ (List.mem_of_getElem? (i := 6) rfl)) (Nat.le_of_ble_eq_true rfl) (Nat.le_of_ble_eq_true rfl) (Nat.le_refl 0) (Nat.le_refl 0) dX3_fromLong_32 ?_
      refine pm_callL (va_runV (As := [.int z_30_0, .int 0, .long (if 0 < p1 then p1 else -p1)]) (rest := []) ⟨hx, hb, hml, hown, hts⟩ (pm_X0_pack l fb1 le1 inf1 sb1 q1 z_30_0 0 (if 0 < p1 then p1 else -p1)) (cwV 3 hts gX3_fromLong_X0_pack rfl rfl rfl hdv_X0_pack ⟨Nat.le_of_ble_eq_true rfl, Nat.le_of_ble_eq_true rfl⟩) ⟨KQ.fb, va_Orecv hq1.1 hS, fun U hU hW => ⟨rfl, (KQ.call hq1 hS U hU hW)⟩⟩ rfl rfl hl.1 rfl (lv_room (Nat.le_of_ble_eq_true rfl)) dX3_fromLong_35 ⟨Nat.le_refl 0, Nat.le_refl 0⟩) hS (fun H locs _ _ hS => ?_)
      rw [hZ]
      exact pm_lret (w := s_X3_fromLong fb1 le1 inf1 sb1 p1) hx hb hr hlocks hS (by exact (hK_30.trans rfl).symm) dX3_fromLong_38
    refine lp_ge (tgt := 29) hx hb dX3_fromLong_21 dX3_fromLong_22 (by decide) (fun c_21 => ?_) (fun c_21 => ?_)
    ·
      refine lv_iconst (v := 0) hx hb dX3_fromLong_29 (by decide) ?_
      exact K_30 0 _ _ hS ls (lv_sub hl [1] rfl) (((if_neg c_4).trans (if_pos c_21)))
    ·
      refine lv_iconst (v := 1) hx hb dX3_fromLong_25 (by decide) ?_
      refine lv_goto (tgt := 30) hx hb dX3_fromLong_26 (by decide) ?_
      exact K_30 1 _ _ hS ls (lv_sub hl [1] rfl) (((if_neg c_4).trans (if_neg c_21)))
  ·
    refine lv_aload_n hx hb dX3_fromLong_8 rfl (lv_at hl 0 rfl) ?_
    refine lv_iconst (v := 1) hx hb dX3_fromLong_9 (by decide) ?_
    refine lv_iconst (v := 1) hx hb dX3_fromLong_10 (by decide) ?_
    refine lv_ldc2 (v := (4611686018427387904)) hx hb hown (hts _ (List.mem_of_getElem? (i := 2) rfl)) dX3_fromLong_11 ?_
    refine pm_callL (va_runV (As := [.int 1, .int 1, .long (4611686018427387904)]) (rest := []) ⟨hx, hb, hml, hown, hts⟩ (pm_X0_pack l fb1 le1 inf1 sb1 q1 1 1 (4611686018427387904)) (cwV 3 hts gX3_fromLong_X0_pack rfl rfl rfl hdv_X0_pack ⟨Nat.le_of_ble_eq_true rfl, Nat.le_of_ble_eq_true rfl⟩) ⟨KQ.fb, va_Orecv hq1.1 hS, fun U hU hW => ⟨rfl, (KQ.call hq1 hS U hU hW)⟩⟩ rfl rfl hl.1 rfl (lv_room (Nat.le_of_ble_eq_true rfl)) dX3_fromLong_14 ⟨Nat.le_refl 0, Nat.le_refl 0⟩) hS (fun H locs _ _ hS => ?_)
    rw [hZ]
    exact pm_lret (w := s_X3_fromLong fb1 le1 inf1 sb1 p1) hx hb hr hlocks hS (by exact ((if_pos c_4)).symm) dX3_fromLong_17
theorem hd_X3_toLong : yX3_toLong.cls ≠ "java/lang/invoke/MethodHandle" ∧ yX3_toLong.cls ≠ "java/lang/invoke/VarHandle" ∧ (parseMethodDescriptor yX3_toLong.desc).map (fun d => d.parameters.length) = some 1 := by decide +kernel
def s_X3_toLong_j72 (p0 : Int64) (z_72_0 : Int64) : Int64 :=
  if 0 ≤ p0 then z_72_0
  else -z_72_0
def s_X3_toLong (p0 : Int64) : Int64 :=
  if (s_X0_isNaN 52 (-1074) 9218868437227405312 (-9223372036854775808) p0) = 0 then if (s_X3_power p0) < 63 then if (s_X0_exponent 52 (-1074) 9218868437227405312 (-9223372036854775808) p0) < 0 then s_X3_toLong_j72 p0 (lUshr (s_X0_significand 52 (-1074) 9218868437227405312 (-9223372036854775808) p0) (if 63 < (-(s_X0_exponent 52 (-1074) 9218868437227405312 (-9223372036854775808) p0)) then 63 else (-(s_X0_exponent 52 (-1074) 9218868437227405312 (-9223372036854775808) p0))))
  else s_X3_toLong_j72 p0 (lShl (s_X0_significand 52 (-1074) 9218868437227405312 (-9223372036854775808) p0) (s_X0_exponent 52 (-1074) 9218868437227405312 (-9223372036854775808) p0))
  else if 0 ≤ p0 then (9223372036854775807)
  else (-9223372036854775808)
  else 0
set_option maxHeartbeats 4000000 in
set_option maxRecDepth 100000 in
theorem pm_X3_toLong (l : Launch) (dD dF : Nat) (p0 : Int64) : PmL l yX3_toLong wsX3_toLong 3 73 [.long p0] (fun U => KF dD dF pv_N U U.heap) (s_X3_toLong p0) := by
  refine Met.ofW (cc := cX3_toLong) (maxL := 7) (ret := (some .long)) (by decide) rfl ?_
  intro p e s m args below meth c s₁ B hml hv
  obtain ⟨rfl, hF⟩ := hv
  have hx := B.exec
  have hb := B.bytes
  have hr := B.returns
  have hts := atoms_spec (ws := wsX3_toLong) B.pre
  have hown : s.vm.findClass RX3 = some m.cls := findClass_of_methodNamed B.named
  have hlocks := B.notSynchronized
  have hS : va_S pv_N s.heap s.heap [] := va_S.rf
  have hl := lv_entry ([.long p0]) (n := 7) (Nat.le_of_ble_eq_true rfl)
  rw [lg_entry_eq]
  generalize (lg_sl ([.long p0]) ++ List.replicate (7 - (lg_sl ([.long p0])).length) Slot.unset).toArray = ls at hl ⊢
  have hl : lv_has ls 7 [(0, .long p0)] := hl
  obtain ⟨Z, hZ⟩ : ∃ z, z = MQ below (pm_QL (s_X3_toLong p0)) ([.long p0] : List Value).toArray s 0 0 pv_N := ⟨_, rfl⟩
  rw [← hZ]
  obtain ⟨Y, hY⟩ : ∃ y, y = s_X3_toLong p0 := ⟨_, rfl⟩
  refine va_gets hx hb hF.1 hS hown (hts _ (List.mem_of_getElem? (i := 1) rfl)) (fun _ h9 => h9) dX3_toLong_0 ?_
  refine lv_lload_n hx hb dX3_toLong_3 rfl (lv_at hl 0 rfl) ?_
  refine pm_callI (va_runV (As := [.long p0]) (rest := []) ⟨hx, hb, hml, hown, hts⟩ (pm_X0_isNaN l 52 (-1074) 9218868437227405312 (-9223372036854775808) dD p0) (cwV 1 hts gX3_toLong_X0_isNaN rfl rfl rfl hdv_X0_isNaN ⟨Nat.le_of_ble_eq_true rfl, Nat.le_of_ble_eq_true rfl⟩) ⟨KQ.fb, va_Orecv hF.2.2.1.1 hS, fun U hU hW => ⟨rfl, (KQ.call hF.2.2.1 hS U hU hW)⟩⟩ rfl rfl hl.1 rfl (lv_room (Nat.le_of_ble_eq_true rfl)) dX3_toLong_4 ⟨Nat.le_refl 0, Nat.le_refl 0⟩) hS (fun H locs _ _ hS => ?_)
  refine lv_if_eq (tgt := 12) hx hb dX3_toLong_7 (by decide) (fun c_7 => ?_) (fun c_7 => ?_)
  ·
    refine lv_lload_n hx hb dX3_toLong_12 rfl (lv_at hl 0 rfl) ?_
    refine pm_callI (va_runS (As := [.long p0]) (rest := []) ⟨hx, hb, hml, hown, hts⟩ (pm_X3_power l dD dF p0) (va_cwS 1 hts gX3_toLong_X3_power rfl rfl rfl hd_X3_power ⟨Nat.le_of_ble_eq_true rfl, Nat.le_of_ble_eq_true rfl⟩) ⟨KF.fb, fun U hU hW => ⟨rfl, (KF.call hF hS U hU hW)⟩⟩ rfl rfl hl.1 rfl (lv_room (Nat.le_of_ble_eq_true rfl)) dX3_toLong_13 ⟨Nat.le_refl 0, Nat.le_refl 0⟩) hS (fun H locs _ _ hS => ?_)
    refine lv_bipush (v := 63) hx hb dX3_toLong_16 (by decide) ?_
    refine lv_icmp_lt (tgt := 37) hx hb dX3_toLong_18 (by decide) (fun c_18 => ?_) (fun c_18 => ?_)
    ·
      refine va_gets hx hb hF.1 hS hown (hts _ (List.mem_of_getElem? (i := 1) rfl)) (fun _ h9 => h9) dX3_toLong_37 ?_
      refine lv_lload_n hx hb dX3_toLong_40 rfl (lv_at hl 0 rfl) ?_
      refine pm_callI (va_runV (As := [.long p0]) (rest := []) ⟨hx, hb, hml, hown, hts⟩ (pm_X0_exponent l 52 (-1074) 9218868437227405312 (-9223372036854775808) dD p0) (cwV 1 hts gX3_toLong_X0_exponent rfl rfl rfl hdv_X0_exponent ⟨Nat.le_of_ble_eq_true rfl, Nat.le_of_ble_eq_true rfl⟩) ⟨KQ.fb, va_Orecv hF.2.2.1.1 hS, fun U hU hW => ⟨rfl, (KQ.call hF.2.2.1 hS U hU hW)⟩⟩ rfl rfl hl.1 rfl (lv_room (Nat.le_of_ble_eq_true rfl)) dX3_toLong_41 ⟨Nat.le_refl 0, Nat.le_refl 0⟩) hS (fun H locs _ _ hS => ?_)
      refine lv_topi (fun x_44 ex_44 => ?_)
      refine lv_istore_n (lv' := [(2, .int x_44), (0, .long p0)]) hx hb dX3_toLong_44 rfl hl (by decide) rfl (fun ls hl => ?_)
      refine va_gets hx hb hF.1 hS hown (hts _ (List.mem_of_getElem? (i := 1) rfl)) (fun _ h9 => h9) dX3_toLong_45 ?_
      refine lv_lload_n hx hb dX3_toLong_48 rfl (lv_at hl 1 rfl) ?_
      refine pm_callL (va_runV (As := [.long p0]) (rest := []) ⟨hx, hb, hml, hown, hts⟩ (pm_X0_significand l 52 (-1074) 9218868437227405312 (-9223372036854775808) dD p0) (cwV 1 hts gX3_toLong_X0_significand rfl rfl rfl hdv_X0_significand ⟨Nat.le_of_ble_eq_true rfl, Nat.le_of_ble_eq_true rfl⟩) ⟨KQ.fb, va_Orecv hF.2.2.1.1 hS, fun U hU hW => ⟨rfl, (KQ.call hF.2.2.1 hS U hU hW)⟩⟩ rfl rfl hl.1 rfl (lv_room (Nat.le_of_ble_eq_true rfl)) dX3_toLong_49 ⟨Nat.le_refl 0, Nat.le_refl 0⟩) hS (fun H locs _ _ hS => ?_)
      refine lv_topl (fun x_52 ex_52 => ?_)
      refine lv_lstore_n (lv' := [(3, .long x_52), (2, .int x_44), (0, .long p0)]) hx hb dX3_toLong_52 rfl hl (by decide) rfl (fun ls hl => ?_)
      refine lv_iload_n hx hb dX3_toLong_53 rfl (lv_at hl 1 rfl) ?_
      have K_72 : ∀ (z_72_0 : Int64) (H : Heap) (locs : List Loc), va_S pv_N s.heap H locs → ∀ (ls : Array Slot), lv_has ls 7 [(0, .long p0)] → s_X3_toLong p0 = s_X3_toLong_j72 p0 z_72_0 → W p l e (pm_R 3 73) s m ([.long p0] : List Value).toArray below meth c H locs 0 0 Z (F0 m 72 ls [.long z_72_0]) := by
        intro z_72_0 H locs hS ls hl hK_72
        refine lv_lstore (lv' := [(5, .long z_72_0), (0, .long p0)]) hx hb dX3_toLong_72 hl (by decide) rfl (fun ls hl => ?_)
        refine lv_lload_n hx hb dX3_toLong_74 rfl (lv_at hl 1 rfl) ?_
        refine lv_lconst (v := 0) hx hb dX3_toLong_75 (by decide) ?_
        refine lp_ge (tgt := 86) hx hb dX3_toLong_76 dX3_toLong_77 (by decide) (fun c_76 => ?_) (fun c_76 => ?_)
        ·
          refine lv_lload hx hb dX3_toLong_86 (lv_at hl 0 rfl) ?_
          rw [hZ]
          exact pm_lret (w := s_X3_toLong p0) hx hb hr hlocks hS (by subst ex_52 ex_44; exact (hK_72.trans (if_pos c_76)).symm) dX3_toLong_88
        ·
          refine lv_lload hx hb dX3_toLong_80 (lv_at hl 0 rfl) ?_
          refine lv_lneg hx hb dX3_toLong_82 ?_
          refine lv_goto (tgt := 88) hx hb dX3_toLong_83 (by decide) ?_
          rw [hZ]
          exact pm_lret (w := s_X3_toLong p0) hx hb hr hlocks hS (by subst ex_52 ex_44; exact (hK_72.trans (if_neg c_76)).symm) dX3_toLong_88
      refine lv_if_lt (tgt := 63) hx hb dX3_toLong_54 (by decide) (fun c_54 => ?_) (fun c_54 => ?_)
      ·
        refine lv_lload_n hx hb dX3_toLong_63 rfl (lv_at hl 0 rfl) ?_
        refine lv_iload_n hx hb dX3_toLong_64 rfl (lv_at hl 1 rfl) ?_
        refine lv_ineg hx hb dX3_toLong_65 ?_
        refine lv_bipush (v := 63) hx hb dX3_toLong_66 (by decide) ?_
        refine va_mmin hx hb (hml.trans hl.1.symm) hown (hts _ (List.mem_of_getElem? (i := 4) rfl)) (hts _ (List.mem_of_getElem? (i := 5) rfl)) (hts _ (List.mem_of_getElem? (i := 6) rfl)) (hts _ (List.mem_of_getElem? (i := 7) rfl)) (Nat.le_of_ble_eq_true rfl) (Nat.le_of_ble_eq_true rfl) (Nat.le_refl 0) (Nat.le_refl 0) dX3_toLong_68 ?_
        refine lv_lushr (v := lUshr x_52 (if 63 < (-x_44) then 63 else (-x_44))) hx hb dX3_toLong_71 rfl ?_
        exact K_72 (lUshr x_52 (if 63 < (-x_44) then 63 else (-x_44))) _ _ hS ls (lv_sub hl [2] rfl) (by subst ex_52 ex_44; exact (((if_pos c_7).trans (if_pos c_18)).trans (if_pos c_54)))
      ·
        refine lv_lload_n hx hb dX3_toLong_57 rfl (lv_at hl 0 rfl) ?_
        refine lv_iload_n hx hb dX3_toLong_58 rfl (lv_at hl 1 rfl) ?_
        refine lv_lshl (v := lShl x_52 x_44) hx hb dX3_toLong_59 rfl ?_
        refine lv_goto (tgt := 72) hx hb dX3_toLong_60 (by decide) ?_
        exact K_72 (lShl x_52 x_44) _ _ hS ls (lv_sub hl [2] rfl) (by subst ex_52 ex_44; exact (((if_pos c_7).trans (if_pos c_18)).trans (if_neg c_54)))
    ·
      refine lv_lload_n hx hb dX3_toLong_21 rfl (lv_at hl 0 rfl) ?_
      refine lv_lconst (v := 0) hx hb dX3_toLong_22 (by decide) ?_
      refine lp_ge (tgt := 33) hx hb dX3_toLong_23 dX3_toLong_24 (by decide) (fun c_23 => ?_) (fun c_23 => ?_)
      ·
        refine lv_ldc2 (v := (9223372036854775807)) hx hb hown (hts _ (List.mem_of_getElem? (i := 3) rfl)) dX3_toLong_33 ?_
        rw [hZ]
        exact pm_lret (w := s_X3_toLong p0) hx hb hr hlocks hS (by exact ((((if_pos c_7).trans (if_neg c_18)).trans (if_pos c_23))).symm) dX3_toLong_36
      ·
        refine lv_ldc2 (v := (-9223372036854775808)) hx hb hown (hts _ (List.mem_of_getElem? (i := 2) rfl)) dX3_toLong_27 ?_
        refine lv_goto (tgt := 36) hx hb dX3_toLong_30 (by decide) ?_
        rw [hZ]
        exact pm_lret (w := s_X3_toLong p0) hx hb hr hlocks hS (by exact ((((if_pos c_7).trans (if_neg c_18)).trans (if_neg c_23))).symm) dX3_toLong_36
  ·
    refine lv_lconst (v := 0) hx hb dX3_toLong_10 (by decide) ?_
    rw [hZ]
    exact pm_lret (w := s_X3_toLong p0) hx hb hr hlocks hS (by exact ((if_neg c_7)).symm) dX3_toLong_11
theorem hd_X3_toInt : yX3_toInt.cls ≠ "java/lang/invoke/MethodHandle" ∧ yX3_toInt.cls ≠ "java/lang/invoke/VarHandle" ∧ (parseMethodDescriptor yX3_toInt.desc).map (fun d => d.parameters.length) = some 1 := by decide +kernel
def s_X3_toInt (p0 : Int64) : Int32 :=
  (if (-2147483648) < (if (2147483647) < (s_X3_toLong p0) then (2147483647) else (s_X3_toLong p0)) then (if (2147483647) < (s_X3_toLong p0) then (2147483647) else (s_X3_toLong p0)) else (-2147483648)).toInt32
set_option maxHeartbeats 4000000 in
set_option maxRecDepth 100000 in
theorem pm_X3_toInt (l : Launch) (dD dF : Nat) (p0 : Int64) : PmI l yX3_toInt wsX3_toInt 4 99 [.long p0] (fun U => KF dD dF pv_N U U.heap) (s_X3_toInt p0) := by
  refine Met.ofW (cc := cX3_toInt) (maxL := 2) (ret := (some .int)) (by decide) rfl ?_
  intro p e s m args below meth c s₁ B hml hv
  obtain ⟨rfl, hF⟩ := hv
  have hx := B.exec
  have hb := B.bytes
  have hr := B.returns
  have hts := atoms_spec (ws := wsX3_toInt) B.pre
  have hown : s.vm.findClass RX3 = some m.cls := findClass_of_methodNamed B.named
  have hlocks := B.notSynchronized
  have hS : va_S pv_N s.heap s.heap [] := va_S.rf
  have hl := lv_entry ([.long p0]) (n := 2) (Nat.le_of_ble_eq_true rfl)
  rw [lg_entry_eq]
  generalize (lg_sl ([.long p0]) ++ List.replicate (2 - (lg_sl ([.long p0])).length) Slot.unset).toArray = ls at hl ⊢
  have hl : lv_has ls 2 [(0, .long p0)] := hl
  obtain ⟨Z, hZ⟩ : ∃ z, z = MQ below (pm_QI (s_X3_toInt p0)) ([.long p0] : List Value).toArray s 0 0 pv_N := ⟨_, rfl⟩
  rw [← hZ]
  obtain ⟨Y, hY⟩ : ∃ y, y = s_X3_toInt p0 := ⟨_, rfl⟩
  refine lv_lload_n hx hb dX3_toInt_0 rfl (lv_at hl 0 rfl) ?_
  refine pm_callL (va_runS (As := [.long p0]) (rest := []) ⟨hx, hb, hml, hown, hts⟩ (pm_X3_toLong l dD dF p0) (va_cwS 1 hts gX3_toInt_X3_toLong rfl rfl rfl hd_X3_toLong ⟨Nat.le_of_ble_eq_true rfl, Nat.le_of_ble_eq_true rfl⟩) ⟨KF.fb, fun U hU hW => ⟨rfl, (KF.call hF hS U hU hW)⟩⟩ rfl rfl hl.1 rfl (lv_room (Nat.le_of_ble_eq_true rfl)) dX3_toInt_1 ⟨Nat.le_refl 0, Nat.le_refl 0⟩) hS (fun H locs _ _ hS => ?_)
  refine lv_ldc2 (v := (2147483647)) hx hb hown (hts _ (List.mem_of_getElem? (i := 1) rfl)) dX3_toInt_4 ?_
  refine va_mmin_long hx hb (hml.trans hl.1.symm) hown (hts _ (List.mem_of_getElem? (i := 2) rfl)) (hts _ (List.mem_of_getElem? (i := 3) rfl)) (hts _ (List.mem_of_getElem? (i := 4) rfl)) (hts _ (List.mem_of_getElem? (i := 5) rfl)) (Nat.le_of_ble_eq_true rfl) (Nat.le_of_ble_eq_true rfl) (Nat.le_refl 0) (Nat.le_refl 0) dX3_toInt_7 ?_
  refine lv_ldc2 (v := (-2147483648)) hx hb hown (hts _ (List.mem_of_getElem? (i := 6) rfl)) dX3_toInt_10 ?_
  refine va_mmax_long hx hb (hml.trans hl.1.symm) hown (hts _ (List.mem_of_getElem? (i := 7) rfl)) (hts _ (List.mem_of_getElem? (i := 8) rfl)) (hts _ (List.mem_of_getElem? (i := 4) rfl)) (hts _ (List.mem_of_getElem? (i := 9) rfl)) (Nat.le_of_ble_eq_true rfl) (Nat.le_of_ble_eq_true rfl) (Nat.le_refl 0) (Nat.le_refl 0) dX3_toInt_13 ?_
  refine lv_l2i (v := (if (-2147483648) < (if (2147483647) < (s_X3_toLong p0) then (2147483647) else (s_X3_toLong p0)) then (if (2147483647) < (s_X3_toLong p0) then (2147483647) else (s_X3_toLong p0)) else (-2147483648)).toInt32) hx hb dX3_toInt_16 rfl ?_
  rw [hZ]
  exact pm_iret (w := s_X3_toInt p0) hx hb hr hlocks hS (by exact rfl) dX3_toInt_17
theorem hd_X3_mathOfNumber : yX3_mathOfNumber.cls ≠ "java/lang/invoke/MethodHandle" ∧ yX3_mathOfNumber.cls ≠ "java/lang/invoke/VarHandle" ∧ (parseMethodDescriptor yX3_mathOfNumber.desc).map (fun d => d.parameters.length) = some 2 := by decide +kernel
def s_X3_mathOfNumber (p0 : Int32) (p1 : Int64) : Int64 :=
  if p0 = 0 then s_X3_floor p1
  else if p0 = 1 then (s_X3_floor (p1 ^^^ (-9223372036854775808))) ^^^ (-9223372036854775808)
  else if p0 = 2 then s_X3_nearestWhole p1
  else if p0 = 3 then if (s_X0_isZero 52 (-1074) 9218868437227405312 (-9223372036854775808) p1) = 0 then (p1 &&& (-9223372036854775808)) ||| (4607182418800017408)
  else p1
  else if p0 = 4 then s_X0_magnitude 52 (-1074) 9218868437227405312 (-9223372036854775808) p1
  else if p0 = 5 then s_X3_distanceToNext p1
  else if p0 = 6 then s_X3_nextUp p1
  else if p0 = 7 then s_X3_scaled p1 3
  else s_X3_scaled p1 (-3)
set_option maxHeartbeats 4000000 in
set_option maxRecDepth 100000 in
theorem pm_X3_mathOfNumber (l : Launch) (dD dF : Nat) (p0 : Int32) (p1 : Int64) : PmL l yX3_mathOfNumber wsX3_mathOfNumber 4 96 [.int p0, .long p1] (fun U => KF dD dF pv_N U U.heap) (s_X3_mathOfNumber p0 p1) := by
  refine Met.ofW (cc := cX3_mathOfNumber) (maxL := 3) (ret := (some .long)) (by decide) rfl ?_
  intro p e s m args below meth c s₁ B hml hv
  obtain ⟨rfl, hF⟩ := hv
  have hx := B.exec
  have hb := B.bytes
  have hr := B.returns
  have hts := atoms_spec (ws := wsX3_mathOfNumber) B.pre
  have hown : s.vm.findClass RX3 = some m.cls := findClass_of_methodNamed B.named
  have hlocks := B.notSynchronized
  have hS : va_S pv_N s.heap s.heap [] := va_S.rf
  have hl := lv_entry ([.int p0, .long p1]) (n := 3) (Nat.le_of_ble_eq_true rfl)
  rw [lg_entry_eq]
  generalize (lg_sl ([.int p0, .long p1]) ++ List.replicate (3 - (lg_sl ([.int p0, .long p1])).length) Slot.unset).toArray = ls at hl ⊢
  have hl : lv_has ls 3 [(0, .int p0), (1, .long p1)] := hl
  obtain ⟨Z, hZ⟩ : ∃ z, z = MQ below (pm_QL (s_X3_mathOfNumber p0 p1)) ([.int p0, .long p1] : List Value).toArray s 0 0 pv_N := ⟨_, rfl⟩
  rw [← hZ]
  obtain ⟨Y, hY⟩ : ∃ y, y = s_X3_mathOfNumber p0 p1 := ⟨_, rfl⟩
  refine lv_iload_n hx hb dX3_mathOfNumber_0 rfl (lv_at hl 0 rfl) ?_
  by_cases c_1_0 : p0 = 0
  · refine lv_tableIn (off := 47) (tgt := 48) hx hb dX3_mathOfNumber_1 (by rw [c_1_0]; decide) (by rw [c_1_0]; decide) (by rw [c_1_0]; decide) (by decide) ?_
    refine lv_lload_n hx hb dX3_mathOfNumber_48 rfl (lv_at hl 1 rfl) ?_
    refine pm_callL (va_runS (As := [.long p1]) (rest := []) ⟨hx, hb, hml, hown, hts⟩ (pm_X3_floor l dD dF p1) (va_cwS 1 hts gX3_mathOfNumber_X3_floor rfl rfl rfl hd_X3_floor ⟨Nat.le_of_ble_eq_true rfl, Nat.le_of_ble_eq_true rfl⟩) ⟨KF.fb, fun U hU hW => ⟨rfl, (KF.call hF hS U hU hW)⟩⟩ rfl rfl hl.1 rfl (lv_room (Nat.le_of_ble_eq_true rfl)) dX3_mathOfNumber_49 ⟨Nat.le_refl 0, Nat.le_refl 0⟩) hS (fun H locs _ _ hS => ?_)
    rw [hZ]
    exact pm_lret (w := s_X3_mathOfNumber p0 p1) hx hb hr hlocks hS (by exact ((if_pos c_1_0)).symm) dX3_mathOfNumber_52
  ·
    by_cases c_1_1 : p0 = 1
    · refine lv_tableIn (off := 52) (tgt := 53) hx hb dX3_mathOfNumber_1 (by rw [c_1_1]; decide) (by rw [c_1_1]; decide) (by rw [c_1_1]; decide) (by decide) ?_
      refine lv_lload_n hx hb dX3_mathOfNumber_53 rfl (lv_at hl 1 rfl) ?_
      refine lv_ldc2 (v := (-9223372036854775808)) hx hb hown (hts _ (List.mem_of_getElem? (i := 1) rfl)) dX3_mathOfNumber_54 ?_
      refine lv_lxor hx hb dX3_mathOfNumber_57 ?_
      refine pm_callL (va_runS (As := [.long (p1 ^^^ (-9223372036854775808))]) (rest := []) ⟨hx, hb, hml, hown, hts⟩ (pm_X3_floor l dD dF (p1 ^^^ (-9223372036854775808))) (va_cwS 1 hts gX3_mathOfNumber_X3_floor rfl rfl rfl hd_X3_floor ⟨Nat.le_of_ble_eq_true rfl, Nat.le_of_ble_eq_true rfl⟩) ⟨KF.fb, fun U hU hW => ⟨rfl, (KF.call hF hS U hU hW)⟩⟩ rfl rfl hl.1 rfl (lv_room (Nat.le_of_ble_eq_true rfl)) dX3_mathOfNumber_58 ⟨Nat.le_refl 0, Nat.le_refl 0⟩) hS (fun H locs _ _ hS => ?_)
      refine lv_ldc2 (v := (-9223372036854775808)) hx hb hown (hts _ (List.mem_of_getElem? (i := 1) rfl)) dX3_mathOfNumber_61 ?_
      refine lv_lxor hx hb dX3_mathOfNumber_64 ?_
      rw [hZ]
      exact pm_lret (w := s_X3_mathOfNumber p0 p1) hx hb hr hlocks hS (by exact (((if_neg c_1_0).trans (if_pos c_1_1))).symm) dX3_mathOfNumber_65
    ·
      by_cases c_1_2 : p0 = 2
      · refine lv_tableIn (off := 65) (tgt := 66) hx hb dX3_mathOfNumber_1 (by rw [c_1_2]; decide) (by rw [c_1_2]; decide) (by rw [c_1_2]; decide) (by decide) ?_
        refine lv_lload_n hx hb dX3_mathOfNumber_66 rfl (lv_at hl 1 rfl) ?_
        refine pm_callL (va_runS (As := [.long p1]) (rest := []) ⟨hx, hb, hml, hown, hts⟩ (pm_X3_nearestWhole l dD dF p1) (va_cwS 1 hts gX3_mathOfNumber_X3_nearestWhole rfl rfl rfl hd_X3_nearestWhole ⟨Nat.le_of_ble_eq_true rfl, Nat.le_of_ble_eq_true rfl⟩) ⟨KF.fb, fun U hU hW => ⟨rfl, (KF.call hF hS U hU hW)⟩⟩ rfl rfl hl.1 rfl (lv_room (Nat.le_of_ble_eq_true rfl)) dX3_mathOfNumber_67 ⟨Nat.le_refl 0, Nat.le_refl 0⟩) hS (fun H locs _ _ hS => ?_)
        rw [hZ]
        exact pm_lret (w := s_X3_mathOfNumber p0 p1) hx hb hr hlocks hS (by exact ((((if_neg c_1_0).trans (if_neg c_1_1)).trans (if_pos c_1_2))).symm) dX3_mathOfNumber_70
      ·
        by_cases c_1_3 : p0 = 3
        · refine lv_tableIn (off := 70) (tgt := 71) hx hb dX3_mathOfNumber_1 (by rw [c_1_3]; decide) (by rw [c_1_3]; decide) (by rw [c_1_3]; decide) (by decide) ?_
          refine va_gets hx hb hF.1 hS hown (hts _ (List.mem_of_getElem? (i := 2) rfl)) (fun _ h9 => h9) dX3_mathOfNumber_71 ?_
          refine lv_lload_n hx hb dX3_mathOfNumber_74 rfl (lv_at hl 1 rfl) ?_
          refine pm_callI (va_runV (As := [.long p1]) (rest := []) ⟨hx, hb, hml, hown, hts⟩ (pm_X0_isZero l 52 (-1074) 9218868437227405312 (-9223372036854775808) dD p1) (cwV 1 hts gX3_mathOfNumber_X0_isZero rfl rfl rfl hdv_X0_isZero ⟨Nat.le_of_ble_eq_true rfl, Nat.le_of_ble_eq_true rfl⟩) ⟨KQ.fb, va_Orecv hF.2.2.1.1 hS, fun U hU hW => ⟨rfl, (KQ.call hF.2.2.1 hS U hU hW)⟩⟩ rfl rfl hl.1 rfl (lv_room (Nat.le_of_ble_eq_true rfl)) dX3_mathOfNumber_75 ⟨Nat.le_refl 0, Nat.le_refl 0⟩) hS (fun H locs _ _ hS => ?_)
          refine lv_if_eq (tgt := 85) hx hb dX3_mathOfNumber_78 (by decide) (fun c_78 => ?_) (fun c_78 => ?_)
          ·
            refine lv_lload_n hx hb dX3_mathOfNumber_85 rfl (lv_at hl 1 rfl) ?_
            refine lv_ldc2 (v := (-9223372036854775808)) hx hb hown (hts _ (List.mem_of_getElem? (i := 1) rfl)) dX3_mathOfNumber_86 ?_
            refine lv_land hx hb dX3_mathOfNumber_89 ?_
            refine lv_ldc2 (v := (4607182418800017408)) hx hb hown (hts _ (List.mem_of_getElem? (i := 3) rfl)) dX3_mathOfNumber_90 ?_
            refine lv_lor hx hb dX3_mathOfNumber_93 ?_
            rw [hZ]
            exact pm_lret (w := s_X3_mathOfNumber p0 p1) hx hb hr hlocks hS (by exact ((((((if_neg c_1_0).trans (if_neg c_1_1)).trans (if_neg c_1_2)).trans (if_pos c_1_3)).trans (if_pos c_78))).symm) dX3_mathOfNumber_94
          ·
            refine lv_lload_n hx hb dX3_mathOfNumber_81 rfl (lv_at hl 1 rfl) ?_
            refine lv_goto (tgt := 94) hx hb dX3_mathOfNumber_82 (by decide) ?_
            rw [hZ]
            exact pm_lret (w := s_X3_mathOfNumber p0 p1) hx hb hr hlocks hS (by exact ((((((if_neg c_1_0).trans (if_neg c_1_1)).trans (if_neg c_1_2)).trans (if_pos c_1_3)).trans (if_neg c_78))).symm) dX3_mathOfNumber_94
        ·
          by_cases c_1_4 : p0 = 4
          · refine lv_tableIn (off := 94) (tgt := 95) hx hb dX3_mathOfNumber_1 (by rw [c_1_4]; decide) (by rw [c_1_4]; decide) (by rw [c_1_4]; decide) (by decide) ?_
            refine va_gets hx hb hF.1 hS hown (hts _ (List.mem_of_getElem? (i := 2) rfl)) (fun _ h9 => h9) dX3_mathOfNumber_95 ?_
            refine lv_lload_n hx hb dX3_mathOfNumber_98 rfl (lv_at hl 1 rfl) ?_
            refine pm_callL (va_runV (As := [.long p1]) (rest := []) ⟨hx, hb, hml, hown, hts⟩ (pm_X0_magnitude l 52 (-1074) 9218868437227405312 (-9223372036854775808) dD p1) (cwV 1 hts gX3_mathOfNumber_X0_magnitude rfl rfl rfl hdv_X0_magnitude ⟨Nat.le_of_ble_eq_true rfl, Nat.le_of_ble_eq_true rfl⟩) ⟨KQ.fb, va_Orecv hF.2.2.1.1 hS, fun U hU hW => ⟨rfl, (KQ.call hF.2.2.1 hS U hU hW)⟩⟩ rfl rfl hl.1 rfl (lv_room (Nat.le_of_ble_eq_true rfl)) dX3_mathOfNumber_99 ⟨Nat.le_refl 0, Nat.le_refl 0⟩) hS (fun H locs _ _ hS => ?_)
            rw [hZ]
            exact pm_lret (w := s_X3_mathOfNumber p0 p1) hx hb hr hlocks hS (by exact ((((((if_neg c_1_0).trans (if_neg c_1_1)).trans (if_neg c_1_2)).trans (if_neg c_1_3)).trans (if_pos c_1_4))).symm) dX3_mathOfNumber_102
          ·
            by_cases c_1_5 : p0 = 5
            · refine lv_tableIn (off := 102) (tgt := 103) hx hb dX3_mathOfNumber_1 (by rw [c_1_5]; decide) (by rw [c_1_5]; decide) (by rw [c_1_5]; decide) (by decide) ?_
              refine lv_lload_n hx hb dX3_mathOfNumber_103 rfl (lv_at hl 1 rfl) ?_
              refine pm_callL (va_runS (As := [.long p1]) (rest := []) ⟨hx, hb, hml, hown, hts⟩ (pm_X3_distanceToNext l dD dF p1) (va_cwS 1 hts gX3_mathOfNumber_X3_distanceToNext rfl rfl rfl hd_X3_distanceToNext ⟨Nat.le_of_ble_eq_true rfl, Nat.le_of_ble_eq_true rfl⟩) ⟨KF.fb, fun U hU hW => ⟨rfl, (KF.call hF hS U hU hW)⟩⟩ rfl rfl hl.1 rfl (lv_room (Nat.le_of_ble_eq_true rfl)) dX3_mathOfNumber_104 ⟨Nat.le_refl 0, Nat.le_refl 0⟩) hS (fun H locs _ _ hS => ?_)
              rw [hZ]
              exact pm_lret (w := s_X3_mathOfNumber p0 p1) hx hb hr hlocks hS (by exact (((((((if_neg c_1_0).trans (if_neg c_1_1)).trans (if_neg c_1_2)).trans (if_neg c_1_3)).trans (if_neg c_1_4)).trans (if_pos c_1_5))).symm) dX3_mathOfNumber_107
            ·
              by_cases c_1_6 : p0 = 6
              · refine lv_tableIn (off := 107) (tgt := 108) hx hb dX3_mathOfNumber_1 (by rw [c_1_6]; decide) (by rw [c_1_6]; decide) (by rw [c_1_6]; decide) (by decide) ?_
                refine lv_lload_n hx hb dX3_mathOfNumber_108 rfl (lv_at hl 1 rfl) ?_
                refine pm_callL (va_runS (As := [.long p1]) (rest := []) ⟨hx, hb, hml, hown, hts⟩ (pm_X3_nextUp l dD dF p1) (va_cwS 1 hts gX3_mathOfNumber_X3_nextUp rfl rfl rfl hd_X3_nextUp ⟨Nat.le_of_ble_eq_true rfl, Nat.le_of_ble_eq_true rfl⟩) ⟨KF.fb, fun U hU hW => ⟨rfl, (KF.call hF hS U hU hW)⟩⟩ rfl rfl hl.1 rfl (lv_room (Nat.le_of_ble_eq_true rfl)) dX3_mathOfNumber_109 ⟨Nat.le_refl 0, Nat.le_refl 0⟩) hS (fun H locs _ _ hS => ?_)
                rw [hZ]
                exact pm_lret (w := s_X3_mathOfNumber p0 p1) hx hb hr hlocks hS (by exact ((((((((if_neg c_1_0).trans (if_neg c_1_1)).trans (if_neg c_1_2)).trans (if_neg c_1_3)).trans (if_neg c_1_4)).trans (if_neg c_1_5)).trans (if_pos c_1_6))).symm) dX3_mathOfNumber_112
              ·
                by_cases c_1_7 : p0 = 7
                · refine lv_tableIn (off := 112) (tgt := 113) hx hb dX3_mathOfNumber_1 (by rw [c_1_7]; decide) (by rw [c_1_7]; decide) (by rw [c_1_7]; decide) (by decide) ?_
                  refine lv_lload_n hx hb dX3_mathOfNumber_113 rfl (lv_at hl 1 rfl) ?_
                  refine lv_iconst (v := 3) hx hb dX3_mathOfNumber_114 (by decide) ?_
                  refine pm_callL (va_runS (As := [.long p1, .int 3]) (rest := []) ⟨hx, hb, hml, hown, hts⟩ (pm_X3_scaled l dD dF p1 3) (va_cwS 2 hts gX3_mathOfNumber_X3_scaled rfl rfl rfl hd_X3_scaled ⟨Nat.le_of_ble_eq_true rfl, Nat.le_of_ble_eq_true rfl⟩) ⟨KF.fb, fun U hU hW => ⟨rfl, (KF.call hF hS U hU hW)⟩⟩ rfl rfl hl.1 rfl (lv_room (Nat.le_of_ble_eq_true rfl)) dX3_mathOfNumber_115 ⟨Nat.le_refl 0, Nat.le_refl 0⟩) hS (fun H locs _ _ hS => ?_)
                  rw [hZ]
                  exact pm_lret (w := s_X3_mathOfNumber p0 p1) hx hb hr hlocks hS (by exact (((((((((if_neg c_1_0).trans (if_neg c_1_1)).trans (if_neg c_1_2)).trans (if_neg c_1_3)).trans (if_neg c_1_4)).trans (if_neg c_1_5)).trans (if_neg c_1_6)).trans (if_pos c_1_7))).symm) dX3_mathOfNumber_118
                ·
                  have nc_1_0 : (p0).toInt ≠ 0 := fun h => c_1_0 (Int32.toInt.inj (h.trans (by decide)))
                  have nc_1_1 : (p0).toInt ≠ 1 := fun h => c_1_1 (Int32.toInt.inj (h.trans (by decide)))
                  have nc_1_2 : (p0).toInt ≠ 2 := fun h => c_1_2 (Int32.toInt.inj (h.trans (by decide)))
                  have nc_1_3 : (p0).toInt ≠ 3 := fun h => c_1_3 (Int32.toInt.inj (h.trans (by decide)))
                  have nc_1_4 : (p0).toInt ≠ 4 := fun h => c_1_4 (Int32.toInt.inj (h.trans (by decide)))
                  have nc_1_5 : (p0).toInt ≠ 5 := fun h => c_1_5 (Int32.toInt.inj (h.trans (by decide)))
                  have nc_1_6 : (p0).toInt ≠ 6 := fun h => c_1_6 (Int32.toInt.inj (h.trans (by decide)))
                  have nc_1_7 : (p0).toInt ≠ 7 := fun h => c_1_7 (Int32.toInt.inj (h.trans (by decide)))
                  refine lv_tableOut (tgt := 119) hx hb dX3_mathOfNumber_1 (by omega) (by decide) ?_
                  refine lv_lload_n hx hb dX3_mathOfNumber_119 rfl (lv_at hl 1 rfl) ?_
                  refine lv_bipush (v := (-3)) hx hb dX3_mathOfNumber_120 (by decide) ?_
                  refine pm_callL (va_runS (As := [.long p1, .int (-3)]) (rest := []) ⟨hx, hb, hml, hown, hts⟩ (pm_X3_scaled l dD dF p1 (-3)) (va_cwS 2 hts gX3_mathOfNumber_X3_scaled rfl rfl rfl hd_X3_scaled ⟨Nat.le_of_ble_eq_true rfl, Nat.le_of_ble_eq_true rfl⟩) ⟨KF.fb, fun U hU hW => ⟨rfl, (KF.call hF hS U hU hW)⟩⟩ rfl rfl hl.1 rfl (lv_room (Nat.le_of_ble_eq_true rfl)) dX3_mathOfNumber_122 ⟨Nat.le_refl 0, Nat.le_refl 0⟩) hS (fun H locs _ _ hS => ?_)
                  rw [hZ]
                  exact pm_lret (w := s_X3_mathOfNumber p0 p1) hx hb hr hlocks hS (by exact (((((((((if_neg c_1_0).trans (if_neg c_1_1)).trans (if_neg c_1_2)).trans (if_neg c_1_3)).trans (if_neg c_1_4)).trans (if_neg c_1_5)).trans (if_neg c_1_6)).trans (if_neg c_1_7))).symm) dX3_mathOfNumber_125
