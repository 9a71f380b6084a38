/-! ===== the model: methods that change nothing (laid by program) ===== -/
theorem hd_Jxe99ae_isNaN_b9ae7 : yJxe99ae_isNaN_b9ae7.cls ≠ "java/lang/invoke/MethodHandle" ∧ yJxe99ae_isNaN_b9ae7.cls ≠ "java/lang/invoke/VarHandle" ∧ (parseMethodDescriptor yJxe99ae_isNaN_b9ae7.desc).map (fun d => d.parameters.length) = some 1 := by decide +kernel
def s_Jxe99ae_isNaN_b9ae7 (p0 : UInt64) : Int32 :=
  if dEq p0 p0 then 0
  else 1
set_option maxHeartbeats 4000000 in
set_option maxRecDepth 100000 in
theorem pm_Jxe99ae_isNaN_b9ae7 (l : Launch) (p0 : UInt64) : PmI l yJxe99ae_isNaN_b9ae7 wsJxe99ae_isNaN_b9ae7 0 0 [.double p0] (fun _ => True) (s_Jxe99ae_isNaN_b9ae7 p0) := by
  refine Met.ofW (cc := cJxe99ae_isNaN_b9ae7) (maxL := 2) (ret := (some .boolean)) (by decide) rfl ?_
  intro p e s m args below meth c s₁ B hml hv
  obtain ⟨rfl, -⟩ := hv
  have hx := B.exec
  have hb := B.bytes
  have hr := B.returns
  have hts := atoms_spec (ws := wsJxe99ae_isNaN_b9ae7) B.pre
  have hown : s.vm.findClass RJxe99ae = some m.cls := findClass_of_methodNamed B.named
  have hlocks := B.notSynchronized
  have hS : va_S pv_N s.heap s.heap [] := va_S.rf
  have hl := lv_entry ([.double p0]) (n := 2) (Nat.le_of_ble_eq_true rfl)
  rw [lg_entry_eq]
  generalize (lg_sl ([.double p0]) ++ List.replicate (2 - (lg_sl ([.double p0])).length) Slot.unset).toArray = ls at hl ⊢
  have hl : lv_has ls 2 [(0, .double p0)] := hl
  obtain ⟨Z, hZ⟩ : ∃ z, z = MQ below (pm_QI (s_Jxe99ae_isNaN_b9ae7 p0)) ([.double p0] : List Value).toArray s 0 0 pv_N := ⟨_, rfl⟩
  rw [← hZ]
  obtain ⟨Y, hY⟩ : ∃ y, y = s_Jxe99ae_isNaN_b9ae7 p0 := ⟨_, rfl⟩
  refine lv_dload_n hx hb dJxe99ae_isNaN_b9ae7_0 rfl (lv_at hl 0 rfl) ?_
  refine lv_dload_n hx hb dJxe99ae_isNaN_b9ae7_1 rfl (lv_at hl 0 rfl) ?_
  refine lf_d_leq (tgt := 10) hx hb dJxe99ae_isNaN_b9ae7_2 dJxe99ae_isNaN_b9ae7_3 (by decide) (fun c_2 => ?_) (fun c_2 => ?_)
  ·
    refine lv_iconst (v := 0) hx hb dJxe99ae_isNaN_b9ae7_10 (by decide) ?_
    rw [hZ]
    exact pm_zret (w := s_Jxe99ae_isNaN_b9ae7 p0) hx hb hr hlocks hS (nz_0) (by exact ((if_pos c_2)).symm) dJxe99ae_isNaN_b9ae7_11
  ·
    refine lv_iconst (v := 1) hx hb dJxe99ae_isNaN_b9ae7_6 (by decide) ?_
    refine lv_goto (tgt := 11) hx hb dJxe99ae_isNaN_b9ae7_7 (by decide) ?_
    rw [hZ]
    exact pm_zret (w := s_Jxe99ae_isNaN_b9ae7 p0) hx hb hr hlocks hS (nz_1) (by exact ((if_neg c_2)).symm) dJxe99ae_isNaN_b9ae7_11
theorem hd_Jxe99ae_doubleToLongBits_ccdee : yJxe99ae_doubleToLongBits_ccdee.cls ≠ "java/lang/invoke/MethodHandle" ∧ yJxe99ae_doubleToLongBits_ccdee.cls ≠ "java/lang/invoke/VarHandle" ∧ (parseMethodDescriptor yJxe99ae_doubleToLongBits_ccdee.desc).map (fun d => d.parameters.length) = some 1 := by decide +kernel
def s_Jxe99ae_doubleToLongBits_ccdee (p0 : UInt64) : Int64 :=
  if (s_Jxe99ae_isNaN_b9ae7 p0) = 0 then p0.toInt64
  else (9221120237041090560)
set_option maxHeartbeats 4000000 in
set_option maxRecDepth 100000 in
theorem pm_Jxe99ae_doubleToLongBits_ccdee (l : Launch) (p0 : UInt64) : PmL l yJxe99ae_doubleToLongBits_ccdee wsJxe99ae_doubleToLongBits_ccdee 1 21 [.double p0] (fun _ => True) (s_Jxe99ae_doubleToLongBits_ccdee p0) := by
  refine Met.ofW (cc := cJxe99ae_doubleToLongBits_ccdee) (maxL := 2) (ret := (some .long)) (by decide) rfl ?_
  intro p e s m args below meth c s₁ B hml hv
  obtain ⟨rfl, -⟩ := hv
  have hx := B.exec
  have hb := B.bytes
  have hr := B.returns
  have hts := atoms_spec (ws := wsJxe99ae_doubleToLongBits_ccdee) B.pre
  have hown : s.vm.findClass RJxe99ae = some m.cls := findClass_of_methodNamed B.named
  have hlocks := B.notSynchronized
  have hS : va_S pv_N s.heap s.heap [] := va_S.rf
  have hl := lv_entry ([.double p0]) (n := 2) (Nat.le_of_ble_eq_true rfl)
  rw [lg_entry_eq]
  generalize (lg_sl ([.double p0]) ++ List.replicate (2 - (lg_sl ([.double p0])).length) Slot.unset).toArray = ls at hl ⊢
  have hl : lv_has ls 2 [(0, .double p0)] := hl
  obtain ⟨Z, hZ⟩ : ∃ z, z = MQ below (pm_QL (s_Jxe99ae_doubleToLongBits_ccdee p0)) ([.double p0] : List Value).toArray s 0 0 pv_N := ⟨_, rfl⟩
  rw [← hZ]
  obtain ⟨Y, hY⟩ : ∃ y, y = s_Jxe99ae_doubleToLongBits_ccdee p0 := ⟨_, rfl⟩
  refine lv_dload_n hx hb dJxe99ae_doubleToLongBits_ccdee_0 rfl (lv_at hl 0 rfl) ?_
  refine pm_callI (va_runS (As := [.double p0]) (rest := []) ⟨hx, hb, hml, hown, hts⟩ (pm_Jxe99ae_isNaN_b9ae7 l p0) (va_cwS 1 hts gJxe99ae_doubleToLongBits_ccdee_Jxe99ae_isNaN_b9ae7 rfl rfl rfl hd_Jxe99ae_isNaN_b9ae7 ⟨Nat.le_of_ble_eq_true rfl, Nat.le_of_ble_eq_true rfl⟩) ⟨pm_fbT, fun U hU hW => ⟨rfl, trivial⟩⟩ rfl rfl hl.1 rfl (lv_room (Nat.le_of_ble_eq_true rfl)) dJxe99ae_doubleToLongBits_ccdee_1 ⟨Nat.le_refl 0, Nat.le_refl 0⟩) hS (fun H locs _ _ hS => ?_)
  refine lv_if_ne (tgt := 12) hx hb dJxe99ae_doubleToLongBits_ccdee_4 (by decide) (fun c_4 => ?_) (fun c_4 => ?_)
  ·
    refine lv_ldc2 (v := (9221120237041090560)) hx hb hown (hts _ (List.mem_of_getElem? (i := 5) rfl)) dJxe99ae_doubleToLongBits_ccdee_12 ?_
    rw [hZ]
    exact pm_lret (w := s_Jxe99ae_doubleToLongBits_ccdee p0) hx hb hr hlocks hS (by exact ((if_neg c_4)).symm) dJxe99ae_doubleToLongBits_ccdee_15
  ·
    refine lv_dload_n hx hb dJxe99ae_doubleToLongBits_ccdee_7 rfl (lv_at hl 0 rfl) ?_
    refine vn_d2l hx hb (hml.trans hl.1.symm) hown (hts _ (List.mem_of_getElem? (i := 1) rfl)) (hts _ (List.mem_of_getElem? (i := 2) rfl)) (hts _ (List.mem_of_getElem? (i := 3) rfl)) (hts _ (List.mem_of_getElem? (i := 4) rfl)) (Nat.le_of_ble_eq_true rfl) (Nat.le_of_ble_eq_true rfl) dJxe99ae_doubleToLongBits_ccdee_8 ?_
    rw [hZ]
    exact pm_lret (w := s_Jxe99ae_doubleToLongBits_ccdee p0) hx hb hr hlocks hS (by exact ((if_pos c_4)).symm) dJxe99ae_doubleToLongBits_ccdee_11
theorem hd_Jxf58ca_isNaN_12338 : yJxf58ca_isNaN_12338.cls ≠ "java/lang/invoke/MethodHandle" ∧ yJxf58ca_isNaN_12338.cls ≠ "java/lang/invoke/VarHandle" ∧ (parseMethodDescriptor yJxf58ca_isNaN_12338.desc).map (fun d => d.parameters.length) = some 1 := by decide +kernel
def s_Jxf58ca_isNaN_12338 (p0 : UInt32) : Int32 :=
  if fEq p0 p0 then 0
  else 1
set_option maxHeartbeats 4000000 in
set_option maxRecDepth 100000 in
theorem pm_Jxf58ca_isNaN_12338 (l : Launch) (p0 : UInt32) : PmI l yJxf58ca_isNaN_12338 wsJxf58ca_isNaN_12338 0 0 [.float p0] (fun _ => True) (s_Jxf58ca_isNaN_12338 p0) := by
  refine met_ofWF (cc := cJxf58ca_isNaN_12338) (maxL := 1) (ret := (some .boolean)) (by decide +kernel) rfl ?_
  intro p e s m args below meth c s₁ B hml hv
  obtain ⟨rfl, -⟩ := hv
  have hx := B.exec
  have hb := B.bytes
  have hr := B.returns
  have hts := atoms_spec (ws := wsJxf58ca_isNaN_12338) B.pre
  have hown : s.vm.findClass RJxf58ca = some m.cls := findClass_of_methodNamed B.named
  have hlocks := B.notSynchronized
  have hS : va_S pv_N s.heap s.heap [] := va_S.rf
  have hl := lv_entry ([.float p0]) (n := 1) (Nat.le_of_ble_eq_true rfl)
  rw [lg_entry_eq]
  generalize (lg_sl ([.float p0]) ++ List.replicate (1 - (lg_sl ([.float p0])).length) Slot.unset).toArray = ls at hl ⊢
  have hl : lv_has ls 1 [(0, .float p0)] := hl
  obtain ⟨Z, hZ⟩ : ∃ z, z = MQ below (pm_QI (s_Jxf58ca_isNaN_12338 p0)) ([.float p0] : List Value).toArray s 0 0 pv_N := ⟨_, rfl⟩
  rw [← hZ]
  obtain ⟨Y, hY⟩ : ∃ y, y = s_Jxf58ca_isNaN_12338 p0 := ⟨_, rfl⟩
  refine lv_fload_n hx hb dJxf58ca_isNaN_12338_0 rfl (lv_at hl 0 rfl) ?_
  refine lv_fload_n hx hb dJxf58ca_isNaN_12338_1 rfl (lv_at hl 0 rfl) ?_
  refine lf_f_leq (tgt := 10) hx hb dJxf58ca_isNaN_12338_2 dJxf58ca_isNaN_12338_3 (by decide) (fun c_2 => ?_) (fun c_2 => ?_)
  ·
    refine lv_iconst (v := 0) hx hb dJxf58ca_isNaN_12338_10 (by decide) ?_
    rw [hZ]
    exact pm_zret (w := s_Jxf58ca_isNaN_12338 p0) hx hb hr hlocks hS (nz_0) (by exact ((if_pos c_2)).symm) dJxf58ca_isNaN_12338_11
  ·
    refine lv_iconst (v := 1) hx hb dJxf58ca_isNaN_12338_6 (by decide) ?_
    refine lv_goto (tgt := 11) hx hb dJxf58ca_isNaN_12338_7 (by decide) ?_
    rw [hZ]
    exact pm_zret (w := s_Jxf58ca_isNaN_12338 p0) hx hb hr hlocks hS (nz_1) (by exact ((if_neg c_2)).symm) dJxf58ca_isNaN_12338_11
theorem hd_Jxf58ca_floatToIntBits_5c35a : yJxf58ca_floatToIntBits_5c35a.cls ≠ "java/lang/invoke/MethodHandle" ∧ yJxf58ca_floatToIntBits_5c35a.cls ≠ "java/lang/invoke/VarHandle" ∧ (parseMethodDescriptor yJxf58ca_floatToIntBits_5c35a.desc).map (fun d => d.parameters.length) = some 1 := by decide +kernel
def s_Jxf58ca_floatToIntBits_5c35a (p0 : UInt32) : Int32 :=
  if (s_Jxf58ca_isNaN_12338 p0) = 0 then p0.toInt32
  else (2143289344)
set_option maxHeartbeats 4000000 in
set_option maxRecDepth 100000 in
theorem pm_Jxf58ca_floatToIntBits_5c35a (l : Launch) (p0 : UInt32) : PmI l yJxf58ca_floatToIntBits_5c35a wsJxf58ca_floatToIntBits_5c35a 1 20 [.float p0] (fun _ => True) (s_Jxf58ca_floatToIntBits_5c35a p0) := by
  refine met_ofWF (cc := cJxf58ca_floatToIntBits_5c35a) (maxL := 1) (ret := (some .int)) (by decide +kernel) rfl ?_
  intro p e s m args below meth c s₁ B hml hv
  obtain ⟨rfl, -⟩ := hv
  have hx := B.exec
  have hb := B.bytes
  have hr := B.returns
  have hts := atoms_spec (ws := wsJxf58ca_floatToIntBits_5c35a) B.pre
  have hown : s.vm.findClass RJxf58ca = some m.cls := findClass_of_methodNamed B.named
  have hlocks := B.notSynchronized
  have hS : va_S pv_N s.heap s.heap [] := va_S.rf
  have hl := lv_entry ([.float p0]) (n := 1) (Nat.le_of_ble_eq_true rfl)
  rw [lg_entry_eq]
  generalize (lg_sl ([.float p0]) ++ List.replicate (1 - (lg_sl ([.float p0])).length) Slot.unset).toArray = ls at hl ⊢
  have hl : lv_has ls 1 [(0, .float p0)] := hl
  obtain ⟨Z, hZ⟩ : ∃ z, z = MQ below (pm_QI (s_Jxf58ca_floatToIntBits_5c35a p0)) ([.float p0] : List Value).toArray s 0 0 pv_N := ⟨_, rfl⟩
  rw [← hZ]
  obtain ⟨Y, hY⟩ : ∃ y, y = s_Jxf58ca_floatToIntBits_5c35a p0 := ⟨_, rfl⟩
  refine lv_fload_n hx hb dJxf58ca_floatToIntBits_5c35a_0 rfl (lv_at hl 0 rfl) ?_
  refine pm_callI (va_runS (As := [.float p0]) (rest := []) ⟨hx, hb, hml, hown, hts⟩ (pm_Jxf58ca_isNaN_12338 l p0) (va_cwS 1 hts gJxf58ca_floatToIntBits_5c35a_Jxf58ca_isNaN_12338 rfl rfl rfl hd_Jxf58ca_isNaN_12338 ⟨Nat.le_of_ble_eq_true rfl, Nat.le_of_ble_eq_true rfl⟩) ⟨pm_fbT, fun U hU hW => ⟨rfl, trivial⟩⟩ rfl rfl hl.1 rfl (lv_room (Nat.le_of_ble_eq_true rfl)) dJxf58ca_floatToIntBits_5c35a_1 ⟨Nat.le_refl 0, Nat.le_refl 0⟩) hS (fun H locs _ _ hS => ?_)
  refine lv_if_ne (tgt := 12) hx hb dJxf58ca_floatToIntBits_5c35a_4 (by decide) (fun c_4 => ?_) (fun c_4 => ?_)
  ·
    refine lv_ldc (v := (2143289344)) hx hb hown (hts _ (List.mem_of_getElem? (i := 5) rfl)) dJxf58ca_floatToIntBits_5c35a_12 ?_
    rw [hZ]
    exact pm_iret (w := s_Jxf58ca_floatToIntBits_5c35a p0) hx hb hr hlocks hS (by exact ((if_neg c_4)).symm) dJxf58ca_floatToIntBits_5c35a_14
  ·
    refine lv_fload_n hx hb dJxf58ca_floatToIntBits_5c35a_7 rfl (lv_at hl 0 rfl) ?_
    refine vn_f2i hx hb (hml.trans hl.1.symm) hown (hts _ (List.mem_of_getElem? (i := 1) rfl)) (hts _ (List.mem_of_getElem? (i := 2) rfl)) (hts _ (List.mem_of_getElem? (i := 3) rfl)) (hts _ (List.mem_of_getElem? (i := 4) rfl)) (Nat.le_of_ble_eq_true rfl) (Nat.le_of_ble_eq_true rfl) dJxf58ca_floatToIntBits_5c35a_8 ?_
    rw [hZ]
    exact pm_iret (w := s_Jxf58ca_floatToIntBits_5c35a p0) hx hb hr hlocks hS (by exact ((if_pos c_4)).symm) dJxf58ca_floatToIntBits_5c35a_11
theorem hd_X9_realBits : yX9_realBits.cls ≠ "java/lang/invoke/MethodHandle" ∧ yX9_realBits.cls ≠ "java/lang/invoke/VarHandle" ∧ (parseMethodDescriptor yX9_realBits.desc).map (fun d => d.parameters.length) = some 1 := by decide +kernel
def s_X9_realBits (p0 : Int64) : UInt64 :=
  if (p0 &&& (9223372036854775807)) ≤ (9218868437227405312) then p0.toUInt64
  else (9221120237041090560)
set_option maxHeartbeats 4000000 in
set_option maxRecDepth 100000 in
theorem pm_X9_realBits (l : Launch) (p0 : Int64) : PmD l yX9_realBits wsX9_realBits 1 15 [.long p0] (fun _ => True) (s_X9_realBits p0) := by
  refine Met.ofW (cc := cX9_realBits) (maxL := 2) (ret := (some .double)) (by decide) rfl ?_
  intro p e s m args below meth c s₁ B hml hv
  obtain ⟨rfl, -⟩ := hv
  have hx := B.exec
  have hb := B.bytes
  have hr := B.returns
  have hts := atoms_spec (ws := wsX9_realBits) B.pre
  have hown : s.vm.findClass RX9 = some m.cls := findClass_of_methodNamed B.named
  have hlocks := B.notSynchronized
  have hS : va_S pv_N s.heap s.heap [] := va_S.rf
  have hl := lv_entry ([.long p0]) (n := 2) (Nat.le_of_ble_eq_true rfl)
  rw [lg_entry_eq]
  generalize (lg_sl ([.long p0]) ++ List.replicate (2 - (lg_sl ([.long p0])).length) Slot.unset).toArray = ls at hl ⊢
  have hl : lv_has ls 2 [(0, .long p0)] := hl
  obtain ⟨Z, hZ⟩ : ∃ z, z = MQ below (pm_QD (s_X9_realBits p0)) ([.long p0] : List Value).toArray s 0 0 pv_N := ⟨_, rfl⟩
  rw [← hZ]
  obtain ⟨Y, hY⟩ : ∃ y, y = s_X9_realBits p0 := ⟨_, rfl⟩
  refine lv_lload_n hx hb dX9_realBits_0 rfl (lv_at hl 0 rfl) ?_
  refine lv_ldc2 (v := (9223372036854775807)) hx hb hown (hts _ (List.mem_of_getElem? (i := 1) rfl)) dX9_realBits_1 ?_
  refine lv_land hx hb dX9_realBits_4 ?_
  refine lv_ldc2 (v := (9218868437227405312)) hx hb hown (hts _ (List.mem_of_getElem? (i := 2) rfl)) dX9_realBits_5 ?_
  refine lp_le (tgt := 18) hx hb dX9_realBits_8 dX9_realBits_9 (by decide) (fun c_8 => ?_) (fun c_8 => ?_)
  ·
    refine lv_lload_n hx hb dX9_realBits_18 rfl (lv_at hl 0 rfl) ?_
    refine vn_l2d hx hb (hml.trans hl.1.symm) hown (hts _ (List.mem_of_getElem? (i := 4) rfl)) (hts _ (List.mem_of_getElem? (i := 5) rfl)) (hts _ (List.mem_of_getElem? (i := 6) rfl)) (hts _ (List.mem_of_getElem? (i := 7) rfl)) (snl_d c_8) (Nat.le_of_ble_eq_true rfl) (Nat.le_of_ble_eq_true rfl) dX9_realBits_19 ?_
    rw [hZ]
    exact pm_dret (w := s_X9_realBits p0) hx hb hr hlocks hS (by exact ((if_pos c_8)).symm) dX9_realBits_22
  ·
    refine lv_ldc2d hx hb hown (hts _ (List.mem_of_getElem? (i := 3) rfl)) dX9_realBits_12 ?_
    refine lv_goto (tgt := 22) hx hb dX9_realBits_15 (by decide) ?_
    rw [hZ]
    exact pm_dret (w := s_X9_realBits p0) hx hb hr hlocks hS (by exact ((if_neg c_8)).symm) dX9_realBits_22
theorem hd_X9_singleBits : yX9_singleBits.cls ≠ "java/lang/invoke/MethodHandle" ∧ yX9_singleBits.cls ≠ "java/lang/invoke/VarHandle" ∧ (parseMethodDescriptor yX9_singleBits.desc).map (fun d => d.parameters.length) = some 1 := by decide +kernel
def s_X9_singleBits (p0 : Int32) : UInt32 :=
  if (p0 &&& (2147483647)) ≤ (2139095040) then p0.toUInt32
  else (2143289344)
set_option maxHeartbeats 4000000 in
set_option maxRecDepth 100000 in
theorem pm_X9_singleBits (l : Launch) (p0 : Int32) : PmF l yX9_singleBits wsX9_singleBits 1 15 [.int p0] (fun _ => True) (s_X9_singleBits p0) := by
  refine Met.ofW (cc := cX9_singleBits) (maxL := 1) (ret := (some .float)) (by decide) rfl ?_
  intro p e s m args below meth c s₁ B hml hv
  obtain ⟨rfl, -⟩ := hv
  have hx := B.exec
  have hb := B.bytes
  have hr := B.returns
  have hts := atoms_spec (ws := wsX9_singleBits) B.pre
  have hown : s.vm.findClass RX9 = some m.cls := findClass_of_methodNamed B.named
  have hlocks := B.notSynchronized
  have hS : va_S pv_N s.heap s.heap [] := va_S.rf
  have hl := lv_entry ([.int p0]) (n := 1) (Nat.le_of_ble_eq_true rfl)
  rw [lg_entry_eq]
  generalize (lg_sl ([.int p0]) ++ List.replicate (1 - (lg_sl ([.int p0])).length) Slot.unset).toArray = ls at hl ⊢
  have hl : lv_has ls 1 [(0, .int p0)] := hl
  obtain ⟨Z, hZ⟩ : ∃ z, z = MQ below (pm_QF (s_X9_singleBits p0)) ([.int p0] : List Value).toArray s 0 0 pv_N := ⟨_, rfl⟩
  rw [← hZ]
  obtain ⟨Y, hY⟩ : ∃ y, y = s_X9_singleBits p0 := ⟨_, rfl⟩
  refine lv_iload_n hx hb dX9_singleBits_0 rfl (lv_at hl 0 rfl) ?_
  refine lv_ldc (v := (2147483647)) hx hb hown (hts _ (List.mem_of_getElem? (i := 1) rfl)) dX9_singleBits_1 ?_
  refine lv_iand hx hb dX9_singleBits_3 ?_
  refine lv_ldc (v := (2139095040)) hx hb hown (hts _ (List.mem_of_getElem? (i := 2) rfl)) dX9_singleBits_4 ?_
  refine lv_icmp_le (tgt := 14) hx hb dX9_singleBits_6 (by decide) (fun c_6 => ?_) (fun c_6 => ?_)
  ·
    refine lv_iload_n hx hb dX9_singleBits_14 rfl (lv_at hl 0 rfl) ?_
    refine vn_i2f hx hb (hml.trans hl.1.symm) hown (hts _ (List.mem_of_getElem? (i := 4) rfl)) (hts _ (List.mem_of_getElem? (i := 5) rfl)) (hts _ (List.mem_of_getElem? (i := 6) rfl)) (hts _ (List.mem_of_getElem? (i := 7) rfl)) (snl_f c_6) (Nat.le_of_ble_eq_true rfl) (Nat.le_of_ble_eq_true rfl) dX9_singleBits_15 ?_
    rw [hZ]
    exact pm_fret (w := s_X9_singleBits p0) hx hb hr hlocks hS (by exact ((if_pos c_6)).symm) dX9_singleBits_18
  ·
    refine lv_ldcf hx hb hown (hts _ (List.mem_of_getElem? (i := 3) rfl)) dX9_singleBits_9 ?_
    refine lv_goto (tgt := 18) hx hb dX9_singleBits_11 (by decide) ?_
    rw [hZ]
    exact pm_fret (w := s_X9_singleBits p0) hx hb hr hlocks hS (by exact ((if_neg c_6)).symm) dX9_singleBits_18
theorem hd_X9_in : yX9_in.cls ≠ "java/lang/invoke/MethodHandle" ∧ yX9_in.cls ≠ "java/lang/invoke/VarHandle" ∧ (parseMethodDescriptor yX9_in.desc).map (fun d => d.parameters.length) = some 3 := by decide +kernel
def s_X9_in (p0 : Int32) (p1 : Int32) (p2 : Int32) : Int32 :=
  if p0 < p1 then 0
  else if p2 < p0 then 0
  else 1
set_option maxHeartbeats 4000000 in
set_option maxRecDepth 100000 in
theorem pm_X9_in (l : Launch) (p0 : Int32) (p1 : Int32) (p2 : Int32) : PmI l yX9_in wsX9_in 0 0 [.int p0, .int p1, .int p2] (fun _ => True) (s_X9_in p0 p1 p2) := by
  refine Met.ofW (cc := cX9_in) (maxL := 3) (ret := (some .boolean)) (by decide) rfl ?_
  intro p e s m args below meth c s₁ B hml hv
  obtain ⟨rfl, -⟩ := hv
  have hx := B.exec
  have hb := B.bytes
  have hr := B.returns
  have hts := atoms_spec (ws := wsX9_in) B.pre
  have hown : s.vm.findClass RX9 = some m.cls := findClass_of_methodNamed B.named
  have hlocks := B.notSynchronized
  have hS : va_S pv_N s.heap s.heap [] := va_S.rf
  have hl := lv_entry ([.int p0, .int p1, .int p2]) (n := 3) (Nat.le_of_ble_eq_true rfl)
  rw [lg_entry_eq]
  generalize (lg_sl ([.int p0, .int p1, .int p2]) ++ List.replicate (3 - (lg_sl ([.int p0, .int p1, .int p2])).length) Slot.unset).toArray = ls at hl ⊢
  have hl : lv_has ls 3 [(0, .int p0), (1, .int p1), (2, .int p2)] := hl
  obtain ⟨Z, hZ⟩ : ∃ z, z = MQ below (pm_QI (s_X9_in p0 p1 p2)) ([.int p0, .int p1, .int p2] : List Value).toArray s 0 0 pv_N := ⟨_, rfl⟩
  rw [← hZ]
  obtain ⟨Y, hY⟩ : ∃ y, y = s_X9_in p0 p1 p2 := ⟨_, rfl⟩
  refine lv_iload_n hx hb dX9_in_0 rfl (lv_at hl 0 rfl) ?_
  refine lv_iload_n hx hb dX9_in_1 rfl (lv_at hl 1 rfl) ?_
  refine lv_icmp_lt (tgt := 14) hx hb dX9_in_2 (by decide) (fun c_2 => ?_) (fun c_2 => ?_)
  ·
    refine lv_iconst (v := 0) hx hb dX9_in_14 (by decide) ?_
    rw [hZ]
    exact pm_zret (w := s_X9_in p0 p1 p2) hx hb hr hlocks hS (nz_0) (by exact ((if_pos c_2)).symm) dX9_in_15
  ·
    refine lv_iload_n hx hb dX9_in_5 rfl (lv_at hl 0 rfl) ?_
    refine lv_iload_n hx hb dX9_in_6 rfl (lv_at hl 2 rfl) ?_
    refine lv_icmp_gt (tgt := 14) hx hb dX9_in_7 (by decide) (fun c_7 => ?_) (fun c_7 => ?_)
    ·
      refine lv_iconst (v := 0) hx hb dX9_in_14 (by decide) ?_
      rw [hZ]
      exact pm_zret (w := s_X9_in p0 p1 p2) hx hb hr hlocks hS (nz_0) (by exact (((if_neg c_2).trans (if_pos c_7))).symm) dX9_in_15
    ·
      refine lv_iconst (v := 1) hx hb dX9_in_10 (by decide) ?_
      refine lv_goto (tgt := 15) hx hb dX9_in_11 (by decide) ?_
      rw [hZ]
      exact pm_zret (w := s_X9_in p0 p1 p2) hx hb hr hlocks hS (nz_1) (by exact (((if_neg c_2).trans (if_neg c_7))).symm) dX9_in_15
theorem bz_s_X9_in (a b c : Int32) : s_X9_in a b c = 0 ∨ s_X9_in a b c = 1 := by
  unfold s_X9_in
  repeat' split
  all_goals first | exact Or.inl rfl | exact Or.inr rfl
theorem hd_X9_isCell : yX9_isCell.cls ≠ "java/lang/invoke/MethodHandle" ∧ yX9_isCell.cls ≠ "java/lang/invoke/VarHandle" ∧ (parseMethodDescriptor yX9_isCell.desc).map (fun d => d.parameters.length) = some 1 := by decide +kernel
def s_X9_isCell (p0 : Int32) : Int32 :=
  s_X9_in p0 0 15
set_option maxHeartbeats 4000000 in
set_option maxRecDepth 100000 in
theorem pm_X9_isCell (l : Launch) (p0 : Int32) : PmI l yX9_isCell wsX9_isCell 1 22 [.int p0] (fun _ => True) (s_X9_isCell p0) := by
  refine Met.ofW (cc := cX9_isCell) (maxL := 1) (ret := (some .boolean)) (by decide) rfl ?_
  intro p e s m args below meth c s₁ B hml hv
  obtain ⟨rfl, -⟩ := hv
  have hx := B.exec
  have hb := B.bytes
  have hr := B.returns
  have hts := atoms_spec (ws := wsX9_isCell) B.pre
  have hown : s.vm.findClass RX9 = some m.cls := findClass_of_methodNamed B.named
  have hlocks := B.notSynchronized
  have hS : va_S pv_N s.heap s.heap [] := va_S.rf
  have hl := lv_entry ([.int p0]) (n := 1) (Nat.le_of_ble_eq_true rfl)
  rw [lg_entry_eq]
  generalize (lg_sl ([.int p0]) ++ List.replicate (1 - (lg_sl ([.int p0])).length) Slot.unset).toArray = ls at hl ⊢
  have hl : lv_has ls 1 [(0, .int p0)] := hl
  obtain ⟨Z, hZ⟩ : ∃ z, z = MQ below (pm_QI (s_X9_isCell p0)) ([.int p0] : List Value).toArray s 0 0 pv_N := ⟨_, rfl⟩
  rw [← hZ]
  obtain ⟨Y, hY⟩ : ∃ y, y = s_X9_isCell p0 := ⟨_, rfl⟩
  refine lv_iload_n hx hb dX9_isCell_0 rfl (lv_at hl 0 rfl) ?_
  refine lv_iconst (v := 0) hx hb dX9_isCell_1 (by decide) ?_
  refine lv_bipush (v := 15) hx hb dX9_isCell_2 (by decide) ?_
  refine pm_callI (va_runS (As := [.int p0, .int 0, .int 15]) (rest := []) ⟨hx, hb, hml, hown, hts⟩ (pm_X9_in l p0 0 15) (va_cwS 3 hts gX9_isCell_X9_in rfl rfl rfl hd_X9_in ⟨Nat.le_of_ble_eq_true rfl, Nat.le_of_ble_eq_true rfl⟩) ⟨pm_fbT, fun U hU hW => ⟨rfl, trivial⟩⟩ rfl rfl hl.1 rfl (lv_room (Nat.le_of_ble_eq_true rfl)) dX9_isCell_4 ⟨Nat.le_refl 0, Nat.le_refl 0⟩) hS (fun H locs _ _ hS => ?_)
  rw [hZ]
  exact pm_zret (w := s_X9_isCell p0) hx hb hr hlocks hS (nz_of (bz_s_X9_in ..)) (by exact rfl) dX9_isCell_7
theorem hd_X9_isKindOf : yX9_isKindOf.cls ≠ "java/lang/invoke/MethodHandle" ∧ yX9_isKindOf.cls ≠ "java/lang/invoke/VarHandle" ∧ (parseMethodDescriptor yX9_isKindOf.desc).map (fun d => d.parameters.length) = some 2 := by decide +kernel
def s_X9_isKindOf (p0 : Int32) (p1 : Int32) : Int32 :=
  if p1 = 8 then if p0 = 8 then 1
  else if p0 = 9 then 1
  else 0
  else if p1 = 9 then if p0 = p1 then 1
  else 0
  else if p1 = 10 then if p0 < 10 then 0
  else 1
  else if p1 = 11 then if p0 < 11 then 0
  else 1
  else if p1 = 12 then if p0 = p1 then 1
  else 0
  else if p1 = 13 then if p0 < 10 then 0
  else 1
  else if p1 = 14 then if p0 < 11 then 0
  else 1
  else if p1 = 15 then if p0 = 8 then 1
  else if p0 = 9 then 1
  else 0
  else if p0 = p1 then 1
  else 0
set_option maxHeartbeats 4000000 in
set_option maxRecDepth 100000 in
theorem pm_X9_isKindOf (l : Launch) (p0 : Int32) (p1 : Int32) : PmI l yX9_isKindOf wsX9_isKindOf 0 0 [.int p0, .int p1] (fun _ => True) (s_X9_isKindOf p0 p1) := by
  refine Met.ofW (cc := cX9_isKindOf) (maxL := 2) (ret := (some .boolean)) (by decide) rfl ?_
  intro p e s m args below meth c s₁ B hml hv
  obtain ⟨rfl, -⟩ := hv
  have hx := B.exec
  have hb := B.bytes
  have hr := B.returns
  have hts := atoms_spec (ws := wsX9_isKindOf) B.pre
  have hown : s.vm.findClass RX9 = some m.cls := findClass_of_methodNamed B.named
  have hlocks := B.notSynchronized
  have hS : va_S pv_N s.heap s.heap [] := va_S.rf
  have hl := lv_entry ([.int p0, .int p1]) (n := 2) (Nat.le_of_ble_eq_true rfl)
  rw [lg_entry_eq]
  generalize (lg_sl ([.int p0, .int p1]) ++ List.replicate (2 - (lg_sl ([.int p0, .int p1])).length) Slot.unset).toArray = ls at hl ⊢
  have hl : lv_has ls 2 [(0, .int p0), (1, .int p1)] := hl
  obtain ⟨Z, hZ⟩ : ∃ z, z = MQ below (pm_QI (s_X9_isKindOf p0 p1)) ([.int p0, .int p1] : List Value).toArray s 0 0 pv_N := ⟨_, rfl⟩
  rw [← hZ]
  obtain ⟨Y, hY⟩ : ∃ y, y = s_X9_isKindOf p0 p1 := ⟨_, rfl⟩
  refine lv_iload_n hx hb dX9_isKindOf_0 rfl (lv_at hl 1 rfl) ?_
  by_cases c_1_8 : p1 = 8
  · refine lv_tableIn (off := 47) (tgt := 48) hx hb dX9_isKindOf_1 (by rw [c_1_8]; decide) (by rw [c_1_8]; decide) (by rw [c_1_8]; decide) (by decide) ?_
    refine lv_iload_n hx hb dX9_isKindOf_48 rfl (lv_at hl 0 rfl) ?_
    refine lv_bipush (v := 8) hx hb dX9_isKindOf_49 (by decide) ?_
    refine lv_icmp_eq (tgt := 60) hx hb dX9_isKindOf_51 (by decide) (fun c_51 => ?_) (fun c_51 => ?_)
    ·
      refine lv_iconst (v := 1) hx hb dX9_isKindOf_60 (by decide) ?_
      refine lv_goto (tgt := 65) hx hb dX9_isKindOf_61 (by decide) ?_
      rw [hZ]
      exact pm_zret (w := s_X9_isKindOf p0 p1) hx hb hr hlocks hS (nz_1) (by exact (((if_pos c_1_8).trans (if_pos c_51))).symm) dX9_isKindOf_65
    ·
      refine lv_iload_n hx hb dX9_isKindOf_54 rfl (lv_at hl 0 rfl) ?_
      refine lv_bipush (v := 9) hx hb dX9_isKindOf_55 (by decide) ?_
      refine lv_icmp_ne (tgt := 64) hx hb dX9_isKindOf_57 (by decide) (fun c_57 => ?_) (fun c_57 => ?_)
      ·
        refine lv_iconst (v := 0) hx hb dX9_isKindOf_64 (by decide) ?_
        rw [hZ]
        exact pm_zret (w := s_X9_isKindOf p0 p1) hx hb hr hlocks hS (nz_0) (by exact ((((if_pos c_1_8).trans (if_neg c_51)).trans (if_neg c_57))).symm) dX9_isKindOf_65
      ·
        refine lv_iconst (v := 1) hx hb dX9_isKindOf_60 (by decide) ?_
        refine lv_goto (tgt := 65) hx hb dX9_isKindOf_61 (by decide) ?_
        rw [hZ]
        exact pm_zret (w := s_X9_isKindOf p0 p1) hx hb hr hlocks hS (nz_1) (by exact ((((if_pos c_1_8).trans (if_neg c_51)).trans (if_pos c_57))).symm) dX9_isKindOf_65
  ·
    by_cases c_1_9 : p1 = 9
    · refine lv_tableIn (off := 107) (tgt := 108) hx hb dX9_isKindOf_1 (by rw [c_1_9]; decide) (by rw [c_1_9]; decide) (by rw [c_1_9]; decide) (by decide) ?_
      refine lv_iload_n hx hb dX9_isKindOf_108 rfl (lv_at hl 0 rfl) ?_
      refine lv_iload_n hx hb dX9_isKindOf_109 rfl (lv_at hl 1 rfl) ?_
      refine lv_icmp_ne (tgt := 117) hx hb dX9_isKindOf_110 (by decide) (fun c_110 => ?_) (fun c_110 => ?_)
      ·
        refine lv_iconst (v := 0) hx hb dX9_isKindOf_117 (by decide) ?_
        rw [hZ]
        exact pm_zret (w := s_X9_isKindOf p0 p1) hx hb hr hlocks hS (nz_0) (by exact ((((if_neg c_1_8).trans (if_pos c_1_9)).trans (if_neg c_110))).symm) dX9_isKindOf_118
      ·
        refine lv_iconst (v := 1) hx hb dX9_isKindOf_113 (by decide) ?_
        refine lv_goto (tgt := 118) hx hb dX9_isKindOf_114 (by decide) ?_
        rw [hZ]
        exact pm_zret (w := s_X9_isKindOf p0 p1) hx hb hr hlocks hS (nz_1) (by exact ((((if_neg c_1_8).trans (if_pos c_1_9)).trans (if_pos c_110))).symm) dX9_isKindOf_118
    ·
      by_cases c_1_10 : p1 = 10
      · refine lv_tableIn (off := 65) (tgt := 66) hx hb dX9_isKindOf_1 (by rw [c_1_10]; decide) (by rw [c_1_10]; decide) (by rw [c_1_10]; decide) (by decide) ?_
        refine lv_iload_n hx hb dX9_isKindOf_66 rfl (lv_at hl 0 rfl) ?_
        refine lv_bipush (v := 10) hx hb dX9_isKindOf_67 (by decide) ?_
        refine lv_icmp_lt (tgt := 76) hx hb dX9_isKindOf_69 (by decide) (fun c_69 => ?_) (fun c_69 => ?_)
        ·
          refine lv_iconst (v := 0) hx hb dX9_isKindOf_76 (by decide) ?_
          rw [hZ]
          exact pm_zret (w := s_X9_isKindOf p0 p1) hx hb hr hlocks hS (nz_0) (by exact (((((if_neg c_1_8).trans (if_neg c_1_9)).trans (if_pos c_1_10)).trans (if_pos c_69))).symm) dX9_isKindOf_77
        ·
          refine lv_iconst (v := 1) hx hb dX9_isKindOf_72 (by decide) ?_
          refine lv_goto (tgt := 77) hx hb dX9_isKindOf_73 (by decide) ?_
          rw [hZ]
          exact pm_zret (w := s_X9_isKindOf p0 p1) hx hb hr hlocks hS (nz_1) (by exact (((((if_neg c_1_8).trans (if_neg c_1_9)).trans (if_pos c_1_10)).trans (if_neg c_69))).symm) dX9_isKindOf_77
      ·
        by_cases c_1_11 : p1 = 11
        · refine lv_tableIn (off := 77) (tgt := 78) hx hb dX9_isKindOf_1 (by rw [c_1_11]; decide) (by rw [c_1_11]; decide) (by rw [c_1_11]; decide) (by decide) ?_
          refine lv_iload_n hx hb dX9_isKindOf_78 rfl (lv_at hl 0 rfl) ?_
          refine lv_bipush (v := 11) hx hb dX9_isKindOf_79 (by decide) ?_
          refine lv_icmp_lt (tgt := 88) hx hb dX9_isKindOf_81 (by decide) (fun c_81 => ?_) (fun c_81 => ?_)
          ·
            refine lv_iconst (v := 0) hx hb dX9_isKindOf_88 (by decide) ?_
            rw [hZ]
            exact pm_zret (w := s_X9_isKindOf p0 p1) hx hb hr hlocks hS (nz_0) (by exact ((((((if_neg c_1_8).trans (if_neg c_1_9)).trans (if_neg c_1_10)).trans (if_pos c_1_11)).trans (if_pos c_81))).symm) dX9_isKindOf_89
          ·
            refine lv_iconst (v := 1) hx hb dX9_isKindOf_84 (by decide) ?_
            refine lv_goto (tgt := 89) hx hb dX9_isKindOf_85 (by decide) ?_
            rw [hZ]
            exact pm_zret (w := s_X9_isKindOf p0 p1) hx hb hr hlocks hS (nz_1) (by exact ((((((if_neg c_1_8).trans (if_neg c_1_9)).trans (if_neg c_1_10)).trans (if_pos c_1_11)).trans (if_neg c_81))).symm) dX9_isKindOf_89
        ·
          by_cases c_1_12 : p1 = 12
          · refine lv_tableIn (off := 107) (tgt := 108) hx hb dX9_isKindOf_1 (by rw [c_1_12]; decide) (by rw [c_1_12]; decide) (by rw [c_1_12]; decide) (by decide) ?_
            refine lv_iload_n hx hb dX9_isKindOf_108 rfl (lv_at hl 0 rfl) ?_
            refine lv_iload_n hx hb dX9_isKindOf_109 rfl (lv_at hl 1 rfl) ?_
            refine lv_icmp_ne (tgt := 117) hx hb dX9_isKindOf_110 (by decide) (fun c_110 => ?_) (fun c_110 => ?_)
            ·
              refine lv_iconst (v := 0) hx hb dX9_isKindOf_117 (by decide) ?_
              rw [hZ]
              exact pm_zret (w := s_X9_isKindOf p0 p1) hx hb hr hlocks hS (nz_0) (by exact (((((((if_neg c_1_8).trans (if_neg c_1_9)).trans (if_neg c_1_10)).trans (if_neg c_1_11)).trans (if_pos c_1_12)).trans (if_neg c_110))).symm) dX9_isKindOf_118
            ·
              refine lv_iconst (v := 1) hx hb dX9_isKindOf_113 (by decide) ?_
              refine lv_goto (tgt := 118) hx hb dX9_isKindOf_114 (by decide) ?_
              rw [hZ]
              exact pm_zret (w := s_X9_isKindOf p0 p1) hx hb hr hlocks hS (nz_1) (by exact (((((((if_neg c_1_8).trans (if_neg c_1_9)).trans (if_neg c_1_10)).trans (if_neg c_1_11)).trans (if_pos c_1_12)).trans (if_pos c_110))).symm) dX9_isKindOf_118
          ·
            by_cases c_1_13 : p1 = 13
            · refine lv_tableIn (off := 65) (tgt := 66) hx hb dX9_isKindOf_1 (by rw [c_1_13]; decide) (by rw [c_1_13]; decide) (by rw [c_1_13]; decide) (by decide) ?_
              refine lv_iload_n hx hb dX9_isKindOf_66 rfl (lv_at hl 0 rfl) ?_
              refine lv_bipush (v := 10) hx hb dX9_isKindOf_67 (by decide) ?_
              refine lv_icmp_lt (tgt := 76) hx hb dX9_isKindOf_69 (by decide) (fun c_69 => ?_) (fun c_69 => ?_)
              ·
                refine lv_iconst (v := 0) hx hb dX9_isKindOf_76 (by decide) ?_
                rw [hZ]
                exact pm_zret (w := s_X9_isKindOf p0 p1) hx hb hr hlocks hS (nz_0) (by exact ((((((((if_neg c_1_8).trans (if_neg c_1_9)).trans (if_neg c_1_10)).trans (if_neg c_1_11)).trans (if_neg c_1_12)).trans (if_pos c_1_13)).trans (if_pos c_69))).symm) dX9_isKindOf_77
              ·
                refine lv_iconst (v := 1) hx hb dX9_isKindOf_72 (by decide) ?_
                refine lv_goto (tgt := 77) hx hb dX9_isKindOf_73 (by decide) ?_
                rw [hZ]
                exact pm_zret (w := s_X9_isKindOf p0 p1) hx hb hr hlocks hS (nz_1) (by exact ((((((((if_neg c_1_8).trans (if_neg c_1_9)).trans (if_neg c_1_10)).trans (if_neg c_1_11)).trans (if_neg c_1_12)).trans (if_pos c_1_13)).trans (if_neg c_69))).symm) dX9_isKindOf_77
            ·
              by_cases c_1_14 : p1 = 14
              · refine lv_tableIn (off := 77) (tgt := 78) hx hb dX9_isKindOf_1 (by rw [c_1_14]; decide) (by rw [c_1_14]; decide) (by rw [c_1_14]; decide) (by decide) ?_
                refine lv_iload_n hx hb dX9_isKindOf_78 rfl (lv_at hl 0 rfl) ?_
                refine lv_bipush (v := 11) hx hb dX9_isKindOf_79 (by decide) ?_
                refine lv_icmp_lt (tgt := 88) hx hb dX9_isKindOf_81 (by decide) (fun c_81 => ?_) (fun c_81 => ?_)
                ·
                  refine lv_iconst (v := 0) hx hb dX9_isKindOf_88 (by decide) ?_
                  rw [hZ]
                  exact pm_zret (w := s_X9_isKindOf p0 p1) hx hb hr hlocks hS (nz_0) (by exact (((((((((if_neg c_1_8).trans (if_neg c_1_9)).trans (if_neg c_1_10)).trans (if_neg c_1_11)).trans (if_neg c_1_12)).trans (if_neg c_1_13)).trans (if_pos c_1_14)).trans (if_pos c_81))).symm) dX9_isKindOf_89
                ·
                  refine lv_iconst (v := 1) hx hb dX9_isKindOf_84 (by decide) ?_
                  refine lv_goto (tgt := 89) hx hb dX9_isKindOf_85 (by decide) ?_
                  rw [hZ]
                  exact pm_zret (w := s_X9_isKindOf p0 p1) hx hb hr hlocks hS (nz_1) (by exact (((((((((if_neg c_1_8).trans (if_neg c_1_9)).trans (if_neg c_1_10)).trans (if_neg c_1_11)).trans (if_neg c_1_12)).trans (if_neg c_1_13)).trans (if_pos c_1_14)).trans (if_neg c_81))).symm) dX9_isKindOf_89
              ·
                by_cases c_1_15 : p1 = 15
                · refine lv_tableIn (off := 89) (tgt := 90) hx hb dX9_isKindOf_1 (by rw [c_1_15]; decide) (by rw [c_1_15]; decide) (by rw [c_1_15]; decide) (by decide) ?_
                  refine lv_iload_n hx hb dX9_isKindOf_90 rfl (lv_at hl 0 rfl) ?_
                  refine lv_bipush (v := 8) hx hb dX9_isKindOf_91 (by decide) ?_
                  refine lv_icmp_eq (tgt := 102) hx hb dX9_isKindOf_93 (by decide) (fun c_93 => ?_) (fun c_93 => ?_)
                  ·
                    refine lv_iconst (v := 1) hx hb dX9_isKindOf_102 (by decide) ?_
                    refine lv_goto (tgt := 107) hx hb dX9_isKindOf_103 (by decide) ?_
                    rw [hZ]
                    exact pm_zret (w := s_X9_isKindOf p0 p1) hx hb hr hlocks hS (nz_1) (by exact ((((((((((if_neg c_1_8).trans (if_neg c_1_9)).trans (if_neg c_1_10)).trans (if_neg c_1_11)).trans (if_neg c_1_12)).trans (if_neg c_1_13)).trans (if_neg c_1_14)).trans (if_pos c_1_15)).trans (if_pos c_93))).symm) dX9_isKindOf_107
                  ·
                    refine lv_iload_n hx hb dX9_isKindOf_96 rfl (lv_at hl 0 rfl) ?_
                    refine lv_bipush (v := 9) hx hb dX9_isKindOf_97 (by decide) ?_
                    refine lv_icmp_ne (tgt := 106) hx hb dX9_isKindOf_99 (by decide) (fun c_99 => ?_) (fun c_99 => ?_)
                    ·
                      refine lv_iconst (v := 0) hx hb dX9_isKindOf_106 (by decide) ?_
                      rw [hZ]
                      exact pm_zret (w := s_X9_isKindOf p0 p1) hx hb hr hlocks hS (nz_0) (by exact (((((((((((if_neg c_1_8).trans (if_neg c_1_9)).trans (if_neg c_1_10)).trans (if_neg c_1_11)).trans (if_neg c_1_12)).trans (if_neg c_1_13)).trans (if_neg c_1_14)).trans (if_pos c_1_15)).trans (if_neg c_93)).trans (if_neg c_99))).symm) dX9_isKindOf_107
                    ·
                      refine lv_iconst (v := 1) hx hb dX9_isKindOf_102 (by decide) ?_
                      refine lv_goto (tgt := 107) hx hb dX9_isKindOf_103 (by decide) ?_
                      rw [hZ]
                      exact pm_zret (w := s_X9_isKindOf p0 p1) hx hb hr hlocks hS (nz_1) (by exact (((((((((((if_neg c_1_8).trans (if_neg c_1_9)).trans (if_neg c_1_10)).trans (if_neg c_1_11)).trans (if_neg c_1_12)).trans (if_neg c_1_13)).trans (if_neg c_1_14)).trans (if_pos c_1_15)).trans (if_neg c_93)).trans (if_pos c_99))).symm) dX9_isKindOf_107
                ·
                  have nc_1_8 : (p1).toInt ≠ 8 := fun h => c_1_8 (Int32.toInt.inj (h.trans (by decide)))
                  have nc_1_9 : (p1).toInt ≠ 9 := fun h => c_1_9 (Int32.toInt.inj (h.trans (by decide)))
                  have nc_1_10 : (p1).toInt ≠ 10 := fun h => c_1_10 (Int32.toInt.inj (h.trans (by decide)))
                  have nc_1_11 : (p1).toInt ≠ 11 := fun h => c_1_11 (Int32.toInt.inj (h.trans (by decide)))
                  have nc_1_12 : (p1).toInt ≠ 12 := fun h => c_1_12 (Int32.toInt.inj (h.trans (by decide)))
                  have nc_1_13 : (p1).toInt ≠ 13 := fun h => c_1_13 (Int32.toInt.inj (h.trans (by decide)))
                  have nc_1_14 : (p1).toInt ≠ 14 := fun h => c_1_14 (Int32.toInt.inj (h.trans (by decide)))
                  have nc_1_15 : (p1).toInt ≠ 15 := fun h => c_1_15 (Int32.toInt.inj (h.trans (by decide)))
                  refine lv_tableOut (tgt := 108) hx hb dX9_isKindOf_1 (by omega) (by decide) ?_
                  refine lv_iload_n hx hb dX9_isKindOf_108 rfl (lv_at hl 0 rfl) ?_
                  refine lv_iload_n hx hb dX9_isKindOf_109 rfl (lv_at hl 1 rfl) ?_
                  refine lv_icmp_ne (tgt := 117) hx hb dX9_isKindOf_110 (by decide) (fun c_110 => ?_) (fun c_110 => ?_)
                  ·
                    refine lv_iconst (v := 0) hx hb dX9_isKindOf_117 (by decide) ?_
                    rw [hZ]
                    exact pm_zret (w := s_X9_isKindOf p0 p1) hx hb hr hlocks hS (nz_0) (by exact ((((((((((if_neg c_1_8).trans (if_neg c_1_9)).trans (if_neg c_1_10)).trans (if_neg c_1_11)).trans (if_neg c_1_12)).trans (if_neg c_1_13)).trans (if_neg c_1_14)).trans (if_neg c_1_15)).trans (if_neg c_110))).symm) dX9_isKindOf_118
                  ·
                    refine lv_iconst (v := 1) hx hb dX9_isKindOf_113 (by decide) ?_
                    refine lv_goto (tgt := 118) hx hb dX9_isKindOf_114 (by decide) ?_
                    rw [hZ]
                    exact pm_zret (w := s_X9_isKindOf p0 p1) hx hb hr hlocks hS (nz_1) (by exact ((((((((((if_neg c_1_8).trans (if_neg c_1_9)).trans (if_neg c_1_10)).trans (if_neg c_1_11)).trans (if_neg c_1_12)).trans (if_neg c_1_13)).trans (if_neg c_1_14)).trans (if_neg c_1_15)).trans (if_pos c_110))).symm) dX9_isKindOf_118
theorem hd_X9_doubleBits : yX9_doubleBits.cls ≠ "java/lang/invoke/MethodHandle" ∧ yX9_doubleBits.cls ≠ "java/lang/invoke/VarHandle" ∧ (parseMethodDescriptor yX9_doubleBits.desc).map (fun d => d.parameters.length) = some 1 := by decide +kernel
def s_X9_doubleBits (p0 : UInt64) : Int64 :=
  if dEq p0 p0 then s_Jxe99ae_doubleToLongBits_ccdee p0
  else (9221120237041090560)
set_option maxHeartbeats 4000000 in
set_option maxRecDepth 100000 in
theorem pm_X9_doubleBits (l : Launch) (p0 : UInt64) : PmL l yX9_doubleBits wsX9_doubleBits 2 42 [.double p0] (fun _ => True) (s_X9_doubleBits p0) := by
  refine Met.ofW (cc := cX9_doubleBits) (maxL := 2) (ret := (some .long)) (by decide) rfl ?_
  intro p e s m args below meth c s₁ B hml hv
  obtain ⟨rfl, -⟩ := hv
  have hx := B.exec
  have hb := B.bytes
  have hr := B.returns
  have hts := atoms_spec (ws := wsX9_doubleBits) B.pre
  have hown : s.vm.findClass RX9 = some m.cls := findClass_of_methodNamed B.named
  have hlocks := B.notSynchronized
  have hS : va_S pv_N s.heap s.heap [] := va_S.rf
  have hl := lv_entry ([.double p0]) (n := 2) (Nat.le_of_ble_eq_true rfl)
  rw [lg_entry_eq]
  generalize (lg_sl ([.double p0]) ++ List.replicate (2 - (lg_sl ([.double p0])).length) Slot.unset).toArray = ls at hl ⊢
  have hl : lv_has ls 2 [(0, .double p0)] := hl
  obtain ⟨Z, hZ⟩ : ∃ z, z = MQ below (pm_QL (s_X9_doubleBits p0)) ([.double p0] : List Value).toArray s 0 0 pv_N := ⟨_, rfl⟩
  rw [← hZ]
  obtain ⟨Y, hY⟩ : ∃ y, y = s_X9_doubleBits p0 := ⟨_, rfl⟩
  refine lv_dload_n hx hb dX9_doubleBits_0 rfl (lv_at hl 0 rfl) ?_
  refine lv_dload_n hx hb dX9_doubleBits_1 rfl (lv_at hl 0 rfl) ?_
  refine lf_d_leq (tgt := 12) hx hb dX9_doubleBits_2 dX9_doubleBits_3 (by decide) (fun c_2 => ?_) (fun c_2 => ?_)
  ·
    refine lv_dload_n hx hb dX9_doubleBits_12 rfl (lv_at hl 0 rfl) ?_
    refine pm_callL (va_runS (As := [.double p0]) (rest := []) ⟨hx, hb, hml, hown, hts⟩ (pm_Jxe99ae_doubleToLongBits_ccdee l p0) (va_cwS 1 hts gX9_doubleBits_Jxe99ae_doubleToLongBits_ccdee rfl rfl rfl hd_Jxe99ae_doubleToLongBits_ccdee ⟨Nat.le_of_ble_eq_true rfl, Nat.le_of_ble_eq_true rfl⟩) ⟨pm_fbT, fun U hU hW => ⟨rfl, trivial⟩⟩ rfl rfl hl.1 rfl (lv_room (Nat.le_of_ble_eq_true rfl)) dX9_doubleBits_13 ⟨Nat.le_refl 0, Nat.le_refl 0⟩) hS (fun H locs _ _ hS => ?_)
    rw [hZ]
    exact pm_lret (w := s_X9_doubleBits p0) hx hb hr hlocks hS (by exact ((if_pos c_2)).symm) dX9_doubleBits_16
  ·
    refine lv_ldc2 (v := (9221120237041090560)) hx hb hown (hts _ (List.mem_of_getElem? (i := 1) rfl)) dX9_doubleBits_6 ?_
    refine lv_goto (tgt := 16) hx hb dX9_doubleBits_9 (by decide) ?_
    rw [hZ]
    exact pm_lret (w := s_X9_doubleBits p0) hx hb hr hlocks hS (by exact ((if_neg c_2)).symm) dX9_doubleBits_16
theorem hd_X9_floatBits : yX9_floatBits.cls ≠ "java/lang/invoke/MethodHandle" ∧ yX9_floatBits.cls ≠ "java/lang/invoke/VarHandle" ∧ (parseMethodDescriptor yX9_floatBits.desc).map (fun d => d.parameters.length) = some 1 := by decide +kernel
def s_X9_floatBits (p0 : UInt32) : Int64 :=
  if fEq p0 p0 then (s_Jxf58ca_floatToIntBits_5c35a p0).toInt64
  else (2143289344)
set_option maxHeartbeats 4000000 in
set_option maxRecDepth 100000 in
theorem pm_X9_floatBits (l : Launch) (p0 : UInt32) : PmL l yX9_floatBits wsX9_floatBits 2 40 [.float p0] (fun _ => True) (s_X9_floatBits p0) := by
  refine Met.ofW (cc := cX9_floatBits) (maxL := 1) (ret := (some .long)) (by decide) rfl ?_
  intro p e s m args below meth c s₁ B hml hv
  obtain ⟨rfl, -⟩ := hv
  have hx := B.exec
  have hb := B.bytes
  have hr := B.returns
  have hts := atoms_spec (ws := wsX9_floatBits) B.pre
  have hown : s.vm.findClass RX9 = some m.cls := findClass_of_methodNamed B.named
  have hlocks := B.notSynchronized
  have hS : va_S pv_N s.heap s.heap [] := va_S.rf
  have hl := lv_entry ([.float p0]) (n := 1) (Nat.le_of_ble_eq_true rfl)
  rw [lg_entry_eq]
  generalize (lg_sl ([.float p0]) ++ List.replicate (1 - (lg_sl ([.float p0])).length) Slot.unset).toArray = ls at hl ⊢
  have hl : lv_has ls 1 [(0, .float p0)] := hl
  obtain ⟨Z, hZ⟩ : ∃ z, z = MQ below (pm_QL (s_X9_floatBits p0)) ([.float p0] : List Value).toArray s 0 0 pv_N := ⟨_, rfl⟩
  rw [← hZ]
  obtain ⟨Y, hY⟩ : ∃ y, y = s_X9_floatBits p0 := ⟨_, rfl⟩
  refine lv_fload_n hx hb dX9_floatBits_0 rfl (lv_at hl 0 rfl) ?_
  refine lv_fload_n hx hb dX9_floatBits_1 rfl (lv_at hl 0 rfl) ?_
  refine lf_f_leq (tgt := 12) hx hb dX9_floatBits_2 dX9_floatBits_3 (by decide) (fun c_2 => ?_) (fun c_2 => ?_)
  ·
    refine lv_fload_n hx hb dX9_floatBits_12 rfl (lv_at hl 0 rfl) ?_
    refine pm_callI (va_runS (As := [.float p0]) (rest := []) ⟨hx, hb, hml, hown, hts⟩ (pm_Jxf58ca_floatToIntBits_5c35a l p0) (va_cwS 1 hts gX9_floatBits_Jxf58ca_floatToIntBits_5c35a rfl rfl rfl hd_Jxf58ca_floatToIntBits_5c35a ⟨Nat.le_of_ble_eq_true rfl, Nat.le_of_ble_eq_true rfl⟩) ⟨pm_fbT, fun U hU hW => ⟨rfl, trivial⟩⟩ rfl rfl hl.1 rfl (lv_room (Nat.le_of_ble_eq_true rfl)) dX9_floatBits_13 ⟨Nat.le_refl 0, Nat.le_refl 0⟩) hS (fun H locs _ _ hS => ?_)
    refine lv_i2l (v := (s_Jxf58ca_floatToIntBits_5c35a p0).toInt64) hx hb dX9_floatBits_16 rfl ?_
    rw [hZ]
    exact pm_lret (w := s_X9_floatBits p0) hx hb hr hlocks hS (by exact ((if_pos c_2)).symm) dX9_floatBits_17
  ·
    refine lv_ldc2 (v := (2143289344)) hx hb hown (hts _ (List.mem_of_getElem? (i := 1) rfl)) dX9_floatBits_6 ?_
    refine lv_goto (tgt := 17) hx hb dX9_floatBits_9 (by decide) ?_
    rw [hZ]
    exact pm_lret (w := s_X9_floatBits p0) hx hb hr hlocks hS (by exact ((if_neg c_2)).symm) dX9_floatBits_17
theorem hd_X9_cut : yX9_cut.cls ≠ "java/lang/invoke/MethodHandle" ∧ yX9_cut.cls ≠ "java/lang/invoke/VarHandle" ∧ (parseMethodDescriptor yX9_cut.desc).map (fun d => d.parameters.length) = some 2 := by decide +kernel
def s_X9_cut (p0 : Int32) (p1 : Int64) : Int64 :=
  if p0 = 0 then p1.toInt32.toInt64
  else if p0 = 1 then p1
  else if p0 = 2 then p1.toInt32.toInt8.toInt32.toInt64
  else if p0 = 3 then ((p1.toInt32.toUInt32 % 65536).toInt32).toInt64
  else if p0 = 4 then p1.toInt32.toInt16.toInt32.toInt64
  else if p0 = 5 then s_X9_floatBits (s_X9_singleBits p1.toInt32)
  else if p0 = 6 then s_X9_doubleBits (s_X9_realBits p1)
  else p1
set_option maxHeartbeats 4000000 in
set_option maxRecDepth 100000 in
theorem pm_X9_cut (l : Launch) (p0 : Int32) (p1 : Int64) : PmL l yX9_cut wsX9_cut 3 63 [.int p0, .long p1] (fun _ => True) (s_X9_cut p0 p1) := by
  refine Met.ofW (cc := cX9_cut) (maxL := 3) (ret := (some .long)) (by decide) rfl ?_
  intro p e s m args below meth c s₁ B hml hv
  obtain ⟨rfl, -⟩ := hv
  have hx := B.exec
  have hb := B.bytes
  have hr := B.returns
  have hts := atoms_spec (ws := wsX9_cut) B.pre
  have hown : s.vm.findClass RX9 = some m.cls := findClass_of_methodNamed B.named
  have hlocks := B.notSynchronized
  have hS : va_S pv_N s.heap s.heap [] := va_S.rf
  have hl := lv_entry ([.int p0, .long p1]) (n := 3) (Nat.le_of_ble_eq_true rfl)
  rw [lg_entry_eq]
  generalize (lg_sl ([.int p0, .long p1]) ++ List.replicate (3 - (lg_sl ([.int p0, .long p1])).length) Slot.unset).toArray = ls at hl ⊢
  have hl : lv_has ls 3 [(0, .int p0), (1, .long p1)] := hl
  obtain ⟨Z, hZ⟩ : ∃ z, z = MQ below (pm_QL (s_X9_cut p0 p1)) ([.int p0, .long p1] : List Value).toArray s 0 0 pv_N := ⟨_, rfl⟩
  rw [← hZ]
  obtain ⟨Y, hY⟩ : ∃ y, y = s_X9_cut p0 p1 := ⟨_, rfl⟩
  refine lv_iload_n hx hb dX9_cut_0 rfl (lv_at hl 0 rfl) ?_
  by_cases c_1_0 : p0 = 0
  · refine lv_tableIn (off := 43) (tgt := 44) hx hb dX9_cut_1 (by rw [c_1_0]; decide) (by rw [c_1_0]; decide) (by rw [c_1_0]; decide) (by decide) ?_
    refine lv_lload_n hx hb dX9_cut_44 rfl (lv_at hl 1 rfl) ?_
    refine lv_l2i (v := p1.toInt32) hx hb dX9_cut_45 rfl ?_
    refine lv_i2l (v := p1.toInt32.toInt64) hx hb dX9_cut_46 rfl ?_
    rw [hZ]
    exact pm_lret (w := s_X9_cut p0 p1) hx hb hr hlocks hS (by exact ((if_pos c_1_0)).symm) dX9_cut_47
  ·
    by_cases c_1_1 : p0 = 1
    · refine lv_tableIn (off := 79) (tgt := 80) hx hb dX9_cut_1 (by rw [c_1_1]; decide) (by rw [c_1_1]; decide) (by rw [c_1_1]; decide) (by decide) ?_
      refine lv_lload_n hx hb dX9_cut_80 rfl (lv_at hl 1 rfl) ?_
      rw [hZ]
      exact pm_lret (w := s_X9_cut p0 p1) hx hb hr hlocks hS (by exact (((if_neg c_1_0).trans (if_pos c_1_1))).symm) dX9_cut_81
    ·
      by_cases c_1_2 : p0 = 2
      · refine lv_tableIn (off := 47) (tgt := 48) hx hb dX9_cut_1 (by rw [c_1_2]; decide) (by rw [c_1_2]; decide) (by rw [c_1_2]; decide) (by decide) ?_
        refine lv_lload_n hx hb dX9_cut_48 rfl (lv_at hl 1 rfl) ?_
        refine lv_l2i (v := p1.toInt32) hx hb dX9_cut_49 rfl ?_
        refine lv_i2b (v := p1.toInt32.toInt8.toInt32) hx hb dX9_cut_50 rfl ?_
        refine lv_i2l (v := p1.toInt32.toInt8.toInt32.toInt64) hx hb dX9_cut_51 rfl ?_
        rw [hZ]
        exact pm_lret (w := s_X9_cut p0 p1) hx hb hr hlocks hS (by exact ((((if_neg c_1_0).trans (if_neg c_1_1)).trans (if_pos c_1_2))).symm) dX9_cut_52
      ·
        by_cases c_1_3 : p0 = 3
        · refine lv_tableIn (off := 52) (tgt := 53) hx hb dX9_cut_1 (by rw [c_1_3]; decide) (by rw [c_1_3]; decide) (by rw [c_1_3]; decide) (by decide) ?_
          refine lv_lload_n hx hb dX9_cut_53 rfl (lv_at hl 1 rfl) ?_
          refine lv_l2i (v := p1.toInt32) hx hb dX9_cut_54 rfl ?_
          refine lv_i2c (v := (p1.toInt32.toUInt32 % 65536).toInt32) hx hb dX9_cut_55 rfl ?_
          refine lv_i2l (v := ((p1.toInt32.toUInt32 % 65536).toInt32).toInt64) hx hb dX9_cut_56 rfl ?_
          rw [hZ]
          exact pm_lret (w := s_X9_cut p0 p1) hx hb hr hlocks hS (by exact (((((if_neg c_1_0).trans (if_neg c_1_1)).trans (if_neg c_1_2)).trans (if_pos c_1_3))).symm) dX9_cut_57
        ·
          by_cases c_1_4 : p0 = 4
          · refine lv_tableIn (off := 57) (tgt := 58) hx hb dX9_cut_1 (by rw [c_1_4]; decide) (by rw [c_1_4]; decide) (by rw [c_1_4]; decide) (by decide) ?_
            refine lv_lload_n hx hb dX9_cut_58 rfl (lv_at hl 1 rfl) ?_
            refine lv_l2i (v := p1.toInt32) hx hb dX9_cut_59 rfl ?_
            refine lv_i2s (v := p1.toInt32.toInt16.toInt32) hx hb dX9_cut_60 rfl ?_
            refine lv_i2l (v := p1.toInt32.toInt16.toInt32.toInt64) hx hb dX9_cut_61 rfl ?_
            rw [hZ]
            exact pm_lret (w := s_X9_cut p0 p1) hx hb hr hlocks hS (by exact ((((((if_neg c_1_0).trans (if_neg c_1_1)).trans (if_neg c_1_2)).trans (if_neg c_1_3)).trans (if_pos c_1_4))).symm) dX9_cut_62
          ·
            by_cases c_1_5 : p0 = 5
            · refine lv_tableIn (off := 62) (tgt := 63) hx hb dX9_cut_1 (by rw [c_1_5]; decide) (by rw [c_1_5]; decide) (by rw [c_1_5]; decide) (by decide) ?_
              refine lv_lload_n hx hb dX9_cut_63 rfl (lv_at hl 1 rfl) ?_
              refine lv_l2i (v := p1.toInt32) hx hb dX9_cut_64 rfl ?_
              refine pm_callF (va_runS (As := [.int p1.toInt32]) (rest := []) ⟨hx, hb, hml, hown, hts⟩ (pm_X9_singleBits l p1.toInt32) (va_cwS 1 hts gX9_cut_X9_singleBits rfl rfl rfl hd_X9_singleBits ⟨Nat.le_of_ble_eq_true rfl, Nat.le_of_ble_eq_true rfl⟩) ⟨pm_fbT, fun U hU hW => ⟨rfl, trivial⟩⟩ rfl rfl hl.1 rfl (lv_room (Nat.le_of_ble_eq_true rfl)) dX9_cut_65 ⟨Nat.le_refl 0, Nat.le_refl 0⟩) hS (fun H locs _ _ hS => ?_)
              refine pm_callL (va_runS (As := [.float (s_X9_singleBits p1.toInt32)]) (rest := []) ⟨hx, hb, hml, hown, hts⟩ (pm_X9_floatBits l (s_X9_singleBits p1.toInt32)) (va_cwS 1 hts gX9_cut_X9_floatBits rfl rfl rfl hd_X9_floatBits ⟨Nat.le_of_ble_eq_true rfl, Nat.le_of_ble_eq_true rfl⟩) ⟨pm_fbT, fun U hU hW => ⟨rfl, trivial⟩⟩ rfl rfl hl.1 rfl (lv_room (Nat.le_of_ble_eq_true rfl)) dX9_cut_68 ⟨Nat.le_refl 0, Nat.le_refl 0⟩) hS (fun H locs _ _ hS => ?_)
              rw [hZ]
              exact pm_lret (w := s_X9_cut p0 p1) hx hb hr hlocks hS (by exact (((((((if_neg c_1_0).trans (if_neg c_1_1)).trans (if_neg c_1_2)).trans (if_neg c_1_3)).trans (if_neg c_1_4)).trans (if_pos c_1_5))).symm) dX9_cut_71
            ·
              by_cases c_1_6 : p0 = 6
              · refine lv_tableIn (off := 71) (tgt := 72) hx hb dX9_cut_1 (by rw [c_1_6]; decide) (by rw [c_1_6]; decide) (by rw [c_1_6]; decide) (by decide) ?_
                refine lv_lload_n hx hb dX9_cut_72 rfl (lv_at hl 1 rfl) ?_
                refine pm_callD (va_runS (As := [.long p1]) (rest := []) ⟨hx, hb, hml, hown, hts⟩ (pm_X9_realBits l p1) (va_cwS 1 hts gX9_cut_X9_realBits rfl rfl rfl hd_X9_realBits ⟨Nat.le_of_ble_eq_true rfl, Nat.le_of_ble_eq_true rfl⟩) ⟨pm_fbT, fun U hU hW => ⟨rfl, trivial⟩⟩ rfl rfl hl.1 rfl (lv_room (Nat.le_of_ble_eq_true rfl)) dX9_cut_73 ⟨Nat.le_refl 0, Nat.le_refl 0⟩) hS (fun H locs _ _ hS => ?_)
                refine pm_callL (va_runS (As := [.double (s_X9_realBits p1)]) (rest := []) ⟨hx, hb, hml, hown, hts⟩ (pm_X9_doubleBits l (s_X9_realBits p1)) (va_cwS 1 hts gX9_cut_X9_doubleBits rfl rfl rfl hd_X9_doubleBits ⟨Nat.le_of_ble_eq_true rfl, Nat.le_of_ble_eq_true rfl⟩) ⟨pm_fbT, fun U hU hW => ⟨rfl, trivial⟩⟩ rfl rfl hl.1 rfl (lv_room (Nat.le_of_ble_eq_true rfl)) dX9_cut_76 ⟨Nat.le_refl 0, Nat.le_refl 0⟩) hS (fun H locs _ _ hS => ?_)
                rw [hZ]
                exact pm_lret (w := s_X9_cut p0 p1) hx hb hr hlocks hS (by exact ((((((((if_neg c_1_0).trans (if_neg c_1_1)).trans (if_neg c_1_2)).trans (if_neg c_1_3)).trans (if_neg c_1_4)).trans (if_neg c_1_5)).trans (if_pos c_1_6))).symm) dX9_cut_79
              ·
                have nc_1_0 : (p0).toInt ≠ 0 := fun h => c_1_0 (Int32.toInt.inj (h.trans (by decide)))
                have nc_1_1 : (p0).toInt ≠ 1 := fun h => c_1_1 (Int32.toInt.inj (h.trans (by decide)))
                have nc_1_2 : (p0).toInt ≠ 2 := fun h => c_1_2 (Int32.toInt.inj (h.trans (by decide)))
                have nc_1_3 : (p0).toInt ≠ 3 := fun h => c_1_3 (Int32.toInt.inj (h.trans (by decide)))
                have nc_1_4 : (p0).toInt ≠ 4 := fun h => c_1_4 (Int32.toInt.inj (h.trans (by decide)))
                have nc_1_5 : (p0).toInt ≠ 5 := fun h => c_1_5 (Int32.toInt.inj (h.trans (by decide)))
                have nc_1_6 : (p0).toInt ≠ 6 := fun h => c_1_6 (Int32.toInt.inj (h.trans (by decide)))
                refine lv_tableOut (tgt := 80) hx hb dX9_cut_1 (by omega) (by decide) ?_
                refine lv_lload_n hx hb dX9_cut_80 rfl (lv_at hl 1 rfl) ?_
                rw [hZ]
                exact pm_lret (w := s_X9_cut p0 p1) hx hb hr hlocks hS (by exact ((((((((if_neg c_1_0).trans (if_neg c_1_1)).trans (if_neg c_1_2)).trans (if_neg c_1_3)).trans (if_neg c_1_4)).trans (if_neg c_1_5)).trans (if_neg c_1_6))).symm) dX9_cut_81
theorem hd_X9_isHolder : yX9_isHolder.cls ≠ "java/lang/invoke/MethodHandle" ∧ yX9_isHolder.cls ≠ "java/lang/invoke/VarHandle" ∧ (parseMethodDescriptor yX9_isHolder.desc).map (fun d => d.parameters.length) = some 1 := by decide +kernel
def s_X9_isHolder (p0 : Int32) : Int32 :=
  if (s_X9_in p0 7 9) = 0 then if p0 = 15 then 1
  else 0
  else 1
set_option maxHeartbeats 4000000 in
set_option maxRecDepth 100000 in
theorem pm_X9_isHolder (l : Launch) (p0 : Int32) : PmI l yX9_isHolder wsX9_isHolder 1 22 [.int p0] (fun _ => True) (s_X9_isHolder p0) := by
  refine Met.ofW (cc := cX9_isHolder) (maxL := 1) (ret := (some .boolean)) (by decide) rfl ?_
  intro p e s m args below meth c s₁ B hml hv
  obtain ⟨rfl, -⟩ := hv
  have hx := B.exec
  have hb := B.bytes
  have hr := B.returns
  have hts := atoms_spec (ws := wsX9_isHolder) B.pre
  have hown : s.vm.findClass RX9 = some m.cls := findClass_of_methodNamed B.named
  have hlocks := B.notSynchronized
  have hS : va_S pv_N s.heap s.heap [] := va_S.rf
  have hl := lv_entry ([.int p0]) (n := 1) (Nat.le_of_ble_eq_true rfl)
  rw [lg_entry_eq]
  generalize (lg_sl ([.int p0]) ++ List.replicate (1 - (lg_sl ([.int p0])).length) Slot.unset).toArray = ls at hl ⊢
  have hl : lv_has ls 1 [(0, .int p0)] := hl
  obtain ⟨Z, hZ⟩ : ∃ z, z = MQ below (pm_QI (s_X9_isHolder p0)) ([.int p0] : List Value).toArray s 0 0 pv_N := ⟨_, rfl⟩
  rw [← hZ]
  obtain ⟨Y, hY⟩ : ∃ y, y = s_X9_isHolder p0 := ⟨_, rfl⟩
  refine lv_iload_n hx hb dX9_isHolder_0 rfl (lv_at hl 0 rfl) ?_
  refine lv_bipush (v := 7) hx hb dX9_isHolder_1 (by decide) ?_
  refine lv_bipush (v := 9) hx hb dX9_isHolder_3 (by decide) ?_
  refine pm_callI (va_runS (As := [.int p0, .int 7, .int 9]) (rest := []) ⟨hx, hb, hml, hown, hts⟩ (pm_X9_in l p0 7 9) (va_cwS 3 hts gX9_isHolder_X9_in rfl rfl rfl hd_X9_in ⟨Nat.le_of_ble_eq_true rfl, Nat.le_of_ble_eq_true rfl⟩) ⟨pm_fbT, fun U hU hW => ⟨rfl, trivial⟩⟩ rfl rfl hl.1 rfl (lv_room (Nat.le_of_ble_eq_true rfl)) dX9_isHolder_5 ⟨Nat.le_refl 0, Nat.le_refl 0⟩) hS (fun H locs _ _ hS => ?_)
  refine lv_if_ne (tgt := 17) hx hb dX9_isHolder_8 (by decide) (fun c_8 => ?_) (fun c_8 => ?_)
  ·
    refine lv_iconst (v := 1) hx hb dX9_isHolder_17 (by decide) ?_
    refine lv_goto (tgt := 22) hx hb dX9_isHolder_18 (by decide) ?_
    rw [hZ]
    exact pm_zret (w := s_X9_isHolder p0) hx hb hr hlocks hS (nz_1) (by exact ((if_neg c_8)).symm) dX9_isHolder_22
  ·
    refine lv_iload_n hx hb dX9_isHolder_11 rfl (lv_at hl 0 rfl) ?_
    refine lv_bipush (v := 15) hx hb dX9_isHolder_12 (by decide) ?_
    refine lv_icmp_ne (tgt := 21) hx hb dX9_isHolder_14 (by decide) (fun c_14 => ?_) (fun c_14 => ?_)
    ·
      refine lv_iconst (v := 0) hx hb dX9_isHolder_21 (by decide) ?_
      rw [hZ]
      exact pm_zret (w := s_X9_isHolder p0) hx hb hr hlocks hS (nz_0) (by exact (((if_pos c_8).trans (if_neg c_14))).symm) dX9_isHolder_22
    ·
      refine lv_iconst (v := 1) hx hb dX9_isHolder_17 (by decide) ?_
      refine lv_goto (tgt := 22) hx hb dX9_isHolder_18 (by decide) ?_
      rw [hZ]
      exact pm_zret (w := s_X9_isHolder p0) hx hb hr hlocks hS (nz_1) (by exact (((if_pos c_8).trans (if_pos c_14))).symm) dX9_isHolder_22
theorem hd_X9_elementType : yX9_elementType.cls ≠ "java/lang/invoke/MethodHandle" ∧ yX9_elementType.cls ≠ "java/lang/invoke/VarHandle" ∧ (parseMethodDescriptor yX9_elementType.desc).map (fun d => d.parameters.length) = some 1 := by decide +kernel
def s_X9_elementType (p0 : Int32) : Int32 :=
  if p0 = 7 then 0
  else if p0 = 8 then 10
  else 11
set_option maxHeartbeats 4000000 in
set_option maxRecDepth 100000 in
theorem pm_X9_elementType (l : Launch) (p0 : Int32) : PmI l yX9_elementType wsX9_elementType 0 0 [.int p0] (fun _ => True) (s_X9_elementType p0) := by
  refine Met.ofW (cc := cX9_elementType) (maxL := 1) (ret := (some .int)) (by decide) rfl ?_
  intro p e s m args below meth c s₁ B hml hv
  obtain ⟨rfl, -⟩ := hv
  have hx := B.exec
  have hb := B.bytes
  have hr := B.returns
  have hts := atoms_spec (ws := wsX9_elementType) B.pre
  have hown : s.vm.findClass RX9 = some m.cls := findClass_of_methodNamed B.named
  have hlocks := B.notSynchronized
  have hS : va_S pv_N s.heap s.heap [] := va_S.rf
  have hl := lv_entry ([.int p0]) (n := 1) (Nat.le_of_ble_eq_true rfl)
  rw [lg_entry_eq]
  generalize (lg_sl ([.int p0]) ++ List.replicate (1 - (lg_sl ([.int p0])).length) Slot.unset).toArray = ls at hl ⊢
  have hl : lv_has ls 1 [(0, .int p0)] := hl
  obtain ⟨Z, hZ⟩ : ∃ z, z = MQ below (pm_QI (s_X9_elementType p0)) ([.int p0] : List Value).toArray s 0 0 pv_N := ⟨_, rfl⟩
  rw [← hZ]
  obtain ⟨Y, hY⟩ : ∃ y, y = s_X9_elementType p0 := ⟨_, rfl⟩
  refine lv_iload_n hx hb dX9_elementType_0 rfl (lv_at hl 0 rfl) ?_
  refine lv_bipush (v := 7) hx hb dX9_elementType_1 (by decide) ?_
  refine lv_icmp_ne (tgt := 10) hx hb dX9_elementType_3 (by decide) (fun c_3 => ?_) (fun c_3 => ?_)
  ·
    refine lv_iload_n hx hb dX9_elementType_10 rfl (lv_at hl 0 rfl) ?_
    refine lv_bipush (v := 8) hx hb dX9_elementType_11 (by decide) ?_
    refine lv_icmp_ne (tgt := 21) hx hb dX9_elementType_13 (by decide) (fun c_13 => ?_) (fun c_13 => ?_)
    ·
      refine lv_bipush (v := 11) hx hb dX9_elementType_21 (by decide) ?_
      rw [hZ]
      exact pm_iret (w := s_X9_elementType p0) hx hb hr hlocks hS (by exact (((if_neg c_3).trans (if_neg c_13))).symm) dX9_elementType_23
    ·
      refine lv_bipush (v := 10) hx hb dX9_elementType_16 (by decide) ?_
      refine lv_goto (tgt := 23) hx hb dX9_elementType_18 (by decide) ?_
      rw [hZ]
      exact pm_iret (w := s_X9_elementType p0) hx hb hr hlocks hS (by exact (((if_neg c_3).trans (if_pos c_13))).symm) dX9_elementType_23
  ·
    refine lv_iconst (v := 0) hx hb dX9_elementType_6 (by decide) ?_
    refine lv_goto (tgt := 23) hx hb dX9_elementType_7 (by decide) ?_
    rw [hZ]
    exact pm_iret (w := s_X9_elementType p0) hx hb hr hlocks hS (by exact ((if_pos c_3)).symm) dX9_elementType_23
theorem hd_X9_isFamily : yX9_isFamily.cls ≠ "java/lang/invoke/MethodHandle" ∧ yX9_isFamily.cls ≠ "java/lang/invoke/VarHandle" ∧ (parseMethodDescriptor yX9_isFamily.desc).map (fun d => d.parameters.length) = some 1 := by decide +kernel
def s_X9_isFamily (p0 : Int32) : Int32 :=
  s_X9_in p0 7 9
set_option maxHeartbeats 4000000 in
set_option maxRecDepth 100000 in
theorem pm_X9_isFamily (l : Launch) (p0 : Int32) : PmI l yX9_isFamily wsX9_isFamily 1 22 [.int p0] (fun _ => True) (s_X9_isFamily p0) := by
  refine Met.ofW (cc := cX9_isFamily) (maxL := 1) (ret := (some .boolean)) (by decide) rfl ?_
  intro p e s m args below meth c s₁ B hml hv
  obtain ⟨rfl, -⟩ := hv
  have hx := B.exec
  have hb := B.bytes
  have hr := B.returns
  have hts := atoms_spec (ws := wsX9_isFamily) B.pre
  have hown : s.vm.findClass RX9 = some m.cls := findClass_of_methodNamed B.named
  have hlocks := B.notSynchronized
  have hS : va_S pv_N s.heap s.heap [] := va_S.rf
  have hl := lv_entry ([.int p0]) (n := 1) (Nat.le_of_ble_eq_true rfl)
  rw [lg_entry_eq]
  generalize (lg_sl ([.int p0]) ++ List.replicate (1 - (lg_sl ([.int p0])).length) Slot.unset).toArray = ls at hl ⊢
  have hl : lv_has ls 1 [(0, .int p0)] := hl
  obtain ⟨Z, hZ⟩ : ∃ z, z = MQ below (pm_QI (s_X9_isFamily p0)) ([.int p0] : List Value).toArray s 0 0 pv_N := ⟨_, rfl⟩
  rw [← hZ]
  obtain ⟨Y, hY⟩ : ∃ y, y = s_X9_isFamily p0 := ⟨_, rfl⟩
  refine lv_iload_n hx hb dX9_isFamily_0 rfl (lv_at hl 0 rfl) ?_
  refine lv_bipush (v := 7) hx hb dX9_isFamily_1 (by decide) ?_
  refine lv_bipush (v := 9) hx hb dX9_isFamily_3 (by decide) ?_
  refine pm_callI (va_runS (As := [.int p0, .int 7, .int 9]) (rest := []) ⟨hx, hb, hml, hown, hts⟩ (pm_X9_in l p0 7 9) (va_cwS 3 hts gX9_isFamily_X9_in rfl rfl rfl hd_X9_in ⟨Nat.le_of_ble_eq_true rfl, Nat.le_of_ble_eq_true rfl⟩) ⟨pm_fbT, fun U hU hW => ⟨rfl, trivial⟩⟩ rfl rfl hl.1 rfl (lv_room (Nat.le_of_ble_eq_true rfl)) dX9_isFamily_5 ⟨Nat.le_refl 0, Nat.le_refl 0⟩) hS (fun H locs _ _ hS => ?_)
  rw [hZ]
  exact pm_zret (w := s_X9_isFamily p0) hx hb hr hlocks hS (nz_of (bz_s_X9_in ..)) (by exact rfl) dX9_isFamily_8
theorem hd_X9_isEndless : yX9_isEndless.cls ≠ "java/lang/invoke/MethodHandle" ∧ yX9_isEndless.cls ≠ "java/lang/invoke/VarHandle" ∧ (parseMethodDescriptor yX9_isEndless.desc).map (fun d => d.parameters.length) = some 1 := by decide +kernel
def s_X9_isEndless (p0 : UInt64) : Int32 :=
  if dGt p0 (9218868437227405311) then 1
  else if dLt p0 (18442240474082181119) then 1
  else 0
set_option maxHeartbeats 4000000 in
set_option maxRecDepth 100000 in
theorem pm_X9_isEndless (l : Launch) (p0 : UInt64) : PmI l yX9_isEndless wsX9_isEndless 0 0 [.double p0] (fun _ => True) (s_X9_isEndless p0) := by
  refine Met.ofW (cc := cX9_isEndless) (maxL := 2) (ret := (some .boolean)) (by decide) rfl ?_
  intro p e s m args below meth c s₁ B hml hv
  obtain ⟨rfl, -⟩ := hv
  have hx := B.exec
  have hb := B.bytes
  have hr := B.returns
  have hts := atoms_spec (ws := wsX9_isEndless) B.pre
  have hown : s.vm.findClass RX9 = some m.cls := findClass_of_methodNamed B.named
  have hlocks := B.notSynchronized
  have hS : va_S pv_N s.heap s.heap [] := va_S.rf
  have hl := lv_entry ([.double p0]) (n := 2) (Nat.le_of_ble_eq_true rfl)
  rw [lg_entry_eq]
  generalize (lg_sl ([.double p0]) ++ List.replicate (2 - (lg_sl ([.double p0])).length) Slot.unset).toArray = ls at hl ⊢
  have hl : lv_has ls 2 [(0, .double p0)] := hl
  obtain ⟨Z, hZ⟩ : ∃ z, z = MQ below (pm_QI (s_X9_isEndless p0)) ([.double p0] : List Value).toArray s 0 0 pv_N := ⟨_, rfl⟩
  rw [← hZ]
  obtain ⟨Y, hY⟩ : ∃ y, y = s_X9_isEndless p0 := ⟨_, rfl⟩
  refine lv_dload_n hx hb dX9_isEndless_0 rfl (lv_at hl 0 rfl) ?_
  refine lv_ldc2d hx hb hown (hts _ (List.mem_of_getElem? (i := 1) rfl)) dX9_isEndless_1 ?_
  refine lf_d_lgt (tgt := 16) hx hb dX9_isEndless_4 dX9_isEndless_5 (by decide) (fun c_4 => ?_) (fun c_4 => ?_)
  ·
    refine lv_iconst (v := 1) hx hb dX9_isEndless_16 (by decide) ?_
    refine lv_goto (tgt := 21) hx hb dX9_isEndless_17 (by decide) ?_
    rw [hZ]
    exact pm_zret (w := s_X9_isEndless p0) hx hb hr hlocks hS (nz_1) (by exact ((if_pos c_4)).symm) dX9_isEndless_21
  ·
    refine lv_dload_n hx hb dX9_isEndless_8 rfl (lv_at hl 0 rfl) ?_
    refine lv_ldc2d hx hb hown (hts _ (List.mem_of_getElem? (i := 2) rfl)) dX9_isEndless_9 ?_
    refine lf_d_gge (tgt := 20) hx hb dX9_isEndless_12 dX9_isEndless_13 (by decide) (fun c_12 => ?_) (fun c_12 => ?_)
    ·
      refine lv_iconst (v := 0) hx hb dX9_isEndless_20 (by decide) ?_
      rw [hZ]
      exact pm_zret (w := s_X9_isEndless p0) hx hb hr hlocks hS (nz_0) (by exact (((if_neg c_4).trans (if_neg c_12))).symm) dX9_isEndless_21
    ·
      refine lv_iconst (v := 1) hx hb dX9_isEndless_16 (by decide) ?_
      refine lv_goto (tgt := 21) hx hb dX9_isEndless_17 (by decide) ?_
      rw [hZ]
      exact pm_zret (w := s_X9_isEndless p0) hx hb hr hlocks hS (nz_1) (by exact (((if_neg c_4).trans (if_pos c_12))).symm) dX9_isEndless_21
/-! ===== where the model's own arithmetic makes no NaN ===== -/
theorem en0 {x : UInt64} (h : s_X9_isEndless x = 0) (hn : FP.Core.dIsNaN x = false) : FP.Core.DFin x := by
  have hv := (FP.Core.notNaN_iff x).mp hn
  have k1 : FP.Core.val64 9218868437227405311 ≠ .nan := (FP.Core.ne_nan _).mpr (by decide)
  have k2 : FP.Core.val64 18442240474082181119 ≠ .nan := (FP.Core.ne_nan _).mpr (by decide)
  have h1 : ¬ dGt x 9218868437227405311 := fun z => by
    rw [show s_X9_isEndless x = 1 from by unfold s_X9_isEndless; rw [if_pos z]] at h
    exact absurd h (by decide)
  have h2 : ¬ dLt x 18442240474082181119 := fun z => by
    rw [show s_X9_isEndless x = 1 from by unfold s_X9_isEndless; rw [if_neg h1, if_pos z]] at h
    exact absurd h (by decide)
  have h3 : ¬ FP.Core.dkey 9218868437227405311 < FP.Core.dkey x := fun z => h1 ((FP.Core.dcmp_gt_key hv k1).mpr z)
  have h4 : ¬ FP.Core.dkey x < FP.Core.dkey 18442240474082181119 := fun z => h2 ((FP.Core.dcmp_lt_key hv k2).mpr z)
  rw [show FP.Core.dkey 9218868437227405311 = 9218868437227405311 from by decide] at h3
  rw [show FP.Core.dkey 18442240474082181119 = -9218868437227405311 from by decide] at h4
  rw [FP.Core.fin_bits]
  have h5 := x.toNat_lt
  unfold FP.Core.dkey at h3 h4
  split at h3 <;> omega
theorem en_fin {x : UInt64} (h : FP.Core.DFin x) : s_X9_isEndless x = 0 := by
  have hv := h.ne_nan
  have hb := (FP.Core.fin_bits x).mp h
  have h5 := x.toNat_lt
  have k1 : FP.Core.val64 9218868437227405311 ≠ .nan := (FP.Core.ne_nan _).mpr (by decide)
  have k2 : FP.Core.val64 18442240474082181119 ≠ .nan := (FP.Core.ne_nan _).mpr (by decide)
  have h1 : ¬ dGt x 9218868437227405311 := fun z => by
    have := (FP.Core.dcmp_gt_key hv k1).mp z
    rw [show FP.Core.dkey 9218868437227405311 = 9218868437227405311 from by decide] at this
    unfold FP.Core.dkey at this
    split at this <;> omega
  have h2 : ¬ dLt x 18442240474082181119 := fun z => by
    have := (FP.Core.dcmp_lt_key hv k2).mp z
    rw [show FP.Core.dkey 18442240474082181119 = -9218868437227405311 from by decide] at this
    unfold FP.Core.dkey at this
    split at this <;> omega
  unfold s_X9_isEndless
  rw [if_neg h1, if_neg h2]
theorem nan_add1 {x y : UInt64} (hx : dEq x x) (hy : dEq y y) (h : s_X9_isEndless x = 0) : vf_n64 (FP.dadd x y) := vf_of (FP.Core.dadd_out' (en0 h (of_dEq hx)) (of_dEq hy))
theorem nan_add2 {x y : UInt64} (hx : dEq x x) (hy : dEq y y) (h : s_X9_isEndless y = 0) : vf_n64 (FP.dadd x y) := vf_of (FP.Core.dadd_out (of_dEq hx) (en0 h (of_dEq hy)))
theorem dEq_inf {x y : UInt64} {s t : Bool} (hx : FP.Core.val64 x = .inf s) (hy : FP.Core.val64 y = .inf t) : dEq x y ↔ s = t := by
  show FP.Core.order (FP.Core.val64 x) (FP.Core.val64 y) = some .eq ↔ s = t
  rw [hx, hy]
  cases s <;> cases t <;> decide
theorem nan_add3 {x y : UInt64} (hx : dEq x x) (hy : dEq y y) (h : dEq x y) : vf_n64 (FP.dadd x y) := vf_of (FP.Core.not_true (FP.Core.dadd_nan_iff x y) (by
  rintro (z | z | ⟨s, z1, z2⟩)
  · exact (FP.Core.notNaN_iff x).mp (of_dEq hx) z
  · exact (FP.Core.notNaN_iff y).mp (of_dEq hy) z
  · have := (dEq_inf z1 z2).mp h
    cases s <;> exact absurd this (by decide)))
theorem nan_sub1 {x y : UInt64} (hx : dEq x x) (hy : dEq y y) (h : s_X9_isEndless x = 0) : vf_n64 (FP.dsub x y) := vf_of (FP.Core.dsub_out' (en0 h (of_dEq hx)) (of_dEq hy))
theorem nan_sub2 {x y : UInt64} (hx : dEq x x) (hy : dEq y y) (h : ¬ dEq x y) : vf_n64 (FP.dsub x y) := vf_of (FP.Core.not_true (FP.Core.dsub_nan_iff x y) (by
  rintro (z | z | ⟨s, z1, z2⟩)
  · exact (FP.Core.notNaN_iff x).mp (of_dEq hx) z
  · exact (FP.Core.notNaN_iff y).mp (of_dEq hy) z
  · exact h ((dEq_inf z1 z2).mpr rfl)))
theorem fin_no_inf {x : UInt64} {s : Bool} (h : FP.Core.DFin x) (z : FP.Core.val64 x = .inf s) : False := h.ne_inf s z
theorem nan_mul {x y : UInt64} (hx : dEq x x) (hy : dEq y y) (h1 : dEq x FP.dconst0 → s_X9_isEndless y = 0) (h2 : dEq y FP.dconst0 → s_X9_isEndless x = 0) : vf_n64 (FP.dmul x y) := vf_of (FP.Core.not_true (FP.Core.dmul_nan_iff x y) (by
  rintro (z | z | ⟨s, z1, z2⟩ | ⟨s, z1, z2⟩)
  · exact (FP.Core.notNaN_iff x).mp (of_dEq hx) z
  · exact (FP.Core.notNaN_iff y).mp (of_dEq hy) z
  · exact fin_no_inf (en0 (h2 (FP.Core.zero_iff.mpr z2)) (of_dEq hx)) z1
  · exact fin_no_inf (en0 (h1 (FP.Core.zero_iff.mpr z1)) (of_dEq hy)) z2))
theorem nan_div {x y : UInt64} (hx : dEq x x) (hy : dEq y y) (h1 : dEq x FP.dconst0 → ¬ dEq y FP.dconst0) (h2 : s_X9_isEndless x = 0 ∨ s_X9_isEndless y = 0) : vf_n64 (FP.ddiv x y) := vf_of (FP.Core.not_true (FP.Core.ddiv_nan_iff x y) (by
  rintro (z | z | ⟨s, t, z1, z2⟩ | ⟨z1, z2⟩)
  · exact (FP.Core.notNaN_iff x).mp (of_dEq hx) z
  · exact (FP.Core.notNaN_iff y).mp (of_dEq hy) z
  · rcases h2 with h2 | h2
    · exact fin_no_inf (en0 h2 (of_dEq hx)) z1
    · exact fin_no_inf (en0 h2 (of_dEq hy)) z2
  · exact h1 (FP.Core.zero_iff.mpr z1) (FP.Core.zero_iff.mpr z2)))
theorem nan_rem {x y : UInt64} (hx : dEq x x) (hy : dEq y y) (h1 : ¬ dEq y FP.dconst0) (h2 : s_X9_isEndless x = 0) : vf_n64 (FP.drem x y) := vf_of (FP.Core.drem_out (en0 h2 (of_dEq hx)) (of_dEq hy) (fun z => h1 (FP.Core.zero_iff.mpr z)))
theorem cfin {c : UInt64} (h : c.toNat % 2 ^ 63 < 9218868437227405312) : FP.Core.DFin c := (FP.Core.fin_bits c).mpr h
theorem cnz {c : UInt64} (h : c.toNat % 2 ^ 63 ≠ 0) : ¬ FP.Core.DZero c := fun z => h ((FP.Core.zero_bits2 c).mp z)
theorem nan_addc {x c : UInt64} (hx : FP.Core.dIsNaN x = false) (h : c.toNat % 2 ^ 63 < 9218868437227405312) : FP.Core.dIsNaN (FP.dadd x c) = false := FP.Core.dadd_out hx (cfin h)
theorem nan_subc {x c : UInt64} (hx : FP.Core.dIsNaN x = false) (h : c.toNat % 2 ^ 63 < 9218868437227405312) : FP.Core.dIsNaN (FP.dsub x c) = false := FP.Core.dsub_out hx (cfin h)
theorem nan_mulc {x c : UInt64} (hx : FP.Core.dIsNaN x = false) (h : c.toNat % 2 ^ 63 < 9218868437227405312) (h0 : c.toNat % 2 ^ 63 ≠ 0) : FP.Core.dIsNaN (FP.dmul x c) = false := FP.Core.dmul_out' hx (cfin h) (cnz h0)
theorem nan_l2d (x : Int64) : FP.Core.dIsNaN (FP.l2d x) = false := (FP.Core.l2d_fin x).notNaN
theorem nan_neg {x : UInt64} (hx : FP.Core.dIsNaN x = false) : FP.Core.dIsNaN (FP.dneg x) = false := by rw [show FP.Core.dIsNaN (FP.dneg x) = FP.Core.dIsNaN x from FP.dneg_nan x]; exact hx
theorem nan_f2d {x : UInt32} (hx : fEq x x) : vf_n64 (FP.f2d x) := vf_of ((FP.f2d_nan x).trans (of_fEq hx))
theorem nan_d2f {x : UInt64} (hx : dEq x x) : vf_n32 (FP.d2f x) := vf_of32 ((FP.d2f_nan x).trans (of_dEq hx))

theorem hd_X9_sumOf : yX9_sumOf.cls ≠ "java/lang/invoke/MethodHandle" ∧ yX9_sumOf.cls ≠ "java/lang/invoke/VarHandle" ∧ (parseMethodDescriptor yX9_sumOf.desc).map (fun d => d.parameters.length) = some 2 := by decide +kernel
def s_X9_sumOf (p0 : UInt64) (p1 : UInt64) : UInt64 :=
  if dEq p0 p0 then if dEq p1 p1 then if (s_X9_isEndless p0) = 0 then FP.dadd p0 p1
  else if (s_X9_isEndless p1) = 0 then FP.dadd p0 p1
  else if dEq p0 p1 then FP.dadd p0 p1
  else (9221120237041090560)
  else (9221120237041090560)
  else (9221120237041090560)
set_option maxHeartbeats 4000000 in
set_option maxRecDepth 100000 in
theorem pm_X9_sumOf (l : Launch) (p0 : UInt64) (p1 : UInt64) : PmD l yX9_sumOf wsX9_sumOf 1 21 [.double p0, .double p1] (fun _ => True) (s_X9_sumOf p0 p1) := by
  refine Met.ofW (cc := cX9_sumOf) (maxL := 4) (ret := (some .double)) (by decide) rfl ?_
  intro p e s m args below meth c s₁ B hml hv
  obtain ⟨rfl, -⟩ := hv
  have hx := B.exec
  have hb := B.bytes
  have hr := B.returns
  have hts := atoms_spec (ws := wsX9_sumOf) B.pre
  have hown : s.vm.findClass RX9 = some m.cls := findClass_of_methodNamed B.named
  have hlocks := B.notSynchronized
  have hS : va_S pv_N s.heap s.heap [] := va_S.rf
  have hl := lv_entry ([.double p0, .double p1]) (n := 4) (Nat.le_of_ble_eq_true rfl)
  rw [lg_entry_eq]
  generalize (lg_sl ([.double p0, .double p1]) ++ List.replicate (4 - (lg_sl ([.double p0, .double p1])).length) Slot.unset).toArray = ls at hl ⊢
  have hl : lv_has ls 4 [(0, .double p0), (2, .double p1)] := hl
  obtain ⟨Z, hZ⟩ : ∃ z, z = MQ below (pm_QD (s_X9_sumOf p0 p1)) ([.double p0, .double p1] : List Value).toArray s 0 0 pv_N := ⟨_, rfl⟩
  rw [← hZ]
  obtain ⟨Y, hY⟩ : ∃ y, y = s_X9_sumOf p0 p1 := ⟨_, rfl⟩
  refine lv_dload_n hx hb dX9_sumOf_0 rfl (lv_at hl 0 rfl) ?_
  refine lv_dload_n hx hb dX9_sumOf_1 rfl (lv_at hl 0 rfl) ?_
  refine lf_d_lne (tgt := 32) hx hb dX9_sumOf_2 dX9_sumOf_3 (by decide) (fun c_2 => ?_) (fun c_2 => ?_)
  ·
    refine lv_ldc2d hx hb hown (hts _ (List.mem_of_getElem? (i := 1) rfl)) dX9_sumOf_32 ?_
    refine lv_goto (tgt := 41) hx hb dX9_sumOf_35 (by decide) ?_
    rw [hZ]
    exact pm_dret (w := s_X9_sumOf p0 p1) hx hb hr hlocks hS (by exact ((if_neg c_2)).symm) dX9_sumOf_41
  ·
    refine lv_dload_n hx hb dX9_sumOf_6 rfl (lv_at hl 1 rfl) ?_
    refine lv_dload_n hx hb dX9_sumOf_7 rfl (lv_at hl 1 rfl) ?_
    refine lf_d_lne (tgt := 32) hx hb dX9_sumOf_8 dX9_sumOf_9 (by decide) (fun c_8 => ?_) (fun c_8 => ?_)
    ·
      refine lv_ldc2d hx hb hown (hts _ (List.mem_of_getElem? (i := 1) rfl)) dX9_sumOf_32 ?_
      refine lv_goto (tgt := 41) hx hb dX9_sumOf_35 (by decide) ?_
      rw [hZ]
      exact pm_dret (w := s_X9_sumOf p0 p1) hx hb hr hlocks hS (by exact (((if_pos c_2).trans (if_neg c_8))).symm) dX9_sumOf_41
    ·
      refine lv_dload_n hx hb dX9_sumOf_12 rfl (lv_at hl 0 rfl) ?_
      refine pm_callI (va_runS (As := [.double p0]) (rest := []) ⟨hx, hb, hml, hown, hts⟩ (pm_X9_isEndless l p0) (va_cwS 1 hts gX9_sumOf_X9_isEndless rfl rfl rfl hd_X9_isEndless ⟨Nat.le_of_ble_eq_true rfl, Nat.le_of_ble_eq_true rfl⟩) ⟨pm_fbT, fun U hU hW => ⟨rfl, trivial⟩⟩ rfl rfl hl.1 rfl (lv_room (Nat.le_of_ble_eq_true rfl)) dX9_sumOf_13 ⟨Nat.le_refl 0, Nat.le_refl 0⟩) hS (fun H locs _ _ hS => ?_)
      refine lv_if_eq (tgt := 38) hx hb dX9_sumOf_16 (by decide) (fun c_16 => ?_) (fun c_16 => ?_)
      ·
        refine lv_dload_n hx hb dX9_sumOf_38 rfl (lv_at hl 0 rfl) ?_
        refine lv_dload_n hx hb dX9_sumOf_39 rfl (lv_at hl 1 rfl) ?_
        refine lv_dadd hx hb dX9_sumOf_40 (by first | exact nan_add1 c_2 c_8 c_16 | exact nan_add2 c_2 c_8 c_23 | exact nan_add3 c_2 c_8 c_28) ?_
        rw [hZ]
        exact pm_dret (w := s_X9_sumOf p0 p1) hx hb hr hlocks hS (by exact ((((if_pos c_2).trans (if_pos c_8)).trans (if_pos c_16))).symm) dX9_sumOf_41
      ·
        refine lv_dload_n hx hb dX9_sumOf_19 rfl (lv_at hl 1 rfl) ?_
        refine pm_callI (va_runS (As := [.double p1]) (rest := []) ⟨hx, hb, hml, hown, hts⟩ (pm_X9_isEndless l p1) (va_cwS 1 hts gX9_sumOf_X9_isEndless rfl rfl rfl hd_X9_isEndless ⟨Nat.le_of_ble_eq_true rfl, Nat.le_of_ble_eq_true rfl⟩) ⟨pm_fbT, fun U hU hW => ⟨rfl, trivial⟩⟩ rfl rfl hl.1 rfl (lv_room (Nat.le_of_ble_eq_true rfl)) dX9_sumOf_20 ⟨Nat.le_refl 0, Nat.le_refl 0⟩) hS (fun H locs _ _ hS => ?_)
        refine lv_if_eq (tgt := 38) hx hb dX9_sumOf_23 (by decide) (fun c_23 => ?_) (fun c_23 => ?_)
        ·
          refine lv_dload_n hx hb dX9_sumOf_38 rfl (lv_at hl 0 rfl) ?_
          refine lv_dload_n hx hb dX9_sumOf_39 rfl (lv_at hl 1 rfl) ?_
          refine lv_dadd hx hb dX9_sumOf_40 (by first | exact nan_add1 c_2 c_8 c_16 | exact nan_add2 c_2 c_8 c_23 | exact nan_add3 c_2 c_8 c_28) ?_
          rw [hZ]
          exact pm_dret (w := s_X9_sumOf p0 p1) hx hb hr hlocks hS (by exact (((((if_pos c_2).trans (if_pos c_8)).trans (if_neg c_16)).trans (if_pos c_23))).symm) dX9_sumOf_41
        ·
          refine lv_dload_n hx hb dX9_sumOf_26 rfl (lv_at hl 0 rfl) ?_
          refine lv_dload_n hx hb dX9_sumOf_27 rfl (lv_at hl 1 rfl) ?_
          refine lf_d_leq (tgt := 38) hx hb dX9_sumOf_28 dX9_sumOf_29 (by decide) (fun c_28 => ?_) (fun c_28 => ?_)
          ·
            refine lv_dload_n hx hb dX9_sumOf_38 rfl (lv_at hl 0 rfl) ?_
            refine lv_dload_n hx hb dX9_sumOf_39 rfl (lv_at hl 1 rfl) ?_
            refine lv_dadd hx hb dX9_sumOf_40 (by first | exact nan_add1 c_2 c_8 c_16 | exact nan_add2 c_2 c_8 c_23 | exact nan_add3 c_2 c_8 c_28) ?_
            rw [hZ]
            exact pm_dret (w := s_X9_sumOf p0 p1) hx hb hr hlocks hS (by exact ((((((if_pos c_2).trans (if_pos c_8)).trans (if_neg c_16)).trans (if_neg c_23)).trans (if_pos c_28))).symm) dX9_sumOf_41
          ·
            refine lv_ldc2d hx hb hown (hts _ (List.mem_of_getElem? (i := 1) rfl)) dX9_sumOf_32 ?_
            refine lv_goto (tgt := 41) hx hb dX9_sumOf_35 (by decide) ?_
            rw [hZ]
            exact pm_dret (w := s_X9_sumOf p0 p1) hx hb hr hlocks hS (by exact ((((((if_pos c_2).trans (if_pos c_8)).trans (if_neg c_16)).trans (if_neg c_23)).trans (if_neg c_28))).symm) dX9_sumOf_41
theorem hd_X9_lessOf : yX9_lessOf.cls ≠ "java/lang/invoke/MethodHandle" ∧ yX9_lessOf.cls ≠ "java/lang/invoke/VarHandle" ∧ (parseMethodDescriptor yX9_lessOf.desc).map (fun d => d.parameters.length) = some 2 := by decide +kernel
def s_X9_lessOf (p0 : UInt64) (p1 : UInt64) : UInt64 :=
  if dEq p0 p0 then if dEq p1 p1 then if (s_X9_isEndless p0) = 0 then FP.dsub p0 p1
  else if dEq p0 p1 then (9221120237041090560)
  else FP.dsub p0 p1
  else (9221120237041090560)
  else (9221120237041090560)
set_option maxHeartbeats 4000000 in
set_option maxRecDepth 100000 in
theorem pm_X9_lessOf (l : Launch) (p0 : UInt64) (p1 : UInt64) : PmD l yX9_lessOf wsX9_lessOf 1 21 [.double p0, .double p1] (fun _ => True) (s_X9_lessOf p0 p1) := by
  refine Met.ofW (cc := cX9_lessOf) (maxL := 4) (ret := (some .double)) (by decide) rfl ?_
  intro p e s m args below meth c s₁ B hml hv
  obtain ⟨rfl, -⟩ := hv
  have hx := B.exec
  have hb := B.bytes
  have hr := B.returns
  have hts := atoms_spec (ws := wsX9_lessOf) B.pre
  have hown : s.vm.findClass RX9 = some m.cls := findClass_of_methodNamed B.named
  have hlocks := B.notSynchronized
  have hS : va_S pv_N s.heap s.heap [] := va_S.rf
  have hl := lv_entry ([.double p0, .double p1]) (n := 4) (Nat.le_of_ble_eq_true rfl)
  rw [lg_entry_eq]
  generalize (lg_sl ([.double p0, .double p1]) ++ List.replicate (4 - (lg_sl ([.double p0, .double p1])).length) Slot.unset).toArray = ls at hl ⊢
  have hl : lv_has ls 4 [(0, .double p0), (2, .double p1)] := hl
  obtain ⟨Z, hZ⟩ : ∃ z, z = MQ below (pm_QD (s_X9_lessOf p0 p1)) ([.double p0, .double p1] : List Value).toArray s 0 0 pv_N := ⟨_, rfl⟩
  rw [← hZ]
  obtain ⟨Y, hY⟩ : ∃ y, y = s_X9_lessOf p0 p1 := ⟨_, rfl⟩
  refine lv_dload_n hx hb dX9_lessOf_0 rfl (lv_at hl 0 rfl) ?_
  refine lv_dload_n hx hb dX9_lessOf_1 rfl (lv_at hl 0 rfl) ?_
  refine lf_d_lne (tgt := 25) hx hb dX9_lessOf_2 dX9_lessOf_3 (by decide) (fun c_2 => ?_) (fun c_2 => ?_)
  ·
    refine lv_ldc2d hx hb hown (hts _ (List.mem_of_getElem? (i := 1) rfl)) dX9_lessOf_25 ?_
    refine lv_goto (tgt := 34) hx hb dX9_lessOf_28 (by decide) ?_
    rw [hZ]
    exact pm_dret (w := s_X9_lessOf p0 p1) hx hb hr hlocks hS (by exact ((if_neg c_2)).symm) dX9_lessOf_34
  ·
    refine lv_dload_n hx hb dX9_lessOf_6 rfl (lv_at hl 1 rfl) ?_
    refine lv_dload_n hx hb dX9_lessOf_7 rfl (lv_at hl 1 rfl) ?_
    refine lf_d_lne (tgt := 25) hx hb dX9_lessOf_8 dX9_lessOf_9 (by decide) (fun c_8 => ?_) (fun c_8 => ?_)
    ·
      refine lv_ldc2d hx hb hown (hts _ (List.mem_of_getElem? (i := 1) rfl)) dX9_lessOf_25 ?_
      refine lv_goto (tgt := 34) hx hb dX9_lessOf_28 (by decide) ?_
      rw [hZ]
      exact pm_dret (w := s_X9_lessOf p0 p1) hx hb hr hlocks hS (by exact (((if_pos c_2).trans (if_neg c_8))).symm) dX9_lessOf_34
    ·
      refine lv_dload_n hx hb dX9_lessOf_12 rfl (lv_at hl 0 rfl) ?_
      refine pm_callI (va_runS (As := [.double p0]) (rest := []) ⟨hx, hb, hml, hown, hts⟩ (pm_X9_isEndless l p0) (va_cwS 1 hts gX9_lessOf_X9_isEndless rfl rfl rfl hd_X9_isEndless ⟨Nat.le_of_ble_eq_true rfl, Nat.le_of_ble_eq_true rfl⟩) ⟨pm_fbT, fun U hU hW => ⟨rfl, trivial⟩⟩ rfl rfl hl.1 rfl (lv_room (Nat.le_of_ble_eq_true rfl)) dX9_lessOf_13 ⟨Nat.le_refl 0, Nat.le_refl 0⟩) hS (fun H locs _ _ hS => ?_)
      refine lv_if_eq (tgt := 31) hx hb dX9_lessOf_16 (by decide) (fun c_16 => ?_) (fun c_16 => ?_)
      ·
        refine lv_dload_n hx hb dX9_lessOf_31 rfl (lv_at hl 0 rfl) ?_
        refine lv_dload_n hx hb dX9_lessOf_32 rfl (lv_at hl 1 rfl) ?_
        refine lv_dsub hx hb dX9_lessOf_33 (by first | exact nan_sub1 c_2 c_8 c_16 | exact nan_sub2 c_2 c_8 c_21) ?_
        rw [hZ]
        exact pm_dret (w := s_X9_lessOf p0 p1) hx hb hr hlocks hS (by exact ((((if_pos c_2).trans (if_pos c_8)).trans (if_pos c_16))).symm) dX9_lessOf_34
      ·
        refine lv_dload_n hx hb dX9_lessOf_19 rfl (lv_at hl 0 rfl) ?_
        refine lv_dload_n hx hb dX9_lessOf_20 rfl (lv_at hl 1 rfl) ?_
        refine lf_d_lne (tgt := 31) hx hb dX9_lessOf_21 dX9_lessOf_22 (by decide) (fun c_21 => ?_) (fun c_21 => ?_)
        ·
          refine lv_dload_n hx hb dX9_lessOf_31 rfl (lv_at hl 0 rfl) ?_
          refine lv_dload_n hx hb dX9_lessOf_32 rfl (lv_at hl 1 rfl) ?_
          refine lv_dsub hx hb dX9_lessOf_33 (by first | exact nan_sub1 c_2 c_8 c_16 | exact nan_sub2 c_2 c_8 c_21) ?_
          rw [hZ]
          exact pm_dret (w := s_X9_lessOf p0 p1) hx hb hr hlocks hS (by exact (((((if_pos c_2).trans (if_pos c_8)).trans (if_neg c_16)).trans (if_neg c_21))).symm) dX9_lessOf_34
        ·
          refine lv_ldc2d hx hb hown (hts _ (List.mem_of_getElem? (i := 1) rfl)) dX9_lessOf_25 ?_
          refine lv_goto (tgt := 34) hx hb dX9_lessOf_28 (by decide) ?_
          rw [hZ]
          exact pm_dret (w := s_X9_lessOf p0 p1) hx hb hr hlocks hS (by exact (((((if_pos c_2).trans (if_pos c_8)).trans (if_neg c_16)).trans (if_pos c_21))).symm) dX9_lessOf_34
theorem hd_X9_timesOf : yX9_timesOf.cls ≠ "java/lang/invoke/MethodHandle" ∧ yX9_timesOf.cls ≠ "java/lang/invoke/VarHandle" ∧ (parseMethodDescriptor yX9_timesOf.desc).map (fun d => d.parameters.length) = some 2 := by decide +kernel
def s_X9_timesOf (p0 : UInt64) (p1 : UInt64) : UInt64 :=
  if dEq p0 p0 then if dEq p1 p1 then if dEq p0 FP.dconst0 then if (s_X9_isEndless p1) = 0 then if dEq p1 FP.dconst0 then if (s_X9_isEndless p0) = 0 then FP.dmul p0 p1
  else (9221120237041090560)
  else FP.dmul p0 p1
  else (9221120237041090560)
  else if dEq p1 FP.dconst0 then if (s_X9_isEndless p0) = 0 then FP.dmul p0 p1
  else (9221120237041090560)
  else FP.dmul p0 p1
  else (9221120237041090560)
  else (9221120237041090560)
set_option maxHeartbeats 4000000 in
set_option maxRecDepth 100000 in
theorem pm_X9_timesOf (l : Launch) (p0 : UInt64) (p1 : UInt64) : PmD l yX9_timesOf wsX9_timesOf 1 21 [.double p0, .double p1] (fun _ => True) (s_X9_timesOf p0 p1) := by
  refine Met.ofW (cc := cX9_timesOf) (maxL := 4) (ret := (some .double)) (by decide) rfl ?_
  intro p e s m args below meth c s₁ B hml hv
  obtain ⟨rfl, -⟩ := hv
  have hx := B.exec
  have hb := B.bytes
  have hr := B.returns
  have hts := atoms_spec (ws := wsX9_timesOf) B.pre
  have hown : s.vm.findClass RX9 = some m.cls := findClass_of_methodNamed B.named
  have hlocks := B.notSynchronized
  have hS : va_S pv_N s.heap s.heap [] := va_S.rf
  have hl := lv_entry ([.double p0, .double p1]) (n := 4) (Nat.le_of_ble_eq_true rfl)
  rw [lg_entry_eq]
  generalize (lg_sl ([.double p0, .double p1]) ++ List.replicate (4 - (lg_sl ([.double p0, .double p1])).length) Slot.unset).toArray = ls at hl ⊢
  have hl : lv_has ls 4 [(0, .double p0), (2, .double p1)] := hl
  obtain ⟨Z, hZ⟩ : ∃ z, z = MQ below (pm_QD (s_X9_timesOf p0 p1)) ([.double p0, .double p1] : List Value).toArray s 0 0 pv_N := ⟨_, rfl⟩
  rw [← hZ]
  obtain ⟨Y, hY⟩ : ∃ y, y = s_X9_timesOf p0 p1 := ⟨_, rfl⟩
  refine lv_dload_n hx hb dX9_timesOf_0 rfl (lv_at hl 0 rfl) ?_
  refine lv_dload_n hx hb dX9_timesOf_1 rfl (lv_at hl 0 rfl) ?_
  refine lf_d_lne (tgt := 38) hx hb dX9_timesOf_2 dX9_timesOf_3 (by decide) (fun c_2 => ?_) (fun c_2 => ?_)
  ·
    refine lv_ldc2d hx hb hown (hts _ (List.mem_of_getElem? (i := 1) rfl)) dX9_timesOf_38 ?_
    refine lv_goto (tgt := 47) hx hb dX9_timesOf_41 (by decide) ?_
    rw [hZ]
    exact pm_dret (w := s_X9_timesOf p0 p1) hx hb hr hlocks hS (by exact ((if_neg c_2)).symm) dX9_timesOf_47
  ·
    refine lv_dload_n hx hb dX9_timesOf_6 rfl (lv_at hl 1 rfl) ?_
    refine lv_dload_n hx hb dX9_timesOf_7 rfl (lv_at hl 1 rfl) ?_
    refine lf_d_lne (tgt := 38) hx hb dX9_timesOf_8 dX9_timesOf_9 (by decide) (fun c_8 => ?_) (fun c_8 => ?_)
    ·
      refine lv_ldc2d hx hb hown (hts _ (List.mem_of_getElem? (i := 1) rfl)) dX9_timesOf_38 ?_
      refine lv_goto (tgt := 47) hx hb dX9_timesOf_41 (by decide) ?_
      rw [hZ]
      exact pm_dret (w := s_X9_timesOf p0 p1) hx hb hr hlocks hS (by exact (((if_pos c_2).trans (if_neg c_8))).symm) dX9_timesOf_47
    ·
      refine lv_dload_n hx hb dX9_timesOf_12 rfl (lv_at hl 0 rfl) ?_
      refine lv_dconst0 hx hb dX9_timesOf_13 ?_
      refine lf_d_lne (tgt := 25) hx hb dX9_timesOf_14 dX9_timesOf_15 (by decide) (fun c_14 => ?_) (fun c_14 => ?_)
      ·
        refine lv_dload_n hx hb dX9_timesOf_25 rfl (lv_at hl 1 rfl) ?_
        refine lv_dconst0 hx hb dX9_timesOf_26 ?_
        refine lf_d_lne (tgt := 44) hx hb dX9_timesOf_27 dX9_timesOf_28 (by decide) (fun c_27 => ?_) (fun c_27 => ?_)
        ·
          refine lv_dload_n hx hb dX9_timesOf_44 rfl (lv_at hl 0 rfl) ?_
          refine lv_dload_n hx hb dX9_timesOf_45 rfl (lv_at hl 1 rfl) ?_
          refine lv_dmul hx hb dX9_timesOf_46 (by first | exact nan_mul c_2 c_8 (fun z => absurd z c_14) (fun z => absurd z c_27) | exact nan_mul c_2 c_8 (fun z => absurd z c_14) (fun _ => c_35) | exact nan_mul c_2 c_8 (fun _ => c_22) (fun z => absurd z c_27) | exact nan_mul c_2 c_8 (fun _ => c_22) (fun _ => c_35)) ?_
          rw [hZ]
          exact pm_dret (w := s_X9_timesOf p0 p1) hx hb hr hlocks hS (by exact (((((if_pos c_2).trans (if_pos c_8)).trans (if_neg c_14)).trans (if_neg c_27))).symm) dX9_timesOf_47
        ·
          refine lv_dload_n hx hb dX9_timesOf_31 rfl (lv_at hl 0 rfl) ?_
          refine pm_callI (va_runS (As := [.double p0]) (rest := []) ⟨hx, hb, hml, hown, hts⟩ (pm_X9_isEndless l p0) (va_cwS 1 hts gX9_timesOf_X9_isEndless rfl rfl rfl hd_X9_isEndless ⟨Nat.le_of_ble_eq_true rfl, Nat.le_of_ble_eq_true rfl⟩) ⟨pm_fbT, fun U hU hW => ⟨rfl, trivial⟩⟩ rfl rfl hl.1 rfl (lv_room (Nat.le_of_ble_eq_true rfl)) dX9_timesOf_32 ⟨Nat.le_refl 0, Nat.le_refl 0⟩) hS (fun H locs _ _ hS => ?_)
          refine lv_if_eq (tgt := 44) hx hb dX9_timesOf_35 (by decide) (fun c_35 => ?_) (fun c_35 => ?_)
          ·
            refine lv_dload_n hx hb dX9_timesOf_44 rfl (lv_at hl 0 rfl) ?_
            refine lv_dload_n hx hb dX9_timesOf_45 rfl (lv_at hl 1 rfl) ?_
            refine lv_dmul hx hb dX9_timesOf_46 (by first | exact nan_mul c_2 c_8 (fun z => absurd z c_14) (fun z => absurd z c_27) | exact nan_mul c_2 c_8 (fun z => absurd z c_14) (fun _ => c_35) | exact nan_mul c_2 c_8 (fun _ => c_22) (fun z => absurd z c_27) | exact nan_mul c_2 c_8 (fun _ => c_22) (fun _ => c_35)) ?_
            rw [hZ]
            exact pm_dret (w := s_X9_timesOf p0 p1) hx hb hr hlocks hS (by exact ((((((if_pos c_2).trans (if_pos c_8)).trans (if_neg c_14)).trans (if_pos c_27)).trans (if_pos c_35))).symm) dX9_timesOf_47
          ·
            refine lv_ldc2d hx hb hown (hts _ (List.mem_of_getElem? (i := 1) rfl)) dX9_timesOf_38 ?_
            refine lv_goto (tgt := 47) hx hb dX9_timesOf_41 (by decide) ?_
            rw [hZ]
            exact pm_dret (w := s_X9_timesOf p0 p1) hx hb hr hlocks hS (by exact ((((((if_pos c_2).trans (if_pos c_8)).trans (if_neg c_14)).trans (if_pos c_27)).trans (if_neg c_35))).symm) dX9_timesOf_47
      ·
        refine lv_dload_n hx hb dX9_timesOf_18 rfl (lv_at hl 1 rfl) ?_
        refine pm_callI (va_runS (As := [.double p1]) (rest := []) ⟨hx, hb, hml, hown, hts⟩ (pm_X9_isEndless l p1) (va_cwS 1 hts gX9_timesOf_X9_isEndless rfl rfl rfl hd_X9_isEndless ⟨Nat.le_of_ble_eq_true rfl, Nat.le_of_ble_eq_true rfl⟩) ⟨pm_fbT, fun U hU hW => ⟨rfl, trivial⟩⟩ rfl rfl hl.1 rfl (lv_room (Nat.le_of_ble_eq_true rfl)) dX9_timesOf_19 ⟨Nat.le_refl 0, Nat.le_refl 0⟩) hS (fun H locs _ _ hS => ?_)
        refine lv_if_ne (tgt := 38) hx hb dX9_timesOf_22 (by decide) (fun c_22 => ?_) (fun c_22 => ?_)
        ·
          refine lv_ldc2d hx hb hown (hts _ (List.mem_of_getElem? (i := 1) rfl)) dX9_timesOf_38 ?_
          refine lv_goto (tgt := 47) hx hb dX9_timesOf_41 (by decide) ?_
          rw [hZ]
          exact pm_dret (w := s_X9_timesOf p0 p1) hx hb hr hlocks hS (by exact (((((if_pos c_2).trans (if_pos c_8)).trans (if_pos c_14)).trans (if_neg c_22))).symm) dX9_timesOf_47
        ·
          refine lv_dload_n hx hb dX9_timesOf_25 rfl (lv_at hl 1 rfl) ?_
          refine lv_dconst0 hx hb dX9_timesOf_26 ?_
          refine lf_d_lne (tgt := 44) hx hb dX9_timesOf_27 dX9_timesOf_28 (by decide) (fun c_27 => ?_) (fun c_27 => ?_)
          ·
            refine lv_dload_n hx hb dX9_timesOf_44 rfl (lv_at hl 0 rfl) ?_
            refine lv_dload_n hx hb dX9_timesOf_45 rfl (lv_at hl 1 rfl) ?_
            refine lv_dmul hx hb dX9_timesOf_46 (by first | exact nan_mul c_2 c_8 (fun z => absurd z c_14) (fun z => absurd z c_27) | exact nan_mul c_2 c_8 (fun z => absurd z c_14) (fun _ => c_35) | exact nan_mul c_2 c_8 (fun _ => c_22) (fun z => absurd z c_27) | exact nan_mul c_2 c_8 (fun _ => c_22) (fun _ => c_35)) ?_
            rw [hZ]
            exact pm_dret (w := s_X9_timesOf p0 p1) hx hb hr hlocks hS (by exact ((((((if_pos c_2).trans (if_pos c_8)).trans (if_pos c_14)).trans (if_pos c_22)).trans (if_neg c_27))).symm) dX9_timesOf_47
          ·
            refine lv_dload_n hx hb dX9_timesOf_31 rfl (lv_at hl 0 rfl) ?_
            refine pm_callI (va_runS (As := [.double p0]) (rest := []) ⟨hx, hb, hml, hown, hts⟩ (pm_X9_isEndless l p0) (va_cwS 1 hts gX9_timesOf_X9_isEndless rfl rfl rfl hd_X9_isEndless ⟨Nat.le_of_ble_eq_true rfl, Nat.le_of_ble_eq_true rfl⟩) ⟨pm_fbT, fun U hU hW => ⟨rfl, trivial⟩⟩ rfl rfl hl.1 rfl (lv_room (Nat.le_of_ble_eq_true rfl)) dX9_timesOf_32 ⟨Nat.le_refl 0, Nat.le_refl 0⟩) hS (fun H locs _ _ hS => ?_)
            refine lv_if_eq (tgt := 44) hx hb dX9_timesOf_35 (by decide) (fun c_35 => ?_) (fun c_35 => ?_)
            ·
              refine lv_dload_n hx hb dX9_timesOf_44 rfl (lv_at hl 0 rfl) ?_
              refine lv_dload_n hx hb dX9_timesOf_45 rfl (lv_at hl 1 rfl) ?_
              refine lv_dmul hx hb dX9_timesOf_46 (by first | exact nan_mul c_2 c_8 (fun z => absurd z c_14) (fun z => absurd z c_27) | exact nan_mul c_2 c_8 (fun z => absurd z c_14) (fun _ => c_35) | exact nan_mul c_2 c_8 (fun _ => c_22) (fun z => absurd z c_27) | exact nan_mul c_2 c_8 (fun _ => c_22) (fun _ => c_35)) ?_
              rw [hZ]
              exact pm_dret (w := s_X9_timesOf p0 p1) hx hb hr hlocks hS (by exact (((((((if_pos c_2).trans (if_pos c_8)).trans (if_pos c_14)).trans (if_pos c_22)).trans (if_pos c_27)).trans (if_pos c_35))).symm) dX9_timesOf_47
            ·
              refine lv_ldc2d hx hb hown (hts _ (List.mem_of_getElem? (i := 1) rfl)) dX9_timesOf_38 ?_
              refine lv_goto (tgt := 47) hx hb dX9_timesOf_41 (by decide) ?_
              rw [hZ]
              exact pm_dret (w := s_X9_timesOf p0 p1) hx hb hr hlocks hS (by exact (((((((if_pos c_2).trans (if_pos c_8)).trans (if_pos c_14)).trans (if_pos c_22)).trans (if_pos c_27)).trans (if_neg c_35))).symm) dX9_timesOf_47
theorem hd_X9_overOf : yX9_overOf.cls ≠ "java/lang/invoke/MethodHandle" ∧ yX9_overOf.cls ≠ "java/lang/invoke/VarHandle" ∧ (parseMethodDescriptor yX9_overOf.desc).map (fun d => d.parameters.length) = some 2 := by decide +kernel
def s_X9_overOf (p0 : UInt64) (p1 : UInt64) : UInt64 :=
  if dEq p0 p0 then if dEq p1 p1 then if dEq p0 FP.dconst0 then if dEq p1 FP.dconst0 then (9221120237041090560)
  else if (s_X9_isEndless p0) = 0 then FP.ddiv p0 p1
  else if (s_X9_isEndless p1) = 0 then FP.ddiv p0 p1
  else (9221120237041090560)
  else if (s_X9_isEndless p0) = 0 then FP.ddiv p0 p1
  else if (s_X9_isEndless p1) = 0 then FP.ddiv p0 p1
  else (9221120237041090560)
  else (9221120237041090560)
  else (9221120237041090560)
set_option maxHeartbeats 4000000 in
set_option maxRecDepth 100000 in
theorem pm_X9_overOf (l : Launch) (p0 : UInt64) (p1 : UInt64) : PmD l yX9_overOf wsX9_overOf 1 21 [.double p0, .double p1] (fun _ => True) (s_X9_overOf p0 p1) := by
  refine Met.ofW (cc := cX9_overOf) (maxL := 4) (ret := (some .double)) (by decide) rfl ?_
  intro p e s m args below meth c s₁ B hml hv
  obtain ⟨rfl, -⟩ := hv
  have hx := B.exec
  have hb := B.bytes
  have hr := B.returns
  have hts := atoms_spec (ws := wsX9_overOf) B.pre
  have hown : s.vm.findClass RX9 = some m.cls := findClass_of_methodNamed B.named
  have hlocks := B.notSynchronized
  have hS : va_S pv_N s.heap s.heap [] := va_S.rf
  have hl := lv_entry ([.double p0, .double p1]) (n := 4) (Nat.le_of_ble_eq_true rfl)
  rw [lg_entry_eq]
  generalize (lg_sl ([.double p0, .double p1]) ++ List.replicate (4 - (lg_sl ([.double p0, .double p1])).length) Slot.unset).toArray = ls at hl ⊢
  have hl : lv_has ls 4 [(0, .double p0), (2, .double p1)] := hl
  obtain ⟨Z, hZ⟩ : ∃ z, z = MQ below (pm_QD (s_X9_overOf p0 p1)) ([.double p0, .double p1] : List Value).toArray s 0 0 pv_N := ⟨_, rfl⟩
  rw [← hZ]
  obtain ⟨Y, hY⟩ : ∃ y, y = s_X9_overOf p0 p1 := ⟨_, rfl⟩
  refine lv_dload_n hx hb dX9_overOf_0 rfl (lv_at hl 0 rfl) ?_
  refine lv_dload_n hx hb dX9_overOf_1 rfl (lv_at hl 0 rfl) ?_
  refine lf_d_lne (tgt := 38) hx hb dX9_overOf_2 dX9_overOf_3 (by decide) (fun c_2 => ?_) (fun c_2 => ?_)
  ·
    refine lv_ldc2d hx hb hown (hts _ (List.mem_of_getElem? (i := 1) rfl)) dX9_overOf_38 ?_
    refine lv_goto (tgt := 47) hx hb dX9_overOf_41 (by decide) ?_
    rw [hZ]
    exact pm_dret (w := s_X9_overOf p0 p1) hx hb hr hlocks hS (by exact ((if_neg c_2)).symm) dX9_overOf_47
  ·
    refine lv_dload_n hx hb dX9_overOf_6 rfl (lv_at hl 1 rfl) ?_
    refine lv_dload_n hx hb dX9_overOf_7 rfl (lv_at hl 1 rfl) ?_
    refine lf_d_lne (tgt := 38) hx hb dX9_overOf_8 dX9_overOf_9 (by decide) (fun c_8 => ?_) (fun c_8 => ?_)
    ·
      refine lv_ldc2d hx hb hown (hts _ (List.mem_of_getElem? (i := 1) rfl)) dX9_overOf_38 ?_
      refine lv_goto (tgt := 47) hx hb dX9_overOf_41 (by decide) ?_
      rw [hZ]
      exact pm_dret (w := s_X9_overOf p0 p1) hx hb hr hlocks hS (by exact (((if_pos c_2).trans (if_neg c_8))).symm) dX9_overOf_47
    ·
      refine lv_dload_n hx hb dX9_overOf_12 rfl (lv_at hl 0 rfl) ?_
      refine lv_dconst0 hx hb dX9_overOf_13 ?_
      refine lf_d_lne (tgt := 24) hx hb dX9_overOf_14 dX9_overOf_15 (by decide) (fun c_14 => ?_) (fun c_14 => ?_)
      ·
        refine lv_dload_n hx hb dX9_overOf_24 rfl (lv_at hl 0 rfl) ?_
        refine pm_callI (va_runS (As := [.double p0]) (rest := []) ⟨hx, hb, hml, hown, hts⟩ (pm_X9_isEndless l p0) (va_cwS 1 hts gX9_overOf_X9_isEndless rfl rfl rfl hd_X9_isEndless ⟨Nat.le_of_ble_eq_true rfl, Nat.le_of_ble_eq_true rfl⟩) ⟨pm_fbT, fun U hU hW => ⟨rfl, trivial⟩⟩ rfl rfl hl.1 rfl (lv_room (Nat.le_of_ble_eq_true rfl)) dX9_overOf_25 ⟨Nat.le_refl 0, Nat.le_refl 0⟩) hS (fun H locs _ _ hS => ?_)
        refine lv_if_eq (tgt := 44) hx hb dX9_overOf_28 (by decide) (fun c_28 => ?_) (fun c_28 => ?_)
        ·
          refine lv_dload_n hx hb dX9_overOf_44 rfl (lv_at hl 0 rfl) ?_
          refine lv_dload_n hx hb dX9_overOf_45 rfl (lv_at hl 1 rfl) ?_
          refine lv_ddiv hx hb dX9_overOf_46 (by first | exact nan_div c_2 c_8 (fun z => absurd z c_14) (Or.inl c_28) | exact nan_div c_2 c_8 (fun z => absurd z c_14) (Or.inr c_35) | exact nan_div c_2 c_8 (fun _ => c_20) (Or.inl c_28) | exact nan_div c_2 c_8 (fun _ => c_20) (Or.inr c_35)) ?_
          rw [hZ]
          exact pm_dret (w := s_X9_overOf p0 p1) hx hb hr hlocks hS (by exact (((((if_pos c_2).trans (if_pos c_8)).trans (if_neg c_14)).trans (if_pos c_28))).symm) dX9_overOf_47
        ·
          refine lv_dload_n hx hb dX9_overOf_31 rfl (lv_at hl 1 rfl) ?_
          refine pm_callI (va_runS (As := [.double p1]) (rest := []) ⟨hx, hb, hml, hown, hts⟩ (pm_X9_isEndless l p1) (va_cwS 1 hts gX9_overOf_X9_isEndless rfl rfl rfl hd_X9_isEndless ⟨Nat.le_of_ble_eq_true rfl, Nat.le_of_ble_eq_true rfl⟩) ⟨pm_fbT, fun U hU hW => ⟨rfl, trivial⟩⟩ rfl rfl hl.1 rfl (lv_room (Nat.le_of_ble_eq_true rfl)) dX9_overOf_32 ⟨Nat.le_refl 0, Nat.le_refl 0⟩) hS (fun H locs _ _ hS => ?_)
          refine lv_if_eq (tgt := 44) hx hb dX9_overOf_35 (by decide) (fun c_35 => ?_) (fun c_35 => ?_)
          ·
            refine lv_dload_n hx hb dX9_overOf_44 rfl (lv_at hl 0 rfl) ?_
            refine lv_dload_n hx hb dX9_overOf_45 rfl (lv_at hl 1 rfl) ?_
            refine lv_ddiv hx hb dX9_overOf_46 (by first | exact nan_div c_2 c_8 (fun z => absurd z c_14) (Or.inl c_28) | exact nan_div c_2 c_8 (fun z => absurd z c_14) (Or.inr c_35) | exact nan_div c_2 c_8 (fun _ => c_20) (Or.inl c_28) | exact nan_div c_2 c_8 (fun _ => c_20) (Or.inr c_35)) ?_
            rw [hZ]
            exact pm_dret (w := s_X9_overOf p0 p1) hx hb hr hlocks hS (by exact ((((((if_pos c_2).trans (if_pos c_8)).trans (if_neg c_14)).trans (if_neg c_28)).trans (if_pos c_35))).symm) dX9_overOf_47
          ·
            refine lv_ldc2d hx hb hown (hts _ (List.mem_of_getElem? (i := 1) rfl)) dX9_overOf_38 ?_
            refine lv_goto (tgt := 47) hx hb dX9_overOf_41 (by decide) ?_
            rw [hZ]
            exact pm_dret (w := s_X9_overOf p0 p1) hx hb hr hlocks hS (by exact ((((((if_pos c_2).trans (if_pos c_8)).trans (if_neg c_14)).trans (if_neg c_28)).trans (if_neg c_35))).symm) dX9_overOf_47
      ·
        refine lv_dload_n hx hb dX9_overOf_18 rfl (lv_at hl 1 rfl) ?_
        refine lv_dconst0 hx hb dX9_overOf_19 ?_
        refine lf_d_leq (tgt := 38) hx hb dX9_overOf_20 dX9_overOf_21 (by decide) (fun c_20 => ?_) (fun c_20 => ?_)
        ·
          refine lv_ldc2d hx hb hown (hts _ (List.mem_of_getElem? (i := 1) rfl)) dX9_overOf_38 ?_
          refine lv_goto (tgt := 47) hx hb dX9_overOf_41 (by decide) ?_
          rw [hZ]
          exact pm_dret (w := s_X9_overOf p0 p1) hx hb hr hlocks hS (by exact (((((if_pos c_2).trans (if_pos c_8)).trans (if_pos c_14)).trans (if_pos c_20))).symm) dX9_overOf_47
        ·
          refine lv_dload_n hx hb dX9_overOf_24 rfl (lv_at hl 0 rfl) ?_
          refine pm_callI (va_runS (As := [.double p0]) (rest := []) ⟨hx, hb, hml, hown, hts⟩ (pm_X9_isEndless l p0) (va_cwS 1 hts gX9_overOf_X9_isEndless rfl rfl rfl hd_X9_isEndless ⟨Nat.le_of_ble_eq_true rfl, Nat.le_of_ble_eq_true rfl⟩) ⟨pm_fbT, fun U hU hW => ⟨rfl, trivial⟩⟩ rfl rfl hl.1 rfl (lv_room (Nat.le_of_ble_eq_true rfl)) dX9_overOf_25 ⟨Nat.le_refl 0, Nat.le_refl 0⟩) hS (fun H locs _ _ hS => ?_)
          refine lv_if_eq (tgt := 44) hx hb dX9_overOf_28 (by decide) (fun c_28 => ?_) (fun c_28 => ?_)
          ·
            refine lv_dload_n hx hb dX9_overOf_44 rfl (lv_at hl 0 rfl) ?_
            refine lv_dload_n hx hb dX9_overOf_45 rfl (lv_at hl 1 rfl) ?_
            refine lv_ddiv hx hb dX9_overOf_46 (by first | exact nan_div c_2 c_8 (fun z => absurd z c_14) (Or.inl c_28) | exact nan_div c_2 c_8 (fun z => absurd z c_14) (Or.inr c_35) | exact nan_div c_2 c_8 (fun _ => c_20) (Or.inl c_28) | exact nan_div c_2 c_8 (fun _ => c_20) (Or.inr c_35)) ?_
            rw [hZ]
            exact pm_dret (w := s_X9_overOf p0 p1) hx hb hr hlocks hS (by exact ((((((if_pos c_2).trans (if_pos c_8)).trans (if_pos c_14)).trans (if_neg c_20)).trans (if_pos c_28))).symm) dX9_overOf_47
          ·
            refine lv_dload_n hx hb dX9_overOf_31 rfl (lv_at hl 1 rfl) ?_
            refine pm_callI (va_runS (As := [.double p1]) (rest := []) ⟨hx, hb, hml, hown, hts⟩ (pm_X9_isEndless l p1) (va_cwS 1 hts gX9_overOf_X9_isEndless rfl rfl rfl hd_X9_isEndless ⟨Nat.le_of_ble_eq_true rfl, Nat.le_of_ble_eq_true rfl⟩) ⟨pm_fbT, fun U hU hW => ⟨rfl, trivial⟩⟩ rfl rfl hl.1 rfl (lv_room (Nat.le_of_ble_eq_true rfl)) dX9_overOf_32 ⟨Nat.le_refl 0, Nat.le_refl 0⟩) hS (fun H locs _ _ hS => ?_)
            refine lv_if_eq (tgt := 44) hx hb dX9_overOf_35 (by decide) (fun c_35 => ?_) (fun c_35 => ?_)
            ·
              refine lv_dload_n hx hb dX9_overOf_44 rfl (lv_at hl 0 rfl) ?_
              refine lv_dload_n hx hb dX9_overOf_45 rfl (lv_at hl 1 rfl) ?_
              refine lv_ddiv hx hb dX9_overOf_46 (by first | exact nan_div c_2 c_8 (fun z => absurd z c_14) (Or.inl c_28) | exact nan_div c_2 c_8 (fun z => absurd z c_14) (Or.inr c_35) | exact nan_div c_2 c_8 (fun _ => c_20) (Or.inl c_28) | exact nan_div c_2 c_8 (fun _ => c_20) (Or.inr c_35)) ?_
              rw [hZ]
              exact pm_dret (w := s_X9_overOf p0 p1) hx hb hr hlocks hS (by exact (((((((if_pos c_2).trans (if_pos c_8)).trans (if_pos c_14)).trans (if_neg c_20)).trans (if_neg c_28)).trans (if_pos c_35))).symm) dX9_overOf_47
            ·
              refine lv_ldc2d hx hb hown (hts _ (List.mem_of_getElem? (i := 1) rfl)) dX9_overOf_38 ?_
              refine lv_goto (tgt := 47) hx hb dX9_overOf_41 (by decide) ?_
              rw [hZ]
              exact pm_dret (w := s_X9_overOf p0 p1) hx hb hr hlocks hS (by exact (((((((if_pos c_2).trans (if_pos c_8)).trans (if_pos c_14)).trans (if_neg c_20)).trans (if_neg c_28)).trans (if_neg c_35))).symm) dX9_overOf_47
theorem hd_X9_wide : yX9_wide.cls ≠ "java/lang/invoke/MethodHandle" ∧ yX9_wide.cls ≠ "java/lang/invoke/VarHandle" ∧ (parseMethodDescriptor yX9_wide.desc).map (fun d => d.parameters.length) = some 1 := by decide +kernel
def s_X9_wide (p0 : Int32) : UInt64 :=
  if fEq (s_X9_singleBits p0) (s_X9_singleBits p0) then FP.f2d (s_X9_singleBits p0)
  else (9221120237041090560)
set_option maxHeartbeats 4000000 in
set_option maxRecDepth 100000 in
theorem pm_X9_wide (l : Launch) (p0 : Int32) : PmD l yX9_wide wsX9_wide 2 35 [.int p0] (fun _ => True) (s_X9_wide p0) := by
  refine Met.ofW (cc := cX9_wide) (maxL := 2) (ret := (some .double)) (by decide) rfl ?_
  intro p e s m args below meth c s₁ B hml hv
  obtain ⟨rfl, -⟩ := hv
  have hx := B.exec
  have hb := B.bytes
  have hr := B.returns
  have hts := atoms_spec (ws := wsX9_wide) B.pre
  have hown : s.vm.findClass RX9 = some m.cls := findClass_of_methodNamed B.named
  have hlocks := B.notSynchronized
  have hS : va_S pv_N s.heap s.heap [] := va_S.rf
  have hl := lv_entry ([.int p0]) (n := 2) (Nat.le_of_ble_eq_true rfl)
  rw [lg_entry_eq]
  generalize (lg_sl ([.int p0]) ++ List.replicate (2 - (lg_sl ([.int p0])).length) Slot.unset).toArray = ls at hl ⊢
  have hl : lv_has ls 2 [(0, .int p0)] := hl
  obtain ⟨Z, hZ⟩ : ∃ z, z = MQ below (pm_QD (s_X9_wide p0)) ([.int p0] : List Value).toArray s 0 0 pv_N := ⟨_, rfl⟩
  rw [← hZ]
  obtain ⟨Y, hY⟩ : ∃ y, y = s_X9_wide p0 := ⟨_, rfl⟩
  refine lv_iload_n hx hb dX9_wide_0 rfl (lv_at hl 0 rfl) ?_
  refine pm_callF (va_runS (As := [.int p0]) (rest := []) ⟨hx, hb, hml, hown, hts⟩ (pm_X9_singleBits l p0) (va_cwS 1 hts gX9_wide_X9_singleBits rfl rfl rfl hd_X9_singleBits ⟨Nat.le_of_ble_eq_true rfl, Nat.le_of_ble_eq_true rfl⟩) ⟨pm_fbT, fun U hU hW => ⟨rfl, trivial⟩⟩ rfl rfl hl.1 rfl (lv_room (Nat.le_of_ble_eq_true rfl)) dX9_wide_1 ⟨Nat.le_refl 0, Nat.le_refl 0⟩) hS (fun H locs _ _ hS => ?_)
  refine lv_topf (fun x_4 ex_4 => ?_)
  refine lv_fstore_n (lv' := [(1, .float x_4), (0, .int p0)]) hx hb dX9_wide_4 rfl hl (by decide) rfl (fun ls hl => ?_)
  refine lv_fload_n hx hb dX9_wide_5 rfl (lv_at hl 0 rfl) ?_
  refine lv_fload_n hx hb dX9_wide_6 rfl (lv_at hl 0 rfl) ?_
  refine lf_f_leq (tgt := 17) hx hb dX9_wide_7 dX9_wide_8 (by decide) (fun c_7 => ?_) (fun c_7 => ?_)
  ·
    refine lv_fload_n hx hb dX9_wide_17 rfl (lv_at hl 0 rfl) ?_
    refine lv_f2d hx hb dX9_wide_18 (by first | exact nan_f2d c_7 | (subst ex_4; exact nan_f2d c_7)) ?_
    rw [hZ]
    exact pm_dret (w := s_X9_wide p0) hx hb hr hlocks hS (by subst ex_4; exact ((if_pos c_7)).symm) dX9_wide_19
  ·
    refine lv_ldc2d hx hb hown (hts _ (List.mem_of_getElem? (i := 1) rfl)) dX9_wide_11 ?_
    refine lv_goto (tgt := 19) hx hb dX9_wide_14 (by decide) ?_
    rw [hZ]
    exact pm_dret (w := s_X9_wide p0) hx hb hr hlocks hS (by subst ex_4; exact ((if_neg c_7)).symm) dX9_wide_19
theorem hd_X9_isWhole : yX9_isWhole.cls ≠ "java/lang/invoke/MethodHandle" ∧ yX9_isWhole.cls ≠ "java/lang/invoke/VarHandle" ∧ (parseMethodDescriptor yX9_isWhole.desc).map (fun d => d.parameters.length) = some 1 := by decide +kernel
def s_X9_isWhole (p0 : UInt64) : Int32 :=
  if dEq p0 p0 then if dGe p0 (4841369599423283200) then 1
  else if dLe p0 (14064741636278059008) then 1
  else 0
  else 1
set_option maxHeartbeats 4000000 in
set_option maxRecDepth 100000 in
theorem pm_X9_isWhole (l : Launch) (p0 : UInt64) : PmI l yX9_isWhole wsX9_isWhole 0 0 [.double p0] (fun _ => True) (s_X9_isWhole p0) := by
  refine Met.ofW (cc := cX9_isWhole) (maxL := 2) (ret := (some .boolean)) (by decide) rfl ?_
  intro p e s m args below meth c s₁ B hml hv
  obtain ⟨rfl, -⟩ := hv
  have hx := B.exec
  have hb := B.bytes
  have hr := B.returns
  have hts := atoms_spec (ws := wsX9_isWhole) B.pre
  have hown : s.vm.findClass RX9 = some m.cls := findClass_of_methodNamed B.named
  have hlocks := B.notSynchronized
  have hS : va_S pv_N s.heap s.heap [] := va_S.rf
  have hl := lv_entry ([.double p0]) (n := 2) (Nat.le_of_ble_eq_true rfl)
  rw [lg_entry_eq]
  generalize (lg_sl ([.double p0]) ++ List.replicate (2 - (lg_sl ([.double p0])).length) Slot.unset).toArray = ls at hl ⊢
  have hl : lv_has ls 2 [(0, .double p0)] := hl
  obtain ⟨Z, hZ⟩ : ∃ z, z = MQ below (pm_QI (s_X9_isWhole p0)) ([.double p0] : List Value).toArray s 0 0 pv_N := ⟨_, rfl⟩
  rw [← hZ]
  obtain ⟨Y, hY⟩ : ∃ y, y = s_X9_isWhole p0 := ⟨_, rfl⟩
  refine lv_dload_n hx hb dX9_isWhole_0 rfl (lv_at hl 0 rfl) ?_
  refine lv_dload_n hx hb dX9_isWhole_1 rfl (lv_at hl 0 rfl) ?_
  refine lf_d_lne (tgt := 22) hx hb dX9_isWhole_2 dX9_isWhole_3 (by decide) (fun c_2 => ?_) (fun c_2 => ?_)
  ·
    refine lv_iconst (v := 1) hx hb dX9_isWhole_22 (by decide) ?_
    refine lv_goto (tgt := 27) hx hb dX9_isWhole_23 (by decide) ?_
    rw [hZ]
    exact pm_zret (w := s_X9_isWhole p0) hx hb hr hlocks hS (nz_1) (by exact ((if_neg c_2)).symm) dX9_isWhole_27
  ·
    refine lv_dload_n hx hb dX9_isWhole_6 rfl (lv_at hl 0 rfl) ?_
    refine lv_ldc2d hx hb hown (hts _ (List.mem_of_getElem? (i := 1) rfl)) dX9_isWhole_7 ?_
    refine lf_d_lge (tgt := 22) hx hb dX9_isWhole_10 dX9_isWhole_11 (by decide) (fun c_10 => ?_) (fun c_10 => ?_)
    ·
      refine lv_iconst (v := 1) hx hb dX9_isWhole_22 (by decide) ?_
      refine lv_goto (tgt := 27) hx hb dX9_isWhole_23 (by decide) ?_
      rw [hZ]
      exact pm_zret (w := s_X9_isWhole p0) hx hb hr hlocks hS (nz_1) (by exact (((if_pos c_2).trans (if_pos c_10))).symm) dX9_isWhole_27
    ·
      refine lv_dload_n hx hb dX9_isWhole_14 rfl (lv_at hl 0 rfl) ?_
      refine lv_ldc2d hx hb hown (hts _ (List.mem_of_getElem? (i := 2) rfl)) dX9_isWhole_15 ?_
      refine lf_d_ggt (tgt := 26) hx hb dX9_isWhole_18 dX9_isWhole_19 (by decide) (fun c_18 => ?_) (fun c_18 => ?_)
      ·
        refine lv_iconst (v := 0) hx hb dX9_isWhole_26 (by decide) ?_
        rw [hZ]
        exact pm_zret (w := s_X9_isWhole p0) hx hb hr hlocks hS (nz_0) (by exact ((((if_pos c_2).trans (if_neg c_10)).trans (if_neg c_18))).symm) dX9_isWhole_27
      ·
        refine lv_iconst (v := 1) hx hb dX9_isWhole_22 (by decide) ?_
        refine lv_goto (tgt := 27) hx hb dX9_isWhole_23 (by decide) ?_
        rw [hZ]
        exact pm_zret (w := s_X9_isWhole p0) hx hb hr hlocks hS (nz_1) (by exact ((((if_pos c_2).trans (if_neg c_10)).trans (if_pos c_18))).symm) dX9_isWhole_27
theorem hd_X9_signed : yX9_signed.cls ≠ "java/lang/invoke/MethodHandle" ∧ yX9_signed.cls ≠ "java/lang/invoke/VarHandle" ∧ (parseMethodDescriptor yX9_signed.desc).map (fun d => d.parameters.length) = some 2 := by decide +kernel
def s_X9_signed (p0 : UInt64) (p1 : Int64) : Int64 :=
  ((s_Jxe99ae_doubleToLongBits_ccdee p0) &&& (9223372036854775807)) ||| (p1 &&& (-9223372036854775808))
set_option maxHeartbeats 4000000 in
set_option maxRecDepth 100000 in
theorem pm_X9_signed (l : Launch) (p0 : UInt64) (p1 : Int64) : PmL l yX9_signed wsX9_signed 2 42 [.double p0, .long p1] (fun _ => True) (s_X9_signed p0 p1) := by
  refine Met.ofW (cc := cX9_signed) (maxL := 4) (ret := (some .long)) (by decide) rfl ?_
  intro p e s m args below meth c s₁ B hml hv
  obtain ⟨rfl, -⟩ := hv
  have hx := B.exec
  have hb := B.bytes
  have hr := B.returns
  have hts := atoms_spec (ws := wsX9_signed) B.pre
  have hown : s.vm.findClass RX9 = some m.cls := findClass_of_methodNamed B.named
  have hlocks := B.notSynchronized
  have hS : va_S pv_N s.heap s.heap [] := va_S.rf
  have hl := lv_entry ([.double p0, .long p1]) (n := 4) (Nat.le_of_ble_eq_true rfl)
  rw [lg_entry_eq]
  generalize (lg_sl ([.double p0, .long p1]) ++ List.replicate (4 - (lg_sl ([.double p0, .long p1])).length) Slot.unset).toArray = ls at hl ⊢
  have hl : lv_has ls 4 [(0, .double p0), (2, .long p1)] := hl
  obtain ⟨Z, hZ⟩ : ∃ z, z = MQ below (pm_QL (s_X9_signed p0 p1)) ([.double p0, .long p1] : List Value).toArray s 0 0 pv_N := ⟨_, rfl⟩
  rw [← hZ]
  obtain ⟨Y, hY⟩ : ∃ y, y = s_X9_signed p0 p1 := ⟨_, rfl⟩
  refine lv_dload_n hx hb dX9_signed_0 rfl (lv_at hl 0 rfl) ?_
  refine pm_callL (va_runS (As := [.double p0]) (rest := []) ⟨hx, hb, hml, hown, hts⟩ (pm_Jxe99ae_doubleToLongBits_ccdee l p0) (va_cwS 1 hts gX9_signed_Jxe99ae_doubleToLongBits_ccdee rfl rfl rfl hd_Jxe99ae_doubleToLongBits_ccdee ⟨Nat.le_of_ble_eq_true rfl, Nat.le_of_ble_eq_true rfl⟩) ⟨pm_fbT, fun U hU hW => ⟨rfl, trivial⟩⟩ rfl rfl hl.1 rfl (lv_room (Nat.le_of_ble_eq_true rfl)) dX9_signed_1 ⟨Nat.le_refl 0, Nat.le_refl 0⟩) hS (fun H locs _ _ hS => ?_)
  refine lv_ldc2 (v := (9223372036854775807)) hx hb hown (hts _ (List.mem_of_getElem? (i := 1) rfl)) dX9_signed_4 ?_
  refine lv_land hx hb dX9_signed_7 ?_
  refine lv_lload_n hx hb dX9_signed_8 rfl (lv_at hl 1 rfl) ?_
  refine lv_ldc2 (v := (-9223372036854775808)) hx hb hown (hts _ (List.mem_of_getElem? (i := 2) rfl)) dX9_signed_9 ?_
  refine lv_land hx hb dX9_signed_12 ?_
  refine lv_lor hx hb dX9_signed_13 ?_
  rw [hZ]
  exact pm_lret (w := s_X9_signed p0 p1) hx hb hr hlocks hS (by exact rfl) dX9_signed_14
theorem hd_X9_rounded : yX9_rounded.cls ≠ "java/lang/invoke/MethodHandle" ∧ yX9_rounded.cls ≠ "java/lang/invoke/VarHandle" ∧ (parseMethodDescriptor yX9_rounded.desc).map (fun d => d.parameters.length) = some 2 := by decide +kernel
def s_X9_rounded (p0 : UInt64) (p1 : Int32) : UInt64 :=
  if p1 = 0 then if dGt (FP.l2d (FP.d2l p0)) p0 then FP.dsub (FP.l2d (FP.d2l p0)) FP.dconst1
  else (FP.l2d (FP.d2l p0))
  else if p1 = 1 then if dLt (FP.l2d (FP.d2l p0)) p0 then FP.dadd (FP.l2d (FP.d2l p0)) FP.dconst1
  else (FP.l2d (FP.d2l p0))
  else if dLt p0 FP.dconst0 then if dLt p0 FP.dconst0 then FP.dneg (FP.dsub (FP.dadd (FP.dneg p0) (4841369599423283200)) (4841369599423283200))
  else (FP.dsub (FP.dadd (FP.dneg p0) (4841369599423283200)) (4841369599423283200))
  else if dLt p0 FP.dconst0 then FP.dneg (FP.dsub (FP.dadd p0 (4841369599423283200)) (4841369599423283200))
  else (FP.dsub (FP.dadd p0 (4841369599423283200)) (4841369599423283200))
set_option maxHeartbeats 4000000 in
set_option maxRecDepth 100000 in
theorem pm_X9_rounded (l : Launch) (p0 : UInt64) (p1 : Int32) (hn : FP.Core.dIsNaN p0 = false) : PmD l yX9_rounded wsX9_rounded 0 0 [.double p0, .int p1] (fun _ => True) (s_X9_rounded p0 p1) := by
  refine Met.ofW (cc := cX9_rounded) (maxL := 9) (ret := (some .double)) (by decide) rfl ?_
  intro p e s m args below meth c s₁ B hml hv
  obtain ⟨rfl, -⟩ := hv
  have hx := B.exec
  have hb := B.bytes
  have hr := B.returns
  have hts := atoms_spec (ws := wsX9_rounded) B.pre
  have hown : s.vm.findClass RX9 = some m.cls := findClass_of_methodNamed B.named
  have hlocks := B.notSynchronized
  have hS : va_S pv_N s.heap s.heap [] := va_S.rf
  have hl := lv_entry ([.double p0, .int p1]) (n := 9) (Nat.le_of_ble_eq_true rfl)
  rw [lg_entry_eq]
  generalize (lg_sl ([.double p0, .int p1]) ++ List.replicate (9 - (lg_sl ([.double p0, .int p1])).length) Slot.unset).toArray = ls at hl ⊢
  have hl : lv_has ls 9 [(0, .double p0), (2, .int p1)] := hl
  obtain ⟨Z, hZ⟩ : ∃ z, z = MQ below (pm_QD (s_X9_rounded p0 p1)) ([.double p0, .int p1] : List Value).toArray s 0 0 pv_N := ⟨_, rfl⟩
  rw [← hZ]
  obtain ⟨Y, hY⟩ : ∃ y, y = s_X9_rounded p0 p1 := ⟨_, rfl⟩
  refine lv_dload_n hx hb dX9_rounded_0 rfl (lv_at hl 0 rfl) ?_
  refine lv_d2l hx hb dX9_rounded_1 ?_
  refine lv_l2d hx hb dX9_rounded_2 ?_
  refine lv_topd (fun x_3 ex_3 => ?_)
  refine lv_dstore_n (lv' := [(3, .double x_3), (0, .double p0), (2, .int p1)]) hx hb dX9_rounded_3 rfl hl (by decide) rfl (fun ls hl => ?_)
  refine lv_iload_n hx hb dX9_rounded_4 rfl (lv_at hl 2 rfl) ?_
  refine lv_if_ne (tgt := 22) hx hb dX9_rounded_5 (by decide) (fun c_5 => ?_) (fun c_5 => ?_)
  ·
    refine lv_iload_n hx hb dX9_rounded_22 rfl (lv_at hl 2 rfl) ?_
    refine lv_iconst (v := 1) hx hb dX9_rounded_23 (by decide) ?_
    refine lv_icmp_ne (tgt := 41) hx hb dX9_rounded_24 (by decide) (fun c_24 => ?_) (fun c_24 => ?_)
    ·
      refine lv_dload_n hx hb dX9_rounded_41 rfl (lv_at hl 1 rfl) ?_
      refine lv_dconst0 hx hb dX9_rounded_42 ?_
      refine lf_d_gge (tgt := 52) hx hb dX9_rounded_43 dX9_rounded_44 (by decide) (fun c_43 => ?_) (fun c_43 => ?_)
      ·
        refine lv_dload_n hx hb dX9_rounded_52 rfl (lv_at hl 1 rfl) ?_
        refine lv_dstore (lv' := [(5, .double p0), (3, .double x_3), (0, .double p0), (2, .int p1)]) hx hb dX9_rounded_53 hl (by decide) rfl (fun ls hl => ?_)
        refine lv_dload hx hb dX9_rounded_55 (lv_at hl 0 rfl) ?_
        refine lv_ldc2d hx hb hown (hts _ (List.mem_of_getElem? (i := 1) rfl)) dX9_rounded_57 ?_
        refine lv_dadd hx hb dX9_rounded_60 (by first | exact vf_of (nan_addc hn (by decide)) | (subst ex_53; exact vf_of (nan_addc (nan_neg hn) (by decide)))) ?_
        refine lv_ldc2d hx hb hown (hts _ (List.mem_of_getElem? (i := 1) rfl)) dX9_rounded_61 ?_
        refine lv_dsub hx hb dX9_rounded_64 (by first | exact vf_of (nan_subc (nan_addc hn (by decide)) (by decide)) | (subst ex_53; exact vf_of (nan_subc (nan_addc (nan_neg hn) (by decide)) (by decide)))) ?_
        refine lv_topd (fun x_65 ex_65 => ?_)
        refine lv_dstore (lv' := [(7, .double x_65), (5, .double p0), (3, .double x_3), (0, .double p0), (2, .int p1)]) hx hb dX9_rounded_65 hl (by decide) rfl (fun ls hl => ?_)
        refine lv_dload_n hx hb dX9_rounded_67 rfl (lv_at hl 3 rfl) ?_
        refine lv_dconst0 hx hb dX9_rounded_68 ?_
        refine lf_d_gge (tgt := 79) hx hb dX9_rounded_69 dX9_rounded_70 (by decide) (fun c_69 => ?_) (fun c_69 => ?_)
        ·
          refine lv_dload hx hb dX9_rounded_79 (lv_at hl 0 rfl) ?_
          rw [hZ]
          exact pm_dret (w := s_X9_rounded p0 p1) hx hb hr hlocks hS (by subst ex_65 ex_3; exact (((((if_neg c_5).trans (if_neg c_24)).trans (if_neg c_43)).trans (if_neg c_69))).symm) dX9_rounded_81
        ·
          refine lv_dload hx hb dX9_rounded_73 (lv_at hl 0 rfl) ?_
          refine lv_dneg hx hb dX9_rounded_75 ?_
          refine lv_goto (tgt := 81) hx hb dX9_rounded_76 (by decide) ?_
          rw [hZ]
          exact pm_dret (w := s_X9_rounded p0 p1) hx hb hr hlocks hS (by subst ex_65 ex_3; exact (((((if_neg c_5).trans (if_neg c_24)).trans (if_neg c_43)).trans (if_pos c_69))).symm) dX9_rounded_81
      ·
        refine lv_dload_n hx hb dX9_rounded_47 rfl (lv_at hl 1 rfl) ?_
        refine lv_dneg hx hb dX9_rounded_48 ?_
        refine lv_goto (tgt := 53) hx hb dX9_rounded_49 (by decide) ?_
        refine lv_topd (fun x_53 ex_53 => ?_)
        refine lv_dstore (lv' := [(5, .double x_53), (3, .double x_3), (0, .double p0), (2, .int p1)]) hx hb dX9_rounded_53 hl (by decide) rfl (fun ls hl => ?_)
        refine lv_dload hx hb dX9_rounded_55 (lv_at hl 0 rfl) ?_
        refine lv_ldc2d hx hb hown (hts _ (List.mem_of_getElem? (i := 1) rfl)) dX9_rounded_57 ?_
        refine lv_dadd hx hb dX9_rounded_60 (by first | exact vf_of (nan_addc hn (by decide)) | (subst ex_53; exact vf_of (nan_addc (nan_neg hn) (by decide)))) ?_
        refine lv_ldc2d hx hb hown (hts _ (List.mem_of_getElem? (i := 1) rfl)) dX9_rounded_61 ?_
        refine lv_dsub hx hb dX9_rounded_64 (by first | exact vf_of (nan_subc (nan_addc hn (by decide)) (by decide)) | (subst ex_53; exact vf_of (nan_subc (nan_addc (nan_neg hn) (by decide)) (by decide)))) ?_
        refine lv_topd (fun x_65u1 ex_65u1 => ?_)
        refine lv_dstore (lv' := [(7, .double x_65u1), (5, .double x_53), (3, .double x_3), (0, .double p0), (2, .int p1)]) hx hb dX9_rounded_65 hl (by decide) rfl (fun ls hl => ?_)
        refine lv_dload_n hx hb dX9_rounded_67 rfl (lv_at hl 3 rfl) ?_
        refine lv_dconst0 hx hb dX9_rounded_68 ?_
        refine lf_d_gge (tgt := 79) hx hb dX9_rounded_69 dX9_rounded_70 (by decide) (fun c_69 => ?_) (fun c_69 => ?_)
        ·
          refine lv_dload hx hb dX9_rounded_79 (lv_at hl 0 rfl) ?_
          rw [hZ]
          exact pm_dret (w := s_X9_rounded p0 p1) hx hb hr hlocks hS (by subst ex_65u1 ex_53 ex_3; exact (((((if_neg c_5).trans (if_neg c_24)).trans (if_pos c_43)).trans (if_neg c_69))).symm) dX9_rounded_81
        ·
          refine lv_dload hx hb dX9_rounded_73 (lv_at hl 0 rfl) ?_
          refine lv_dneg hx hb dX9_rounded_75 ?_
          refine lv_goto (tgt := 81) hx hb dX9_rounded_76 (by decide) ?_
          rw [hZ]
          exact pm_dret (w := s_X9_rounded p0 p1) hx hb hr hlocks hS (by subst ex_65u1 ex_53 ex_3; exact (((((if_neg c_5).trans (if_neg c_24)).trans (if_pos c_43)).trans (if_pos c_69))).symm) dX9_rounded_81
    ·
      refine lv_dload_n hx hb dX9_rounded_27 rfl (lv_at hl 0 rfl) ?_
      refine lv_dload_n hx hb dX9_rounded_28 rfl (lv_at hl 1 rfl) ?_
      refine lf_d_gge (tgt := 39) hx hb dX9_rounded_29 dX9_rounded_30 (by decide) (fun c_29 => ?_) (fun c_29 => ?_)
      ·
        refine lv_dload_n hx hb dX9_rounded_39 rfl (lv_at hl 0 rfl) ?_
        rw [hZ]
        exact pm_dret (w := s_X9_rounded p0 p1) hx hb hr hlocks hS (by subst ex_3; exact ((((if_neg c_5).trans (if_pos c_24)).trans (if_neg c_29))).symm) dX9_rounded_40
      ·
        refine lv_dload_n hx hb dX9_rounded_33 rfl (lv_at hl 0 rfl) ?_
        refine lv_dconst1 hx hb dX9_rounded_34 ?_
        refine lv_dadd hx hb dX9_rounded_35 (by subst ex_3; exact vf_of (nan_addc (nan_l2d _) (by decide))) ?_
        refine lv_goto (tgt := 40) hx hb dX9_rounded_36 (by decide) ?_
        rw [hZ]
        exact pm_dret (w := s_X9_rounded p0 p1) hx hb hr hlocks hS (by subst ex_3; exact ((((if_neg c_5).trans (if_pos c_24)).trans (if_pos c_29))).symm) dX9_rounded_40
  ·
    refine lv_dload_n hx hb dX9_rounded_8 rfl (lv_at hl 0 rfl) ?_
    refine lv_dload_n hx hb dX9_rounded_9 rfl (lv_at hl 1 rfl) ?_
    refine lf_d_lle (tgt := 20) hx hb dX9_rounded_10 dX9_rounded_11 (by decide) (fun c_10 => ?_) (fun c_10 => ?_)
    ·
      refine lv_dload_n hx hb dX9_rounded_20 rfl (lv_at hl 0 rfl) ?_
      rw [hZ]
      exact pm_dret (w := s_X9_rounded p0 p1) hx hb hr hlocks hS (by subst ex_3; exact (((if_pos c_5).trans (if_neg c_10))).symm) dX9_rounded_21
    ·
      refine lv_dload_n hx hb dX9_rounded_14 rfl (lv_at hl 0 rfl) ?_
      refine lv_dconst1 hx hb dX9_rounded_15 ?_
      refine lv_dsub hx hb dX9_rounded_16 (by subst ex_3; exact vf_of (nan_subc (nan_l2d _) (by decide))) ?_
      refine lv_goto (tgt := 21) hx hb dX9_rounded_17 (by decide) ?_
      rw [hZ]
      exact pm_dret (w := s_X9_rounded p0 p1) hx hb hr hlocks hS (by subst ex_3; exact (((if_pos c_5).trans (if_pos c_10))).symm) dX9_rounded_21
theorem hd_X9_holds : yX9_holds.cls ≠ "java/lang/invoke/MethodHandle" ∧ yX9_holds.cls ≠ "java/lang/invoke/VarHandle" ∧ (parseMethodDescriptor yX9_holds.desc).map (fun d => d.parameters.length) = some 3 := by decide +kernel
def s_X9_holds (p0 : Int32) (p1 : UInt64) (p2 : UInt64) : Int32 :=
  if p0 = 0 then if dLt p1 p2 then 1
  else 0
  else if p0 = 1 then if dLe p1 p2 then 1
  else 0
  else if p0 = 2 then if dGt p1 p2 then 1
  else 0
  else if p0 = 3 then if dGe p1 p2 then 1
  else 0
  else if p0 = 4 then if dEq p1 p2 then 1
  else 0
  else if dEq p1 p2 then 0
  else 1
set_option maxHeartbeats 4000000 in
set_option maxRecDepth 100000 in
theorem pm_X9_holds (l : Launch) (p0 : Int32) (p1 : UInt64) (p2 : UInt64) : PmI l yX9_holds wsX9_holds 0 0 [.int p0, .double p1, .double p2] (fun _ => True) (s_X9_holds p0 p1 p2) := by
  refine Met.ofW (cc := cX9_holds) (maxL := 5) (ret := (some .boolean)) (by decide) rfl ?_
  intro p e s m args below meth c s₁ B hml hv
  obtain ⟨rfl, -⟩ := hv
  have hx := B.exec
  have hb := B.bytes
  have hr := B.returns
  have hts := atoms_spec (ws := wsX9_holds) B.pre
  have hown : s.vm.findClass RX9 = some m.cls := findClass_of_methodNamed B.named
  have hlocks := B.notSynchronized
  have hS : va_S pv_N s.heap s.heap [] := va_S.rf
  have hl := lv_entry ([.int p0, .double p1, .double p2]) (n := 5) (Nat.le_of_ble_eq_true rfl)
  rw [lg_entry_eq]
  generalize (lg_sl ([.int p0, .double p1, .double p2]) ++ List.replicate (5 - (lg_sl ([.int p0, .double p1, .double p2])).length) Slot.unset).toArray = ls at hl ⊢
  have hl : lv_has ls 5 [(0, .int p0), (1, .double p1), (3, .double p2)] := hl
  obtain ⟨Z, hZ⟩ : ∃ z, z = MQ below (pm_QI (s_X9_holds p0 p1 p2)) ([.int p0, .double p1, .double p2] : List Value).toArray s 0 0 pv_N := ⟨_, rfl⟩
  rw [← hZ]
  obtain ⟨Y, hY⟩ : ∃ y, y = s_X9_holds p0 p1 p2 := ⟨_, rfl⟩
  refine lv_iload_n hx hb dX9_holds_0 rfl (lv_at hl 0 rfl) ?_
  by_cases c_1_0 : p0 = 0
  · refine lv_tableIn (off := 35) (tgt := 36) hx hb dX9_holds_1 (by rw [c_1_0]; decide) (by rw [c_1_0]; decide) (by rw [c_1_0]; decide) (by decide) ?_
    refine lv_dload_n hx hb dX9_holds_36 rfl (lv_at hl 1 rfl) ?_
    refine lv_dload_n hx hb dX9_holds_37 rfl (lv_at hl 2 rfl) ?_
    refine lf_d_gge (tgt := 46) hx hb dX9_holds_38 dX9_holds_39 (by decide) (fun c_38 => ?_) (fun c_38 => ?_)
    ·
      refine lv_iconst (v := 0) hx hb dX9_holds_46 (by decide) ?_
      rw [hZ]
      exact pm_zret (w := s_X9_holds p0 p1 p2) hx hb hr hlocks hS (nz_0) (by exact (((if_pos c_1_0).trans (if_neg c_38))).symm) dX9_holds_47
    ·
      refine lv_iconst (v := 1) hx hb dX9_holds_42 (by decide) ?_
      refine lv_goto (tgt := 47) hx hb dX9_holds_43 (by decide) ?_
      rw [hZ]
      exact pm_zret (w := s_X9_holds p0 p1 p2) hx hb hr hlocks hS (nz_1) (by exact (((if_pos c_1_0).trans (if_pos c_38))).symm) dX9_holds_47
  ·
    by_cases c_1_1 : p0 = 1
    · refine lv_tableIn (off := 47) (tgt := 48) hx hb dX9_holds_1 (by rw [c_1_1]; decide) (by rw [c_1_1]; decide) (by rw [c_1_1]; decide) (by decide) ?_
      refine lv_dload_n hx hb dX9_holds_48 rfl (lv_at hl 1 rfl) ?_
      refine lv_dload_n hx hb dX9_holds_49 rfl (lv_at hl 2 rfl) ?_
      refine lf_d_ggt (tgt := 58) hx hb dX9_holds_50 dX9_holds_51 (by decide) (fun c_50 => ?_) (fun c_50 => ?_)
      ·
        refine lv_iconst (v := 0) hx hb dX9_holds_58 (by decide) ?_
        rw [hZ]
        exact pm_zret (w := s_X9_holds p0 p1 p2) hx hb hr hlocks hS (nz_0) (by exact ((((if_neg c_1_0).trans (if_pos c_1_1)).trans (if_neg c_50))).symm) dX9_holds_59
      ·
        refine lv_iconst (v := 1) hx hb dX9_holds_54 (by decide) ?_
        refine lv_goto (tgt := 59) hx hb dX9_holds_55 (by decide) ?_
        rw [hZ]
        exact pm_zret (w := s_X9_holds p0 p1 p2) hx hb hr hlocks hS (nz_1) (by exact ((((if_neg c_1_0).trans (if_pos c_1_1)).trans (if_pos c_50))).symm) dX9_holds_59
    ·
      by_cases c_1_2 : p0 = 2
      · refine lv_tableIn (off := 59) (tgt := 60) hx hb dX9_holds_1 (by rw [c_1_2]; decide) (by rw [c_1_2]; decide) (by rw [c_1_2]; decide) (by decide) ?_
        refine lv_dload_n hx hb dX9_holds_60 rfl (lv_at hl 1 rfl) ?_
        refine lv_dload_n hx hb dX9_holds_61 rfl (lv_at hl 2 rfl) ?_
        refine lf_d_lle (tgt := 70) hx hb dX9_holds_62 dX9_holds_63 (by decide) (fun c_62 => ?_) (fun c_62 => ?_)
        ·
          refine lv_iconst (v := 0) hx hb dX9_holds_70 (by decide) ?_
          rw [hZ]
          exact pm_zret (w := s_X9_holds p0 p1 p2) hx hb hr hlocks hS (nz_0) (by exact (((((if_neg c_1_0).trans (if_neg c_1_1)).trans (if_pos c_1_2)).trans (if_neg c_62))).symm) dX9_holds_71
        ·
          refine lv_iconst (v := 1) hx hb dX9_holds_66 (by decide) ?_
          refine lv_goto (tgt := 71) hx hb dX9_holds_67 (by decide) ?_
          rw [hZ]
          exact pm_zret (w := s_X9_holds p0 p1 p2) hx hb hr hlocks hS (nz_1) (by exact (((((if_neg c_1_0).trans (if_neg c_1_1)).trans (if_pos c_1_2)).trans (if_pos c_62))).symm) dX9_holds_71
      ·
        by_cases c_1_3 : p0 = 3
        · refine lv_tableIn (off := 71) (tgt := 72) hx hb dX9_holds_1 (by rw [c_1_3]; decide) (by rw [c_1_3]; decide) (by rw [c_1_3]; decide) (by decide) ?_
          refine lv_dload_n hx hb dX9_holds_72 rfl (lv_at hl 1 rfl) ?_
          refine lv_dload_n hx hb dX9_holds_73 rfl (lv_at hl 2 rfl) ?_
          refine lf_d_llt (tgt := 82) hx hb dX9_holds_74 dX9_holds_75 (by decide) (fun c_74 => ?_) (fun c_74 => ?_)
          ·
            refine lv_iconst (v := 0) hx hb dX9_holds_82 (by decide) ?_
            rw [hZ]
            exact pm_zret (w := s_X9_holds p0 p1 p2) hx hb hr hlocks hS (nz_0) (by exact ((((((if_neg c_1_0).trans (if_neg c_1_1)).trans (if_neg c_1_2)).trans (if_pos c_1_3)).trans (if_neg c_74))).symm) dX9_holds_83
          ·
            refine lv_iconst (v := 1) hx hb dX9_holds_78 (by decide) ?_
            refine lv_goto (tgt := 83) hx hb dX9_holds_79 (by decide) ?_
            rw [hZ]
            exact pm_zret (w := s_X9_holds p0 p1 p2) hx hb hr hlocks hS (nz_1) (by exact ((((((if_neg c_1_0).trans (if_neg c_1_1)).trans (if_neg c_1_2)).trans (if_pos c_1_3)).trans (if_pos c_74))).symm) dX9_holds_83
        ·
          by_cases c_1_4 : p0 = 4
          · refine lv_tableIn (off := 83) (tgt := 84) hx hb dX9_holds_1 (by rw [c_1_4]; decide) (by rw [c_1_4]; decide) (by rw [c_1_4]; decide) (by decide) ?_
            refine lv_dload_n hx hb dX9_holds_84 rfl (lv_at hl 1 rfl) ?_
            refine lv_dload_n hx hb dX9_holds_85 rfl (lv_at hl 2 rfl) ?_
            refine lf_d_lne (tgt := 94) hx hb dX9_holds_86 dX9_holds_87 (by decide) (fun c_86 => ?_) (fun c_86 => ?_)
            ·
              refine lv_iconst (v := 0) hx hb dX9_holds_94 (by decide) ?_
              rw [hZ]
              exact pm_zret (w := s_X9_holds p0 p1 p2) hx hb hr hlocks hS (nz_0) (by exact (((((((if_neg c_1_0).trans (if_neg c_1_1)).trans (if_neg c_1_2)).trans (if_neg c_1_3)).trans (if_pos c_1_4)).trans (if_neg c_86))).symm) dX9_holds_95
            ·
              refine lv_iconst (v := 1) hx hb dX9_holds_90 (by decide) ?_
              refine lv_goto (tgt := 95) hx hb dX9_holds_91 (by decide) ?_
              rw [hZ]
              exact pm_zret (w := s_X9_holds p0 p1 p2) hx hb hr hlocks hS (nz_1) (by exact (((((((if_neg c_1_0).trans (if_neg c_1_1)).trans (if_neg c_1_2)).trans (if_neg c_1_3)).trans (if_pos c_1_4)).trans (if_pos c_86))).symm) dX9_holds_95
          ·
            have nc_1_0 : (p0).toInt ≠ 0 := fun h => c_1_0 (Int32.toInt.inj (h.trans (by decide)))
            have nc_1_1 : (p0).toInt ≠ 1 := fun h => c_1_1 (Int32.toInt.inj (h.trans (by decide)))
            have nc_1_2 : (p0).toInt ≠ 2 := fun h => c_1_2 (Int32.toInt.inj (h.trans (by decide)))
            have nc_1_3 : (p0).toInt ≠ 3 := fun h => c_1_3 (Int32.toInt.inj (h.trans (by decide)))
            have nc_1_4 : (p0).toInt ≠ 4 := fun h => c_1_4 (Int32.toInt.inj (h.trans (by decide)))
            refine lv_tableOut (tgt := 96) hx hb dX9_holds_1 (by omega) (by decide) ?_
            refine lv_dload_n hx hb dX9_holds_96 rfl (lv_at hl 1 rfl) ?_
            refine lv_dload_n hx hb dX9_holds_97 rfl (lv_at hl 2 rfl) ?_
            refine lf_d_leq (tgt := 106) hx hb dX9_holds_98 dX9_holds_99 (by decide) (fun c_98 => ?_) (fun c_98 => ?_)
            ·
              refine lv_iconst (v := 0) hx hb dX9_holds_106 (by decide) ?_
              rw [hZ]
              exact pm_zret (w := s_X9_holds p0 p1 p2) hx hb hr hlocks hS (nz_0) (by exact (((((((if_neg c_1_0).trans (if_neg c_1_1)).trans (if_neg c_1_2)).trans (if_neg c_1_3)).trans (if_neg c_1_4)).trans (if_pos c_98))).symm) dX9_holds_107
            ·
              refine lv_iconst (v := 1) hx hb dX9_holds_102 (by decide) ?_
              refine lv_goto (tgt := 107) hx hb dX9_holds_103 (by decide) ?_
              rw [hZ]
              exact pm_zret (w := s_X9_holds p0 p1 p2) hx hb hr hlocks hS (nz_1) (by exact (((((((if_neg c_1_0).trans (if_neg c_1_1)).trans (if_neg c_1_2)).trans (if_neg c_1_3)).trans (if_neg c_1_4)).trans (if_neg c_98))).symm) dX9_holds_107
