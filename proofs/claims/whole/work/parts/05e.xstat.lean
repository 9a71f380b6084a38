/-! ===== the class: static methods over numbers (laid by program) ===== -/
theorem hd_X8_isCell : yX8_isCell.cls ≠ "java/lang/invoke/MethodHandle" ∧ yX8_isCell.cls ≠ "java/lang/invoke/VarHandle" ∧ (parseMethodDescriptor yX8_isCell.desc).map (fun d => d.parameters.length) = some 1 := by decide +kernel
def s_X8_isCell (p0 : Int32) : Int32 :=
  if p0 < 0 then 0
  else if 16 ≤ p0 then 0
  else 1
set_option maxHeartbeats 4000000 in
set_option maxRecDepth 100000 in
theorem pm_X8_isCell (l : Launch) (p0 : Int32) : PmI l yX8_isCell wsX8_isCell 0 0 [.int p0] (fun _ => True) (s_X8_isCell p0) := by
  refine Met.ofW (cc := cX8_isCell) (maxL := 1) (ret := (some .boolean)) (by decide) rfl ?_
  intro p e s m args below meth c s₁ B hml hv
  obtain ⟨rfl, -⟩ := hv
  have hx := B.exec
  have hb := B.bytes
  have hr := B.returns
  have hts := atoms_spec (ws := wsX8_isCell) B.pre
  have hown : s.vm.findClass RX8 = some m.cls := findClass_of_methodNamed B.named
  have hlocks := B.notSynchronized
  have hS : va_S pv_N s.heap s.heap [] := va_S.rf
  have hl := lv_entry ([.int p0]) (n := 1) (Nat.le_of_ble_eq_true rfl)
  rw [lg_entry_eq]
  generalize (lg_sl ([.int p0]) ++ List.replicate (1 - (lg_sl ([.int p0])).length) Slot.unset).toArray = ls at hl ⊢
  have hl : lv_has ls 1 [(0, .int p0)] := hl
  obtain ⟨Z, hZ⟩ : ∃ z, z = MQ below (pm_QI (s_X8_isCell p0)) ([.int p0] : List Value).toArray s 0 0 pv_N := ⟨_, rfl⟩
  rw [← hZ]
  obtain ⟨Y, hY⟩ : ∃ y, y = s_X8_isCell p0 := ⟨_, rfl⟩
  refine lv_iload_n hx hb dX8_isCell_0 rfl (lv_at hl 0 rfl) ?_
  refine lv_if_lt (tgt := 14) hx hb dX8_isCell_1 (by decide) (fun c_1 => ?_) (fun c_1 => ?_)
  ·
    refine lv_iconst (v := 0) hx hb dX8_isCell_14 (by decide) ?_
    rw [hZ]
    exact pm_zret (w := s_X8_isCell p0) hx hb hr hlocks hS (nz_0) (by exact ((if_pos c_1)).symm) dX8_isCell_15
  ·
    refine lv_iload_n hx hb dX8_isCell_4 rfl (lv_at hl 0 rfl) ?_
    refine lv_bipush (v := 16) hx hb dX8_isCell_5 (by decide) ?_
    refine lv_icmp_ge (tgt := 14) hx hb dX8_isCell_7 (by decide) (fun c_7 => ?_) (fun c_7 => ?_)
    ·
      refine lv_iconst (v := 0) hx hb dX8_isCell_14 (by decide) ?_
      rw [hZ]
      exact pm_zret (w := s_X8_isCell p0) hx hb hr hlocks hS (nz_0) (by exact (((if_neg c_1).trans (if_pos c_7))).symm) dX8_isCell_15
    ·
      refine lv_iconst (v := 1) hx hb dX8_isCell_10 (by decide) ?_
      refine lv_goto (tgt := 15) hx hb dX8_isCell_11 (by decide) ?_
      rw [hZ]
      exact pm_zret (w := s_X8_isCell p0) hx hb hr hlocks hS (nz_1) (by exact (((if_neg c_1).trans (if_neg c_7))).symm) dX8_isCell_15
theorem bz_s_X8_isCell (p0 : Int32) : s_X8_isCell p0 = 0 ∨ s_X8_isCell p0 = 1 := by
  unfold s_X8_isCell
  repeat' split
  all_goals first | exact Or.inl rfl | exact Or.inr rfl
theorem hd_X8_isNumberType : yX8_isNumberType.cls ≠ "java/lang/invoke/MethodHandle" ∧ yX8_isNumberType.cls ≠ "java/lang/invoke/VarHandle" ∧ (parseMethodDescriptor yX8_isNumberType.desc).map (fun d => d.parameters.length) = some 1 := by decide +kernel
def s_X8_isNumberType (p0 : Int32) : Int32 :=
  if p0 < 0 then 0
  else if 6 < p0 then 0
  else 1
set_option maxHeartbeats 4000000 in
set_option maxRecDepth 100000 in
theorem pm_X8_isNumberType (l : Launch) (p0 : Int32) : PmI l yX8_isNumberType wsX8_isNumberType 0 0 [.int p0] (fun _ => True) (s_X8_isNumberType p0) := by
  refine Met.ofW (cc := cX8_isNumberType) (maxL := 1) (ret := (some .boolean)) (by decide) rfl ?_
  intro p e s m args below meth c s₁ B hml hv
  obtain ⟨rfl, -⟩ := hv
  have hx := B.exec
  have hb := B.bytes
  have hr := B.returns
  have hts := atoms_spec (ws := wsX8_isNumberType) B.pre
  have hown : s.vm.findClass RX8 = some m.cls := findClass_of_methodNamed B.named
  have hlocks := B.notSynchronized
  have hS : va_S pv_N s.heap s.heap [] := va_S.rf
  have hl := lv_entry ([.int p0]) (n := 1) (Nat.le_of_ble_eq_true rfl)
  rw [lg_entry_eq]
  generalize (lg_sl ([.int p0]) ++ List.replicate (1 - (lg_sl ([.int p0])).length) Slot.unset).toArray = ls at hl ⊢
  have hl : lv_has ls 1 [(0, .int p0)] := hl
  obtain ⟨Z, hZ⟩ : ∃ z, z = MQ below (pm_QI (s_X8_isNumberType p0)) ([.int p0] : List Value).toArray s 0 0 pv_N := ⟨_, rfl⟩
  rw [← hZ]
  obtain ⟨Y, hY⟩ : ∃ y, y = s_X8_isNumberType p0 := ⟨_, rfl⟩
  refine lv_iload_n hx hb dX8_isNumberType_0 rfl (lv_at hl 0 rfl) ?_
  refine lv_if_lt (tgt := 14) hx hb dX8_isNumberType_1 (by decide) (fun c_1 => ?_) (fun c_1 => ?_)
  ·
    refine lv_iconst (v := 0) hx hb dX8_isNumberType_14 (by decide) ?_
    rw [hZ]
    exact pm_zret (w := s_X8_isNumberType p0) hx hb hr hlocks hS (nz_0) (by exact ((if_pos c_1)).symm) dX8_isNumberType_15
  ·
    refine lv_iload_n hx hb dX8_isNumberType_4 rfl (lv_at hl 0 rfl) ?_
    refine lv_bipush (v := 6) hx hb dX8_isNumberType_5 (by decide) ?_
    refine lv_icmp_gt (tgt := 14) hx hb dX8_isNumberType_7 (by decide) (fun c_7 => ?_) (fun c_7 => ?_)
    ·
      refine lv_iconst (v := 0) hx hb dX8_isNumberType_14 (by decide) ?_
      rw [hZ]
      exact pm_zret (w := s_X8_isNumberType p0) hx hb hr hlocks hS (nz_0) (by exact (((if_neg c_1).trans (if_pos c_7))).symm) dX8_isNumberType_15
    ·
      refine lv_iconst (v := 1) hx hb dX8_isNumberType_10 (by decide) ?_
      refine lv_goto (tgt := 15) hx hb dX8_isNumberType_11 (by decide) ?_
      rw [hZ]
      exact pm_zret (w := s_X8_isNumberType p0) hx hb hr hlocks hS (nz_1) (by exact (((if_neg c_1).trans (if_neg c_7))).symm) dX8_isNumberType_15
theorem bz_s_X8_isNumberType (p0 : Int32) : s_X8_isNumberType p0 = 0 ∨ s_X8_isNumberType p0 = 1 := by
  unfold s_X8_isNumberType
  repeat' split
  all_goals first | exact Or.inl rfl | exact Or.inr rfl
theorem hd_X8_isThingArrayType : yX8_isThingArrayType.cls ≠ "java/lang/invoke/MethodHandle" ∧ yX8_isThingArrayType.cls ≠ "java/lang/invoke/VarHandle" ∧ (parseMethodDescriptor yX8_isThingArrayType.desc).map (fun d => d.parameters.length) = some 1 := by decide +kernel
def s_X8_isThingArrayType (p0 : Int32) : Int32 :=
  if p0 < 7 then if p0 = 15 then 1
  else 0
  else if p0 ≤ 9 then 1
  else if p0 = 15 then 1
  else 0
set_option maxHeartbeats 4000000 in
set_option maxRecDepth 100000 in
theorem pm_X8_isThingArrayType (l : Launch) (p0 : Int32) : PmI l yX8_isThingArrayType wsX8_isThingArrayType 0 0 [.int p0] (fun _ => True) (s_X8_isThingArrayType p0) := by
  refine Met.ofW (cc := cX8_isThingArrayType) (maxL := 1) (ret := (some .boolean)) (by decide) rfl ?_
  intro p e s m args below meth c s₁ B hml hv
  obtain ⟨rfl, -⟩ := hv
  have hx := B.exec
  have hb := B.bytes
  have hr := B.returns
  have hts := atoms_spec (ws := wsX8_isThingArrayType) B.pre
  have hown : s.vm.findClass RX8 = some m.cls := findClass_of_methodNamed B.named
  have hlocks := B.notSynchronized
  have hS : va_S pv_N s.heap s.heap [] := va_S.rf
  have hl := lv_entry ([.int p0]) (n := 1) (Nat.le_of_ble_eq_true rfl)
  rw [lg_entry_eq]
  generalize (lg_sl ([.int p0]) ++ List.replicate (1 - (lg_sl ([.int p0])).length) Slot.unset).toArray = ls at hl ⊢
  have hl : lv_has ls 1 [(0, .int p0)] := hl
  obtain ⟨Z, hZ⟩ : ∃ z, z = MQ below (pm_QI (s_X8_isThingArrayType p0)) ([.int p0] : List Value).toArray s 0 0 pv_N := ⟨_, rfl⟩
  rw [← hZ]
  obtain ⟨Y, hY⟩ : ∃ y, y = s_X8_isThingArrayType p0 := ⟨_, rfl⟩
  refine lv_iload_n hx hb dX8_isThingArrayType_0 rfl (lv_at hl 0 rfl) ?_
  refine lv_bipush (v := 7) hx hb dX8_isThingArrayType_1 (by decide) ?_
  refine lv_icmp_lt (tgt := 12) hx hb dX8_isThingArrayType_3 (by decide) (fun c_3 => ?_) (fun c_3 => ?_)
  ·
    refine lv_iload_n hx hb dX8_isThingArrayType_12 rfl (lv_at hl 0 rfl) ?_
    refine lv_bipush (v := 15) hx hb dX8_isThingArrayType_13 (by decide) ?_
    refine lv_icmp_ne (tgt := 22) hx hb dX8_isThingArrayType_15 (by decide) (fun c_15 => ?_) (fun c_15 => ?_)
    ·
      refine lv_iconst (v := 0) hx hb dX8_isThingArrayType_22 (by decide) ?_
      rw [hZ]
      exact pm_zret (w := s_X8_isThingArrayType p0) hx hb hr hlocks hS (nz_0) (by exact (((if_pos c_3).trans (if_neg c_15))).symm) dX8_isThingArrayType_23
    ·
      refine lv_iconst (v := 1) hx hb dX8_isThingArrayType_18 (by decide) ?_
      refine lv_goto (tgt := 23) hx hb dX8_isThingArrayType_19 (by decide) ?_
      rw [hZ]
      exact pm_zret (w := s_X8_isThingArrayType p0) hx hb hr hlocks hS (nz_1) (by exact (((if_pos c_3).trans (if_pos c_15))).symm) dX8_isThingArrayType_23
  ·
    refine lv_iload_n hx hb dX8_isThingArrayType_6 rfl (lv_at hl 0 rfl) ?_
    refine lv_bipush (v := 9) hx hb dX8_isThingArrayType_7 (by decide) ?_
    refine lv_icmp_le (tgt := 18) hx hb dX8_isThingArrayType_9 (by decide) (fun c_9 => ?_) (fun c_9 => ?_)
    ·
      refine lv_iconst (v := 1) hx hb dX8_isThingArrayType_18 (by decide) ?_
      refine lv_goto (tgt := 23) hx hb dX8_isThingArrayType_19 (by decide) ?_
      rw [hZ]
      exact pm_zret (w := s_X8_isThingArrayType p0) hx hb hr hlocks hS (nz_1) (by exact (((if_neg c_3).trans (if_pos c_9))).symm) dX8_isThingArrayType_23
    ·
      refine lv_iload_n hx hb dX8_isThingArrayType_12 rfl (lv_at hl 0 rfl) ?_
      refine lv_bipush (v := 15) hx hb dX8_isThingArrayType_13 (by decide) ?_
      refine lv_icmp_ne (tgt := 22) hx hb dX8_isThingArrayType_15 (by decide) (fun c_15 => ?_) (fun c_15 => ?_)
      ·
        refine lv_iconst (v := 0) hx hb dX8_isThingArrayType_22 (by decide) ?_
        rw [hZ]
        exact pm_zret (w := s_X8_isThingArrayType p0) hx hb hr hlocks hS (nz_0) (by exact ((((if_neg c_3).trans (if_neg c_9)).trans (if_neg c_15))).symm) dX8_isThingArrayType_23
      ·
        refine lv_iconst (v := 1) hx hb dX8_isThingArrayType_18 (by decide) ?_
        refine lv_goto (tgt := 23) hx hb dX8_isThingArrayType_19 (by decide) ?_
        rw [hZ]
        exact pm_zret (w := s_X8_isThingArrayType p0) hx hb hr hlocks hS (nz_1) (by exact ((((if_neg c_3).trans (if_neg c_9)).trans (if_pos c_15))).symm) dX8_isThingArrayType_23
theorem bz_s_X8_isThingArrayType (p0 : Int32) : s_X8_isThingArrayType p0 = 0 ∨ s_X8_isThingArrayType p0 = 1 := by
  unfold s_X8_isThingArrayType
  repeat' split
  all_goals first | exact Or.inl rfl | exact Or.inr rfl
theorem hd_X8_isArrayType : yX8_isArrayType.cls ≠ "java/lang/invoke/MethodHandle" ∧ yX8_isArrayType.cls ≠ "java/lang/invoke/VarHandle" ∧ (parseMethodDescriptor yX8_isArrayType.desc).map (fun d => d.parameters.length) = some 1 := by decide +kernel
def s_X8_isArrayType (p0 : Int32) : Int32 :=
  if (s_X8_isNumberType p0) = 0 then if (s_X8_isThingArrayType p0) = 0 then 0
  else 1
  else 1
set_option maxHeartbeats 4000000 in
set_option maxRecDepth 100000 in
theorem pm_X8_isArrayType (l : Launch) (p0 : Int32) : PmI l yX8_isArrayType wsX8_isArrayType 1 20 [.int p0] (fun _ => True) (s_X8_isArrayType p0) := by
  refine Met.ofW (cc := cX8_isArrayType) (maxL := 1) (ret := (some .boolean)) (by decide) rfl ?_
  intro p e s m args below meth c s₁ B hml hv
  obtain ⟨rfl, -⟩ := hv
  have hx := B.exec
  have hb := B.bytes
  have hr := B.returns
  have hts := atoms_spec (ws := wsX8_isArrayType) B.pre
  have hown : s.vm.findClass RX8 = some m.cls := findClass_of_methodNamed B.named
  have hlocks := B.notSynchronized
  have hS : va_S pv_N s.heap s.heap [] := va_S.rf
  have hl := lv_entry ([.int p0]) (n := 1) (Nat.le_of_ble_eq_true rfl)
  rw [lg_entry_eq]
  generalize (lg_sl ([.int p0]) ++ List.replicate (1 - (lg_sl ([.int p0])).length) Slot.unset).toArray = ls at hl ⊢
  have hl : lv_has ls 1 [(0, .int p0)] := hl
  obtain ⟨Z, hZ⟩ : ∃ z, z = MQ below (pm_QI (s_X8_isArrayType p0)) ([.int p0] : List Value).toArray s 0 0 pv_N := ⟨_, rfl⟩
  rw [← hZ]
  obtain ⟨Y, hY⟩ : ∃ y, y = s_X8_isArrayType p0 := ⟨_, rfl⟩
  refine lv_iload_n hx hb dX8_isArrayType_0 rfl (lv_at hl 0 rfl) ?_
  refine pm_callI (va_runS (As := [.int p0]) (rest := []) ⟨hx, hb, hml, hown, hts⟩ (pm_X8_isNumberType l p0) (va_cwS 1 hts gX8_isArrayType_X8_isNumberType rfl rfl rfl hd_X8_isNumberType ⟨Nat.le_of_ble_eq_true rfl, Nat.le_of_ble_eq_true rfl⟩) ⟨pm_fbT, fun U hU hW => ⟨rfl, trivial⟩⟩ rfl rfl hl.1 rfl (lv_room (Nat.le_of_ble_eq_true rfl)) dX8_isArrayType_1 ⟨Nat.le_refl 0, Nat.le_refl 0⟩) hS (fun H locs _ _ hS => ?_)
  refine lv_if_ne (tgt := 14) hx hb dX8_isArrayType_4 (by decide) (fun c_4 => ?_) (fun c_4 => ?_)
  ·
    refine lv_iconst (v := 1) hx hb dX8_isArrayType_14 (by decide) ?_
    refine lv_goto (tgt := 19) hx hb dX8_isArrayType_15 (by decide) ?_
    rw [hZ]
    exact pm_zret (w := s_X8_isArrayType p0) hx hb hr hlocks hS (nz_1) (by exact ((if_neg c_4)).symm) dX8_isArrayType_19
  ·
    refine lv_iload_n hx hb dX8_isArrayType_7 rfl (lv_at hl 0 rfl) ?_
    refine pm_callI (va_runS (As := [.int p0]) (rest := []) ⟨hx, hb, hml, hown, hts⟩ (pm_X8_isThingArrayType l p0) (va_cwS 1 hts gX8_isArrayType_X8_isThingArrayType rfl rfl rfl hd_X8_isThingArrayType ⟨Nat.le_of_ble_eq_true rfl, Nat.le_of_ble_eq_true rfl⟩) ⟨pm_fbT, fun U hU hW => ⟨rfl, trivial⟩⟩ rfl rfl hl.1 rfl (lv_room (Nat.le_of_ble_eq_true rfl)) dX8_isArrayType_8 ⟨Nat.le_refl 0, Nat.le_refl 0⟩) hS (fun H locs _ _ hS => ?_)
    refine lv_if_eq (tgt := 18) hx hb dX8_isArrayType_11 (by decide) (fun c_11 => ?_) (fun c_11 => ?_)
    ·
      refine lv_iconst (v := 0) hx hb dX8_isArrayType_18 (by decide) ?_
      rw [hZ]
      exact pm_zret (w := s_X8_isArrayType p0) hx hb hr hlocks hS (nz_0) (by exact (((if_pos c_4).trans (if_pos c_11))).symm) dX8_isArrayType_19
    ·
      refine lv_iconst (v := 1) hx hb dX8_isArrayType_14 (by decide) ?_
      refine lv_goto (tgt := 19) hx hb dX8_isArrayType_15 (by decide) ?_
      rw [hZ]
      exact pm_zret (w := s_X8_isArrayType p0) hx hb hr hlocks hS (nz_1) (by exact (((if_pos c_4).trans (if_neg c_11))).symm) dX8_isArrayType_19
theorem bz_s_X8_isArrayType (p0 : Int32) : s_X8_isArrayType p0 = 0 ∨ s_X8_isArrayType p0 = 1 := by
  unfold s_X8_isArrayType
  repeat' split
  all_goals first | exact Or.inl rfl | exact Or.inr rfl
theorem hd_X8_isOwnType : yX8_isOwnType.cls ≠ "java/lang/invoke/MethodHandle" ∧ yX8_isOwnType.cls ≠ "java/lang/invoke/VarHandle" ∧ (parseMethodDescriptor yX8_isOwnType.desc).map (fun d => d.parameters.length) = some 1 := by decide +kernel
def s_X8_isOwnType (p0 : Int32) : Int32 :=
  if p0 < 10 then 0
  else if 12 < p0 then 0
  else 1
set_option maxHeartbeats 4000000 in
set_option maxRecDepth 100000 in
theorem pm_X8_isOwnType (l : Launch) (p0 : Int32) : PmI l yX8_isOwnType wsX8_isOwnType 0 0 [.int p0] (fun _ => True) (s_X8_isOwnType p0) := by
  refine Met.ofW (cc := cX8_isOwnType) (maxL := 1) (ret := (some .boolean)) (by decide) rfl ?_
  intro p e s m args below meth c s₁ B hml hv
  obtain ⟨rfl, -⟩ := hv
  have hx := B.exec
  have hb := B.bytes
  have hr := B.returns
  have hts := atoms_spec (ws := wsX8_isOwnType) B.pre
  have hown : s.vm.findClass RX8 = some m.cls := findClass_of_methodNamed B.named
  have hlocks := B.notSynchronized
  have hS : va_S pv_N s.heap s.heap [] := va_S.rf
  have hl := lv_entry ([.int p0]) (n := 1) (Nat.le_of_ble_eq_true rfl)
  rw [lg_entry_eq]
  generalize (lg_sl ([.int p0]) ++ List.replicate (1 - (lg_sl ([.int p0])).length) Slot.unset).toArray = ls at hl ⊢
  have hl : lv_has ls 1 [(0, .int p0)] := hl
  obtain ⟨Z, hZ⟩ : ∃ z, z = MQ below (pm_QI (s_X8_isOwnType p0)) ([.int p0] : List Value).toArray s 0 0 pv_N := ⟨_, rfl⟩
  rw [← hZ]
  obtain ⟨Y, hY⟩ : ∃ y, y = s_X8_isOwnType p0 := ⟨_, rfl⟩
  refine lv_iload_n hx hb dX8_isOwnType_0 rfl (lv_at hl 0 rfl) ?_
  refine lv_bipush (v := 10) hx hb dX8_isOwnType_1 (by decide) ?_
  refine lv_icmp_lt (tgt := 16) hx hb dX8_isOwnType_3 (by decide) (fun c_3 => ?_) (fun c_3 => ?_)
  ·
    refine lv_iconst (v := 0) hx hb dX8_isOwnType_16 (by decide) ?_
    rw [hZ]
    exact pm_zret (w := s_X8_isOwnType p0) hx hb hr hlocks hS (nz_0) (by exact ((if_pos c_3)).symm) dX8_isOwnType_17
  ·
    refine lv_iload_n hx hb dX8_isOwnType_6 rfl (lv_at hl 0 rfl) ?_
    refine lv_bipush (v := 12) hx hb dX8_isOwnType_7 (by decide) ?_
    refine lv_icmp_gt (tgt := 16) hx hb dX8_isOwnType_9 (by decide) (fun c_9 => ?_) (fun c_9 => ?_)
    ·
      refine lv_iconst (v := 0) hx hb dX8_isOwnType_16 (by decide) ?_
      rw [hZ]
      exact pm_zret (w := s_X8_isOwnType p0) hx hb hr hlocks hS (nz_0) (by exact (((if_neg c_3).trans (if_pos c_9))).symm) dX8_isOwnType_17
    ·
      refine lv_iconst (v := 1) hx hb dX8_isOwnType_12 (by decide) ?_
      refine lv_goto (tgt := 17) hx hb dX8_isOwnType_13 (by decide) ?_
      rw [hZ]
      exact pm_zret (w := s_X8_isOwnType p0) hx hb hr hlocks hS (nz_1) (by exact (((if_neg c_3).trans (if_neg c_9))).symm) dX8_isOwnType_17
theorem bz_s_X8_isOwnType (p0 : Int32) : s_X8_isOwnType p0 = 0 ∨ s_X8_isOwnType p0 = 1 := by
  unfold s_X8_isOwnType
  repeat' split
  all_goals first | exact Or.inl rfl | exact Or.inr rfl
theorem hd_X8_makeCause : yX8_makeCause.cls ≠ "java/lang/invoke/MethodHandle" ∧ yX8_makeCause.cls ≠ "java/lang/invoke/VarHandle" ∧ (parseMethodDescriptor yX8_makeCause.desc).map (fun d => d.parameters.length) = some 4 := by decide +kernel
def s_X8_makeCause_j61 (p0 : Int32) (p1 : Int32) (p2 : Int32) (p3 : Int32) (z_39_0 : Int32) : Int32 :=
  if p2 < 0 then 3
  else if z_39_0 = 0 then 0
  else if 0 ≤ p3 then 0
  else 3
def s_X8_makeCause_j39 (p0 : Int32) (p1 : Int32) (p2 : Int32) (p3 : Int32) (z_39_0 : Int32) : Int32 :=
  if 64 < p2 then 8
  else if z_39_0 = 0 then s_X8_makeCause_j61 p0 p1 p2 p3 z_39_0
  else if p3 ≤ 64 then s_X8_makeCause_j61 p0 p1 p2 p3 z_39_0
  else 8
def s_X8_makeCause (p0 : Int32) (p1 : Int32) (p2 : Int32) (p3 : Int32) : Int32 :=
  if p0 < 0 then 8
  else if 12 < p0 then 8
  else if (s_X8_isCell p1) = 0 then 8
  else if p0 < 10 then if p0 = 7 then s_X8_makeCause_j39 p0 p1 p2 p3 1
  else s_X8_makeCause_j39 p0 p1 p2 p3 0
  else 0
set_option maxHeartbeats 4000000 in
set_option maxRecDepth 100000 in
theorem pm_X8_makeCause (l : Launch) (p0 : Int32) (p1 : Int32) (p2 : Int32) (p3 : Int32) : PmI l yX8_makeCause wsX8_makeCause 1 20 [.int p0, .int p1, .int p2, .int p3] (fun _ => True) (s_X8_makeCause p0 p1 p2 p3) := by
  refine Met.ofW (cc := cX8_makeCause) (maxL := 5) (ret := (some .int)) (by decide) rfl ?_
  intro p e s m args below meth c s₁ B hml hv
  obtain ⟨rfl, -⟩ := hv
  have hx := B.exec
  have hb := B.bytes
  have hr := B.returns
  have hts := atoms_spec (ws := wsX8_makeCause) B.pre
  have hown : s.vm.findClass RX8 = some m.cls := findClass_of_methodNamed B.named
  have hlocks := B.notSynchronized
  have hS : va_S pv_N s.heap s.heap [] := va_S.rf
  have hl := lv_entry ([.int p0, .int p1, .int p2, .int p3]) (n := 5) (Nat.le_of_ble_eq_true rfl)
  rw [lg_entry_eq]
  generalize (lg_sl ([.int p0, .int p1, .int p2, .int p3]) ++ List.replicate (5 - (lg_sl ([.int p0, .int p1, .int p2, .int p3])).length) Slot.unset).toArray = ls at hl ⊢
  have hl : lv_has ls 5 [(0, .int p0), (1, .int p1), (2, .int p2), (3, .int p3)] := hl
  obtain ⟨Z, hZ⟩ : ∃ z, z = MQ below (pm_QI (s_X8_makeCause p0 p1 p2 p3)) ([.int p0, .int p1, .int p2, .int p3] : List Value).toArray s 0 0 pv_N := ⟨_, rfl⟩
  rw [← hZ]
  obtain ⟨Y, hY⟩ : ∃ y, y = s_X8_makeCause p0 p1 p2 p3 := ⟨_, rfl⟩
  refine lv_iload_n hx hb dX8_makeCause_0 rfl (lv_at hl 0 rfl) ?_
  refine lv_if_lt (tgt := 17) hx hb dX8_makeCause_1 (by decide) (fun c_1 => ?_) (fun c_1 => ?_)
  ·
    refine lv_bipush (v := 8) hx hb dX8_makeCause_17 (by decide) ?_
    rw [hZ]
    exact pm_iret (w := s_X8_makeCause p0 p1 p2 p3) hx hb hr hlocks hS (by exact ((if_pos c_1)).symm) dX8_makeCause_19
  ·
    refine lv_iload_n hx hb dX8_makeCause_4 rfl (lv_at hl 0 rfl) ?_
    refine lv_bipush (v := 12) hx hb dX8_makeCause_5 (by decide) ?_
    refine lv_icmp_gt (tgt := 17) hx hb dX8_makeCause_7 (by decide) (fun c_7 => ?_) (fun c_7 => ?_)
    ·
      refine lv_bipush (v := 8) hx hb dX8_makeCause_17 (by decide) ?_
      rw [hZ]
      exact pm_iret (w := s_X8_makeCause p0 p1 p2 p3) hx hb hr hlocks hS (by exact (((if_neg c_1).trans (if_pos c_7))).symm) dX8_makeCause_19
    ·
      refine lv_iload_n hx hb dX8_makeCause_10 rfl (lv_at hl 1 rfl) ?_
      refine pm_callI (va_runS (As := [.int p1]) (rest := []) ⟨hx, hb, hml, hown, hts⟩ (pm_X8_isCell l p1) (va_cwS 1 hts gX8_makeCause_X8_isCell rfl rfl rfl hd_X8_isCell ⟨Nat.le_of_ble_eq_true rfl, Nat.le_of_ble_eq_true rfl⟩) ⟨pm_fbT, fun U hU hW => ⟨rfl, trivial⟩⟩ rfl rfl hl.1 rfl (lv_room (Nat.le_of_ble_eq_true rfl)) dX8_makeCause_11 ⟨Nat.le_refl 0, Nat.le_refl 0⟩) hS (fun H locs _ _ hS => ?_)
      refine lv_if_ne (tgt := 20) hx hb dX8_makeCause_14 (by decide) (fun c_14 => ?_) (fun c_14 => ?_)
      ·
        refine lv_iload_n hx hb dX8_makeCause_20 rfl (lv_at hl 0 rfl) ?_
        refine lv_bipush (v := 10) hx hb dX8_makeCause_21 (by decide) ?_
        refine lv_icmp_lt (tgt := 28) hx hb dX8_makeCause_23 (by decide) (fun c_23 => ?_) (fun c_23 => ?_)
        ·
          refine lv_iload_n hx hb dX8_makeCause_28 rfl (lv_at hl 0 rfl) ?_
          refine lv_bipush (v := 7) hx hb dX8_makeCause_29 (by decide) ?_
          have K_39 : ∀ (z_39_0 : Int32) (H : Heap) (locs : List Loc), va_S pv_N s.heap H locs → ∀ (ls : Array Slot), lv_has ls 5 [(2, .int p2), (3, .int p3)] → s_X8_makeCause p0 p1 p2 p3 = s_X8_makeCause_j39 p0 p1 p2 p3 z_39_0 → W p l e (pm_R 1 20) s m ([.int p0, .int p1, .int p2, .int p3] : List Value).toArray below meth c H locs 0 0 Z (F0 m 39 ls [.int z_39_0]) := by
            intro z_39_0 H locs hS ls hl hK_39
            refine lv_istore (lv' := [(4, .int z_39_0), (2, .int p2), (3, .int p3)]) hx hb dX8_makeCause_39 hl (by decide) rfl (fun ls hl => ?_)
            refine lv_iload_n hx hb dX8_makeCause_41 rfl (lv_at hl 1 rfl) ?_
            refine lv_bipush (v := 64) hx hb dX8_makeCause_42 (by decide) ?_
            refine lv_icmp_gt (tgt := 58) hx hb dX8_makeCause_44 (by decide) (fun c_44 => ?_) (fun c_44 => ?_)
            ·
              refine lv_bipush (v := 8) hx hb dX8_makeCause_58 (by decide) ?_
              rw [hZ]
              exact pm_iret (w := s_X8_makeCause p0 p1 p2 p3) hx hb hr hlocks hS (by exact (hK_39.trans (if_pos c_44)).symm) dX8_makeCause_60
            ·
              refine lv_iload hx hb dX8_makeCause_47 (lv_at hl 0 rfl) ?_
              have K_61 : ∀ (H : Heap) (locs : List Loc), va_S pv_N s.heap H locs → ∀ (ls : Array Slot), lv_has ls 5 [(2, .int p2), (3, .int p3), (4, .int z_39_0)] → s_X8_makeCause p0 p1 p2 p3 = s_X8_makeCause_j61 p0 p1 p2 p3 z_39_0 → W p l e (pm_R 1 20) s m ([.int p0, .int p1, .int p2, .int p3] : List Value).toArray below meth c H locs 0 0 Z (F0 m 61 ls []) := by
                intro H locs hS ls hl hK_61
                refine lv_iload_n hx hb dX8_makeCause_61 rfl (lv_at hl 0 rfl) ?_
                refine lv_if_lt (tgt := 74) hx hb dX8_makeCause_62 (by decide) (fun c_62 => ?_) (fun c_62 => ?_)
                ·
                  refine lv_iconst (v := 3) hx hb dX8_makeCause_74 (by decide) ?_
                  refine lv_goto (tgt := 79) hx hb dX8_makeCause_75 (by decide) ?_
                  rw [hZ]
                  exact pm_iret (w := s_X8_makeCause p0 p1 p2 p3) hx hb hr hlocks hS (by exact (hK_61.trans (if_pos c_62)).symm) dX8_makeCause_79
                ·
                  refine lv_iload hx hb dX8_makeCause_65 (lv_at hl 2 rfl) ?_
                  refine lv_if_eq (tgt := 78) hx hb dX8_makeCause_67 (by decide) (fun c_67 => ?_) (fun c_67 => ?_)
                  ·
                    refine lv_iconst (v := 0) hx hb dX8_makeCause_78 (by decide) ?_
                    rw [hZ]
                    exact pm_iret (w := s_X8_makeCause p0 p1 p2 p3) hx hb hr hlocks hS (by exact (hK_61.trans ((if_neg c_62).trans (if_pos c_67))).symm) dX8_makeCause_79
                  ·
                    refine lv_iload_n hx hb dX8_makeCause_70 rfl (lv_at hl 1 rfl) ?_
                    refine lv_if_ge (tgt := 78) hx hb dX8_makeCause_71 (by decide) (fun c_71 => ?_) (fun c_71 => ?_)
                    ·
                      refine lv_iconst (v := 0) hx hb dX8_makeCause_78 (by decide) ?_
                      rw [hZ]
                      exact pm_iret (w := s_X8_makeCause p0 p1 p2 p3) hx hb hr hlocks hS (by exact (hK_61.trans (((if_neg c_62).trans (if_neg c_67)).trans (if_pos c_71))).symm) dX8_makeCause_79
                    ·
                      refine lv_iconst (v := 3) hx hb dX8_makeCause_74 (by decide) ?_
                      refine lv_goto (tgt := 79) hx hb dX8_makeCause_75 (by decide) ?_
                      rw [hZ]
                      exact pm_iret (w := s_X8_makeCause p0 p1 p2 p3) hx hb hr hlocks hS (by exact (hK_61.trans (((if_neg c_62).trans (if_neg c_67)).trans (if_neg c_71))).symm) dX8_makeCause_79
              refine lv_if_eq (tgt := 61) hx hb dX8_makeCause_49 (by decide) (fun c_49 => ?_) (fun c_49 => ?_)
              ·
                exact K_61 _ _ hS ls (lv_sub hl [1, 2, 0] rfl) (hK_39.trans ((if_neg c_44).trans (if_pos c_49)))
              ·
                refine lv_iload_n hx hb dX8_makeCause_52 rfl (lv_at hl 2 rfl) ?_
                refine lv_bipush (v := 64) hx hb dX8_makeCause_53 (by decide) ?_
                refine lv_icmp_le (tgt := 61) hx hb dX8_makeCause_55 (by decide) (fun c_55 => ?_) (fun c_55 => ?_)
                ·
                  exact K_61 _ _ hS ls (lv_sub hl [1, 2, 0] rfl) (hK_39.trans (((if_neg c_44).trans (if_neg c_49)).trans (if_pos c_55)))
                ·
                  refine lv_bipush (v := 8) hx hb dX8_makeCause_58 (by decide) ?_
                  rw [hZ]
                  exact pm_iret (w := s_X8_makeCause p0 p1 p2 p3) hx hb hr hlocks hS (by exact (hK_39.trans (((if_neg c_44).trans (if_neg c_49)).trans (if_neg c_55))).symm) dX8_makeCause_60
          refine lv_icmp_ne (tgt := 38) hx hb dX8_makeCause_31 (by decide) (fun c_31 => ?_) (fun c_31 => ?_)
          ·
            refine lv_iconst (v := 0) hx hb dX8_makeCause_38 (by decide) ?_
            exact K_39 0 _ _ hS ls (lv_sub hl [2, 3] rfl) ((((((if_neg c_1).trans (if_neg c_7)).trans (if_neg c_14)).trans (if_pos c_23)).trans (if_neg c_31)))
          ·
            refine lv_iconst (v := 1) hx hb dX8_makeCause_34 (by decide) ?_
            refine lv_goto (tgt := 39) hx hb dX8_makeCause_35 (by decide) ?_
            exact K_39 1 _ _ hS ls (lv_sub hl [2, 3] rfl) ((((((if_neg c_1).trans (if_neg c_7)).trans (if_neg c_14)).trans (if_pos c_23)).trans (if_pos c_31)))
        ·
          refine lv_iconst (v := 0) hx hb dX8_makeCause_26 (by decide) ?_
          rw [hZ]
          exact pm_iret (w := s_X8_makeCause p0 p1 p2 p3) hx hb hr hlocks hS (by exact (((((if_neg c_1).trans (if_neg c_7)).trans (if_neg c_14)).trans (if_neg c_23))).symm) dX8_makeCause_27
      ·
        refine lv_bipush (v := 8) hx hb dX8_makeCause_17 (by decide) ?_
        rw [hZ]
        exact pm_iret (w := s_X8_makeCause p0 p1 p2 p3) hx hb hr hlocks hS (by exact ((((if_neg c_1).trans (if_neg c_7)).trans (if_pos c_14))).symm) dX8_makeCause_19
theorem hd_X8_divideCause : yX8_divideCause.cls ≠ "java/lang/invoke/MethodHandle" ∧ yX8_divideCause.cls ≠ "java/lang/invoke/VarHandle" ∧ (parseMethodDescriptor yX8_divideCause.desc).map (fun d => d.parameters.length) = some 2 := by decide +kernel
def s_X8_divideCause_j41 (p0 : Int32) (p1 : Int64) (z_41_0 : Int32) : Int32 :=
  if z_41_0 = 0 then 0
  else 6
def s_X8_divideCause (p0 : Int32) (p1 : Int64) : Int32 :=
  if p0 < 0 then 8
  else if p0 ≤ 3 then if 2 ≤ p0 then if p1 = 0 then s_X8_divideCause_j41 p0 p1 1
  else s_X8_divideCause_j41 p0 p1 0
  else if p1.toInt32 = 0 then s_X8_divideCause_j41 p0 p1 1
  else s_X8_divideCause_j41 p0 p1 0
  else 8
set_option maxHeartbeats 4000000 in
set_option maxRecDepth 100000 in
theorem pm_X8_divideCause (l : Launch) (p0 : Int32) (p1 : Int64) : PmI l yX8_divideCause wsX8_divideCause 0 0 [.int p0, .long p1] (fun _ => True) (s_X8_divideCause p0 p1) := by
  refine Met.ofW (cc := cX8_divideCause) (maxL := 4) (ret := (some .int)) (by decide) rfl ?_
  intro p e s m args below meth c s₁ B hml hv
  obtain ⟨rfl, -⟩ := hv
  have hx := B.exec
  have hb := B.bytes
  have hr := B.returns
  have hts := atoms_spec (ws := wsX8_divideCause) B.pre
  have hown : s.vm.findClass RX8 = some m.cls := findClass_of_methodNamed B.named
  have hlocks := B.notSynchronized
  have hS : va_S pv_N s.heap s.heap [] := va_S.rf
  have hl := lv_entry ([.int p0, .long p1]) (n := 4) (Nat.le_of_ble_eq_true rfl)
  rw [lg_entry_eq]
  generalize (lg_sl ([.int p0, .long p1]) ++ List.replicate (4 - (lg_sl ([.int p0, .long p1])).length) Slot.unset).toArray = ls at hl ⊢
  have hl : lv_has ls 4 [(0, .int p0), (1, .long p1)] := hl
  obtain ⟨Z, hZ⟩ : ∃ z, z = MQ below (pm_QI (s_X8_divideCause p0 p1)) ([.int p0, .long p1] : List Value).toArray s 0 0 pv_N := ⟨_, rfl⟩
  rw [← hZ]
  obtain ⟨Y, hY⟩ : ∃ y, y = s_X8_divideCause p0 p1 := ⟨_, rfl⟩
  refine lv_iload_n hx hb dX8_divideCause_0 rfl (lv_at hl 0 rfl) ?_
  refine lv_if_lt (tgt := 9) hx hb dX8_divideCause_1 (by decide) (fun c_1 => ?_) (fun c_1 => ?_)
  ·
    refine lv_bipush (v := 8) hx hb dX8_divideCause_9 (by decide) ?_
    rw [hZ]
    exact pm_iret (w := s_X8_divideCause p0 p1) hx hb hr hlocks hS (by exact ((if_pos c_1)).symm) dX8_divideCause_11
  ·
    refine lv_iload_n hx hb dX8_divideCause_4 rfl (lv_at hl 0 rfl) ?_
    refine lv_iconst (v := 3) hx hb dX8_divideCause_5 (by decide) ?_
    refine lv_icmp_le (tgt := 12) hx hb dX8_divideCause_6 (by decide) (fun c_6 => ?_) (fun c_6 => ?_)
    ·
      refine lv_iload_n hx hb dX8_divideCause_12 rfl (lv_at hl 0 rfl) ?_
      refine lv_iconst (v := 2) hx hb dX8_divideCause_13 (by decide) ?_
      have K_41 : ∀ (z_41_0 : Int32) (H : Heap) (locs : List Loc), va_S pv_N s.heap H locs → ∀ (ls : Array Slot), lv_has ls 4 [] → s_X8_divideCause p0 p1 = s_X8_divideCause_j41 p0 p1 z_41_0 → W p l e (pm_R 0 0) s m ([.int p0, .long p1] : List Value).toArray below meth c H locs 0 0 Z (F0 m 41 ls [.int z_41_0]) := by
        intro z_41_0 H locs hS ls hl hK_41
        refine lv_istore_n (lv' := [(3, .int z_41_0)]) hx hb dX8_divideCause_41 rfl hl (by decide) rfl (fun ls hl => ?_)
        refine lv_iload_n hx hb dX8_divideCause_42 rfl (lv_at hl 0 rfl) ?_
        refine lv_if_eq (tgt := 51) hx hb dX8_divideCause_43 (by decide) (fun c_43 => ?_) (fun c_43 => ?_)
        ·
          refine lv_iconst (v := 0) hx hb dX8_divideCause_51 (by decide) ?_
          rw [hZ]
          exact pm_iret (w := s_X8_divideCause p0 p1) hx hb hr hlocks hS (by exact (hK_41.trans (if_pos c_43)).symm) dX8_divideCause_52
        ·
          refine lv_bipush (v := 6) hx hb dX8_divideCause_46 (by decide) ?_
          refine lv_goto (tgt := 52) hx hb dX8_divideCause_48 (by decide) ?_
          rw [hZ]
          exact pm_iret (w := s_X8_divideCause p0 p1) hx hb hr hlocks hS (by exact (hK_41.trans (if_neg c_43)).symm) dX8_divideCause_52
      refine lv_icmp_ge (tgt := 30) hx hb dX8_divideCause_14 (by decide) (fun c_14 => ?_) (fun c_14 => ?_)
      ·
        refine lv_lload_n hx hb dX8_divideCause_30 rfl (lv_at hl 1 rfl) ?_
        refine lv_lconst (v := 0) hx hb dX8_divideCause_31 (by decide) ?_
        refine lp_ne (tgt := 40) hx hb dX8_divideCause_32 dX8_divideCause_33 (by decide) (fun c_32 => ?_) (fun c_32 => ?_)
        ·
          refine lv_iconst (v := 0) hx hb dX8_divideCause_40 (by decide) ?_
          exact K_41 0 _ _ hS ls (lv_sub hl [] rfl) (((((if_neg c_1).trans (if_pos c_6)).trans (if_pos c_14)).trans (if_neg c_32)))
        ·
          refine lv_iconst (v := 1) hx hb dX8_divideCause_36 (by decide) ?_
          refine lv_goto (tgt := 41) hx hb dX8_divideCause_37 (by decide) ?_
          exact K_41 1 _ _ hS ls (lv_sub hl [] rfl) (((((if_neg c_1).trans (if_pos c_6)).trans (if_pos c_14)).trans (if_pos c_32)))
      ·
        refine lv_lload_n hx hb dX8_divideCause_17 rfl (lv_at hl 1 rfl) ?_
        refine lv_l2i (v := p1.toInt32) hx hb dX8_divideCause_18 rfl ?_
        refine lv_if_ne (tgt := 26) hx hb dX8_divideCause_19 (by decide) (fun c_19 => ?_) (fun c_19 => ?_)
        ·
          refine lv_iconst (v := 0) hx hb dX8_divideCause_26 (by decide) ?_
          refine lv_goto (tgt := 41) hx hb dX8_divideCause_27 (by decide) ?_
          exact K_41 0 _ _ hS ls (lv_sub hl [] rfl) (((((if_neg c_1).trans (if_pos c_6)).trans (if_neg c_14)).trans (if_neg c_19)))
        ·
          refine lv_iconst (v := 1) hx hb dX8_divideCause_22 (by decide) ?_
          refine lv_goto (tgt := 41) hx hb dX8_divideCause_23 (by decide) ?_
          exact K_41 1 _ _ hS ls (lv_sub hl [] rfl) (((((if_neg c_1).trans (if_pos c_6)).trans (if_neg c_14)).trans (if_pos c_19)))
    ·
      refine lv_bipush (v := 8) hx hb dX8_divideCause_9 (by decide) ?_
      rw [hZ]
      exact pm_iret (w := s_X8_divideCause p0 p1) hx hb hr hlocks hS (by exact (((if_neg c_1).trans (if_neg c_6))).symm) dX8_divideCause_11
theorem hd_X8_traceOf : yX8_traceOf.cls ≠ "java/lang/invoke/MethodHandle" ∧ yX8_traceOf.cls ≠ "java/lang/invoke/VarHandle" ∧ (parseMethodDescriptor yX8_traceOf.desc).map (fun d => d.parameters.length) = some 1 := by decide +kernel
def s_X8_traceOf (p0 : Int32) : Int32 :=
  if p0 = 0 then 75
  else if p0 = 1 then 41
  else if p0 = 2 then 25
  else if p0 = 3 then 41
  else if p0 = 4 then 77
  else 41
set_option maxHeartbeats 4000000 in
set_option maxRecDepth 100000 in
theorem pm_X8_traceOf (l : Launch) (p0 : Int32) : PmI l yX8_traceOf wsX8_traceOf 0 0 [.int p0] (fun _ => True) (s_X8_traceOf p0) := by
  refine Met.ofW (cc := cX8_traceOf) (maxL := 1) (ret := (some .int)) (by decide) rfl ?_
  intro p e s m args below meth c s₁ B hml hv
  obtain ⟨rfl, -⟩ := hv
  have hx := B.exec
  have hb := B.bytes
  have hr := B.returns
  have hts := atoms_spec (ws := wsX8_traceOf) B.pre
  have hown : s.vm.findClass RX8 = some m.cls := findClass_of_methodNamed B.named
  have hlocks := B.notSynchronized
  have hS : va_S pv_N s.heap s.heap [] := va_S.rf
  have hl := lv_entry ([.int p0]) (n := 1) (Nat.le_of_ble_eq_true rfl)
  rw [lg_entry_eq]
  generalize (lg_sl ([.int p0]) ++ List.replicate (1 - (lg_sl ([.int p0])).length) Slot.unset).toArray = ls at hl ⊢
  have hl : lv_has ls 1 [(0, .int p0)] := hl
  obtain ⟨Z, hZ⟩ : ∃ z, z = MQ below (pm_QI (s_X8_traceOf p0)) ([.int p0] : List Value).toArray s 0 0 pv_N := ⟨_, rfl⟩
  rw [← hZ]
  obtain ⟨Y, hY⟩ : ∃ y, y = s_X8_traceOf p0 := ⟨_, rfl⟩
  refine lv_iload_n hx hb dX8_traceOf_0 rfl (lv_at hl 0 rfl) ?_
  by_cases c_1_0 : p0 = 0
  · refine lv_tableIn (off := 35) (tgt := 36) hx hb dX8_traceOf_1 (by rw [c_1_0]; decide) (by rw [c_1_0]; decide) (by rw [c_1_0]; decide) (by decide) ?_
    refine lv_bipush (v := 75) hx hb dX8_traceOf_36 (by decide) ?_
    rw [hZ]
    exact pm_iret (w := s_X8_traceOf p0) hx hb hr hlocks hS (by exact ((if_pos c_1_0)).symm) dX8_traceOf_38
  ·
    by_cases c_1_1 : p0 = 1
    · refine lv_tableIn (off := 44) (tgt := 45) hx hb dX8_traceOf_1 (by rw [c_1_1]; decide) (by rw [c_1_1]; decide) (by rw [c_1_1]; decide) (by decide) ?_
      refine lv_bipush (v := 41) hx hb dX8_traceOf_45 (by decide) ?_
      rw [hZ]
      exact pm_iret (w := s_X8_traceOf p0) hx hb hr hlocks hS (by exact (((if_neg c_1_0).trans (if_pos c_1_1))).symm) dX8_traceOf_47
    ·
      by_cases c_1_2 : p0 = 2
      · refine lv_tableIn (off := 41) (tgt := 42) hx hb dX8_traceOf_1 (by rw [c_1_2]; decide) (by rw [c_1_2]; decide) (by rw [c_1_2]; decide) (by decide) ?_
        refine lv_bipush (v := 25) hx hb dX8_traceOf_42 (by decide) ?_
        rw [hZ]
        exact pm_iret (w := s_X8_traceOf p0) hx hb hr hlocks hS (by exact ((((if_neg c_1_0).trans (if_neg c_1_1)).trans (if_pos c_1_2))).symm) dX8_traceOf_44
      ·
        by_cases c_1_3 : p0 = 3
        · refine lv_tableIn (off := 44) (tgt := 45) hx hb dX8_traceOf_1 (by rw [c_1_3]; decide) (by rw [c_1_3]; decide) (by rw [c_1_3]; decide) (by decide) ?_
          refine lv_bipush (v := 41) hx hb dX8_traceOf_45 (by decide) ?_
          rw [hZ]
          exact pm_iret (w := s_X8_traceOf p0) hx hb hr hlocks hS (by exact (((((if_neg c_1_0).trans (if_neg c_1_1)).trans (if_neg c_1_2)).trans (if_pos c_1_3))).symm) dX8_traceOf_47
        ·
          by_cases c_1_4 : p0 = 4
          · refine lv_tableIn (off := 38) (tgt := 39) hx hb dX8_traceOf_1 (by rw [c_1_4]; decide) (by rw [c_1_4]; decide) (by rw [c_1_4]; decide) (by decide) ?_
            refine lv_bipush (v := 77) hx hb dX8_traceOf_39 (by decide) ?_
            rw [hZ]
            exact pm_iret (w := s_X8_traceOf p0) hx hb hr hlocks hS (by exact ((((((if_neg c_1_0).trans (if_neg c_1_1)).trans (if_neg c_1_2)).trans (if_neg c_1_3)).trans (if_pos c_1_4))).symm) dX8_traceOf_41
          ·
            have nc_1_0 : (p0).toInt ≠ 0 := fun h => c_1_0 (Int32.toInt.inj (h.trans (by decide)))
            have nc_1_1 : (p0).toInt ≠ 1 := fun h => c_1_1 (Int32.toInt.inj (h.trans (by decide)))
            have nc_1_2 : (p0).toInt ≠ 2 := fun h => c_1_2 (Int32.toInt.inj (h.trans (by decide)))
            have nc_1_3 : (p0).toInt ≠ 3 := fun h => c_1_3 (Int32.toInt.inj (h.trans (by decide)))
            have nc_1_4 : (p0).toInt ≠ 4 := fun h => c_1_4 (Int32.toInt.inj (h.trans (by decide)))
            refine lv_tableOut (tgt := 45) hx hb dX8_traceOf_1 (by omega) (by decide) ?_
            refine lv_bipush (v := 41) hx hb dX8_traceOf_45 (by decide) ?_
            rw [hZ]
            exact pm_iret (w := s_X8_traceOf p0) hx hb hr hlocks hS (by exact ((((((if_neg c_1_0).trans (if_neg c_1_1)).trans (if_neg c_1_2)).trans (if_neg c_1_3)).trans (if_neg c_1_4))).symm) dX8_traceOf_47
theorem hd_X8_elementTypeOfKind : yX8_elementTypeOfKind.cls ≠ "java/lang/invoke/MethodHandle" ∧ yX8_elementTypeOfKind.cls ≠ "java/lang/invoke/VarHandle" ∧ (parseMethodDescriptor yX8_elementTypeOfKind.desc).map (fun d => d.parameters.length) = some 1 := by decide +kernel
def s_X8_elementTypeOfKind (p0 : Int32) : Int32 :=
  if p0 = 7 then 0
  else if p0 = 8 then 10
  else 11
set_option maxHeartbeats 4000000 in
set_option maxRecDepth 100000 in
theorem pm_X8_elementTypeOfKind (l : Launch) (p0 : Int32) : PmI l yX8_elementTypeOfKind wsX8_elementTypeOfKind 0 0 [.int p0] (fun _ => True) (s_X8_elementTypeOfKind p0) := by
  refine Met.ofW (cc := cX8_elementTypeOfKind) (maxL := 1) (ret := (some .int)) (by decide) rfl ?_
  intro p e s m args below meth c s₁ B hml hv
  obtain ⟨rfl, -⟩ := hv
  have hx := B.exec
  have hb := B.bytes
  have hr := B.returns
  have hts := atoms_spec (ws := wsX8_elementTypeOfKind) B.pre
  have hown : s.vm.findClass RX8 = some m.cls := findClass_of_methodNamed B.named
  have hlocks := B.notSynchronized
  have hS : va_S pv_N s.heap s.heap [] := va_S.rf
  have hl := lv_entry ([.int p0]) (n := 1) (Nat.le_of_ble_eq_true rfl)
  rw [lg_entry_eq]
  generalize (lg_sl ([.int p0]) ++ List.replicate (1 - (lg_sl ([.int p0])).length) Slot.unset).toArray = ls at hl ⊢
  have hl : lv_has ls 1 [(0, .int p0)] := hl
  obtain ⟨Z, hZ⟩ : ∃ z, z = MQ below (pm_QI (s_X8_elementTypeOfKind p0)) ([.int p0] : List Value).toArray s 0 0 pv_N := ⟨_, rfl⟩
  rw [← hZ]
  obtain ⟨Y, hY⟩ : ∃ y, y = s_X8_elementTypeOfKind p0 := ⟨_, rfl⟩
  refine lv_iload_n hx hb dX8_elementTypeOfKind_0 rfl (lv_at hl 0 rfl) ?_
  by_cases c_1_7 : p0 = 7
  · refine lv_lookup (off := 27) (tgt := 28) hx hb dX8_elementTypeOfKind_1 (by decide) (by rw [c_1_7]; decide) (by decide) ?_
    refine lv_iconst (v := 0) hx hb dX8_elementTypeOfKind_28 (by decide) ?_
    rw [hZ]
    exact pm_iret (w := s_X8_elementTypeOfKind p0) hx hb hr hlocks hS (by exact ((if_pos c_1_7)).symm) dX8_elementTypeOfKind_29
  ·
    by_cases c_1_8 : p0 = 8
    · refine lv_lookup (off := 29) (tgt := 30) hx hb dX8_elementTypeOfKind_1 (by decide) (by rw [c_1_8]; decide) (by decide) ?_
      refine lv_bipush (v := 10) hx hb dX8_elementTypeOfKind_30 (by decide) ?_
      rw [hZ]
      exact pm_iret (w := s_X8_elementTypeOfKind p0) hx hb hr hlocks hS (by exact (((if_neg c_1_7).trans (if_pos c_1_8))).symm) dX8_elementTypeOfKind_32
    ·
      have nc_1_7 : (p0).toInt ≠ 7 := fun h => c_1_7 (Int32.toInt.inj (h.trans (by decide)))
      have nc_1_8 : (p0).toInt ≠ 8 := fun h => c_1_8 (Int32.toInt.inj (h.trans (by decide)))
      refine lv_lookup (off := 32) (tgt := 33) hx hb dX8_elementTypeOfKind_1 (by decide) (by simp [Op.lookupswitch.offset, nc_1_7, Ne.symm nc_1_7, nc_1_8, Ne.symm nc_1_8]) (by decide) ?_
      refine lv_bipush (v := 11) hx hb dX8_elementTypeOfKind_33 (by decide) ?_
      rw [hZ]
      exact pm_iret (w := s_X8_elementTypeOfKind p0) hx hb hr hlocks hS (by exact (((if_neg c_1_7).trans (if_neg c_1_8))).symm) dX8_elementTypeOfKind_35
theorem hd_X8_elementTypeOfType : yX8_elementTypeOfType.cls ≠ "java/lang/invoke/MethodHandle" ∧ yX8_elementTypeOfType.cls ≠ "java/lang/invoke/VarHandle" ∧ (parseMethodDescriptor yX8_elementTypeOfType.desc).map (fun d => d.parameters.length) = some 1 := by decide +kernel
def s_X8_elementTypeOfType (p0 : Int32) : Int32 :=
  if p0 = 15 then 13
  else s_X8_elementTypeOfKind p0
set_option maxHeartbeats 4000000 in
set_option maxRecDepth 100000 in
theorem pm_X8_elementTypeOfType (l : Launch) (p0 : Int32) : PmI l yX8_elementTypeOfType wsX8_elementTypeOfType 1 20 [.int p0] (fun _ => True) (s_X8_elementTypeOfType p0) := by
  refine Met.ofW (cc := cX8_elementTypeOfType) (maxL := 1) (ret := (some .int)) (by decide) rfl ?_
  intro p e s m args below meth c s₁ B hml hv
  obtain ⟨rfl, -⟩ := hv
  have hx := B.exec
  have hb := B.bytes
  have hr := B.returns
  have hts := atoms_spec (ws := wsX8_elementTypeOfType) B.pre
  have hown : s.vm.findClass RX8 = some m.cls := findClass_of_methodNamed B.named
  have hlocks := B.notSynchronized
  have hS : va_S pv_N s.heap s.heap [] := va_S.rf
  have hl := lv_entry ([.int p0]) (n := 1) (Nat.le_of_ble_eq_true rfl)
  rw [lg_entry_eq]
  generalize (lg_sl ([.int p0]) ++ List.replicate (1 - (lg_sl ([.int p0])).length) Slot.unset).toArray = ls at hl ⊢
  have hl : lv_has ls 1 [(0, .int p0)] := hl
  obtain ⟨Z, hZ⟩ : ∃ z, z = MQ below (pm_QI (s_X8_elementTypeOfType p0)) ([.int p0] : List Value).toArray s 0 0 pv_N := ⟨_, rfl⟩
  rw [← hZ]
  obtain ⟨Y, hY⟩ : ∃ y, y = s_X8_elementTypeOfType p0 := ⟨_, rfl⟩
  refine lv_iload_n hx hb dX8_elementTypeOfType_0 rfl (lv_at hl 0 rfl) ?_
  refine lv_bipush (v := 15) hx hb dX8_elementTypeOfType_1 (by decide) ?_
  refine lv_icmp_ne (tgt := 11) hx hb dX8_elementTypeOfType_3 (by decide) (fun c_3 => ?_) (fun c_3 => ?_)
  ·
    refine lv_iload_n hx hb dX8_elementTypeOfType_11 rfl (lv_at hl 0 rfl) ?_
    refine pm_callI (va_runS (As := [.int p0]) (rest := []) ⟨hx, hb, hml, hown, hts⟩ (pm_X8_elementTypeOfKind l p0) (va_cwS 1 hts gX8_elementTypeOfType_X8_elementTypeOfKind rfl rfl rfl hd_X8_elementTypeOfKind ⟨Nat.le_of_ble_eq_true rfl, Nat.le_of_ble_eq_true rfl⟩) ⟨pm_fbT, fun U hU hW => ⟨rfl, trivial⟩⟩ rfl rfl hl.1 rfl (lv_room (Nat.le_of_ble_eq_true rfl)) dX8_elementTypeOfType_12 ⟨Nat.le_refl 0, Nat.le_refl 0⟩) hS (fun H locs _ _ hS => ?_)
    rw [hZ]
    exact pm_iret (w := s_X8_elementTypeOfType p0) hx hb hr hlocks hS (by exact ((if_neg c_3)).symm) dX8_elementTypeOfType_15
  ·
    refine lv_bipush (v := 13) hx hb dX8_elementTypeOfType_6 (by decide) ?_
    refine lv_goto (tgt := 15) hx hb dX8_elementTypeOfType_8 (by decide) ?_
    rw [hZ]
    exact pm_iret (w := s_X8_elementTypeOfType p0) hx hb hr hlocks hS (by exact ((if_pos c_3)).symm) dX8_elementTypeOfType_15
theorem hd_X8_cutToWidth : yX8_cutToWidth.cls ≠ "java/lang/invoke/MethodHandle" ∧ yX8_cutToWidth.cls ≠ "java/lang/invoke/VarHandle" ∧ (parseMethodDescriptor yX8_cutToWidth.desc).map (fun d => d.parameters.length) = some 2 := by decide +kernel
def s_X8_cutToWidth (p0 : Int32) (p1 : Int64) : Int64 :=
  if p0 = 1 then p1
  else if p0 = 2 then p1.toInt32.toInt8.toInt32.toInt64
  else if p0 = 3 then ((p1.toInt32.toUInt32 % 65536).toInt32).toInt64
  else if p0 = 4 then p1.toInt32.toInt16.toInt32.toInt64
  else if p0 = 5 then if (s_X0_isNaN 23 (-149) 2139095040 2147483648 p1) = 0 then p1.toInt32.toInt64
  else s_X0_plainNaN 23 (-149) 2139095040 2147483648
  else if p0 = 6 then if (s_X0_isNaN 52 (-1074) 9218868437227405312 (-9223372036854775808) p1) = 0 then p1
  else s_X0_plainNaN 52 (-1074) 9218868437227405312 (-9223372036854775808)
  else p1.toInt32.toInt64
set_option maxHeartbeats 4000000 in
set_option maxRecDepth 100000 in
theorem pm_X8_cutToWidth (l : Launch) (dD dF : Nat) (p0 : Int32) (p1 : Int64) : PmL l yX8_cutToWidth wsX8_cutToWidth 2 44 [.int p0, .long p1] (fun U => KF dD dF pv_N U U.heap) (s_X8_cutToWidth p0 p1) := by
  refine Met.ofW (cc := cX8_cutToWidth) (maxL := 3) (ret := (some .long)) (by decide) rfl ?_
  intro p e s m args below meth c s₁ B hml hv
  obtain ⟨rfl, hF⟩ := hv
  have hx := B.exec
  have hb := B.bytes
  have hr := B.returns
  have hts := atoms_spec (ws := wsX8_cutToWidth) B.pre
  have hown : s.vm.findClass RX8 = some m.cls := findClass_of_methodNamed B.named
  have hlocks := B.notSynchronized
  have hS : va_S pv_N s.heap s.heap [] := va_S.rf
  have hl := lv_entry ([.int p0, .long p1]) (n := 3) (Nat.le_of_ble_eq_true rfl)
  rw [lg_entry_eq]
  generalize (lg_sl ([.int p0, .long p1]) ++ List.replicate (3 - (lg_sl ([.int p0, .long p1])).length) Slot.unset).toArray = ls at hl ⊢
  have hl : lv_has ls 3 [(0, .int p0), (1, .long p1)] := hl
  obtain ⟨Z, hZ⟩ : ∃ z, z = MQ below (pm_QL (s_X8_cutToWidth p0 p1)) ([.int p0, .long p1] : List Value).toArray s 0 0 pv_N := ⟨_, rfl⟩
  rw [← hZ]
  obtain ⟨Y, hY⟩ : ∃ y, y = s_X8_cutToWidth p0 p1 := ⟨_, rfl⟩
  refine lv_iload_n hx hb dX8_cutToWidth_0 rfl (lv_at hl 0 rfl) ?_
  by_cases c_1_1 : p0 = 1
  · refine lv_tableIn (off := 39) (tgt := 40) hx hb dX8_cutToWidth_1 (by rw [c_1_1]; decide) (by rw [c_1_1]; decide) (by rw [c_1_1]; decide) (by decide) ?_
    refine lv_lload_n hx hb dX8_cutToWidth_40 rfl (lv_at hl 1 rfl) ?_
    rw [hZ]
    exact pm_lret (w := s_X8_cutToWidth p0 p1) hx hb hr hlocks hS (by exact ((if_pos c_1_1)).symm) dX8_cutToWidth_41
  ·
    by_cases c_1_2 : p0 = 2
    · refine lv_tableIn (off := 41) (tgt := 42) hx hb dX8_cutToWidth_1 (by rw [c_1_2]; decide) (by rw [c_1_2]; decide) (by rw [c_1_2]; decide) (by decide) ?_
      refine lv_lload_n hx hb dX8_cutToWidth_42 rfl (lv_at hl 1 rfl) ?_
      refine lv_l2i (v := p1.toInt32) hx hb dX8_cutToWidth_43 rfl ?_
      refine lv_i2b (v := p1.toInt32.toInt8.toInt32) hx hb dX8_cutToWidth_44 rfl ?_
      refine lv_i2l (v := p1.toInt32.toInt8.toInt32.toInt64) hx hb dX8_cutToWidth_45 rfl ?_
      rw [hZ]
      exact pm_lret (w := s_X8_cutToWidth p0 p1) hx hb hr hlocks hS (by exact (((if_neg c_1_1).trans (if_pos c_1_2))).symm) dX8_cutToWidth_46
    ·
      by_cases c_1_3 : p0 = 3
      · refine lv_tableIn (off := 46) (tgt := 47) hx hb dX8_cutToWidth_1 (by rw [c_1_3]; decide) (by rw [c_1_3]; decide) (by rw [c_1_3]; decide) (by decide) ?_
        refine lv_lload_n hx hb dX8_cutToWidth_47 rfl (lv_at hl 1 rfl) ?_
        refine lv_l2i (v := p1.toInt32) hx hb dX8_cutToWidth_48 rfl ?_
        refine lv_i2c (v := (p1.toInt32.toUInt32 % 65536).toInt32) hx hb dX8_cutToWidth_49 rfl ?_
        refine lv_i2l (v := ((p1.toInt32.toUInt32 % 65536).toInt32).toInt64) hx hb dX8_cutToWidth_50 rfl ?_
        rw [hZ]
        exact pm_lret (w := s_X8_cutToWidth p0 p1) hx hb hr hlocks hS (by exact ((((if_neg c_1_1).trans (if_neg c_1_2)).trans (if_pos c_1_3))).symm) dX8_cutToWidth_51
      ·
        by_cases c_1_4 : p0 = 4
        · refine lv_tableIn (off := 51) (tgt := 52) hx hb dX8_cutToWidth_1 (by rw [c_1_4]; decide) (by rw [c_1_4]; decide) (by rw [c_1_4]; decide) (by decide) ?_
          refine lv_lload_n hx hb dX8_cutToWidth_52 rfl (lv_at hl 1 rfl) ?_
          refine lv_l2i (v := p1.toInt32) hx hb dX8_cutToWidth_53 rfl ?_
          refine lv_i2s (v := p1.toInt32.toInt16.toInt32) hx hb dX8_cutToWidth_54 rfl ?_
          refine lv_i2l (v := p1.toInt32.toInt16.toInt32.toInt64) hx hb dX8_cutToWidth_55 rfl ?_
          rw [hZ]
          exact pm_lret (w := s_X8_cutToWidth p0 p1) hx hb hr hlocks hS (by exact (((((if_neg c_1_1).trans (if_neg c_1_2)).trans (if_neg c_1_3)).trans (if_pos c_1_4))).symm) dX8_cutToWidth_56
        ·
          by_cases c_1_5 : p0 = 5
          · refine lv_tableIn (off := 56) (tgt := 57) hx hb dX8_cutToWidth_1 (by rw [c_1_5]; decide) (by rw [c_1_5]; decide) (by rw [c_1_5]; decide) (by decide) ?_
            refine va_gets hx hb hF.2.1 hS hown (hts _ (List.mem_of_getElem? (i := 1) rfl)) (fun _ h9 => h9) dX8_cutToWidth_57 ?_
            refine lv_lload_n hx hb dX8_cutToWidth_60 rfl (lv_at hl 1 rfl) ?_
            refine pm_callI (va_runV (As := [.long p1]) (rest := []) ⟨hx, hb, hml, hown, hts⟩ (pm_X0_isNaN l 23 (-149) 2139095040 2147483648 dF p1) (cwV 1 hts gX8_cutToWidth_X0_isNaN rfl rfl rfl hdv_X0_isNaN ⟨Nat.le_of_ble_eq_true rfl, Nat.le_of_ble_eq_true rfl⟩) ⟨KQ.fb, va_Orecv hF.2.2.2.1 hS, fun U hU hW => ⟨rfl, (KQ.call hF.2.2.2 hS U hU hW)⟩⟩ rfl rfl hl.1 rfl (lv_room (Nat.le_of_ble_eq_true rfl)) dX8_cutToWidth_61 ⟨Nat.le_refl 0, Nat.le_refl 0⟩) hS (fun H locs _ _ hS => ?_)
            refine lv_if_eq (tgt := 76) hx hb dX8_cutToWidth_64 (by decide) (fun c_64 => ?_) (fun c_64 => ?_)
            ·
              refine lv_lload_n hx hb dX8_cutToWidth_76 rfl (lv_at hl 1 rfl) ?_
              refine lv_l2i (v := p1.toInt32) hx hb dX8_cutToWidth_77 rfl ?_
              refine lv_i2l (v := p1.toInt32.toInt64) hx hb dX8_cutToWidth_78 rfl ?_
              rw [hZ]
              exact pm_lret (w := s_X8_cutToWidth p0 p1) hx hb hr hlocks hS (by exact (((((((if_neg c_1_1).trans (if_neg c_1_2)).trans (if_neg c_1_3)).trans (if_neg c_1_4)).trans (if_pos c_1_5)).trans (if_pos c_64))).symm) dX8_cutToWidth_79
            ·
              refine va_gets hx hb hF.2.1 hS hown (hts _ (List.mem_of_getElem? (i := 1) rfl)) (fun _ h9 => h9) dX8_cutToWidth_67 ?_
              refine pm_callL (va_runV (As := []) (rest := []) ⟨hx, hb, hml, hown, hts⟩ (pm_X0_plainNaN l 23 (-149) 2139095040 2147483648 dF) (cwV 0 hts gX8_cutToWidth_X0_plainNaN rfl rfl rfl hdv_X0_plainNaN ⟨Nat.le_of_ble_eq_true rfl, Nat.le_of_ble_eq_true rfl⟩) ⟨KQ.fb, va_Orecv hF.2.2.2.1 hS, fun U hU hW => ⟨rfl, (KQ.call hF.2.2.2 hS U hU hW)⟩⟩ rfl rfl hl.1 rfl (lv_room (Nat.le_of_ble_eq_true rfl)) dX8_cutToWidth_70 ⟨Nat.le_refl 0, Nat.le_refl 0⟩) hS (fun H locs _ _ hS => ?_)
              refine lv_goto (tgt := 79) hx hb dX8_cutToWidth_73 (by decide) ?_
              rw [hZ]
              exact pm_lret (w := s_X8_cutToWidth p0 p1) hx hb hr hlocks hS (by exact (((((((if_neg c_1_1).trans (if_neg c_1_2)).trans (if_neg c_1_3)).trans (if_neg c_1_4)).trans (if_pos c_1_5)).trans (if_neg c_64))).symm) dX8_cutToWidth_79
          ·
            by_cases c_1_6 : p0 = 6
            · refine lv_tableIn (off := 79) (tgt := 80) hx hb dX8_cutToWidth_1 (by rw [c_1_6]; decide) (by rw [c_1_6]; decide) (by rw [c_1_6]; decide) (by decide) ?_
              refine va_gets hx hb hF.1 hS hown (hts _ (List.mem_of_getElem? (i := 2) rfl)) (fun _ h9 => h9) dX8_cutToWidth_80 ?_
              refine lv_lload_n hx hb dX8_cutToWidth_83 rfl (lv_at hl 1 rfl) ?_
              refine pm_callI (va_runV (As := [.long p1]) (rest := []) ⟨hx, hb, hml, hown, hts⟩ (pm_X0_isNaN l 52 (-1074) 9218868437227405312 (-9223372036854775808) dD p1) (cwV 1 hts gX8_cutToWidth_X0_isNaN rfl rfl rfl hdv_X0_isNaN ⟨Nat.le_of_ble_eq_true rfl, Nat.le_of_ble_eq_true rfl⟩) ⟨KQ.fb, va_Orecv hF.2.2.1.1 hS, fun U hU hW => ⟨rfl, (KQ.call hF.2.2.1 hS U hU hW)⟩⟩ rfl rfl hl.1 rfl (lv_room (Nat.le_of_ble_eq_true rfl)) dX8_cutToWidth_84 ⟨Nat.le_refl 0, Nat.le_refl 0⟩) hS (fun H locs _ _ hS => ?_)
              refine lv_if_eq (tgt := 99) hx hb dX8_cutToWidth_87 (by decide) (fun c_87 => ?_) (fun c_87 => ?_)
              ·
                refine lv_lload_n hx hb dX8_cutToWidth_99 rfl (lv_at hl 1 rfl) ?_
                rw [hZ]
                exact pm_lret (w := s_X8_cutToWidth p0 p1) hx hb hr hlocks hS (by exact ((((((((if_neg c_1_1).trans (if_neg c_1_2)).trans (if_neg c_1_3)).trans (if_neg c_1_4)).trans (if_neg c_1_5)).trans (if_pos c_1_6)).trans (if_pos c_87))).symm) dX8_cutToWidth_100
              ·
                refine va_gets hx hb hF.1 hS hown (hts _ (List.mem_of_getElem? (i := 2) rfl)) (fun _ h9 => h9) dX8_cutToWidth_90 ?_
                refine pm_callL (va_runV (As := []) (rest := []) ⟨hx, hb, hml, hown, hts⟩ (pm_X0_plainNaN l 52 (-1074) 9218868437227405312 (-9223372036854775808) dD) (cwV 0 hts gX8_cutToWidth_X0_plainNaN rfl rfl rfl hdv_X0_plainNaN ⟨Nat.le_of_ble_eq_true rfl, Nat.le_of_ble_eq_true rfl⟩) ⟨KQ.fb, va_Orecv hF.2.2.1.1 hS, fun U hU hW => ⟨rfl, (KQ.call hF.2.2.1 hS U hU hW)⟩⟩ rfl rfl hl.1 rfl (lv_room (Nat.le_of_ble_eq_true rfl)) dX8_cutToWidth_93 ⟨Nat.le_refl 0, Nat.le_refl 0⟩) hS (fun H locs _ _ hS => ?_)
                refine lv_goto (tgt := 100) hx hb dX8_cutToWidth_96 (by decide) ?_
                rw [hZ]
                exact pm_lret (w := s_X8_cutToWidth p0 p1) hx hb hr hlocks hS (by exact ((((((((if_neg c_1_1).trans (if_neg c_1_2)).trans (if_neg c_1_3)).trans (if_neg c_1_4)).trans (if_neg c_1_5)).trans (if_pos c_1_6)).trans (if_neg c_87))).symm) dX8_cutToWidth_100
            ·
              have nc_1_1 : (p0).toInt ≠ 1 := fun h => c_1_1 (Int32.toInt.inj (h.trans (by decide)))
              have nc_1_2 : (p0).toInt ≠ 2 := fun h => c_1_2 (Int32.toInt.inj (h.trans (by decide)))
              have nc_1_3 : (p0).toInt ≠ 3 := fun h => c_1_3 (Int32.toInt.inj (h.trans (by decide)))
              have nc_1_4 : (p0).toInt ≠ 4 := fun h => c_1_4 (Int32.toInt.inj (h.trans (by decide)))
              have nc_1_5 : (p0).toInt ≠ 5 := fun h => c_1_5 (Int32.toInt.inj (h.trans (by decide)))
              have nc_1_6 : (p0).toInt ≠ 6 := fun h => c_1_6 (Int32.toInt.inj (h.trans (by decide)))
              refine lv_tableOut (tgt := 101) hx hb dX8_cutToWidth_1 (by omega) (by decide) ?_
              refine lv_lload_n hx hb dX8_cutToWidth_101 rfl (lv_at hl 1 rfl) ?_
              refine lv_l2i (v := p1.toInt32) hx hb dX8_cutToWidth_102 rfl ?_
              refine lv_i2l (v := p1.toInt32.toInt64) hx hb dX8_cutToWidth_103 rfl ?_
              rw [hZ]
              exact pm_lret (w := s_X8_cutToWidth p0 p1) hx hb hr hlocks hS (by exact (((((((if_neg c_1_1).trans (if_neg c_1_2)).trans (if_neg c_1_3)).trans (if_neg c_1_4)).trans (if_neg c_1_5)).trans (if_neg c_1_6))).symm) dX8_cutToWidth_104
