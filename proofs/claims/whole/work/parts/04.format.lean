/-! ===== Format: each method is its function (laid by program) ===== -/
theorem hdv_X0_plainNaN : yX0_plainNaN.cls = RX0 ∧ yX0_plainNaN.cls ≠ "java/lang/invoke/MethodHandle" ∧ yX0_plainNaN.cls ≠ "java/lang/invoke/VarHandle" ∧ (parseMethodDescriptor yX0_plainNaN.desc).map (fun d => d.parameters.length) = some 0 := by decide +kernel
def s_X0_plainNaN (fb le : Int32) (inf sb : Int64) : Int64 :=
  inf + (lShl 1 (fb - 1))
set_option maxHeartbeats 4000000 in
set_option maxRecDepth 100000 in
theorem pm_X0_plainNaN (l : Launch) (fb le : Int32) (inf sb : Int64) (q : Nat) : PmL l yX0_plainNaN wsX0_plainNaN 0 0 [.ref q] (fun U => KQ fb le inf sb q pv_N U U.heap) (s_X0_plainNaN fb le inf sb) := by
  refine Met.ofW (cc := cX0_plainNaN) (maxL := 1) (ret := (some .long)) (by decide) rfl ?_
  intro p e s m args below meth c s₁ B hml hv
  obtain ⟨rfl, hq⟩ := hv
  have hx := B.exec
  have hb := B.bytes
  have hr := B.returns
  have hts := atoms_spec (ws := wsX0_plainNaN) B.pre
  have hown : s.vm.findClass RX0 = some m.cls := findClass_of_methodNamed B.named
  have hlocks := B.notSynchronized
  have hS : va_S pv_N s.heap s.heap [] := va_S.rf
  have hl := lv_entry ([.ref q]) (n := 1) (Nat.le_of_ble_eq_true rfl)
  rw [lg_entry_eq]
  generalize (lg_sl ([.ref q]) ++ List.replicate (1 - (lg_sl ([.ref q])).length) Slot.unset).toArray = ls at hl ⊢
  have hl : lv_has ls 1 [(0, .ref q)] := hl
  obtain ⟨Z, hZ⟩ : ∃ z, z = MQ below (pm_QL (s_X0_plainNaN fb le inf sb)) ([.ref q] : List Value).toArray s 0 0 pv_N := ⟨_, rfl⟩
  rw [← hZ]
  obtain ⟨Y, hY⟩ : ∃ y, y = s_X0_plainNaN fb le inf sb := ⟨_, rfl⟩
  refine lv_aload_n hx hb dX0_plainNaN_0 rfl (lv_at hl 0 rfl) ?_
  refine vk_getf hx hb hq.2.2.2.1 hS hown (hts _ (List.mem_of_getElem? (i := 1) rfl)) (fun _ h9 => h9) dX0_plainNaN_1 ?_
  refine lv_lconst (v := 1) hx hb dX0_plainNaN_4 (by decide) ?_
  refine lv_aload_n hx hb dX0_plainNaN_5 rfl (lv_at hl 0 rfl) ?_
  refine vk_getf hx hb hq.2.1 hS hown (hts _ (List.mem_of_getElem? (i := 2) rfl)) (fun _ h9 => h9) dX0_plainNaN_6 ?_
  refine lv_iconst (v := 1) hx hb dX0_plainNaN_9 (by decide) ?_
  refine lv_isub hx hb dX0_plainNaN_10 ?_
  refine lv_lshl (v := lShl 1 (fb - 1)) hx hb dX0_plainNaN_11 rfl ?_
  refine lv_ladd hx hb dX0_plainNaN_12 ?_
  rw [hZ]
  exact pm_lret (w := s_X0_plainNaN fb le inf sb) hx hb hr hlocks hS (by exact rfl) dX0_plainNaN_13
theorem hdv_X0_magnitude : yX0_magnitude.cls = RX0 ∧ yX0_magnitude.cls ≠ "java/lang/invoke/MethodHandle" ∧ yX0_magnitude.cls ≠ "java/lang/invoke/VarHandle" ∧ (parseMethodDescriptor yX0_magnitude.desc).map (fun d => d.parameters.length) = some 1 := by decide +kernel
def s_X0_magnitude (fb le : Int32) (inf sb : Int64) (p0 : Int64) : Int64 :=
  p0 &&& (sb - 1)
set_option maxHeartbeats 4000000 in
set_option maxRecDepth 100000 in
theorem pm_X0_magnitude (l : Launch) (fb le : Int32) (inf sb : Int64) (q : Nat) (p0 : Int64) : PmL l yX0_magnitude wsX0_magnitude 0 0 [.ref q, .long p0] (fun U => KQ fb le inf sb q pv_N U U.heap) (s_X0_magnitude fb le inf sb p0) := by
  refine Met.ofW (cc := cX0_magnitude) (maxL := 3) (ret := (some .long)) (by decide) rfl ?_
  intro p e s m args below meth c s₁ B hml hv
  obtain ⟨rfl, hq⟩ := hv
  have hx := B.exec
  have hb := B.bytes
  have hr := B.returns
  have hts := atoms_spec (ws := wsX0_magnitude) B.pre
  have hown : s.vm.findClass RX0 = some m.cls := findClass_of_methodNamed B.named
  have hlocks := B.notSynchronized
  have hS : va_S pv_N s.heap s.heap [] := va_S.rf
  have hl := lv_entry ([.ref q, .long p0]) (n := 3) (Nat.le_of_ble_eq_true rfl)
  rw [lg_entry_eq]
  generalize (lg_sl ([.ref q, .long p0]) ++ List.replicate (3 - (lg_sl ([.ref q, .long p0])).length) Slot.unset).toArray = ls at hl ⊢
  have hl : lv_has ls 3 [(0, .ref q), (1, .long p0)] := hl
  obtain ⟨Z, hZ⟩ : ∃ z, z = MQ below (pm_QL (s_X0_magnitude fb le inf sb p0)) ([.ref q, .long p0] : List Value).toArray s 0 0 pv_N := ⟨_, rfl⟩
  rw [← hZ]
  obtain ⟨Y, hY⟩ : ∃ y, y = s_X0_magnitude fb le inf sb p0 := ⟨_, rfl⟩
  refine lv_lload_n hx hb dX0_magnitude_0 rfl (lv_at hl 1 rfl) ?_
  refine lv_aload_n hx hb dX0_magnitude_1 rfl (lv_at hl 0 rfl) ?_
  refine vk_getf hx hb hq.2.2.2.2 hS hown (hts _ (List.mem_of_getElem? (i := 1) rfl)) (fun _ h9 => h9) dX0_magnitude_2 ?_
  refine lv_lconst (v := 1) hx hb dX0_magnitude_5 (by decide) ?_
  refine lv_lsub hx hb dX0_magnitude_6 ?_
  refine lv_land hx hb dX0_magnitude_7 ?_
  rw [hZ]
  exact pm_lret (w := s_X0_magnitude fb le inf sb p0) hx hb hr hlocks hS (by exact rfl) dX0_magnitude_8
theorem hdv_X0_isNegative : yX0_isNegative.cls = RX0 ∧ yX0_isNegative.cls ≠ "java/lang/invoke/MethodHandle" ∧ yX0_isNegative.cls ≠ "java/lang/invoke/VarHandle" ∧ (parseMethodDescriptor yX0_isNegative.desc).map (fun d => d.parameters.length) = some 1 := by decide +kernel
def s_X0_isNegative (fb le : Int32) (inf sb : Int64) (p0 : Int64) : Int32 :=
  if (p0 &&& sb) = 0 then 0
  else 1
set_option maxHeartbeats 4000000 in
set_option maxRecDepth 100000 in
theorem pm_X0_isNegative (l : Launch) (fb le : Int32) (inf sb : Int64) (q : Nat) (p0 : Int64) : PmI l yX0_isNegative wsX0_isNegative 0 0 [.ref q, .long p0] (fun U => KQ fb le inf sb q pv_N U U.heap) (s_X0_isNegative fb le inf sb p0) := by
  refine Met.ofW (cc := cX0_isNegative) (maxL := 3) (ret := (some .boolean)) (by decide) rfl ?_
  intro p e s m args below meth c s₁ B hml hv
  obtain ⟨rfl, hq⟩ := hv
  have hx := B.exec
  have hb := B.bytes
  have hr := B.returns
  have hts := atoms_spec (ws := wsX0_isNegative) B.pre
  have hown : s.vm.findClass RX0 = some m.cls := findClass_of_methodNamed B.named
  have hlocks := B.notSynchronized
  have hS : va_S pv_N s.heap s.heap [] := va_S.rf
  have hl := lv_entry ([.ref q, .long p0]) (n := 3) (Nat.le_of_ble_eq_true rfl)
  rw [lg_entry_eq]
  generalize (lg_sl ([.ref q, .long p0]) ++ List.replicate (3 - (lg_sl ([.ref q, .long p0])).length) Slot.unset).toArray = ls at hl ⊢
  have hl : lv_has ls 3 [(0, .ref q), (1, .long p0)] := hl
  obtain ⟨Z, hZ⟩ : ∃ z, z = MQ below (pm_QI (s_X0_isNegative fb le inf sb p0)) ([.ref q, .long p0] : List Value).toArray s 0 0 pv_N := ⟨_, rfl⟩
  rw [← hZ]
  obtain ⟨Y, hY⟩ : ∃ y, y = s_X0_isNegative fb le inf sb p0 := ⟨_, rfl⟩
  refine lv_lload_n hx hb dX0_isNegative_0 rfl (lv_at hl 1 rfl) ?_
  refine lv_aload_n hx hb dX0_isNegative_1 rfl (lv_at hl 0 rfl) ?_
  refine vk_getf hx hb hq.2.2.2.2 hS hown (hts _ (List.mem_of_getElem? (i := 1) rfl)) (fun _ h9 => h9) dX0_isNegative_2 ?_
  refine lv_land hx hb dX0_isNegative_5 ?_
  refine lv_lconst (v := 0) hx hb dX0_isNegative_6 (by decide) ?_
  refine lp_eq (tgt := 15) hx hb dX0_isNegative_7 dX0_isNegative_8 (by decide) (fun c_7 => ?_) (fun c_7 => ?_)
  ·
    refine lv_iconst (v := 0) hx hb dX0_isNegative_15 (by decide) ?_
    rw [hZ]
    exact pm_zret (w := s_X0_isNegative fb le inf sb p0) hx hb hr hlocks hS (nz_0) (by exact ((if_pos c_7)).symm) dX0_isNegative_16
  ·
    refine lv_iconst (v := 1) hx hb dX0_isNegative_11 (by decide) ?_
    refine lv_goto (tgt := 16) hx hb dX0_isNegative_12 (by decide) ?_
    rw [hZ]
    exact pm_zret (w := s_X0_isNegative fb le inf sb p0) hx hb hr hlocks hS (nz_1) (by exact ((if_neg c_7)).symm) dX0_isNegative_16
theorem hdv_X0_isNaN : yX0_isNaN.cls = RX0 ∧ yX0_isNaN.cls ≠ "java/lang/invoke/MethodHandle" ∧ yX0_isNaN.cls ≠ "java/lang/invoke/VarHandle" ∧ (parseMethodDescriptor yX0_isNaN.desc).map (fun d => d.parameters.length) = some 1 := by decide +kernel
def s_X0_isNaN (fb le : Int32) (inf sb : Int64) (p0 : Int64) : Int32 :=
  if (s_X0_magnitude fb le inf sb p0) ≤ inf then 0
  else 1
set_option maxHeartbeats 4000000 in
set_option maxRecDepth 100000 in
theorem pm_X0_isNaN (l : Launch) (fb le : Int32) (inf sb : Int64) (q : Nat) (p0 : Int64) : PmI l yX0_isNaN wsX0_isNaN 1 22 [.ref q, .long p0] (fun U => KQ fb le inf sb q pv_N U U.heap) (s_X0_isNaN fb le inf sb p0) := by
  refine Met.ofW (cc := cX0_isNaN) (maxL := 3) (ret := (some .boolean)) (by decide) rfl ?_
  intro p e s m args below meth c s₁ B hml hv
  obtain ⟨rfl, hq⟩ := hv
  have hx := B.exec
  have hb := B.bytes
  have hr := B.returns
  have hts := atoms_spec (ws := wsX0_isNaN) B.pre
  have hown : s.vm.findClass RX0 = some m.cls := findClass_of_methodNamed B.named
  have hlocks := B.notSynchronized
  have hS : va_S pv_N s.heap s.heap [] := va_S.rf
  have hl := lv_entry ([.ref q, .long p0]) (n := 3) (Nat.le_of_ble_eq_true rfl)
  rw [lg_entry_eq]
  generalize (lg_sl ([.ref q, .long p0]) ++ List.replicate (3 - (lg_sl ([.ref q, .long p0])).length) Slot.unset).toArray = ls at hl ⊢
  have hl : lv_has ls 3 [(0, .ref q), (1, .long p0)] := hl
  obtain ⟨Z, hZ⟩ : ∃ z, z = MQ below (pm_QI (s_X0_isNaN fb le inf sb p0)) ([.ref q, .long p0] : List Value).toArray s 0 0 pv_N := ⟨_, rfl⟩
  rw [← hZ]
  obtain ⟨Y, hY⟩ : ∃ y, y = s_X0_isNaN fb le inf sb p0 := ⟨_, rfl⟩
  refine lv_aload_n hx hb dX0_isNaN_0 rfl (lv_at hl 0 rfl) ?_
  refine lv_lload_n hx hb dX0_isNaN_1 rfl (lv_at hl 1 rfl) ?_
  refine pm_callL (va_runV (As := [.long p0]) (rest := []) ⟨hx, hb, hml, hown, hts⟩ (pm_X0_magnitude l fb le inf sb q p0) (cwV 1 hts gX0_isNaN_X0_magnitude rfl rfl rfl hdv_X0_magnitude ⟨Nat.le_of_ble_eq_true rfl, Nat.le_of_ble_eq_true rfl⟩) ⟨KQ.fb, va_Orecv hq.1 hS, fun U hU hW => ⟨rfl, (KQ.call hq hS U hU hW)⟩⟩ rfl rfl hl.1 rfl (lv_room (Nat.le_of_ble_eq_true rfl)) dX0_isNaN_2 ⟨Nat.le_refl 0, Nat.le_refl 0⟩) hS (fun H locs _ _ hS => ?_)
  refine lv_aload_n hx hb dX0_isNaN_5 rfl (lv_at hl 0 rfl) ?_
  refine vk_getf hx hb hq.2.2.2.1 hS hown (hts _ (List.mem_of_getElem? (i := 1) rfl)) (fun _ h9 => h9) dX0_isNaN_6 ?_
  refine lp_le (tgt := 17) hx hb dX0_isNaN_9 dX0_isNaN_10 (by decide) (fun c_9 => ?_) (fun c_9 => ?_)
  ·
    refine lv_iconst (v := 0) hx hb dX0_isNaN_17 (by decide) ?_
    rw [hZ]
    exact pm_zret (w := s_X0_isNaN fb le inf sb p0) hx hb hr hlocks hS (nz_0) (by exact ((if_pos c_9)).symm) dX0_isNaN_18
  ·
    refine lv_iconst (v := 1) hx hb dX0_isNaN_13 (by decide) ?_
    refine lv_goto (tgt := 18) hx hb dX0_isNaN_14 (by decide) ?_
    rw [hZ]
    exact pm_zret (w := s_X0_isNaN fb le inf sb p0) hx hb hr hlocks hS (nz_1) (by exact ((if_neg c_9)).symm) dX0_isNaN_18
theorem hdv_X0_isInfinite : yX0_isInfinite.cls = RX0 ∧ yX0_isInfinite.cls ≠ "java/lang/invoke/MethodHandle" ∧ yX0_isInfinite.cls ≠ "java/lang/invoke/VarHandle" ∧ (parseMethodDescriptor yX0_isInfinite.desc).map (fun d => d.parameters.length) = some 1 := by decide +kernel
def s_X0_isInfinite (fb le : Int32) (inf sb : Int64) (p0 : Int64) : Int32 :=
  if (s_X0_magnitude fb le inf sb p0) = inf then 1
  else 0
set_option maxHeartbeats 4000000 in
set_option maxRecDepth 100000 in
theorem pm_X0_isInfinite (l : Launch) (fb le : Int32) (inf sb : Int64) (q : Nat) (p0 : Int64) : PmI l yX0_isInfinite wsX0_isInfinite 1 22 [.ref q, .long p0] (fun U => KQ fb le inf sb q pv_N U U.heap) (s_X0_isInfinite fb le inf sb p0) := by
  refine Met.ofW (cc := cX0_isInfinite) (maxL := 3) (ret := (some .boolean)) (by decide) rfl ?_
  intro p e s m args below meth c s₁ B hml hv
  obtain ⟨rfl, hq⟩ := hv
  have hx := B.exec
  have hb := B.bytes
  have hr := B.returns
  have hts := atoms_spec (ws := wsX0_isInfinite) B.pre
  have hown : s.vm.findClass RX0 = some m.cls := findClass_of_methodNamed B.named
  have hlocks := B.notSynchronized
  have hS : va_S pv_N s.heap s.heap [] := va_S.rf
  have hl := lv_entry ([.ref q, .long p0]) (n := 3) (Nat.le_of_ble_eq_true rfl)
  rw [lg_entry_eq]
  generalize (lg_sl ([.ref q, .long p0]) ++ List.replicate (3 - (lg_sl ([.ref q, .long p0])).length) Slot.unset).toArray = ls at hl ⊢
  have hl : lv_has ls 3 [(0, .ref q), (1, .long p0)] := hl
  obtain ⟨Z, hZ⟩ : ∃ z, z = MQ below (pm_QI (s_X0_isInfinite fb le inf sb p0)) ([.ref q, .long p0] : List Value).toArray s 0 0 pv_N := ⟨_, rfl⟩
  rw [← hZ]
  obtain ⟨Y, hY⟩ : ∃ y, y = s_X0_isInfinite fb le inf sb p0 := ⟨_, rfl⟩
  refine lv_aload_n hx hb dX0_isInfinite_0 rfl (lv_at hl 0 rfl) ?_
  refine lv_lload_n hx hb dX0_isInfinite_1 rfl (lv_at hl 1 rfl) ?_
  refine pm_callL (va_runV (As := [.long p0]) (rest := []) ⟨hx, hb, hml, hown, hts⟩ (pm_X0_magnitude l fb le inf sb q p0) (cwV 1 hts gX0_isInfinite_X0_magnitude rfl rfl rfl hdv_X0_magnitude ⟨Nat.le_of_ble_eq_true rfl, Nat.le_of_ble_eq_true rfl⟩) ⟨KQ.fb, va_Orecv hq.1 hS, fun U hU hW => ⟨rfl, (KQ.call hq hS U hU hW)⟩⟩ rfl rfl hl.1 rfl (lv_room (Nat.le_of_ble_eq_true rfl)) dX0_isInfinite_2 ⟨Nat.le_refl 0, Nat.le_refl 0⟩) hS (fun H locs _ _ hS => ?_)
  refine lv_aload_n hx hb dX0_isInfinite_5 rfl (lv_at hl 0 rfl) ?_
  refine vk_getf hx hb hq.2.2.2.1 hS hown (hts _ (List.mem_of_getElem? (i := 1) rfl)) (fun _ h9 => h9) dX0_isInfinite_6 ?_
  refine lp_ne (tgt := 17) hx hb dX0_isInfinite_9 dX0_isInfinite_10 (by decide) (fun c_9 => ?_) (fun c_9 => ?_)
  ·
    refine lv_iconst (v := 0) hx hb dX0_isInfinite_17 (by decide) ?_
    rw [hZ]
    exact pm_zret (w := s_X0_isInfinite fb le inf sb p0) hx hb hr hlocks hS (nz_0) (by exact ((if_neg c_9)).symm) dX0_isInfinite_18
  ·
    refine lv_iconst (v := 1) hx hb dX0_isInfinite_13 (by decide) ?_
    refine lv_goto (tgt := 18) hx hb dX0_isInfinite_14 (by decide) ?_
    rw [hZ]
    exact pm_zret (w := s_X0_isInfinite fb le inf sb p0) hx hb hr hlocks hS (nz_1) (by exact ((if_pos c_9)).symm) dX0_isInfinite_18
theorem hdv_X0_isZero : yX0_isZero.cls = RX0 ∧ yX0_isZero.cls ≠ "java/lang/invoke/MethodHandle" ∧ yX0_isZero.cls ≠ "java/lang/invoke/VarHandle" ∧ (parseMethodDescriptor yX0_isZero.desc).map (fun d => d.parameters.length) = some 1 := by decide +kernel
def s_X0_isZero (fb le : Int32) (inf sb : Int64) (p0 : Int64) : Int32 :=
  if (s_X0_magnitude fb le inf sb p0) = 0 then 1
  else 0
set_option maxHeartbeats 4000000 in
set_option maxRecDepth 100000 in
theorem pm_X0_isZero (l : Launch) (fb le : Int32) (inf sb : Int64) (q : Nat) (p0 : Int64) : PmI l yX0_isZero wsX0_isZero 1 22 [.ref q, .long p0] (fun U => KQ fb le inf sb q pv_N U U.heap) (s_X0_isZero fb le inf sb p0) := by
  refine Met.ofW (cc := cX0_isZero) (maxL := 3) (ret := (some .boolean)) (by decide) rfl ?_
  intro p e s m args below meth c s₁ B hml hv
  obtain ⟨rfl, hq⟩ := hv
  have hx := B.exec
  have hb := B.bytes
  have hr := B.returns
  have hts := atoms_spec (ws := wsX0_isZero) B.pre
  have hown : s.vm.findClass RX0 = some m.cls := findClass_of_methodNamed B.named
  have hlocks := B.notSynchronized
  have hS : va_S pv_N s.heap s.heap [] := va_S.rf
  have hl := lv_entry ([.ref q, .long p0]) (n := 3) (Nat.le_of_ble_eq_true rfl)
  rw [lg_entry_eq]
  generalize (lg_sl ([.ref q, .long p0]) ++ List.replicate (3 - (lg_sl ([.ref q, .long p0])).length) Slot.unset).toArray = ls at hl ⊢
  have hl : lv_has ls 3 [(0, .ref q), (1, .long p0)] := hl
  obtain ⟨Z, hZ⟩ : ∃ z, z = MQ below (pm_QI (s_X0_isZero fb le inf sb p0)) ([.ref q, .long p0] : List Value).toArray s 0 0 pv_N := ⟨_, rfl⟩
  rw [← hZ]
  obtain ⟨Y, hY⟩ : ∃ y, y = s_X0_isZero fb le inf sb p0 := ⟨_, rfl⟩
  refine lv_aload_n hx hb dX0_isZero_0 rfl (lv_at hl 0 rfl) ?_
  refine lv_lload_n hx hb dX0_isZero_1 rfl (lv_at hl 1 rfl) ?_
  refine pm_callL (va_runV (As := [.long p0]) (rest := []) ⟨hx, hb, hml, hown, hts⟩ (pm_X0_magnitude l fb le inf sb q p0) (cwV 1 hts gX0_isZero_X0_magnitude rfl rfl rfl hdv_X0_magnitude ⟨Nat.le_of_ble_eq_true rfl, Nat.le_of_ble_eq_true rfl⟩) ⟨KQ.fb, va_Orecv hq.1 hS, fun U hU hW => ⟨rfl, (KQ.call hq hS U hU hW)⟩⟩ rfl rfl hl.1 rfl (lv_room (Nat.le_of_ble_eq_true rfl)) dX0_isZero_2 ⟨Nat.le_refl 0, Nat.le_refl 0⟩) hS (fun H locs _ _ hS => ?_)
  refine lv_lconst (v := 0) hx hb dX0_isZero_5 (by decide) ?_
  refine lp_ne (tgt := 14) hx hb dX0_isZero_6 dX0_isZero_7 (by decide) (fun c_6 => ?_) (fun c_6 => ?_)
  ·
    refine lv_iconst (v := 0) hx hb dX0_isZero_14 (by decide) ?_
    rw [hZ]
    exact pm_zret (w := s_X0_isZero fb le inf sb p0) hx hb hr hlocks hS (nz_0) (by exact ((if_neg c_6)).symm) dX0_isZero_15
  ·
    refine lv_iconst (v := 1) hx hb dX0_isZero_10 (by decide) ?_
    refine lv_goto (tgt := 15) hx hb dX0_isZero_11 (by decide) ?_
    rw [hZ]
    exact pm_zret (w := s_X0_isZero fb le inf sb p0) hx hb hr hlocks hS (nz_1) (by exact ((if_pos c_6)).symm) dX0_isZero_15
theorem hd_X0_rounded : yX0_rounded.cls ≠ "java/lang/invoke/MethodHandle" ∧ yX0_rounded.cls ≠ "java/lang/invoke/VarHandle" ∧ (parseMethodDescriptor yX0_rounded.desc).map (fun d => d.parameters.length) = some 2 := by decide +kernel
def s_X0_rounded_j64 (p0 : Int64) (p1 : Int32) (x_20 : Int64) (z_64_0 : Int32) : Int64 :=
  if z_64_0 = 0 then x_20
  else x_20 + 1
def s_X0_rounded (p0 : Int64) (p1 : Int32) : Int64 :=
  if 0 < p1 then if p1 ≤ 63 then if (lShl 1 (p1 - 1)) < (p0 - (lShl (lUshr p0 p1) p1)) then s_X0_rounded_j64 p0 p1 (lUshr p0 p1) 1
  else if (p0 - (lShl (lUshr p0 p1) p1)) = (lShl 1 (p1 - 1)) then if ((lUshr p0 p1) &&& 1) = 1 then s_X0_rounded_j64 p0 p1 (lUshr p0 p1) 1
  else s_X0_rounded_j64 p0 p1 (lUshr p0 p1) 0
  else s_X0_rounded_j64 p0 p1 (lUshr p0 p1) 0
  else 0
  else lShl p0 (-p1)
set_option maxHeartbeats 4000000 in
set_option maxRecDepth 100000 in
theorem pm_X0_rounded (l : Launch) (p0 : Int64) (p1 : Int32) : PmL l yX0_rounded wsX0_rounded 0 0 [.long p0, .int p1] (fun _ => True) (s_X0_rounded p0 p1) := by
  refine Met.ofW (cc := cX0_rounded) (maxL := 10) (ret := (some .long)) (by decide) rfl ?_
  intro p e s m args below meth c s₁ B hml hv
  obtain ⟨rfl, -⟩ := hv
  have hx := B.exec
  have hb := B.bytes
  have hr := B.returns
  have hts := atoms_spec (ws := wsX0_rounded) B.pre
  have hown : s.vm.findClass RX0 = some m.cls := findClass_of_methodNamed B.named
  have hlocks := B.notSynchronized
  have hS : va_S pv_N s.heap s.heap [] := va_S.rf
  have hl := lv_entry ([.long p0, .int p1]) (n := 10) (Nat.le_of_ble_eq_true rfl)
  rw [lg_entry_eq]
  generalize (lg_sl ([.long p0, .int p1]) ++ List.replicate (10 - (lg_sl ([.long p0, .int p1])).length) Slot.unset).toArray = ls at hl ⊢
  have hl : lv_has ls 10 [(0, .long p0), (2, .int p1)] := hl
  obtain ⟨Z, hZ⟩ : ∃ z, z = MQ below (pm_QL (s_X0_rounded p0 p1)) ([.long p0, .int p1] : List Value).toArray s 0 0 pv_N := ⟨_, rfl⟩
  rw [← hZ]
  obtain ⟨Y, hY⟩ : ∃ y, y = s_X0_rounded p0 p1 := ⟨_, rfl⟩
  refine lv_iload_n hx hb dX0_rounded_0 rfl (lv_at hl 1 rfl) ?_
  refine lv_if_gt (tgt := 9) hx hb dX0_rounded_1 (by decide) (fun c_1 => ?_) (fun c_1 => ?_)
  ·
    refine lv_iload_n hx hb dX0_rounded_9 rfl (lv_at hl 1 rfl) ?_
    refine lv_bipush (v := 63) hx hb dX0_rounded_10 (by decide) ?_
    refine lv_icmp_le (tgt := 17) hx hb dX0_rounded_12 (by decide) (fun c_12 => ?_) (fun c_12 => ?_)
    ·
      refine lv_lload_n hx hb dX0_rounded_17 rfl (lv_at hl 0 rfl) ?_
      refine lv_iload_n hx hb dX0_rounded_18 rfl (lv_at hl 1 rfl) ?_
      refine lv_lushr (v := lUshr p0 p1) hx hb dX0_rounded_19 rfl ?_
      refine lv_topl (fun x_20 ex_20 => ?_)
      refine lv_lstore_n (lv' := [(3, .long x_20), (0, .long p0), (2, .int p1)]) hx hb dX0_rounded_20 rfl hl (by decide) rfl (fun ls hl => ?_)
      refine lv_lload_n hx hb dX0_rounded_21 rfl (lv_at hl 1 rfl) ?_
      refine lv_lload_n hx hb dX0_rounded_22 rfl (lv_at hl 0 rfl) ?_
      refine lv_iload_n hx hb dX0_rounded_23 rfl (lv_at hl 2 rfl) ?_
      refine lv_lshl (v := lShl x_20 p1) hx hb dX0_rounded_24 rfl ?_
      refine lv_lsub hx hb dX0_rounded_25 ?_
      refine lv_topl (fun x_26 ex_26 => ?_)
      refine lv_lstore (lv' := [(5, .long x_26), (3, .long x_20), (0, .long p0), (2, .int p1)]) hx hb dX0_rounded_26 hl (by decide) rfl (fun ls hl => ?_)
      refine lv_lconst (v := 1) hx hb dX0_rounded_28 (by decide) ?_
      refine lv_iload_n hx hb dX0_rounded_29 rfl (lv_at hl 3 rfl) ?_
      refine lv_iconst (v := 1) hx hb dX0_rounded_30 (by decide) ?_
      refine lv_isub hx hb dX0_rounded_31 ?_
      refine lv_lshl (v := lShl 1 (p1 - 1)) hx hb dX0_rounded_32 rfl ?_
      refine lv_topl (fun x_33 ex_33 => ?_)
      refine lv_lstore (lv' := [(7, .long x_33), (5, .long x_26), (3, .long x_20), (0, .long p0), (2, .int p1)]) hx hb dX0_rounded_33 hl (by decide) rfl (fun ls hl => ?_)
      refine lv_lload hx hb dX0_rounded_35 (lv_at hl 1 rfl) ?_
      refine lv_lload hx hb dX0_rounded_37 (lv_at hl 0 rfl) ?_
      have K_64 : ∀ (z_64_0 : Int32) (H : Heap) (locs : List Loc), va_S pv_N s.heap H locs → ∀ (ls : Array Slot), lv_has ls 10 [(3, .long x_20)] → s_X0_rounded p0 p1 = s_X0_rounded_j64 p0 p1 x_20 z_64_0 → W p l e (pm_R 0 0) s m ([.long p0, .int p1] : List Value).toArray below meth c H locs 0 0 Z (F0 m 64 ls [.int z_64_0]) := by
        intro z_64_0 H locs hS ls hl hK_64
        refine lv_istore (lv' := [(9, .int z_64_0), (3, .long x_20)]) hx hb dX0_rounded_64 hl (by decide) rfl (fun ls hl => ?_)
        refine lv_iload hx hb dX0_rounded_66 (lv_at hl 0 rfl) ?_
        refine lv_if_eq (tgt := 77) hx hb dX0_rounded_68 (by decide) (fun c_68 => ?_) (fun c_68 => ?_)
        ·
          refine lv_lload_n hx hb dX0_rounded_77 rfl (lv_at hl 1 rfl) ?_
          rw [hZ]
          exact pm_lret (w := s_X0_rounded p0 p1) hx hb hr hlocks hS (by subst ex_33 ex_26 ex_20; exact (hK_64.trans (if_pos c_68)).symm) dX0_rounded_78
        ·
          refine lv_lload_n hx hb dX0_rounded_71 rfl (lv_at hl 1 rfl) ?_
          refine lv_lconst (v := 1) hx hb dX0_rounded_72 (by decide) ?_
          refine lv_ladd hx hb dX0_rounded_73 ?_
          refine lv_goto (tgt := 78) hx hb dX0_rounded_74 (by decide) ?_
          rw [hZ]
          exact pm_lret (w := s_X0_rounded p0 p1) hx hb hr hlocks hS (by subst ex_33 ex_26 ex_20; exact (hK_64.trans (if_neg c_68)).symm) dX0_rounded_78
      refine lp_gt (tgt := 59) hx hb dX0_rounded_39 dX0_rounded_40 (by decide) (fun c_39 => ?_) (fun c_39 => ?_)
      ·
        refine lv_iconst (v := 1) hx hb dX0_rounded_59 (by decide) ?_
        refine lv_goto (tgt := 64) hx hb dX0_rounded_60 (by decide) ?_
        exact K_64 1 _ _ hS ls (lv_sub hl [2] rfl) (by subst ex_33 ex_26 ex_20; exact (((if_pos c_1).trans (if_pos c_12)).trans (if_pos c_39)))
      ·
        refine lv_lload hx hb dX0_rounded_43 (lv_at hl 1 rfl) ?_
        refine lv_lload hx hb dX0_rounded_45 (lv_at hl 0 rfl) ?_
        refine lp_ne (tgt := 63) hx hb dX0_rounded_47 dX0_rounded_48 (by decide) (fun c_47 => ?_) (fun c_47 => ?_)
        ·
          refine lv_iconst (v := 0) hx hb dX0_rounded_63 (by decide) ?_
          exact K_64 0 _ _ hS ls (lv_sub hl [2] rfl) (by subst ex_33 ex_26 ex_20; exact ((((if_pos c_1).trans (if_pos c_12)).trans (if_neg c_39)).trans (if_neg c_47)))
        ·
          refine lv_lload_n hx hb dX0_rounded_51 rfl (lv_at hl 2 rfl) ?_
          refine lv_lconst (v := 1) hx hb dX0_rounded_52 (by decide) ?_
          refine lv_land hx hb dX0_rounded_53 ?_
          refine lv_lconst (v := 1) hx hb dX0_rounded_54 (by decide) ?_
          refine lp_ne (tgt := 63) hx hb dX0_rounded_55 dX0_rounded_56 (by decide) (fun c_55 => ?_) (fun c_55 => ?_)
          ·
            refine lv_iconst (v := 0) hx hb dX0_rounded_63 (by decide) ?_
            exact K_64 0 _ _ hS ls (lv_sub hl [2] rfl) (by subst ex_33 ex_26 ex_20; exact (((((if_pos c_1).trans (if_pos c_12)).trans (if_neg c_39)).trans (if_pos c_47)).trans (if_neg c_55)))
          ·
            refine lv_iconst (v := 1) hx hb dX0_rounded_59 (by decide) ?_
            refine lv_goto (tgt := 64) hx hb dX0_rounded_60 (by decide) ?_
            exact K_64 1 _ _ hS ls (lv_sub hl [2] rfl) (by subst ex_33 ex_26 ex_20; exact (((((if_pos c_1).trans (if_pos c_12)).trans (if_neg c_39)).trans (if_pos c_47)).trans (if_pos c_55)))
    ·
      refine lv_lconst (v := 0) hx hb dX0_rounded_15 (by decide) ?_
      rw [hZ]
      exact pm_lret (w := s_X0_rounded p0 p1) hx hb hr hlocks hS (by exact (((if_pos c_1).trans (if_neg c_12))).symm) dX0_rounded_16
  ·
    refine lv_lload_n hx hb dX0_rounded_4 rfl (lv_at hl 0 rfl) ?_
    refine lv_iload_n hx hb dX0_rounded_5 rfl (lv_at hl 1 rfl) ?_
    refine lv_ineg hx hb dX0_rounded_6 ?_
    refine lv_lshl (v := lShl p0 (-p1)) hx hb dX0_rounded_7 rfl ?_
    rw [hZ]
    exact pm_lret (w := s_X0_rounded p0 p1) hx hb hr hlocks hS (by exact ((if_neg c_1)).symm) dX0_rounded_8
def hbS (n : Nat) : Int32 := match n with
  | 7 => 32
  | 6 => 16
  | 5 => 8
  | 4 => 4
  | 3 => 2
  | 2 => 1
  | _ => 0
theorem hbS_s {n : Nat} (h : n + 1 < 8) (h0 : 1 ≤ n) : hbS (n + 1) / 2 = hbS n := by
  match n, h, h0 with
  | 1, _, _ => decide
  | 2, _, _ => decide
  | 3, _, _ => decide
  | 4, _, _ => decide
  | 5, _, _ => decide
  | 6, _, _ => decide
theorem hbS_p {n : Nat} (h : ¬ hbS (n + 1) ≤ 0) : 1 ≤ n := by
  match n, h with
  | 0, h => exact absurd (by decide) h
  | n + 1, _ => omega
theorem hd_X0_highestBit : yX0_highestBit.cls ≠ "java/lang/invoke/MethodHandle" ∧ yX0_highestBit.cls ≠ "java/lang/invoke/VarHandle" ∧ (parseMethodDescriptor yX0_highestBit.desc).map (fun d => d.parameters.length) = some 1 := by decide +kernel
def s_X0_highestBit_l5 (p0 : Int64) : Nat → Int32 → Int32 → Int32
  | 0, _, _ => 0
  | n + 1, y_5_2, y_5_3 =>
  if y_5_3 ≤ 0 then y_5_2
  else if (lUshr p0 (y_5_2 + y_5_3)) = 0 then s_X0_highestBit_l5 p0 n y_5_2 (y_5_3 / 2)
  else s_X0_highestBit_l5 p0 n (y_5_2 + y_5_3) (y_5_3 / 2)
def s_X0_highestBit (p0 : Int64) : Int32 :=
  s_X0_highestBit_l5 p0 7 0 32
set_option maxHeartbeats 4000000 in
set_option maxRecDepth 100000 in
theorem pm_X0_highestBit (l : Launch) (p0 : Int64) : PmI l yX0_highestBit wsX0_highestBit 0 0 [.long p0] (fun _ => True) (s_X0_highestBit p0) := by
  refine Met.ofW (cc := cX0_highestBit) (maxL := 4) (ret := (some .int)) (by decide) rfl ?_
  intro p e s m args below meth c s₁ B hml hv
  obtain ⟨rfl, -⟩ := hv
  have hx := B.exec
  have hb := B.bytes
  have hr := B.returns
  have hts := atoms_spec (ws := wsX0_highestBit) B.pre
  have hown : s.vm.findClass RX0 = some m.cls := findClass_of_methodNamed B.named
  have hlocks := B.notSynchronized
  have hS : va_S pv_N s.heap s.heap [] := va_S.rf
  have hl := lv_entry ([.long p0]) (n := 4) (Nat.le_of_ble_eq_true rfl)
  rw [lg_entry_eq]
  generalize (lg_sl ([.long p0]) ++ List.replicate (4 - (lg_sl ([.long p0])).length) Slot.unset).toArray = ls at hl ⊢
  have hl : lv_has ls 4 [(0, .long p0)] := hl
  obtain ⟨Z, hZ⟩ : ∃ z, z = MQ below (pm_QI (s_X0_highestBit p0)) ([.long p0] : List Value).toArray s 0 0 pv_N := ⟨_, rfl⟩
  rw [← hZ]
  obtain ⟨Y, hY⟩ : ∃ y, y = s_X0_highestBit p0 := ⟨_, rfl⟩
  refine lv_iconst (v := 0) hx hb dX0_highestBit_0 (by decide) ?_
  refine lv_istore_n (lv' := [(2, .int 0), (0, .long p0)]) hx hb dX0_highestBit_1 rfl hl (by decide) rfl (fun ls hl => ?_)
  refine lv_bipush (v := 32) hx hb dX0_highestBit_2 (by decide) ?_
  refine lv_istore_n (lv' := [(3, .int 32), (2, .int 0), (0, .long p0)]) hx hb dX0_highestBit_4 rfl hl (by decide) rfl (fun ls hl => ?_)
  have K_5 : ∀ (n : Nat) (y_5_2 : Int32) (y_5_3 : Int32) (H : Heap) (locs : List Loc), va_S pv_N s.heap H locs → ∀ (ls : Array Slot), lv_has ls 4 [(0, .long p0), (2, .int y_5_2), (3, .int y_5_3)] → (y_5_3 = hbS n ∧ 1 ≤ n ∧ n < 8) → s_X0_highestBit p0 = s_X0_highestBit_l5 p0 n y_5_2 y_5_3 → W p l e (pm_R 0 0) s m ([.long p0] : List Value).toArray below meth c H locs 0 0 Z (F0 m 5 ls []) := by
    intro n
    induction n with
    | zero =>
      intro y_5_2 y_5_3 H locs hS ls hl hI hK_5
      exact absurd hI.2.1 (by decide)
    | succ n ih =>
      intro y_5_2 y_5_3 H locs hS ls hl hI hK_5
      refine lv_iload_n hx hb dX0_highestBit_5 rfl (lv_at hl 2 rfl) ?_
      refine lv_if_le (tgt := 30) hx hb dX0_highestBit_6 (by decide) (fun c_6 => ?_) (fun c_6 => ?_)
      ·
        refine lv_iload_n hx hb dX0_highestBit_30 rfl (lv_at hl 1 rfl) ?_
        rw [hZ]
        exact pm_iret (w := s_X0_highestBit p0) hx hb hr hlocks hS (by exact (hK_5.trans (if_pos c_6)).symm) dX0_highestBit_31
      ·
        refine lv_lload_n hx hb dX0_highestBit_9 rfl (lv_at hl 0 rfl) ?_
        refine lv_iload_n hx hb dX0_highestBit_10 rfl (lv_at hl 1 rfl) ?_
        refine lv_iload_n hx hb dX0_highestBit_11 rfl (lv_at hl 2 rfl) ?_
        refine lv_iadd hx hb dX0_highestBit_12 ?_
        refine lv_lushr (v := lUshr p0 (y_5_2 + y_5_3)) hx hb dX0_highestBit_13 rfl ?_
        refine lv_lconst (v := 0) hx hb dX0_highestBit_14 (by decide) ?_
        refine lp_eq (tgt := 23) hx hb dX0_highestBit_15 dX0_highestBit_16 (by decide) (fun c_15 => ?_) (fun c_15 => ?_)
        ·
          refine lv_iload_n hx hb dX0_highestBit_23 rfl (lv_at hl 2 rfl) ?_
          refine lv_iconst (v := 2) hx hb dX0_highestBit_24 (by decide) ?_
          refine lv_idiv hx hb dX0_highestBit_25 (by decide) ?_
          refine lv_topi (fun x_26 ex_26 => ?_)
          refine lv_istore_n (lv' := [(3, .int x_26), (0, .long p0), (2, .int y_5_2)]) hx hb dX0_highestBit_26 rfl hl (by decide) rfl (fun ls hl => ?_)
          refine lv_goto (tgt := 5) hx hb dX0_highestBit_27 (by decide) ?_
          exact ih y_5_2 x_26 _ _ hS ls (lv_sub hl [1, 2, 0] rfl) (by subst ex_26; have h1 := hbS_p (n := n) (by rw [← hI.1]; exact c_6); exact ⟨by rw [hI.1]; exact hbS_s hI.2.2 h1, h1, Nat.lt_of_succ_lt hI.2.2⟩) (by subst ex_26; exact hK_5.trans ((if_neg c_6).trans (if_pos c_15)))
        ·
          refine lv_iload_n hx hb dX0_highestBit_19 rfl (lv_at hl 1 rfl) ?_
          refine lv_iload_n hx hb dX0_highestBit_20 rfl (lv_at hl 2 rfl) ?_
          refine lv_iadd hx hb dX0_highestBit_21 ?_
          refine lv_topi (fun x_22 ex_22 => ?_)
          refine lv_istore_n (lv' := [(2, .int x_22), (0, .long p0), (3, .int y_5_3)]) hx hb dX0_highestBit_22 rfl hl (by decide) rfl (fun ls hl => ?_)
          refine lv_iload_n hx hb dX0_highestBit_23 rfl (lv_at hl 2 rfl) ?_
          refine lv_iconst (v := 2) hx hb dX0_highestBit_24 (by decide) ?_
          refine lv_idiv hx hb dX0_highestBit_25 (by decide) ?_
          refine lv_topi (fun x_26 ex_26 => ?_)
          refine lv_istore_n (lv' := [(3, .int x_26), (2, .int x_22), (0, .long p0)]) hx hb dX0_highestBit_26 rfl hl (by decide) rfl (fun ls hl => ?_)
          refine lv_goto (tgt := 5) hx hb dX0_highestBit_27 (by decide) ?_
          exact ih x_22 x_26 _ _ hS ls (lv_sub hl [2, 1, 0] rfl) (by subst ex_26; have h1 := hbS_p (n := n) (by rw [← hI.1]; exact c_6); exact ⟨by rw [hI.1]; exact hbS_s hI.2.2 h1, h1, Nat.lt_of_succ_lt hI.2.2⟩) (by subst ex_26 ex_22; exact hK_5.trans ((if_neg c_6).trans (if_neg c_15)))
  exact K_5 (7) 0 32 _ _ hS ls (lv_sub hl [2, 1, 0] rfl) (⟨rfl, by decide, by decide⟩) (by exact rfl)
theorem hdv_X0_missingPlaces : yX0_missingPlaces.cls = RX0 ∧ yX0_missingPlaces.cls ≠ "java/lang/invoke/MethodHandle" ∧ yX0_missingPlaces.cls ≠ "java/lang/invoke/VarHandle" ∧ (parseMethodDescriptor yX0_missingPlaces.desc).map (fun d => d.parameters.length) = some 1 := by decide +kernel
def s_X0_missingPlaces (fb le : Int32) (inf sb : Int64) (p0 : Int64) : Int32 :=
  if (lShl 1 fb) ≤ (s_X0_magnitude fb le inf sb p0) then 0
  else fb - (s_X0_highestBit (s_X0_magnitude fb le inf sb p0))
set_option maxHeartbeats 4000000 in
set_option maxRecDepth 100000 in
theorem pm_X0_missingPlaces (l : Launch) (fb le : Int32) (inf sb : Int64) (q : Nat) (p0 : Int64) : PmI l yX0_missingPlaces wsX0_missingPlaces 1 23 [.ref q, .long p0] (fun U => KQ fb le inf sb q pv_N U U.heap) (s_X0_missingPlaces fb le inf sb p0) := by
  refine Met.ofW (cc := cX0_missingPlaces) (maxL := 5) (ret := (some .int)) (by decide) rfl ?_
  intro p e s m args below meth c s₁ B hml hv
  obtain ⟨rfl, hq⟩ := hv
  have hx := B.exec
  have hb := B.bytes
  have hr := B.returns
  have hts := atoms_spec (ws := wsX0_missingPlaces) B.pre
  have hown : s.vm.findClass RX0 = some m.cls := findClass_of_methodNamed B.named
  have hlocks := B.notSynchronized
  have hS : va_S pv_N s.heap s.heap [] := va_S.rf
  have hl := lv_entry ([.ref q, .long p0]) (n := 5) (Nat.le_of_ble_eq_true rfl)
  rw [lg_entry_eq]
  generalize (lg_sl ([.ref q, .long p0]) ++ List.replicate (5 - (lg_sl ([.ref q, .long p0])).length) Slot.unset).toArray = ls at hl ⊢
  have hl : lv_has ls 5 [(0, .ref q), (1, .long p0)] := hl
  obtain ⟨Z, hZ⟩ : ∃ z, z = MQ below (pm_QI (s_X0_missingPlaces fb le inf sb p0)) ([.ref q, .long p0] : List Value).toArray s 0 0 pv_N := ⟨_, rfl⟩
  rw [← hZ]
  obtain ⟨Y, hY⟩ : ∃ y, y = s_X0_missingPlaces fb le inf sb p0 := ⟨_, rfl⟩
  refine lv_aload_n hx hb dX0_missingPlaces_0 rfl (lv_at hl 0 rfl) ?_
  refine lv_lload_n hx hb dX0_missingPlaces_1 rfl (lv_at hl 1 rfl) ?_
  refine pm_callL (va_runV (As := [.long p0]) (rest := []) ⟨hx, hb, hml, hown, hts⟩ (pm_X0_magnitude l fb le inf sb q p0) (cwV 1 hts gX0_missingPlaces_X0_magnitude rfl rfl rfl hdv_X0_magnitude ⟨Nat.le_of_ble_eq_true rfl, Nat.le_of_ble_eq_true rfl⟩) ⟨KQ.fb, va_Orecv hq.1 hS, fun U hU hW => ⟨rfl, (KQ.call hq hS U hU hW)⟩⟩ rfl rfl hl.1 rfl (lv_room (Nat.le_of_ble_eq_true rfl)) dX0_missingPlaces_2 ⟨Nat.le_refl 0, Nat.le_refl 0⟩) hS (fun H locs _ _ hS => ?_)
  refine lv_topl (fun x_5 ex_5 => ?_)
  refine lv_lstore_n (lv' := [(3, .long x_5), (0, .ref q), (1, .long p0)]) hx hb dX0_missingPlaces_5 rfl hl (by decide) rfl (fun ls hl => ?_)
  refine lv_lload_n hx hb dX0_missingPlaces_6 rfl (lv_at hl 0 rfl) ?_
  refine lv_lconst (v := 1) hx hb dX0_missingPlaces_7 (by decide) ?_
  refine lv_aload_n hx hb dX0_missingPlaces_8 rfl (lv_at hl 1 rfl) ?_
  refine vk_getf hx hb hq.2.1 hS hown (hts _ (List.mem_of_getElem? (i := 1) rfl)) (fun _ h9 => h9) dX0_missingPlaces_9 ?_
  refine lv_lshl (v := lShl 1 fb) hx hb dX0_missingPlaces_12 rfl ?_
  refine lp_ge (tgt := 29) hx hb dX0_missingPlaces_13 dX0_missingPlaces_14 (by decide) (fun c_13 => ?_) (fun c_13 => ?_)
  ·
    refine lv_iconst (v := 0) hx hb dX0_missingPlaces_29 (by decide) ?_
    rw [hZ]
    exact pm_iret (w := s_X0_missingPlaces fb le inf sb p0) hx hb hr hlocks hS (by subst ex_5; exact ((if_pos c_13)).symm) dX0_missingPlaces_30
  ·
    refine lv_aload_n hx hb dX0_missingPlaces_17 rfl (lv_at hl 1 rfl) ?_
    refine vk_getf hx hb hq.2.1 hS hown (hts _ (List.mem_of_getElem? (i := 1) rfl)) (fun _ h9 => h9) dX0_missingPlaces_18 ?_
    refine lv_lload_n hx hb dX0_missingPlaces_21 rfl (lv_at hl 0 rfl) ?_
    refine pm_callI (va_runS (As := [.long x_5]) (rest := [.int fb]) ⟨hx, hb, hml, hown, hts⟩ (pm_X0_highestBit l x_5) (va_cwS 1 hts gX0_missingPlaces_X0_highestBit rfl rfl rfl hd_X0_highestBit ⟨Nat.le_of_ble_eq_true rfl, Nat.le_of_ble_eq_true rfl⟩) ⟨pm_fbT, fun U hU hW => ⟨rfl, trivial⟩⟩ rfl rfl hl.1 rfl (lv_room (Nat.le_of_ble_eq_true rfl)) dX0_missingPlaces_22 ⟨Nat.le_refl 0, Nat.le_refl 0⟩) hS (fun H locs _ _ hS => ?_)
    refine lv_isub hx hb dX0_missingPlaces_25 ?_
    refine lv_goto (tgt := 30) hx hb dX0_missingPlaces_26 (by decide) ?_
    rw [hZ]
    exact pm_iret (w := s_X0_missingPlaces fb le inf sb p0) hx hb hr hlocks hS (by subst ex_5; exact ((if_neg c_13)).symm) dX0_missingPlaces_30
theorem hdv_X0_significand : yX0_significand.cls = RX0 ∧ yX0_significand.cls ≠ "java/lang/invoke/MethodHandle" ∧ yX0_significand.cls ≠ "java/lang/invoke/VarHandle" ∧ (parseMethodDescriptor yX0_significand.desc).map (fun d => d.parameters.length) = some 1 := by decide +kernel
def s_X0_significand (fb le : Int32) (inf sb : Int64) (p0 : Int64) : Int64 :=
  if (lShl 1 fb) ≤ (s_X0_magnitude fb le inf sb p0) then ((s_X0_magnitude fb le inf sb p0) &&& ((lShl 1 fb) - 1)) ||| (lShl 1 fb)
  else lShl (s_X0_magnitude fb le inf sb p0) (s_X0_missingPlaces fb le inf sb p0)
set_option maxHeartbeats 4000000 in
set_option maxRecDepth 100000 in
theorem pm_X0_significand (l : Launch) (fb le : Int32) (inf sb : Int64) (q : Nat) (p0 : Int64) : PmL l yX0_significand wsX0_significand 2 47 [.ref q, .long p0] (fun U => KQ fb le inf sb q pv_N U U.heap) (s_X0_significand fb le inf sb p0) := by
  refine Met.ofW (cc := cX0_significand) (maxL := 7) (ret := (some .long)) (by decide) rfl ?_
  intro p e s m args below meth c s₁ B hml hv
  obtain ⟨rfl, hq⟩ := hv
  have hx := B.exec
  have hb := B.bytes
  have hr := B.returns
  have hts := atoms_spec (ws := wsX0_significand) B.pre
  have hown : s.vm.findClass RX0 = some m.cls := findClass_of_methodNamed B.named
  have hlocks := B.notSynchronized
  have hS : va_S pv_N s.heap s.heap [] := va_S.rf
  have hl := lv_entry ([.ref q, .long p0]) (n := 7) (Nat.le_of_ble_eq_true rfl)
  rw [lg_entry_eq]
  generalize (lg_sl ([.ref q, .long p0]) ++ List.replicate (7 - (lg_sl ([.ref q, .long p0])).length) Slot.unset).toArray = ls at hl ⊢
  have hl : lv_has ls 7 [(0, .ref q), (1, .long p0)] := hl
  obtain ⟨Z, hZ⟩ : ∃ z, z = MQ below (pm_QL (s_X0_significand fb le inf sb p0)) ([.ref q, .long p0] : List Value).toArray s 0 0 pv_N := ⟨_, rfl⟩
  rw [← hZ]
  obtain ⟨Y, hY⟩ : ∃ y, y = s_X0_significand fb le inf sb p0 := ⟨_, rfl⟩
  refine lv_lconst (v := 1) hx hb dX0_significand_0 (by decide) ?_
  refine lv_aload_n hx hb dX0_significand_1 rfl (lv_at hl 0 rfl) ?_
  refine vk_getf hx hb hq.2.1 hS hown (hts _ (List.mem_of_getElem? (i := 1) rfl)) (fun _ h9 => h9) dX0_significand_2 ?_
  refine lv_lshl (v := lShl 1 fb) hx hb dX0_significand_5 rfl ?_
  refine lv_topl (fun x_6 ex_6 => ?_)
  refine lv_lstore_n (lv' := [(3, .long x_6), (0, .ref q), (1, .long p0)]) hx hb dX0_significand_6 rfl hl (by decide) rfl (fun ls hl => ?_)
  refine lv_aload_n hx hb dX0_significand_7 rfl (lv_at hl 1 rfl) ?_
  refine lv_lload_n hx hb dX0_significand_8 rfl (lv_at hl 2 rfl) ?_
  refine pm_callL (va_runV (As := [.long p0]) (rest := []) ⟨hx, hb, hml, hown, hts⟩ (pm_X0_magnitude l fb le inf sb q p0) (cwV 1 hts gX0_significand_X0_magnitude rfl rfl rfl hdv_X0_magnitude ⟨Nat.le_of_ble_eq_true rfl, Nat.le_of_ble_eq_true rfl⟩) ⟨KQ.fb, va_Orecv hq.1 hS, fun U hU hW => ⟨rfl, (KQ.call hq hS U hU hW)⟩⟩ rfl rfl hl.1 rfl (lv_room (Nat.le_of_ble_eq_true rfl)) dX0_significand_9 ⟨Nat.le_refl 0, Nat.le_refl 0⟩) hS (fun H locs _ _ hS => ?_)
  refine lv_topl (fun x_12 ex_12 => ?_)
  refine lv_lstore (lv' := [(5, .long x_12), (3, .long x_6), (0, .ref q), (1, .long p0)]) hx hb dX0_significand_12 hl (by decide) rfl (fun ls hl => ?_)
  refine lv_lload hx hb dX0_significand_14 (lv_at hl 0 rfl) ?_
  refine lv_lload_n hx hb dX0_significand_16 rfl (lv_at hl 1 rfl) ?_
  refine lp_ge (tgt := 30) hx hb dX0_significand_17 dX0_significand_18 (by decide) (fun c_17 => ?_) (fun c_17 => ?_)
  ·
    refine lv_lload hx hb dX0_significand_30 (lv_at hl 0 rfl) ?_
    refine lv_lload_n hx hb dX0_significand_32 rfl (lv_at hl 1 rfl) ?_
    refine lv_lconst (v := 1) hx hb dX0_significand_33 (by decide) ?_
    refine lv_lsub hx hb dX0_significand_34 ?_
    refine lv_land hx hb dX0_significand_35 ?_
    refine lv_lload_n hx hb dX0_significand_36 rfl (lv_at hl 1 rfl) ?_
    refine lv_lor hx hb dX0_significand_37 ?_
    rw [hZ]
    exact pm_lret (w := s_X0_significand fb le inf sb p0) hx hb hr hlocks hS (by subst ex_12 ex_6; exact ((if_pos c_17)).symm) dX0_significand_38
  ·
    refine lv_lload hx hb dX0_significand_21 (lv_at hl 0 rfl) ?_
    refine lv_aload_n hx hb dX0_significand_23 rfl (lv_at hl 2 rfl) ?_
    refine lv_lload_n hx hb dX0_significand_24 rfl (lv_at hl 3 rfl) ?_
    refine pm_callI (va_runV (As := [.long p0]) (rest := [.long x_12]) ⟨hx, hb, hml, hown, hts⟩ (pm_X0_missingPlaces l fb le inf sb q p0) (cwV 1 hts gX0_significand_X0_missingPlaces rfl rfl rfl hdv_X0_missingPlaces ⟨Nat.le_of_ble_eq_true rfl, Nat.le_of_ble_eq_true rfl⟩) ⟨KQ.fb, va_Orecv hq.1 hS, fun U hU hW => ⟨rfl, (KQ.call hq hS U hU hW)⟩⟩ rfl rfl hl.1 rfl (lv_room (Nat.le_of_ble_eq_true rfl)) dX0_significand_25 ⟨Nat.le_refl 0, Nat.le_refl 0⟩) hS (fun H locs _ _ hS => ?_)
    refine lv_lshl (v := lShl x_12 (s_X0_missingPlaces fb le inf sb p0)) hx hb dX0_significand_28 rfl ?_
    rw [hZ]
    exact pm_lret (w := s_X0_significand fb le inf sb p0) hx hb hr hlocks hS (by subst ex_12 ex_6; exact ((if_neg c_17)).symm) dX0_significand_29
theorem hdv_X0_exponent : yX0_exponent.cls = RX0 ∧ yX0_exponent.cls ≠ "java/lang/invoke/MethodHandle" ∧ yX0_exponent.cls ≠ "java/lang/invoke/VarHandle" ∧ (parseMethodDescriptor yX0_exponent.desc).map (fun d => d.parameters.length) = some 1 := by decide +kernel
def s_X0_exponent (fb le : Int32) (inf sb : Int64) (p0 : Int64) : Int32 :=
  (le + (if (((lUshr (s_X0_magnitude fb le inf sb p0) fb).toInt32) - 1) < 0 then 0 else (((lUshr (s_X0_magnitude fb le inf sb p0) fb).toInt32) - 1))) - (s_X0_missingPlaces fb le inf sb p0)
set_option maxHeartbeats 4000000 in
set_option maxRecDepth 100000 in
theorem pm_X0_exponent (l : Launch) (fb le : Int32) (inf sb : Int64) (q : Nat) (p0 : Int64) : PmI l yX0_exponent wsX0_exponent 2 47 [.ref q, .long p0] (fun U => KQ fb le inf sb q pv_N U U.heap) (s_X0_exponent fb le inf sb p0) := by
  refine Met.ofW (cc := cX0_exponent) (maxL := 4) (ret := (some .int)) (by decide) rfl ?_
  intro p e s m args below meth c s₁ B hml hv
  obtain ⟨rfl, hq⟩ := hv
  have hx := B.exec
  have hb := B.bytes
  have hr := B.returns
  have hts := atoms_spec (ws := wsX0_exponent) B.pre
  have hown : s.vm.findClass RX0 = some m.cls := findClass_of_methodNamed B.named
  have hlocks := B.notSynchronized
  have hS : va_S pv_N s.heap s.heap [] := va_S.rf
  have hl := lv_entry ([.ref q, .long p0]) (n := 4) (Nat.le_of_ble_eq_true rfl)
  rw [lg_entry_eq]
  generalize (lg_sl ([.ref q, .long p0]) ++ List.replicate (4 - (lg_sl ([.ref q, .long p0])).length) Slot.unset).toArray = ls at hl ⊢
  have hl : lv_has ls 4 [(0, .ref q), (1, .long p0)] := hl
  obtain ⟨Z, hZ⟩ : ∃ z, z = MQ below (pm_QI (s_X0_exponent fb le inf sb p0)) ([.ref q, .long p0] : List Value).toArray s 0 0 pv_N := ⟨_, rfl⟩
  rw [← hZ]
  obtain ⟨Y, hY⟩ : ∃ y, y = s_X0_exponent fb le inf sb p0 := ⟨_, rfl⟩
  refine lv_aload_n hx hb dX0_exponent_0 rfl (lv_at hl 0 rfl) ?_
  refine lv_lload_n hx hb dX0_exponent_1 rfl (lv_at hl 1 rfl) ?_
  refine pm_callL (va_runV (As := [.long p0]) (rest := []) ⟨hx, hb, hml, hown, hts⟩ (pm_X0_magnitude l fb le inf sb q p0) (cwV 1 hts gX0_exponent_X0_magnitude rfl rfl rfl hdv_X0_magnitude ⟨Nat.le_of_ble_eq_true rfl, Nat.le_of_ble_eq_true rfl⟩) ⟨KQ.fb, va_Orecv hq.1 hS, fun U hU hW => ⟨rfl, (KQ.call hq hS U hU hW)⟩⟩ rfl rfl hl.1 rfl (lv_room (Nat.le_of_ble_eq_true rfl)) dX0_exponent_2 ⟨Nat.le_refl 0, Nat.le_refl 0⟩) hS (fun H locs _ _ hS => ?_)
  refine lv_aload_n hx hb dX0_exponent_5 rfl (lv_at hl 0 rfl) ?_
  refine vk_getf hx hb hq.2.1 hS hown (hts _ (List.mem_of_getElem? (i := 1) rfl)) (fun _ h9 => h9) dX0_exponent_6 ?_
  refine lv_lushr (v := lUshr (s_X0_magnitude fb le inf sb p0) fb) hx hb dX0_exponent_9 rfl ?_
  refine lv_l2i (v := (lUshr (s_X0_magnitude fb le inf sb p0) fb).toInt32) hx hb dX0_exponent_10 rfl ?_
  refine lv_topi (fun x_11 ex_11 => ?_)
  refine lv_istore_n (lv' := [(3, .int x_11), (0, .ref q), (1, .long p0)]) hx hb dX0_exponent_11 rfl hl (by decide) rfl (fun ls hl => ?_)
  refine lv_aload_n hx hb dX0_exponent_12 rfl (lv_at hl 1 rfl) ?_
  refine vk_getf hx hb hq.2.2.1 hS hown (hts _ (List.mem_of_getElem? (i := 2) rfl)) (fun _ h9 => h9) dX0_exponent_13 ?_
  refine lv_iload_n hx hb dX0_exponent_16 rfl (lv_at hl 0 rfl) ?_
  refine lv_iconst (v := 1) hx hb dX0_exponent_17 (by decide) ?_
  refine lv_isub hx hb dX0_exponent_18 ?_
  refine lv_iconst (v := 0) hx hb dX0_exponent_19 (by decide) ?_
  refine va_mmax hx hb (hml.trans hl.1.symm) hown (hts _ (List.mem_of_getElem? (i := 3) rfl)) (hts _ (List.mem_of_getElem? (i := 4) rfl)) (hts _ (List.mem_of_getElem? (i := 5) rfl)) (hts _ (List.mem_of_getElem? (i := 6) rfl)) (Nat.le_of_ble_eq_true rfl) (Nat.le_of_ble_eq_true rfl) (Nat.le_refl 0) (Nat.le_refl 0) dX0_exponent_20 ?_
  refine lv_iadd hx hb dX0_exponent_23 ?_
  refine lv_aload_n hx hb dX0_exponent_24 rfl (lv_at hl 1 rfl) ?_
  refine lv_lload_n hx hb dX0_exponent_25 rfl (lv_at hl 2 rfl) ?_
  refine pm_callI (va_runV (As := [.long p0]) (rest := [.int (le + (if (x_11 - 1) < 0 then 0 else (x_11 - 1)))]) ⟨hx, hb, hml, hown, hts⟩ (pm_X0_missingPlaces l fb le inf sb q p0) (cwV 1 hts gX0_exponent_X0_missingPlaces rfl rfl rfl hdv_X0_missingPlaces ⟨Nat.le_of_ble_eq_true rfl, Nat.le_of_ble_eq_true rfl⟩) ⟨KQ.fb, va_Orecv hq.1 hS, fun U hU hW => ⟨rfl, (KQ.call hq hS U hU hW)⟩⟩ rfl rfl hl.1 rfl (lv_room (Nat.le_of_ble_eq_true rfl)) dX0_exponent_26 ⟨Nat.le_refl 0, Nat.le_refl 0⟩) hS (fun H locs _ _ hS => ?_)
  refine lv_isub hx hb dX0_exponent_29 ?_
  rw [hZ]
  exact pm_iret (w := s_X0_exponent fb le inf sb p0) hx hb hr hlocks hS (by subst ex_11; exact rfl) dX0_exponent_30
theorem hdv_X0_pack : yX0_pack.cls = RX0 ∧ yX0_pack.cls ≠ "java/lang/invoke/MethodHandle" ∧ yX0_pack.cls ≠ "java/lang/invoke/VarHandle" ∧ (parseMethodDescriptor yX0_pack.desc).map (fun d => d.parameters.length) = some 3 := by decide +kernel
def s_X0_pack_j12 (fb le : Int32) (inf sb : Int64) (p0 : Int32) (p1 : Int32) (p2 : Int64) (z_12_0 : Int64) : Int64 :=
  if p2 = 0 then z_12_0
  else if (((if ((p1 + (s_X0_highestBit p2)) - fb) < le then le else ((p1 + (s_X0_highestBit p2)) - fb)) - le).toInt64) < ((lUshr inf fb) - 1) then z_12_0 ||| ((lShl (((if ((p1 + (s_X0_highestBit p2)) - fb) < le then le else ((p1 + (s_X0_highestBit p2)) - fb)) - le).toInt64) fb) + (s_X0_rounded p2 ((if ((p1 + (s_X0_highestBit p2)) - fb) < le then le else ((p1 + (s_X0_highestBit p2)) - fb)) - p1)))
  else z_12_0 ||| inf
def s_X0_pack (fb le : Int32) (inf sb : Int64) (p0 : Int32) (p1 : Int32) (p2 : Int64) : Int64 :=
  if p0 = 0 then s_X0_pack_j12 fb le inf sb p0 p1 p2 0
  else s_X0_pack_j12 fb le inf sb p0 p1 p2 sb
set_option maxHeartbeats 4000000 in
set_option maxRecDepth 100000 in
theorem pm_X0_pack (l : Launch) (fb le : Int32) (inf sb : Int64) (q : Nat) (p0 : Int32) (p1 : Int32) (p2 : Int64) : PmL l yX0_pack wsX0_pack 1 29 [.ref q, .int p0, .int p1, .long p2] (fun U => KQ fb le inf sb q pv_N U U.heap) (s_X0_pack fb le inf sb p0 p1 p2) := by
  refine Met.ofW (cc := cX0_pack) (maxL := 10) (ret := (some .long)) (by decide) rfl ?_
  intro p e s m args below meth c s₁ B hml hv
  obtain ⟨rfl, hq⟩ := hv
  have hx := B.exec
  have hb := B.bytes
  have hr := B.returns
  have hts := atoms_spec (ws := wsX0_pack) B.pre
  have hown : s.vm.findClass RX0 = some m.cls := findClass_of_methodNamed B.named
  have hlocks := B.notSynchronized
  have hS : va_S pv_N s.heap s.heap [] := va_S.rf
  have hl := lv_entry ([.ref q, .int p0, .int p1, .long p2]) (n := 10) (Nat.le_of_ble_eq_true rfl)
  rw [lg_entry_eq]
  generalize (lg_sl ([.ref q, .int p0, .int p1, .long p2]) ++ List.replicate (10 - (lg_sl ([.ref q, .int p0, .int p1, .long p2])).length) Slot.unset).toArray = ls at hl ⊢
  have hl : lv_has ls 10 [(0, .ref q), (1, .int p0), (2, .int p1), (3, .long p2)] := hl
  obtain ⟨Z, hZ⟩ : ∃ z, z = MQ below (pm_QL (s_X0_pack fb le inf sb p0 p1 p2)) ([.ref q, .int p0, .int p1, .long p2] : List Value).toArray s 0 0 pv_N := ⟨_, rfl⟩
  rw [← hZ]
  obtain ⟨Y, hY⟩ : ∃ y, y = s_X0_pack fb le inf sb p0 p1 p2 := ⟨_, rfl⟩
  refine lv_iload_n hx hb dX0_pack_0 rfl (lv_at hl 1 rfl) ?_
  have K_12 : ∀ (z_12_0 : Int64) (H : Heap) (locs : List Loc), va_S pv_N s.heap H locs → ∀ (ls : Array Slot), lv_has ls 10 [(0, .ref q), (2, .int p1), (3, .long p2)] → s_X0_pack fb le inf sb p0 p1 p2 = s_X0_pack_j12 fb le inf sb p0 p1 p2 z_12_0 → W p l e (pm_R 1 29) s m ([.ref q, .int p0, .int p1, .long p2] : List Value).toArray below meth c H locs 0 0 Z (F0 m 12 ls [.long z_12_0]) := by
    intro z_12_0 H locs hS ls hl hK_12
    refine lv_lstore (lv' := [(5, .long z_12_0), (0, .ref q), (2, .int p1), (3, .long p2)]) hx hb dX0_pack_12 hl (by decide) rfl (fun ls hl => ?_)
    refine lv_lload_n hx hb dX0_pack_14 rfl (lv_at hl 3 rfl) ?_
    refine lv_lconst (v := 0) hx hb dX0_pack_15 (by decide) ?_
    refine lp_ne (tgt := 23) hx hb dX0_pack_16 dX0_pack_17 (by decide) (fun c_16 => ?_) (fun c_16 => ?_)
    ·
      refine lv_iload_n hx hb dX0_pack_23 rfl (lv_at hl 2 rfl) ?_
      refine lv_lload_n hx hb dX0_pack_24 rfl (lv_at hl 3 rfl) ?_
      refine pm_callI (va_runS (As := [.long p2]) (rest := [.int p1]) ⟨hx, hb, hml, hown, hts⟩ (pm_X0_highestBit l p2) (va_cwS 1 hts gX0_pack_X0_highestBit rfl rfl rfl hd_X0_highestBit ⟨Nat.le_of_ble_eq_true rfl, Nat.le_of_ble_eq_true rfl⟩) ⟨pm_fbT, fun U hU hW => ⟨rfl, trivial⟩⟩ rfl rfl hl.1 rfl (lv_room (Nat.le_of_ble_eq_true rfl)) dX0_pack_25 ⟨Nat.le_refl 0, Nat.le_refl 0⟩) hS (fun H locs _ _ hS => ?_)
      refine lv_iadd hx hb dX0_pack_28 ?_
      refine lv_aload_n hx hb dX0_pack_29 rfl (lv_at hl 1 rfl) ?_
      refine vk_getf hx hb hq.2.1 hS hown (hts _ (List.mem_of_getElem? (i := 2) rfl)) (fun _ h9 => h9) dX0_pack_30 ?_
      refine lv_isub hx hb dX0_pack_33 ?_
      refine lv_aload_n hx hb dX0_pack_34 rfl (lv_at hl 1 rfl) ?_
      refine vk_getf hx hb hq.2.2.1 hS hown (hts _ (List.mem_of_getElem? (i := 3) rfl)) (fun _ h9 => h9) dX0_pack_35 ?_
      refine va_mmax hx hb (hml.trans hl.1.symm) hown (hts _ (List.mem_of_getElem? (i := 4) rfl)) (hts _ (List.mem_of_getElem? (i := 5) rfl)) (hts _ (List.mem_of_getElem? (i := 6) rfl)) (hts _ (List.mem_of_getElem? (i := 7) rfl)) (Nat.le_of_ble_eq_true rfl) (Nat.le_of_ble_eq_true rfl) (Nat.le_refl 0) (Nat.le_refl 0) dX0_pack_38 ?_
      refine lv_topi (fun x_41 ex_41 => ?_)
      refine lv_istore (lv' := [(7, .int x_41), (5, .long z_12_0), (0, .ref q), (2, .int p1), (3, .long p2)]) hx hb dX0_pack_41 hl (by decide) rfl (fun ls hl => ?_)
      refine lv_iload hx hb dX0_pack_43 (lv_at hl 0 rfl) ?_
      refine lv_aload_n hx hb dX0_pack_45 rfl (lv_at hl 2 rfl) ?_
      refine vk_getf hx hb hq.2.2.1 hS hown (hts _ (List.mem_of_getElem? (i := 3) rfl)) (fun _ h9 => h9) dX0_pack_46 ?_
      refine lv_isub hx hb dX0_pack_49 ?_
      refine lv_i2l (v := (x_41 - le).toInt64) hx hb dX0_pack_50 rfl ?_
      refine lv_topl (fun x_51 ex_51 => ?_)
      refine lv_lstore (lv' := [(8, .long x_51), (7, .int x_41), (5, .long z_12_0), (0, .ref q), (2, .int p1), (3, .long p2)]) hx hb dX0_pack_51 hl (by decide) rfl (fun ls hl => ?_)
      refine lv_lload hx hb dX0_pack_53 (lv_at hl 0 rfl) ?_
      refine lv_aload_n hx hb dX0_pack_55 rfl (lv_at hl 3 rfl) ?_
      refine vk_getf hx hb hq.2.2.2.1 hS hown (hts _ (List.mem_of_getElem? (i := 8) rfl)) (fun _ h9 => h9) dX0_pack_56 ?_
      refine lv_aload_n hx hb dX0_pack_59 rfl (lv_at hl 3 rfl) ?_
      refine vk_getf hx hb hq.2.1 hS hown (hts _ (List.mem_of_getElem? (i := 2) rfl)) (fun _ h9 => h9) dX0_pack_60 ?_
      refine lv_lushr (v := lUshr inf fb) hx hb dX0_pack_63 rfl ?_
      refine lv_lconst (v := 1) hx hb dX0_pack_64 (by decide) ?_
      refine lv_lsub hx hb dX0_pack_65 ?_
      refine lp_lt (tgt := 78) hx hb dX0_pack_66 dX0_pack_67 (by decide) (fun c_66 => ?_) (fun c_66 => ?_)
      ·
        refine lv_lload hx hb dX0_pack_78 (lv_at hl 2 rfl) ?_
        refine lv_lload hx hb dX0_pack_80 (lv_at hl 0 rfl) ?_
        refine lv_aload_n hx hb dX0_pack_82 rfl (lv_at hl 3 rfl) ?_
        refine vk_getf hx hb hq.2.1 hS hown (hts _ (List.mem_of_getElem? (i := 2) rfl)) (fun _ h9 => h9) dX0_pack_83 ?_
        refine lv_lshl (v := lShl x_51 fb) hx hb dX0_pack_86 rfl ?_
        refine lv_lload_n hx hb dX0_pack_87 rfl (lv_at hl 5 rfl) ?_
        refine lv_iload hx hb dX0_pack_88 (lv_at hl 1 rfl) ?_
        refine lv_iload_n hx hb dX0_pack_90 rfl (lv_at hl 4 rfl) ?_
        refine lv_isub hx hb dX0_pack_91 ?_
        refine pm_callL (va_runS (As := [.long p2, .int (x_41 - p1)]) (rest := [.long (lShl x_51 fb), .long z_12_0]) ⟨hx, hb, hml, hown, hts⟩ (pm_X0_rounded l p2 (x_41 - p1)) (va_cwS 2 hts gX0_pack_X0_rounded rfl rfl rfl hd_X0_rounded ⟨Nat.le_of_ble_eq_true rfl, Nat.le_of_ble_eq_true rfl⟩) ⟨pm_fbT, fun U hU hW => ⟨rfl, trivial⟩⟩ rfl rfl hl.1 rfl (lv_room (Nat.le_of_ble_eq_true rfl)) dX0_pack_92 ⟨Nat.le_refl 0, Nat.le_refl 0⟩) hS (fun H locs _ _ hS => ?_)
        refine lv_ladd hx hb dX0_pack_95 ?_
        refine lv_lor hx hb dX0_pack_96 ?_
        rw [hZ]
        exact pm_lret (w := s_X0_pack fb le inf sb p0 p1 p2) hx hb hr hlocks hS (by subst ex_51 ex_41; exact (hK_12.trans ((if_neg c_16).trans (if_pos c_66))).symm) dX0_pack_97
      ·
        refine lv_lload hx hb dX0_pack_70 (lv_at hl 2 rfl) ?_
        refine lv_aload_n hx hb dX0_pack_72 rfl (lv_at hl 3 rfl) ?_
        refine vk_getf hx hb hq.2.2.2.1 hS hown (hts _ (List.mem_of_getElem? (i := 8) rfl)) (fun _ h9 => h9) dX0_pack_73 ?_
        refine lv_lor hx hb dX0_pack_76 ?_
        rw [hZ]
        exact pm_lret (w := s_X0_pack fb le inf sb p0 p1 p2) hx hb hr hlocks hS (by subst ex_51 ex_41; exact (hK_12.trans ((if_neg c_16).trans (if_neg c_66))).symm) dX0_pack_77
    ·
      refine lv_lload hx hb dX0_pack_20 (lv_at hl 0 rfl) ?_
      rw [hZ]
      exact pm_lret (w := s_X0_pack fb le inf sb p0 p1 p2) hx hb hr hlocks hS (by exact (hK_12.trans (if_pos c_16)).symm) dX0_pack_22
  refine lv_if_eq (tgt := 11) hx hb dX0_pack_1 (by decide) (fun c_1 => ?_) (fun c_1 => ?_)
  ·
    refine lv_lconst (v := 0) hx hb dX0_pack_11 (by decide) ?_
    exact K_12 0 _ _ hS ls (lv_sub hl [0, 2, 3] rfl) ((if_pos c_1))
  ·
    refine lv_aload_n hx hb dX0_pack_4 rfl (lv_at hl 0 rfl) ?_
    refine vk_getf hx hb hq.2.2.2.2 hS hown (hts _ (List.mem_of_getElem? (i := 1) rfl)) (fun _ h9 => h9) dX0_pack_5 ?_
    refine lv_goto (tgt := 12) hx hb dX0_pack_8 (by decide) ?_
    exact K_12 sb _ _ hS ls (lv_sub hl [0, 2, 3] rfl) ((if_neg c_1))
