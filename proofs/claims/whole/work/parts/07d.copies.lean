/-! ===== the class over its cells: methods of own things, copies (laid by program) ===== -/
theorem hdv_X2_twice : yX2_twice.cls = RX2 ∧ yX2_twice.cls ≠ "java/lang/invoke/MethodHandle" ∧ yX2_twice.cls ≠ "java/lang/invoke/VarHandle" ∧ (parseMethodDescriptor yX2_twice.desc).map (fun d => d.parameters.length) = some 0 := by decide +kernel
def h_X2_twice (x : Nat) (S : HS) : Int32 :=
  2 * (if hsK S x = 2 then h_X2_size x S else (if hsK S x = 3 then h_X4_size x S else h_X5_size x S))
def ok_X2_twice (L : List Nat) (x : Nat) (S : HS) : Prop :=
  (x ∈ L ∧ (hsK S x = 2 ∨ hsK S x = 3 ∨ hsK S x = 4)) ∧ (((hsK S x = 2 → ok_X2_size L x S) ∧ (hsK S x = 3 → ok_X4_size L x S) ∧ (hsK S x = 4 → ok_X5_size L x S)) ∧ (True))
set_option maxHeartbeats 4000000 in
set_option maxRecDepth 100000 in
theorem hm_X2_twice (l : Launch) (G : GE) (L : List Nat) (S : HS) (x : Nat) (hok : ok_X2_twice L x S) : HmI l G yX2_twice wsX2_twice 1 20 [.ref x] L S ((h_X2_twice x S, S)) := by
  refine Met.ofW (cc := cX2_twice) (maxL := 1) (ret := (some .int)) (by decide) rfl ?_
  intro p e s m args below meth c s₁ B hml hv
  obtain ⟨rfl, hP, hK, hnd, hE⟩ := hv
  have hx := B.exec
  have hb := B.bytes
  have hr := B.returns
  have hts := atoms_spec (ws := wsX2_twice) B.pre
  have hown : s.vm.findClass RX2 = some m.cls := findClass_of_methodNamed B.named
  have hlocks := B.notSynchronized
  have hD := nd_D hnd
  have hS : va_S (AL L) s.heap s.heap [] := va_S.rf
  have hl := lv_entry ([.ref x]) (n := 1) (Nat.le_of_ble_eq_true rfl)
  rw [lg_entry_eq]
  generalize (lg_sl ([.ref x]) ++ List.replicate (1 - (lg_sl ([.ref x])).length) Slot.unset).toArray = ls at hl ⊢
  have hl : lv_has ls 1 [(0, .ref x)] := hl
  obtain ⟨Z, hZ⟩ : ∃ z, z = MQ below (hm_QI G L ((h_X2_twice x S, S))) ([.ref x] : List Value).toArray s 0 0 (AL L) := ⟨_, rfl⟩
  rw [← hZ]
  refine lv_iconst (v := 2) hx hb dX2_twice_0 (by decide) ?_
  refine lv_aload_n hx hb dX2_twice_1 rfl (lv_at hl 0 rfl) ?_
  obtain ⟨h_2k, hok⟩ := hok
  obtain ⟨h_2, hok⟩ := hok
  refine hm_callIr (G := G) (S1 := S) (a := ([.ref x] : List Value).toArray) (rest := [.int 2]) ((if hsK S x = 2 then h_X2_size x S else (if hsK S x = 3 then h_X4_size x S else h_X5_size x S))) ?_ hS (fun H locs hP hS => ?_)
  ·
    rcases h_2k.2 with h9 | h9 | h9
    ·
      rw [if_pos h9]
      exact va_runV (As := []) (rest := [.int 2]) ⟨hx, hb, hml, hown, hts⟩ (hm_X2_size l G L S x (h_2.1 h9)) (cwV 0 hts gX2_twice_X2_size rfl rfl rfl hdv_X2_size ⟨Nat.le_of_ble_eq_true rfl, Nat.le_of_ble_eq_true rfl⟩) ⟨HW.fb, hp_recv hK hP h_2k.1 (PF_2 h9) rfl, fun U hU hW => ⟨rfl, HW.call hP hK hnd hE hS U hU hW⟩⟩ rfl rfl hl.1 rfl (lv_room (Nat.le_of_ble_eq_true rfl)) dX2_twice_2 ⟨Nat.le_refl 0, Nat.le_refl 0⟩
    ·
      rw [if_neg (show ¬ hsK S x = 2 from by rw [h9]; decide), if_pos h9]
      exact va_runU (As := []) (rest := [.int 2]) ⟨hx, hb, hml, hown, hts⟩ (hm_X4_size l G L S x (h_2.2.1 h9)) (va_cwO (x := ⟨"ThrowModels$Plain", "size", "()I"⟩) 0 hts gX2_twice_X4_size_u13X4 rfl rfl rfl (List.mem_of_getElem? (i := 5) rfl) (by decide +kernel) ⟨Nat.le_of_ble_eq_true rfl, Nat.le_of_ble_eq_true rfl⟩) ⟨HW.fb, hp_recv hK hP h_2k.1 (PF_3 h9) rfl, fun U hU hW => ⟨rfl, HW.call hP hK hnd hE hS U hU hW⟩⟩ rfl rfl hl.1 rfl (lv_room (Nat.le_of_ble_eq_true rfl)) dX2_twice_2 ⟨Nat.le_refl 0, Nat.le_refl 0⟩
    ·
      rw [if_neg (show ¬ hsK S x = 2 from by rw [h9]; decide), if_neg (show ¬ hsK S x = 3 from by rw [h9]; decide)]
      exact va_runU (As := []) (rest := [.int 2]) ⟨hx, hb, hml, hown, hts⟩ (hm_X5_size l G L S x (h_2.2.2 h9)) (va_cwO (x := ⟨"ThrowModels$Plain", "size", "()I"⟩) 0 hts gX2_twice_X5_size_u13X5 rfl rfl rfl (List.mem_of_getElem? (i := 5) rfl) (by decide +kernel) ⟨Nat.le_of_ble_eq_true rfl, Nat.le_of_ble_eq_true rfl⟩) ⟨HW.fb, hp_recv hK hP h_2k.1 (PF_4 h9) rfl, fun U hU hW => ⟨rfl, HW.call hP hK hnd hE hS U hU hW⟩⟩ rfl rfl hl.1 rfl (lv_room (Nat.le_of_ble_eq_true rfl)) dX2_twice_2 ⟨Nat.le_refl 0, Nat.le_refl 0⟩
  ·
    refine lv_imul hx hb dX2_twice_5 ?_
    rw [hZ]
    exact hm_iret hx hb hr hlocks hS hP hK hnd hE (congrArg (fun z => (z, S)) (rfl)) dX2_twice_6
theorem hdv_X4_twice : yX4_twice.cls = RX4 ∧ yX4_twice.cls ≠ "java/lang/invoke/MethodHandle" ∧ yX4_twice.cls ≠ "java/lang/invoke/VarHandle" ∧ (parseMethodDescriptor yX4_twice.desc).map (fun d => d.parameters.length) = some 0 := by decide +kernel
def h_X4_twice (x : Nat) (S : HS) : Int32 :=
  (3 * (if hsK S x = 3 then h_X4_size x S else h_X5_size x S)) + 100
def ok_X4_twice (L : List Nat) (x : Nat) (S : HS) : Prop :=
  (x ∈ L ∧ (hsK S x = 3 ∨ hsK S x = 4)) ∧ (((hsK S x = 3 → ok_X4_size L x S) ∧ (hsK S x = 4 → ok_X5_size L x S)) ∧ (True))
set_option maxHeartbeats 4000000 in
set_option maxRecDepth 100000 in
theorem hm_X4_twice (l : Launch) (G : GE) (L : List Nat) (S : HS) (x : Nat) (hok : ok_X4_twice L x S) : HmI l G yX4_twice wsX4_twice 1 20 [.ref x] L S ((h_X4_twice x S, S)) := by
  refine Met.ofW (cc := cX4_twice) (maxL := 1) (ret := (some .int)) (by decide) rfl ?_
  intro p e s m args below meth c s₁ B hml hv
  obtain ⟨rfl, hP, hK, hnd, hE⟩ := hv
  have hx := B.exec
  have hb := B.bytes
  have hr := B.returns
  have hts := atoms_spec (ws := wsX4_twice) B.pre
  have hown : s.vm.findClass RX4 = some m.cls := findClass_of_methodNamed B.named
  have hlocks := B.notSynchronized
  have hD := nd_D hnd
  have hS : va_S (AL L) s.heap s.heap [] := va_S.rf
  have hl := lv_entry ([.ref x]) (n := 1) (Nat.le_of_ble_eq_true rfl)
  rw [lg_entry_eq]
  generalize (lg_sl ([.ref x]) ++ List.replicate (1 - (lg_sl ([.ref x])).length) Slot.unset).toArray = ls at hl ⊢
  have hl : lv_has ls 1 [(0, .ref x)] := hl
  obtain ⟨Z, hZ⟩ : ∃ z, z = MQ below (hm_QI G L ((h_X4_twice x S, S))) ([.ref x] : List Value).toArray s 0 0 (AL L) := ⟨_, rfl⟩
  rw [← hZ]
  refine lv_iconst (v := 3) hx hb dX4_twice_0 (by decide) ?_
  refine lv_aload_n hx hb dX4_twice_1 rfl (lv_at hl 0 rfl) ?_
  obtain ⟨h_2k, hok⟩ := hok
  obtain ⟨h_2, hok⟩ := hok
  refine hm_callIr (G := G) (S1 := S) (a := ([.ref x] : List Value).toArray) (rest := [.int 3]) ((if hsK S x = 3 then h_X4_size x S else h_X5_size x S)) ?_ hS (fun H locs hP hS => ?_)
  ·
    rcases h_2k.2 with h9 | h9
    ·
      rw [if_pos h9]
      exact va_runV (As := []) (rest := [.int 3]) ⟨hx, hb, hml, hown, hts⟩ (hm_X4_size l G L S x (h_2.1 h9)) (cwV 0 hts gX4_twice_X4_size rfl rfl rfl hdv_X4_size ⟨Nat.le_of_ble_eq_true rfl, Nat.le_of_ble_eq_true rfl⟩) ⟨HW.fb, hp_recv hK hP h_2k.1 (PF_3 h9) rfl, fun U hU hW => ⟨rfl, HW.call hP hK hnd hE hS U hU hW⟩⟩ rfl rfl hl.1 rfl (lv_room (Nat.le_of_ble_eq_true rfl)) dX4_twice_2 ⟨Nat.le_refl 0, Nat.le_refl 0⟩
    ·
      rw [if_neg (show ¬ hsK S x = 3 from by rw [h9]; decide)]
      exact va_runU (As := []) (rest := [.int 3]) ⟨hx, hb, hml, hown, hts⟩ (hm_X5_size l G L S x (h_2.2 h9)) (va_cwO (x := ⟨"ThrowModels$Round", "size", "()I"⟩) 0 hts gX4_twice_X5_size_u13X5 rfl rfl rfl (List.mem_of_getElem? (i := 5) rfl) (by decide +kernel) ⟨Nat.le_of_ble_eq_true rfl, Nat.le_of_ble_eq_true rfl⟩) ⟨HW.fb, hp_recv hK hP h_2k.1 (PF_4 h9) rfl, fun U hU hW => ⟨rfl, HW.call hP hK hnd hE hS U hU hW⟩⟩ rfl rfl hl.1 rfl (lv_room (Nat.le_of_ble_eq_true rfl)) dX4_twice_2 ⟨Nat.le_refl 0, Nat.le_refl 0⟩
  ·
    refine lv_imul hx hb dX4_twice_5 ?_
    refine lv_bipush (v := 100) hx hb dX4_twice_6 (by decide) ?_
    refine lv_iadd hx hb dX4_twice_8 ?_
    rw [hZ]
    exact hm_iret hx hb hr hlocks hS hP hK hnd hE (congrArg (fun z => (z, S)) (rfl)) dX4_twice_9
theorem hdv_X5_mark : yX5_mark.cls = RX5 ∧ yX5_mark.cls ≠ "java/lang/invoke/MethodHandle" ∧ yX5_mark.cls ≠ "java/lang/invoke/VarHandle" ∧ (parseMethodDescriptor yX5_mark.desc).map (fun d => d.parameters.length) = some 0 := by decide +kernel
def h_X5_mark (x : Nat) (S : HS) : Int32 :=
  10 * (h_X2_mark x S)
def ok_X5_mark (L : List Nat) (x : Nat) (S : HS) : Prop :=
  (x ∈ L ∧ (hsK S x = 2 ∨ hsK S x = 3 ∨ hsK S x = 4)) ∧ ((ok_X2_mark L x S) ∧ (True))
set_option maxHeartbeats 4000000 in
set_option maxRecDepth 100000 in
theorem hm_X5_mark (l : Launch) (G : GE) (L : List Nat) (S : HS) (x : Nat) (hok : ok_X5_mark L x S) : HmI l G yX5_mark wsX5_mark 1 20 [.ref x] L S ((h_X5_mark x S, S)) := by
  refine Met.ofW (cc := cX5_mark) (maxL := 1) (ret := (some .int)) (by decide) rfl ?_
  intro p e s m args below meth c s₁ B hml hv
  obtain ⟨rfl, hP, hK, hnd, hE⟩ := hv
  have hx := B.exec
  have hb := B.bytes
  have hr := B.returns
  have hts := atoms_spec (ws := wsX5_mark) B.pre
  have hown : s.vm.findClass RX5 = some m.cls := findClass_of_methodNamed B.named
  have hlocks := B.notSynchronized
  have hD := nd_D hnd
  have hS : va_S (AL L) s.heap s.heap [] := va_S.rf
  have hl := lv_entry ([.ref x]) (n := 1) (Nat.le_of_ble_eq_true rfl)
  rw [lg_entry_eq]
  generalize (lg_sl ([.ref x]) ++ List.replicate (1 - (lg_sl ([.ref x])).length) Slot.unset).toArray = ls at hl ⊢
  have hl : lv_has ls 1 [(0, .ref x)] := hl
  obtain ⟨Z, hZ⟩ : ∃ z, z = MQ below (hm_QI G L ((h_X5_mark x S, S))) ([.ref x] : List Value).toArray s 0 0 (AL L) := ⟨_, rfl⟩
  rw [← hZ]
  refine lv_bipush (v := 10) hx hb dX5_mark_0 (by decide) ?_
  refine lv_aload_n hx hb dX5_mark_2 rfl (lv_at hl 0 rfl) ?_
  obtain ⟨h_3k, hok⟩ := hok
  obtain ⟨h_3, hok⟩ := hok
  refine hm_callIr (G := G) (S1 := S) (a := ([.ref x] : List Value).toArray) (rest := [.int 10]) (h_X2_mark x S) ?_ hS (fun H locs hP hS => ?_)
  ·
    rcases h_3k.2 with h9 | h9 | h9
    ·
      exact mk_runSU (rest := [.int 10]) hE.2.2.2.2.2.2.2 hx hb hml hown ⟨_, _, (hK.1 2 _ rfl).2.1, (hK.1 2 _ rfl).2.2.choose_spec.1⟩ (hm_X2_mark l G L S x h_3) rfl rfl ⟨Nat.le_of_ble_eq_true rfl, Nat.le_of_ble_eq_true rfl⟩ ⟨HW.fb, hp_recv hK hP h_3k.1 (PF_2 h9) rfl, fun U hU hW => ⟨rfl, HW.call hP hK hnd hE hS U hU hW⟩⟩ rfl hl.1 rfl (lv_room (Nat.le_of_ble_eq_true rfl)) dX5_mark_3 ⟨Nat.le_refl 0, Nat.le_refl 0⟩
    ·
      exact mk_runSU (rest := [.int 10]) hE.2.2.2.2.2.2.2 hx hb hml hown ⟨_, _, (hK.1 3 _ rfl).2.1, (hK.1 3 _ rfl).2.2.choose_spec.1⟩ (hm_X2_mark l G L S x h_3) rfl rfl ⟨Nat.le_of_ble_eq_true rfl, Nat.le_of_ble_eq_true rfl⟩ ⟨HW.fb, hp_recv hK hP h_3k.1 (PF_3 h9) rfl, fun U hU hW => ⟨rfl, HW.call hP hK hnd hE hS U hU hW⟩⟩ rfl hl.1 rfl (lv_room (Nat.le_of_ble_eq_true rfl)) dX5_mark_3 ⟨Nat.le_refl 0, Nat.le_refl 0⟩
    ·
      exact mk_runSU (rest := [.int 10]) hE.2.2.2.2.2.2.2 hx hb hml hown ⟨_, _, (hK.1 4 _ rfl).2.1, (hK.1 4 _ rfl).2.2.choose_spec.1⟩ (hm_X2_mark l G L S x h_3) rfl rfl ⟨Nat.le_of_ble_eq_true rfl, Nat.le_of_ble_eq_true rfl⟩ ⟨HW.fb, hp_recv hK hP h_3k.1 (PF_4 h9) rfl, fun U hU hW => ⟨rfl, HW.call hP hK hnd hE hS U hU hW⟩⟩ rfl hl.1 rfl (lv_room (Nat.le_of_ble_eq_true rfl)) dX5_mark_3 ⟨Nat.le_refl 0, Nat.le_refl 0⟩
  ·
    refine lv_imul hx hb dX5_mark_6 ?_
    rw [hZ]
    exact hm_iret hx hb hr hlocks hS hP hK hnd hE (congrArg (fun z => (z, S)) (rfl)) dX5_mark_7
theorem hdv_X4_step : yX4_step.cls = RX4 ∧ yX4_step.cls ≠ "java/lang/invoke/MethodHandle" ∧ yX4_step.cls ≠ "java/lang/invoke/VarHandle" ∧ (parseMethodDescriptor yX4_step.desc).map (fun d => d.parameters.length) = some 0 := by decide +kernel
def h_X4_step (x : Nat) (S : HS) : Int32 :=
  (h_X2_step x S) + 20
def ok_X4_step (L : List Nat) (x : Nat) (S : HS) : Prop :=
  (x ∈ L ∧ (hsK S x = 2 ∨ hsK S x = 3 ∨ hsK S x = 4)) ∧ ((ok_X2_step L x S) ∧ (True))
set_option maxHeartbeats 4000000 in
set_option maxRecDepth 100000 in
theorem hm_X4_step (l : Launch) (G : GE) (L : List Nat) (S : HS) (x : Nat) (hok : ok_X4_step L x S) : HmI l G yX4_step wsX4_step 1 20 [.ref x] L S ((h_X4_step x S, S)) := by
  refine Met.ofW (cc := cX4_step) (maxL := 1) (ret := (some .int)) (by decide) rfl ?_
  intro p e s m args below meth c s₁ B hml hv
  obtain ⟨rfl, hP, hK, hnd, hE⟩ := hv
  have hx := B.exec
  have hb := B.bytes
  have hr := B.returns
  have hts := atoms_spec (ws := wsX4_step) B.pre
  have hown : s.vm.findClass RX4 = some m.cls := findClass_of_methodNamed B.named
  have hlocks := B.notSynchronized
  have hD := nd_D hnd
  have hS : va_S (AL L) s.heap s.heap [] := va_S.rf
  have hl := lv_entry ([.ref x]) (n := 1) (Nat.le_of_ble_eq_true rfl)
  rw [lg_entry_eq]
  generalize (lg_sl ([.ref x]) ++ List.replicate (1 - (lg_sl ([.ref x])).length) Slot.unset).toArray = ls at hl ⊢
  have hl : lv_has ls 1 [(0, .ref x)] := hl
  obtain ⟨Z, hZ⟩ : ∃ z, z = MQ below (hm_QI G L ((h_X4_step x S, S))) ([.ref x] : List Value).toArray s 0 0 (AL L) := ⟨_, rfl⟩
  rw [← hZ]
  refine lv_aload_n hx hb dX4_step_0 rfl (lv_at hl 0 rfl) ?_
  obtain ⟨h_1k, hok⟩ := hok
  obtain ⟨h_1, hok⟩ := hok
  refine hm_callIr (G := G) (S1 := S) (a := ([.ref x] : List Value).toArray) (rest := []) (h_X2_step x S) ?_ hS (fun H locs hP hS => ?_)
  ·
    rcases h_1k.2 with h9 | h9 | h9
    ·
      exact va_runSU (hK.1 2 _ rfl).2 (As := []) (rest := []) ⟨hx, hb, hml, hown, hts⟩ (hm_X2_step l G L S x h_1) (va_cwSU 0 hts gX4_step_X2_step_s17 rfl rfl rfl (by decide +kernel) ⟨Nat.le_of_ble_eq_true rfl, Nat.le_of_ble_eq_true rfl⟩) ⟨HW.fb, hp_recv hK hP h_1k.1 (PF_2 h9) rfl, fun U hU hW => ⟨rfl, HW.call hP hK hnd hE hS U hU hW⟩⟩ rfl rfl hl.1 rfl (lv_room (Nat.le_of_ble_eq_true rfl)) dX4_step_1 ⟨Nat.le_refl 0, Nat.le_refl 0⟩
    ·
      exact va_runSU (hK.1 3 _ rfl).2 (As := []) (rest := []) ⟨hx, hb, hml, hown, hts⟩ (hm_X2_step l G L S x h_1) (va_cwSU 0 hts gX4_step_X2_step_s17 rfl rfl rfl (by decide +kernel) ⟨Nat.le_of_ble_eq_true rfl, Nat.le_of_ble_eq_true rfl⟩) ⟨HW.fb, hp_recv hK hP h_1k.1 (PF_3 h9) rfl, fun U hU hW => ⟨rfl, HW.call hP hK hnd hE hS U hU hW⟩⟩ rfl rfl hl.1 rfl (lv_room (Nat.le_of_ble_eq_true rfl)) dX4_step_1 ⟨Nat.le_refl 0, Nat.le_refl 0⟩
    ·
      exact va_runSU (hK.1 4 _ rfl).2 (As := []) (rest := []) ⟨hx, hb, hml, hown, hts⟩ (hm_X2_step l G L S x h_1) (va_cwSU 0 hts gX4_step_X2_step_s17 rfl rfl rfl (by decide +kernel) ⟨Nat.le_of_ble_eq_true rfl, Nat.le_of_ble_eq_true rfl⟩) ⟨HW.fb, hp_recv hK hP h_1k.1 (PF_4 h9) rfl, fun U hU hW => ⟨rfl, HW.call hP hK hnd hE hS U hU hW⟩⟩ rfl rfl hl.1 rfl (lv_room (Nat.le_of_ble_eq_true rfl)) dX4_step_1 ⟨Nat.le_refl 0, Nat.le_refl 0⟩
  ·
    refine lv_bipush (v := 20) hx hb dX4_step_4 (by decide) ?_
    refine lv_iadd hx hb dX4_step_6 ?_
    rw [hZ]
    exact hm_iret hx hb hr hlocks hS hP hK hnd hE (congrArg (fun z => (z, S)) (rfl)) dX4_step_7
theorem hdv_X5_step : yX5_step.cls = RX5 ∧ yX5_step.cls ≠ "java/lang/invoke/MethodHandle" ∧ yX5_step.cls ≠ "java/lang/invoke/VarHandle" ∧ (parseMethodDescriptor yX5_step.desc).map (fun d => d.parameters.length) = some 0 := by decide +kernel
def h_X5_step (x : Nat) (S : HS) : Int32 :=
  (h_X4_step x S) + 3
def ok_X5_step (L : List Nat) (x : Nat) (S : HS) : Prop :=
  (x ∈ L ∧ (hsK S x = 2 ∨ hsK S x = 3 ∨ hsK S x = 4)) ∧ ((ok_X4_step L x S) ∧ (True))
set_option maxHeartbeats 4000000 in
set_option maxRecDepth 100000 in
theorem hm_X5_step (l : Launch) (G : GE) (L : List Nat) (S : HS) (x : Nat) (hok : ok_X5_step L x S) : HmI l G yX5_step wsX5_step 2 40 [.ref x] L S ((h_X5_step x S, S)) := by
  refine Met.ofW (cc := cX5_step) (maxL := 1) (ret := (some .int)) (by decide) rfl ?_
  intro p e s m args below meth c s₁ B hml hv
  obtain ⟨rfl, hP, hK, hnd, hE⟩ := hv
  have hx := B.exec
  have hb := B.bytes
  have hr := B.returns
  have hts := atoms_spec (ws := wsX5_step) B.pre
  have hown : s.vm.findClass RX5 = some m.cls := findClass_of_methodNamed B.named
  have hlocks := B.notSynchronized
  have hD := nd_D hnd
  have hS : va_S (AL L) s.heap s.heap [] := va_S.rf
  have hl := lv_entry ([.ref x]) (n := 1) (Nat.le_of_ble_eq_true rfl)
  rw [lg_entry_eq]
  generalize (lg_sl ([.ref x]) ++ List.replicate (1 - (lg_sl ([.ref x])).length) Slot.unset).toArray = ls at hl ⊢
  have hl : lv_has ls 1 [(0, .ref x)] := hl
  obtain ⟨Z, hZ⟩ : ∃ z, z = MQ below (hm_QI G L ((h_X5_step x S, S))) ([.ref x] : List Value).toArray s 0 0 (AL L) := ⟨_, rfl⟩
  rw [← hZ]
  refine lv_aload_n hx hb dX5_step_0 rfl (lv_at hl 0 rfl) ?_
  obtain ⟨h_1k, hok⟩ := hok
  obtain ⟨h_1, hok⟩ := hok
  refine hm_callIr (G := G) (S1 := S) (a := ([.ref x] : List Value).toArray) (rest := []) (h_X4_step x S) ?_ hS (fun H locs hP hS => ?_)
  ·
    rcases h_1k.2 with h9 | h9 | h9
    ·
      exact va_runSU (hK.1 2 _ rfl).2 (As := []) (rest := []) ⟨hx, hb, hml, hown, hts⟩ (hm_X4_step l G L S x h_1) (va_cwSU 0 hts gX5_step_X4_step_s19 rfl rfl rfl (by decide +kernel) ⟨Nat.le_of_ble_eq_true rfl, Nat.le_of_ble_eq_true rfl⟩) ⟨HW.fb, hp_recv hK hP h_1k.1 (PF_2 h9) rfl, fun U hU hW => ⟨rfl, HW.call hP hK hnd hE hS U hU hW⟩⟩ rfl rfl hl.1 rfl (lv_room (Nat.le_of_ble_eq_true rfl)) dX5_step_1 ⟨Nat.le_refl 0, Nat.le_refl 0⟩
    ·
      exact va_runSU (hK.1 3 _ rfl).2 (As := []) (rest := []) ⟨hx, hb, hml, hown, hts⟩ (hm_X4_step l G L S x h_1) (va_cwSU 0 hts gX5_step_X4_step_s19 rfl rfl rfl (by decide +kernel) ⟨Nat.le_of_ble_eq_true rfl, Nat.le_of_ble_eq_true rfl⟩) ⟨HW.fb, hp_recv hK hP h_1k.1 (PF_3 h9) rfl, fun U hU hW => ⟨rfl, HW.call hP hK hnd hE hS U hU hW⟩⟩ rfl rfl hl.1 rfl (lv_room (Nat.le_of_ble_eq_true rfl)) dX5_step_1 ⟨Nat.le_refl 0, Nat.le_refl 0⟩
    ·
      exact va_runSU (hK.1 4 _ rfl).2 (As := []) (rest := []) ⟨hx, hb, hml, hown, hts⟩ (hm_X4_step l G L S x h_1) (va_cwSU 0 hts gX5_step_X4_step_s19 rfl rfl rfl (by decide +kernel) ⟨Nat.le_of_ble_eq_true rfl, Nat.le_of_ble_eq_true rfl⟩) ⟨HW.fb, hp_recv hK hP h_1k.1 (PF_4 h9) rfl, fun U hU hW => ⟨rfl, HW.call hP hK hnd hE hS U hU hW⟩⟩ rfl rfl hl.1 rfl (lv_room (Nat.le_of_ble_eq_true rfl)) dX5_step_1 ⟨Nat.le_refl 0, Nat.le_refl 0⟩
  ·
    refine lv_iconst (v := 3) hx hb dX5_step_4 (by decide) ?_
    refine lv_iadd hx hb dX5_step_5 ?_
    rw [hZ]
    exact hm_iret hx hb hr hlocks hS hP hK hnd hE (congrArg (fun z => (z, S)) (rfl)) dX5_step_6
theorem hd_X8_callAnswer : yX8_callAnswer.cls ≠ "java/lang/invoke/MethodHandle" ∧ yX8_callAnswer.cls ≠ "java/lang/invoke/VarHandle" ∧ (parseMethodDescriptor yX8_callAnswer.desc).map (fun d => d.parameters.length) = some 2 := by decide +kernel
theorem iw_X8_callAnswer_X2 : ∀ w ∈ u_ws RX2 TX2 3, w ∈ wsX8_callAnswer := by decide +kernel
theorem iw_X8_callAnswer_X4 : ∀ w ∈ u_ws RX4 TX4 3, w ∈ wsX8_callAnswer := by decide +kernel
theorem iw_X8_callAnswer_X5 : ∀ w ∈ u_ws RX5 TX5 3, w ∈ wsX8_callAnswer := by decide +kernel
def h_X8_callAnswer (p0 : Nat) (p1 : Int32) (S : HS) : Int32 :=
  if p1 = 1 then (if hsK S p0 = 2 then h_X2_twice p0 S else (if hsK S p0 = 3 then h_X4_twice p0 S else h_X4_twice p0 S))
  else if p1 = 2 then (if hsK S p0 = 2 then h_X2_mark p0 S else (if hsK S p0 = 3 then h_X2_mark p0 S else h_X5_mark p0 S))
   else if p1 = 3 then (if hsK S p0 = 2 then h_X2_step p0 S else (if hsK S p0 = 3 then h_X4_step p0 S else h_X5_step p0 S))
    else if p1 = 4 then (if hsK S p0 = 2 then h_X2_size p0 S else (if hsK S p0 = 3 then h_X4_size p0 S else h_X5_size p0 S)) - (if hsK S p0 = 2 then h_X2_size p0 S else (if hsK S p0 = 3 then h_X4_size p0 S else h_X5_size p0 S)) / 5 * 5
     else if p1 = 5 then (if hsK S p0 = 2 then h_X2_size p0 S else (if hsK S p0 = 3 then h_X4_size p0 S else h_X5_size p0 S))
      else if p1 = 6 then if (hsI S p0 2) = 0 then 0
        else 1000 / (hsI S p0 2)
       else (if hsK S p0 = 2 then h_X2_size p0 S else (if hsK S p0 = 3 then h_X4_size p0 S else h_X5_size p0 S))
def ok_X8_callAnswer (L : List Nat) (p0 : Nat) (p1 : Int32) (S : HS) : Prop :=
  ((p1 = 1) → ((p0 ∈ L ∧ (hsK S p0 = 2 ∨ hsK S p0 = 3 ∨ hsK S p0 = 4)) ∧ (((hsK S p0 = 2 → ok_X2_twice L p0 S) ∧ (hsK S p0 = 3 → ok_X4_twice L p0 S) ∧ (hsK S p0 = 4 → ok_X4_twice L p0 S)) ∧ (True)))) ∧
  (¬ (p1 = 1) → (((p1 = 2) → ((p0 ∈ L ∧ (hsK S p0 = 2 ∨ hsK S p0 = 3 ∨ hsK S p0 = 4)) ∧ (((hsK S p0 = 2 → ok_X2_mark L p0 S) ∧ (hsK S p0 = 3 → ok_X2_mark L p0 S) ∧ (hsK S p0 = 4 → ok_X5_mark L p0 S)) ∧ (True)))) ∧
   (¬ (p1 = 2) → (((p1 = 3) → ((p0 ∈ L ∧ (hsK S p0 = 2 ∨ hsK S p0 = 3 ∨ hsK S p0 = 4)) ∧ (((hsK S p0 = 2 → ok_X2_step L p0 S) ∧ (hsK S p0 = 3 → ok_X4_step L p0 S) ∧ (hsK S p0 = 4 → ok_X5_step L p0 S)) ∧ (True)))) ∧
    (¬ (p1 = 3) → (((p1 = 4) → ((p0 ∈ L ∧ (hsK S p0 = 2 ∨ hsK S p0 = 3 ∨ hsK S p0 = 4)) ∧ (((hsK S p0 = 2 → ok_X2_size L p0 S) ∧ (hsK S p0 = 3 → ok_X4_size L p0 S) ∧ (hsK S p0 = 4 → ok_X5_size L p0 S)) ∧ (True)))) ∧
     (¬ (p1 = 4) → (((p1 = 5) → ((p0 ∈ L ∧ (hsK S p0 = 2 ∨ hsK S p0 = 3 ∨ hsK S p0 = 4)) ∧ (((hsK S p0 = 2 → ok_X2_size L p0 S) ∧ (hsK S p0 = 3 → ok_X4_size L p0 S) ∧ (hsK S p0 = 4 → ok_X5_size L p0 S)) ∧ (True)))) ∧
      (¬ (p1 = 5) → (((p1 = 6) → ((p0 ∈ L ∧ 2 ≤ hsK S p0 ∧ hsK S p0 ≤ 4) ∧ ((((hsI S p0 2) = 0) → (True)) ∧
        (¬ ((hsI S p0 2) = 0) → ((p0 ∈ L ∧ 2 ≤ hsK S p0 ∧ hsK S p0 ≤ 4) ∧ ((¬ (hsI S p0 2) = 0) ∧ (True))))))) ∧
       (¬ (p1 = 6) → ((p0 ∈ L ∧ (hsK S p0 = 2 ∨ hsK S p0 = 3 ∨ hsK S p0 = 4)) ∧ (((hsK S p0 = 2 → ok_X2_size L p0 S) ∧ (hsK S p0 = 3 → ok_X4_size L p0 S) ∧ (hsK S p0 = 4 → ok_X5_size L p0 S)) ∧ (True))))))))))))))
set_option maxHeartbeats 4000000 in
set_option maxRecDepth 100000 in
theorem hm_X8_callAnswer (l : Launch) (G : GE) (L : List Nat) (S : HS) (p0 : Nat) (p1 : Int32) (hok : ok_X8_callAnswer L p0 p1 S) : HmI l G yX8_callAnswer wsX8_callAnswer 3 60 [.ref p0, .int p1] L S ((h_X8_callAnswer p0 p1 S, S)) := by
  refine Met.ofW (cc := cX8_callAnswer) (maxL := 2) (ret := (some .int)) (by decide) rfl ?_
  intro p e s m args below meth c s₁ B hml hv
  obtain ⟨rfl, hP, hK, hnd, hE⟩ := hv
  have hx := B.exec
  have hb := B.bytes
  have hr := B.returns
  have hts := atoms_spec (ws := wsX8_callAnswer) B.pre
  have hown : s.vm.findClass RX8 = some m.cls := findClass_of_methodNamed B.named
  have hlocks := B.notSynchronized
  have hD := nd_D hnd
  have hS : va_S (AL L) s.heap s.heap [] := va_S.rf
  have hl := lv_entry ([.ref p0, .int p1]) (n := 2) (Nat.le_of_ble_eq_true rfl)
  rw [lg_entry_eq]
  generalize (lg_sl ([.ref p0, .int p1]) ++ List.replicate (2 - (lg_sl ([.ref p0, .int p1])).length) Slot.unset).toArray = ls at hl ⊢
  have hl : lv_has ls 2 [(0, .ref p0), (1, .int p1)] := hl
  obtain ⟨Z, hZ⟩ : ∃ z, z = MQ below (hm_QI G L ((h_X8_callAnswer p0 p1 S, S))) ([.ref p0, .int p1] : List Value).toArray s 0 0 (AL L) := ⟨_, rfl⟩
  rw [← hZ]
  refine lv_iload_n hx hb dX8_callAnswer_0 rfl (lv_at hl 1 rfl) ?_
  by_cases c_1_1 : p1 = 1
  ·
    have hok := (hok).1 c_1_1
    refine lv_tableIn (off := 39) (tgt := 40) hx hb dX8_callAnswer_1 (by rw [c_1_1]; decide) (by rw [c_1_1]; decide) (by rw [c_1_1]; decide) (by decide) ?_
    refine lv_aload_n hx hb dX8_callAnswer_40 rfl (lv_at hl 0 rfl) ?_
    obtain ⟨h_41k, hok⟩ := hok
    obtain ⟨h_41, hok⟩ := hok
    refine hm_callIr (G := G) (S1 := S) (a := ([.ref p0] : List Value).toArray) (rest := []) ((if hsK S p0 = 2 then h_X2_twice p0 S else (if hsK S p0 = 3 then h_X4_twice p0 S else h_X4_twice p0 S))) ?_ hS (fun H locs hP hS => ?_)
    ·
      rcases h_41k.2 with h9 | h9 | h9
      ·
        rw [if_pos h9]
        exact va_runV (As := []) (rest := []) ⟨hx, hb, hml, hown, hts⟩ (hm_X2_twice l G L S p0 (h_41.1 h9)) (cwV 0 hts gX8_callAnswer_X2_twice rfl rfl rfl hdv_X2_twice ⟨Nat.le_of_ble_eq_true rfl, Nat.le_of_ble_eq_true rfl⟩) ⟨HW.fb, hp_recv hK hP h_41k.1 (PF_2 h9) rfl, fun U hU hW => ⟨rfl, HW.call hP hK hnd hE hS U hU hW⟩⟩ rfl rfl hl.1 rfl (lv_room (Nat.le_of_ble_eq_true rfl)) dX8_callAnswer_41 ⟨Nat.le_refl 0, Nat.le_refl 0⟩
      ·
        rw [if_neg (show ¬ hsK S p0 = 2 from by rw [h9]; decide), if_pos h9]
        exact va_runU (As := []) (rest := []) ⟨hx, hb, hml, hown, hts⟩ (hm_X4_twice l G L S p0 (h_41.2.1 h9)) (va_cwO (x := ⟨"ThrowModels$Plain", "twice", "()I"⟩) 0 hts gX8_callAnswer_X4_twice_u257X4 rfl rfl rfl (List.mem_of_getElem? (i := 6) rfl) (by decide +kernel) ⟨Nat.le_of_ble_eq_true rfl, Nat.le_of_ble_eq_true rfl⟩) ⟨HW.fb, hp_recv hK hP h_41k.1 (PF_3 h9) rfl, fun U hU hW => ⟨rfl, HW.call hP hK hnd hE hS U hU hW⟩⟩ rfl rfl hl.1 rfl (lv_room (Nat.le_of_ble_eq_true rfl)) dX8_callAnswer_41 ⟨Nat.le_refl 0, Nat.le_refl 0⟩
      ·
        rw [if_neg (show ¬ hsK S p0 = 2 from by rw [h9]; decide), if_neg (show ¬ hsK S p0 = 3 from by rw [h9]; decide)]
        exact va_runU (As := []) (rest := []) ⟨hx, hb, hml, hown, hts⟩ (hm_X4_twice l G L S p0 (h_41.2.2 h9)) (va_cwO (x := ⟨"ThrowModels$Plain", "twice", "()I"⟩) 0 hts gX8_callAnswer_X4_twice_u257X5 rfl rfl rfl (List.mem_of_getElem? (i := 6) rfl) (by decide +kernel) ⟨Nat.le_of_ble_eq_true rfl, Nat.le_of_ble_eq_true rfl⟩) ⟨HW.fb, hp_recv hK hP h_41k.1 (PF_4 h9) rfl, fun U hU hW => ⟨rfl, HW.call hP hK hnd hE hS U hU hW⟩⟩ rfl rfl hl.1 rfl (lv_room (Nat.le_of_ble_eq_true rfl)) dX8_callAnswer_41 ⟨Nat.le_refl 0, Nat.le_refl 0⟩
    ·
      rw [hZ]
      exact hm_iret hx hb hr hlocks hS hP hK hnd hE (congrArg (fun z => (z, S)) ((if_pos c_1_1))) dX8_callAnswer_44
  ·
    have hok := (hok).2 c_1_1
    by_cases c_1_2 : p1 = 2
    ·
      have hok := (hok).1 c_1_2
      refine lv_tableIn (off := 44) (tgt := 45) hx hb dX8_callAnswer_1 (by rw [c_1_2]; decide) (by rw [c_1_2]; decide) (by rw [c_1_2]; decide) (by decide) ?_
      refine lv_aload_n hx hb dX8_callAnswer_45 rfl (lv_at hl 0 rfl) ?_
      obtain ⟨h_46k, hok⟩ := hok
      obtain ⟨h_46, hok⟩ := hok
      refine hm_callIr (G := G) (S1 := S) (a := ([.ref p0] : List Value).toArray) (rest := []) ((if hsK S p0 = 2 then h_X2_mark p0 S else (if hsK S p0 = 3 then h_X2_mark p0 S else h_X5_mark p0 S))) ?_ hS (fun H locs hP hS => ?_)
      ·
        rcases h_46k.2 with h9 | h9 | h9
        ·
          rw [if_pos h9]
          exact va_runV (As := []) (rest := []) ⟨hx, hb, hml, hown, hts⟩ (hm_X2_mark l G L S p0 (h_46.1 h9)) (cwV 0 hts gX8_callAnswer_X2_mark rfl rfl rfl hdv_X2_mark ⟨Nat.le_of_ble_eq_true rfl, Nat.le_of_ble_eq_true rfl⟩) ⟨HW.fb, hp_recv hK hP h_46k.1 (PF_2 h9) rfl, fun U hU hW => ⟨rfl, HW.call hP hK hnd hE hS U hU hW⟩⟩ rfl rfl hl.1 rfl (lv_room (Nat.le_of_ble_eq_true rfl)) dX8_callAnswer_46 ⟨Nat.le_refl 0, Nat.le_refl 0⟩
        ·
          rw [if_neg (show ¬ hsK S p0 = 2 from by rw [h9]; decide), if_pos h9]
          exact va_runU (As := []) (rest := []) ⟨hx, hb, hml, hown, hts⟩ (hm_X2_mark l G L S p0 (h_46.2.1 h9)) (va_cwU (x := ⟨"ThrowModels$Plain", "mark", "()I"⟩) 0 hts gX8_callAnswer_X2_mark_u260X4 rfl rfl rfl rfl (by decide +kernel) ⟨Nat.le_of_ble_eq_true rfl, Nat.le_of_ble_eq_true rfl⟩) ⟨HW.fb, hp_recv hK hP h_46k.1 (PF_3 h9) rfl, fun U hU hW => ⟨rfl, HW.call hP hK hnd hE hS U hU hW⟩⟩ rfl rfl hl.1 rfl (lv_room (Nat.le_of_ble_eq_true rfl)) dX8_callAnswer_46 ⟨Nat.le_refl 0, Nat.le_refl 0⟩
        ·
          rw [if_neg (show ¬ hsK S p0 = 2 from by rw [h9]; decide), if_neg (show ¬ hsK S p0 = 3 from by rw [h9]; decide)]
          exact va_runU (As := []) (rest := []) ⟨hx, hb, hml, hown, hts⟩ (hm_X5_mark l G L S p0 (h_46.2.2 h9)) (va_cwO (x := ⟨"ThrowModels$Plain", "mark", "()I"⟩) 0 hts gX8_callAnswer_X5_mark_u260X5 rfl rfl rfl (List.mem_of_getElem? (i := 43) rfl) (by decide +kernel) ⟨Nat.le_of_ble_eq_true rfl, Nat.le_of_ble_eq_true rfl⟩) ⟨HW.fb, hp_recv hK hP h_46k.1 (PF_4 h9) rfl, fun U hU hW => ⟨rfl, HW.call hP hK hnd hE hS U hU hW⟩⟩ rfl rfl hl.1 rfl (lv_room (Nat.le_of_ble_eq_true rfl)) dX8_callAnswer_46 ⟨Nat.le_refl 0, Nat.le_refl 0⟩
      ·
        rw [hZ]
        exact hm_iret hx hb hr hlocks hS hP hK hnd hE (congrArg (fun z => (z, S)) (((if_neg c_1_1).trans (if_pos c_1_2)))) dX8_callAnswer_49
    ·
      have hok := (hok).2 c_1_2
      by_cases c_1_3 : p1 = 3
      ·
        have hok := (hok).1 c_1_3
        refine lv_tableIn (off := 49) (tgt := 50) hx hb dX8_callAnswer_1 (by rw [c_1_3]; decide) (by rw [c_1_3]; decide) (by rw [c_1_3]; decide) (by decide) ?_
        refine lv_aload_n hx hb dX8_callAnswer_50 rfl (lv_at hl 0 rfl) ?_
        obtain ⟨h_51k, hok⟩ := hok
        obtain ⟨h_51, hok⟩ := hok
        refine hm_callIr (G := G) (S1 := S) (a := ([.ref p0] : List Value).toArray) (rest := []) ((if hsK S p0 = 2 then h_X2_step p0 S else (if hsK S p0 = 3 then h_X4_step p0 S else h_X5_step p0 S))) ?_ hS (fun H locs hP hS => ?_)
        ·
          rcases h_51k.2 with h9 | h9 | h9
          ·
            rw [if_pos h9]
            exact va_runV (As := []) (rest := []) ⟨hx, hb, hml, hown, hts⟩ (hm_X2_step l G L S p0 (h_51.1 h9)) (cwV 0 hts gX8_callAnswer_X2_step rfl rfl rfl hdv_X2_step ⟨Nat.le_of_ble_eq_true rfl, Nat.le_of_ble_eq_true rfl⟩) ⟨HW.fb, hp_recv hK hP h_51k.1 (PF_2 h9) rfl, fun U hU hW => ⟨rfl, HW.call hP hK hnd hE hS U hU hW⟩⟩ rfl rfl hl.1 rfl (lv_room (Nat.le_of_ble_eq_true rfl)) dX8_callAnswer_51 ⟨Nat.le_refl 0, Nat.le_refl 0⟩
          ·
            rw [if_neg (show ¬ hsK S p0 = 2 from by rw [h9]; decide), if_pos h9]
            exact va_runU (As := []) (rest := []) ⟨hx, hb, hml, hown, hts⟩ (hm_X4_step l G L S p0 (h_51.2.1 h9)) (va_cwO (x := ⟨"ThrowModels$Plain", "step", "()I"⟩) 0 hts gX8_callAnswer_X4_step_u263X4 rfl rfl rfl (List.mem_of_getElem? (i := 54) rfl) (by decide +kernel) ⟨Nat.le_of_ble_eq_true rfl, Nat.le_of_ble_eq_true rfl⟩) ⟨HW.fb, hp_recv hK hP h_51k.1 (PF_3 h9) rfl, fun U hU hW => ⟨rfl, HW.call hP hK hnd hE hS U hU hW⟩⟩ rfl rfl hl.1 rfl (lv_room (Nat.le_of_ble_eq_true rfl)) dX8_callAnswer_51 ⟨Nat.le_refl 0, Nat.le_refl 0⟩
          ·
            rw [if_neg (show ¬ hsK S p0 = 2 from by rw [h9]; decide), if_neg (show ¬ hsK S p0 = 3 from by rw [h9]; decide)]
            exact va_runU (As := []) (rest := []) ⟨hx, hb, hml, hown, hts⟩ (hm_X5_step l G L S p0 (h_51.2.2 h9)) (va_cwO (x := ⟨"ThrowModels$Plain", "step", "()I"⟩) 0 hts gX8_callAnswer_X5_step_u263X5 rfl rfl rfl (List.mem_of_getElem? (i := 54) rfl) (by decide +kernel) ⟨Nat.le_of_ble_eq_true rfl, Nat.le_of_ble_eq_true rfl⟩) ⟨HW.fb, hp_recv hK hP h_51k.1 (PF_4 h9) rfl, fun U hU hW => ⟨rfl, HW.call hP hK hnd hE hS U hU hW⟩⟩ rfl rfl hl.1 rfl (lv_room (Nat.le_of_ble_eq_true rfl)) dX8_callAnswer_51 ⟨Nat.le_refl 0, Nat.le_refl 0⟩
        ·
          rw [hZ]
          exact hm_iret hx hb hr hlocks hS hP hK hnd hE (congrArg (fun z => (z, S)) (((if_neg c_1_1).trans ((if_neg c_1_2).trans (if_pos c_1_3))))) dX8_callAnswer_54
      ·
        have hok := (hok).2 c_1_3
        by_cases c_1_4 : p1 = 4
        ·
          have hok := (hok).1 c_1_4
          refine lv_tableIn (off := 54) (tgt := 55) hx hb dX8_callAnswer_1 (by rw [c_1_4]; decide) (by rw [c_1_4]; decide) (by rw [c_1_4]; decide) (by decide) ?_
          refine lv_aload_n hx hb dX8_callAnswer_55 rfl (lv_at hl 0 rfl) ?_
          obtain ⟨h_56k, hok⟩ := hok
          obtain ⟨h_56, hok⟩ := hok
          refine hm_callIr (G := G) (S1 := S) (a := ([.ref p0] : List Value).toArray) (rest := []) ((if hsK S p0 = 2 then h_X2_size p0 S else (if hsK S p0 = 3 then h_X4_size p0 S else h_X5_size p0 S))) ?_ hS (fun H locs hP hS => ?_)
          ·
            rcases h_56k.2 with h9 | h9 | h9
            ·
              rw [if_pos h9]
              exact va_runV (As := []) (rest := []) ⟨hx, hb, hml, hown, hts⟩ (hm_X2_size l G L S p0 (h_56.1 h9)) (cwV 0 hts gX8_callAnswer_X2_size rfl rfl rfl hdv_X2_size ⟨Nat.le_of_ble_eq_true rfl, Nat.le_of_ble_eq_true rfl⟩) ⟨HW.fb, hp_recv hK hP h_56k.1 (PF_2 h9) rfl, fun U hU hW => ⟨rfl, HW.call hP hK hnd hE hS U hU hW⟩⟩ rfl rfl hl.1 rfl (lv_room (Nat.le_of_ble_eq_true rfl)) dX8_callAnswer_56 ⟨Nat.le_refl 0, Nat.le_refl 0⟩
            ·
              rw [if_neg (show ¬ hsK S p0 = 2 from by rw [h9]; decide), if_pos h9]
              exact va_runU (As := []) (rest := []) ⟨hx, hb, hml, hown, hts⟩ (hm_X4_size l G L S p0 (h_56.2.1 h9)) (va_cwO (x := ⟨"ThrowModels$Plain", "size", "()I"⟩) 0 hts gX8_callAnswer_X4_size_u229X4 rfl rfl rfl (List.mem_of_getElem? (i := 10) rfl) (by decide +kernel) ⟨Nat.le_of_ble_eq_true rfl, Nat.le_of_ble_eq_true rfl⟩) ⟨HW.fb, hp_recv hK hP h_56k.1 (PF_3 h9) rfl, fun U hU hW => ⟨rfl, HW.call hP hK hnd hE hS U hU hW⟩⟩ rfl rfl hl.1 rfl (lv_room (Nat.le_of_ble_eq_true rfl)) dX8_callAnswer_56 ⟨Nat.le_refl 0, Nat.le_refl 0⟩
            ·
              rw [if_neg (show ¬ hsK S p0 = 2 from by rw [h9]; decide), if_neg (show ¬ hsK S p0 = 3 from by rw [h9]; decide)]
              exact va_runU (As := []) (rest := []) ⟨hx, hb, hml, hown, hts⟩ (hm_X5_size l G L S p0 (h_56.2.2 h9)) (va_cwO (x := ⟨"ThrowModels$Plain", "size", "()I"⟩) 0 hts gX8_callAnswer_X5_size_u229X5 rfl rfl rfl (List.mem_of_getElem? (i := 10) rfl) (by decide +kernel) ⟨Nat.le_of_ble_eq_true rfl, Nat.le_of_ble_eq_true rfl⟩) ⟨HW.fb, hp_recv hK hP h_56k.1 (PF_4 h9) rfl, fun U hU hW => ⟨rfl, HW.call hP hK hnd hE hS U hU hW⟩⟩ rfl rfl hl.1 rfl (lv_room (Nat.le_of_ble_eq_true rfl)) dX8_callAnswer_56 ⟨Nat.le_refl 0, Nat.le_refl 0⟩
          ·
            refine lv_iconst (v := 5) hx hb dX8_callAnswer_59 (by decide) ?_
            refine lv_irem hx hb dX8_callAnswer_60 (by decide) ?_
            rw [hZ]
            exact hm_iret hx hb hr hlocks hS hP hK hnd hE (congrArg (fun z => (z, S)) (((if_neg c_1_1).trans ((if_neg c_1_2).trans ((if_neg c_1_3).trans (if_pos c_1_4)))))) dX8_callAnswer_61
        ·
          have hok := (hok).2 c_1_4
          by_cases c_1_5 : p1 = 5
          ·
            have hok := (hok).1 c_1_5
            refine lv_tableIn (off := 81) (tgt := 82) hx hb dX8_callAnswer_1 (by rw [c_1_5]; decide) (by rw [c_1_5]; decide) (by rw [c_1_5]; decide) (by decide) ?_
            refine lv_aload_n hx hb dX8_callAnswer_82 rfl (lv_at hl 0 rfl) ?_
            obtain ⟨h_83k, hok⟩ := hok
            obtain ⟨h_83, hok⟩ := hok
            refine hm_callIr (G := G) (S1 := S) (a := ([.ref p0] : List Value).toArray) (rest := []) ((if hsK S p0 = 2 then h_X2_size p0 S else (if hsK S p0 = 3 then h_X4_size p0 S else h_X5_size p0 S))) ?_ hS (fun H locs hP hS => ?_)
            ·
              rcases h_83k.2 with h9 | h9 | h9
              ·
                rw [if_pos h9]
                exact va_runV (As := []) (rest := []) ⟨hx, hb, hml, hown, hts⟩ (hm_X2_size l G L S p0 (h_83.1 h9)) (cwV 0 hts gX8_callAnswer_X2_size rfl rfl rfl hdv_X2_size ⟨Nat.le_of_ble_eq_true rfl, Nat.le_of_ble_eq_true rfl⟩) ⟨HW.fb, hp_recv hK hP h_83k.1 (PF_2 h9) rfl, fun U hU hW => ⟨rfl, HW.call hP hK hnd hE hS U hU hW⟩⟩ rfl rfl hl.1 rfl (lv_room (Nat.le_of_ble_eq_true rfl)) dX8_callAnswer_83 ⟨Nat.le_refl 0, Nat.le_refl 0⟩
              ·
                rw [if_neg (show ¬ hsK S p0 = 2 from by rw [h9]; decide), if_pos h9]
                exact va_runU (As := []) (rest := []) ⟨hx, hb, hml, hown, hts⟩ (hm_X4_size l G L S p0 (h_83.2.1 h9)) (va_cwO (x := ⟨"ThrowModels$Plain", "size", "()I"⟩) 0 hts gX8_callAnswer_X4_size_u229X4 rfl rfl rfl (List.mem_of_getElem? (i := 10) rfl) (by decide +kernel) ⟨Nat.le_of_ble_eq_true rfl, Nat.le_of_ble_eq_true rfl⟩) ⟨HW.fb, hp_recv hK hP h_83k.1 (PF_3 h9) rfl, fun U hU hW => ⟨rfl, HW.call hP hK hnd hE hS U hU hW⟩⟩ rfl rfl hl.1 rfl (lv_room (Nat.le_of_ble_eq_true rfl)) dX8_callAnswer_83 ⟨Nat.le_refl 0, Nat.le_refl 0⟩
              ·
                rw [if_neg (show ¬ hsK S p0 = 2 from by rw [h9]; decide), if_neg (show ¬ hsK S p0 = 3 from by rw [h9]; decide)]
                exact va_runU (As := []) (rest := []) ⟨hx, hb, hml, hown, hts⟩ (hm_X5_size l G L S p0 (h_83.2.2 h9)) (va_cwO (x := ⟨"ThrowModels$Plain", "size", "()I"⟩) 0 hts gX8_callAnswer_X5_size_u229X5 rfl rfl rfl (List.mem_of_getElem? (i := 10) rfl) (by decide +kernel) ⟨Nat.le_of_ble_eq_true rfl, Nat.le_of_ble_eq_true rfl⟩) ⟨HW.fb, hp_recv hK hP h_83k.1 (PF_4 h9) rfl, fun U hU hW => ⟨rfl, HW.call hP hK hnd hE hS U hU hW⟩⟩ rfl rfl hl.1 rfl (lv_room (Nat.le_of_ble_eq_true rfl)) dX8_callAnswer_83 ⟨Nat.le_refl 0, Nat.le_refl 0⟩
            ·
              rw [hZ]
              exact hm_iret hx hb hr hlocks hS hP hK hnd hE (congrArg (fun z => (z, S)) (((if_neg c_1_1).trans ((if_neg c_1_2).trans ((if_neg c_1_3).trans ((if_neg c_1_4).trans (if_pos c_1_5))))))) dX8_callAnswer_86
          ·
            have hok := (hok).2 c_1_5
            by_cases c_1_6 : p1 = 6
            ·
              have hok := (hok).1 c_1_6
              refine lv_tableIn (off := 61) (tgt := 62) hx hb dX8_callAnswer_1 (by rw [c_1_6]; decide) (by rw [c_1_6]; decide) (by rw [c_1_6]; decide) (by decide) ?_
              refine lv_aload_n hx hb dX8_callAnswer_62 rfl (lv_at hl 0 rfl) ?_
              obtain ⟨h_63, hok⟩ := hok
              refine hp_value hx hb hts iw_X8_callAnswer_X2 iw_X8_callAnswer_X4 iw_X8_callAnswer_X5 hown hK hP h_63 (hts _ (List.mem_of_getElem? (i := 1) rfl)) (fun _ h9 => h9) dX8_callAnswer_63 ?_
              refine lv_if_ne (tgt := 73) hx hb dX8_callAnswer_66 (by decide) (fun c_66 => ?_) (fun c_66 => ?_)
              ·
                have hok := (hok).2 c_66
                refine lv_sipush (v := 1000) hx hb dX8_callAnswer_73 (by decide) ?_
                refine lv_aload_n hx hb dX8_callAnswer_76 rfl (lv_at hl 0 rfl) ?_
                obtain ⟨h_77, hok⟩ := hok
                refine hp_value hx hb hts iw_X8_callAnswer_X2 iw_X8_callAnswer_X4 iw_X8_callAnswer_X5 hown hK hP h_77 (hts _ (List.mem_of_getElem? (i := 1) rfl)) (fun _ h9 => h9) dX8_callAnswer_77 ?_
                obtain ⟨h_80, hok⟩ := hok
                refine lv_idiv hx hb dX8_callAnswer_80 (h_80) ?_
                rw [hZ]
                exact hm_iret hx hb hr hlocks hS hP hK hnd hE (congrArg (fun z => (z, S)) (((if_neg c_1_1).trans ((if_neg c_1_2).trans ((if_neg c_1_3).trans ((if_neg c_1_4).trans ((if_neg c_1_5).trans ((if_pos c_1_6).trans (if_neg c_66))))))))) dX8_callAnswer_81
              ·
                have hok := (hok).1 c_66
                refine lv_iconst (v := 0) hx hb dX8_callAnswer_69 (by decide) ?_
                refine lv_goto (tgt := 81) hx hb dX8_callAnswer_70 (by decide) ?_
                rw [hZ]
                exact hm_iret hx hb hr hlocks hS hP hK hnd hE (congrArg (fun z => (z, S)) (((if_neg c_1_1).trans ((if_neg c_1_2).trans ((if_neg c_1_3).trans ((if_neg c_1_4).trans ((if_neg c_1_5).trans ((if_pos c_1_6).trans (if_pos c_66))))))))) dX8_callAnswer_81
            ·
              have hok := (hok).2 c_1_6
              have nc_1_1 : (p1).toInt ≠ 1 := fun h => c_1_1 (Int32.toInt.inj (h.trans (by decide)))
              have nc_1_2 : (p1).toInt ≠ 2 := fun h => c_1_2 (Int32.toInt.inj (h.trans (by decide)))
              have nc_1_3 : (p1).toInt ≠ 3 := fun h => c_1_3 (Int32.toInt.inj (h.trans (by decide)))
              have nc_1_4 : (p1).toInt ≠ 4 := fun h => c_1_4 (Int32.toInt.inj (h.trans (by decide)))
              have nc_1_5 : (p1).toInt ≠ 5 := fun h => c_1_5 (Int32.toInt.inj (h.trans (by decide)))
              have nc_1_6 : (p1).toInt ≠ 6 := fun h => c_1_6 (Int32.toInt.inj (h.trans (by decide)))
              refine lv_tableOut (tgt := 82) hx hb dX8_callAnswer_1 (by omega) (by decide) ?_
              refine lv_aload_n hx hb dX8_callAnswer_82 rfl (lv_at hl 0 rfl) ?_
              obtain ⟨h_83k, hok⟩ := hok
              obtain ⟨h_83, hok⟩ := hok
              refine hm_callIr (G := G) (S1 := S) (a := ([.ref p0] : List Value).toArray) (rest := []) ((if hsK S p0 = 2 then h_X2_size p0 S else (if hsK S p0 = 3 then h_X4_size p0 S else h_X5_size p0 S))) ?_ hS (fun H locs hP hS => ?_)
              ·
                rcases h_83k.2 with h9 | h9 | h9
                ·
                  rw [if_pos h9]
                  exact va_runV (As := []) (rest := []) ⟨hx, hb, hml, hown, hts⟩ (hm_X2_size l G L S p0 (h_83.1 h9)) (cwV 0 hts gX8_callAnswer_X2_size rfl rfl rfl hdv_X2_size ⟨Nat.le_of_ble_eq_true rfl, Nat.le_of_ble_eq_true rfl⟩) ⟨HW.fb, hp_recv hK hP h_83k.1 (PF_2 h9) rfl, fun U hU hW => ⟨rfl, HW.call hP hK hnd hE hS U hU hW⟩⟩ rfl rfl hl.1 rfl (lv_room (Nat.le_of_ble_eq_true rfl)) dX8_callAnswer_83 ⟨Nat.le_refl 0, Nat.le_refl 0⟩
                ·
                  rw [if_neg (show ¬ hsK S p0 = 2 from by rw [h9]; decide), if_pos h9]
                  exact va_runU (As := []) (rest := []) ⟨hx, hb, hml, hown, hts⟩ (hm_X4_size l G L S p0 (h_83.2.1 h9)) (va_cwO (x := ⟨"ThrowModels$Plain", "size", "()I"⟩) 0 hts gX8_callAnswer_X4_size_u229X4 rfl rfl rfl (List.mem_of_getElem? (i := 10) rfl) (by decide +kernel) ⟨Nat.le_of_ble_eq_true rfl, Nat.le_of_ble_eq_true rfl⟩) ⟨HW.fb, hp_recv hK hP h_83k.1 (PF_3 h9) rfl, fun U hU hW => ⟨rfl, HW.call hP hK hnd hE hS U hU hW⟩⟩ rfl rfl hl.1 rfl (lv_room (Nat.le_of_ble_eq_true rfl)) dX8_callAnswer_83 ⟨Nat.le_refl 0, Nat.le_refl 0⟩
                ·
                  rw [if_neg (show ¬ hsK S p0 = 2 from by rw [h9]; decide), if_neg (show ¬ hsK S p0 = 3 from by rw [h9]; decide)]
                  exact va_runU (As := []) (rest := []) ⟨hx, hb, hml, hown, hts⟩ (hm_X5_size l G L S p0 (h_83.2.2 h9)) (va_cwO (x := ⟨"ThrowModels$Plain", "size", "()I"⟩) 0 hts gX8_callAnswer_X5_size_u229X5 rfl rfl rfl (List.mem_of_getElem? (i := 10) rfl) (by decide +kernel) ⟨Nat.le_of_ble_eq_true rfl, Nat.le_of_ble_eq_true rfl⟩) ⟨HW.fb, hp_recv hK hP h_83k.1 (PF_4 h9) rfl, fun U hU hW => ⟨rfl, HW.call hP hK hnd hE hS U hU hW⟩⟩ rfl rfl hl.1 rfl (lv_room (Nat.le_of_ble_eq_true rfl)) dX8_callAnswer_83 ⟨Nat.le_refl 0, Nat.le_refl 0⟩
              ·
                rw [hZ]
                exact hm_iret hx hb hr hlocks hS hP hK hnd hE (congrArg (fun z => (z, S)) (((if_neg c_1_1).trans ((if_neg c_1_2).trans ((if_neg c_1_3).trans ((if_neg c_1_4).trans ((if_neg c_1_5).trans (if_neg c_1_6)))))))) dX8_callAnswer_86
theorem hd_X8_shiftThings : yX8_shiftThings.cls ≠ "java/lang/invoke/MethodHandle" ∧ yX8_shiftThings.cls ≠ "java/lang/invoke/VarHandle" ∧ (parseMethodDescriptor yX8_shiftThings.desc).map (fun d => d.parameters.length) = some 4 := by decide +kernel
theorem iw_X8_shiftThings_X7 : ∀ w ∈ u_ws RX7 TX7 3, w ∈ wsX8_shiftThings := by decide +kernel
def h_X8_shiftThings_l3 (p0 : Nat) (p1 : Int32) (p2 : Int32) (p3 : Int32) (S : HS) : Nat → Int32 → HS → HS
  | 0, _, _ => S
  | n + 1, y_3_4, S_3 =>
  if p3 ≤ y_3_4 then S_3
  else if p2 ≤ p1 then oq (hsR S_3 ((hsQ S_3 p0 2).getD 0) (p1 + y_3_4).toNatClampNeg) (h_X8_shiftThings_l3 p0 p1 p2 p3 S n (y_3_4 + 1) (hwR S_3 ((hsQ S_3 p0 2).getD 0) (p2 + y_3_4).toNatClampNeg none))
    (fun (a_43 : Nat) => h_X8_shiftThings_l3 p0 p1 p2 p3 S n (y_3_4 + 1) (hwR S_3 ((hsQ S_3 p0 2).getD 0) (p2 + y_3_4).toNatClampNeg (some a_43)))
   else oq (hsR S_3 ((hsQ S_3 p0 2).getD 0) (p1 + ((p3 - 1) - y_3_4)).toNatClampNeg) (h_X8_shiftThings_l3 p0 p1 p2 p3 S n (y_3_4 + 1) (hwR S_3 ((hsQ S_3 p0 2).getD 0) (p2 + ((p3 - 1) - y_3_4)).toNatClampNeg none))
    (fun (a_43 : Nat) => h_X8_shiftThings_l3 p0 p1 p2 p3 S n (y_3_4 + 1) (hwR S_3 ((hsQ S_3 p0 2).getD 0) (p2 + ((p3 - 1) - y_3_4)).toNatClampNeg (some a_43)))
def ok_X8_shiftThings_l3 (L : List Nat) (p0 : Nat) (p1 : Int32) (p2 : Int32) (p3 : Int32) (S : HS) : Nat → Int32 → HS → Prop
  | 0, _, _ => False
  | n + 1, y_3_4, S_3 =>
  ((p3 ≤ y_3_4) → (True)) ∧
  (¬ (p3 ≤ y_3_4) → (((p2 ≤ p1) → ((p0 ∈ L ∧ hsK S_3 p0 = 5 ∧ hsQ S_3 p0 2 ≠ none) ∧ ((p0 ∈ L ∧ hsK S_3 p0 = 5 ∧ hsQ S_3 p0 2 ≠ none) ∧ ((((hsQ S_3 p0 2).getD 0) ∈ L ∧ hsK S_3 ((hsQ S_3 p0 2).getD 0) = 10 ∧ vp_in (p1 + y_3_4) (hsN S_3 ((hsQ S_3 p0 2).getD 0))) ∧ (((hsR S_3 ((hsQ S_3 p0 2).getD 0) (p1 + y_3_4).toNatClampNeg) = none → ((((hsQ S_3 p0 2).getD 0) ∈ L ∧ hsK S_3 ((hsQ S_3 p0 2).getD 0) = 10 ∧ vp_in (p2 + y_3_4) (hsN S_3 ((hsQ S_3 p0 2).getD 0))) ∧ (ok_X8_shiftThings_l3 L p0 p1 p2 p3 S n (y_3_4 + 1) (hwR S_3 ((hsQ S_3 p0 2).getD 0) (p2 + y_3_4).toNatClampNeg none)))) ∧
    (∀ a_43 : Nat, (hsR S_3 ((hsQ S_3 p0 2).getD 0) (p1 + y_3_4).toNatClampNeg) = some a_43 → (((((hsQ S_3 p0 2).getD 0) ∈ L ∧ hsK S_3 ((hsQ S_3 p0 2).getD 0) = 10 ∧ vp_in (p2 + y_3_4) (hsN S_3 ((hsQ S_3 p0 2).getD 0))) ∧ a_43 ∈ L ∧ 1 ≤ hsK S_3 a_43 ∧ hsK S_3 a_43 ≤ 5) ∧ (ok_X8_shiftThings_l3 L p0 p1 p2 p3 S n (y_3_4 + 1) (hwR S_3 ((hsQ S_3 p0 2).getD 0) (p2 + y_3_4).toNatClampNeg (some a_43)))))))))) ∧
   (¬ (p2 ≤ p1) → ((p0 ∈ L ∧ hsK S_3 p0 = 5 ∧ hsQ S_3 p0 2 ≠ none) ∧ ((p0 ∈ L ∧ hsK S_3 p0 = 5 ∧ hsQ S_3 p0 2 ≠ none) ∧ ((((hsQ S_3 p0 2).getD 0) ∈ L ∧ hsK S_3 ((hsQ S_3 p0 2).getD 0) = 10 ∧ vp_in (p1 + ((p3 - 1) - y_3_4)) (hsN S_3 ((hsQ S_3 p0 2).getD 0))) ∧ (((hsR S_3 ((hsQ S_3 p0 2).getD 0) (p1 + ((p3 - 1) - y_3_4)).toNatClampNeg) = none → ((((hsQ S_3 p0 2).getD 0) ∈ L ∧ hsK S_3 ((hsQ S_3 p0 2).getD 0) = 10 ∧ vp_in (p2 + ((p3 - 1) - y_3_4)) (hsN S_3 ((hsQ S_3 p0 2).getD 0))) ∧ (ok_X8_shiftThings_l3 L p0 p1 p2 p3 S n (y_3_4 + 1) (hwR S_3 ((hsQ S_3 p0 2).getD 0) (p2 + ((p3 - 1) - y_3_4)).toNatClampNeg none)))) ∧
    (∀ a_43 : Nat, (hsR S_3 ((hsQ S_3 p0 2).getD 0) (p1 + ((p3 - 1) - y_3_4)).toNatClampNeg) = some a_43 → (((((hsQ S_3 p0 2).getD 0) ∈ L ∧ hsK S_3 ((hsQ S_3 p0 2).getD 0) = 10 ∧ vp_in (p2 + ((p3 - 1) - y_3_4)) (hsN S_3 ((hsQ S_3 p0 2).getD 0))) ∧ a_43 ∈ L ∧ 1 ≤ hsK S_3 a_43 ∧ hsK S_3 a_43 ≤ 5) ∧ (ok_X8_shiftThings_l3 L p0 p1 p2 p3 S n (y_3_4 + 1) (hwR S_3 ((hsQ S_3 p0 2).getD 0) (p2 + ((p3 - 1) - y_3_4)).toNatClampNeg (some a_43))))))))))))
def h_X8_shiftThings (p0 : Nat) (p1 : Int32) (p2 : Int32) (p3 : Int32) (S : HS) : HS :=
  h_X8_shiftThings_l3 p0 p1 p2 p3 S (p3.toNatClampNeg + 1) 0 S
def ok_X8_shiftThings (L : List Nat) (p0 : Nat) (p1 : Int32) (p2 : Int32) (p3 : Int32) (S : HS) : Prop :=
  ok_X8_shiftThings_l3 L p0 p1 p2 p3 S (p3.toNatClampNeg + 1) 0 S
set_option maxHeartbeats 4000000 in
set_option maxRecDepth 100000 in
theorem hm_X8_shiftThings (l : Launch) (G : GE) (L : List Nat) (S : HS) (p0 : Nat) (p1 : Int32) (p2 : Int32) (p3 : Int32) (hok : ok_X8_shiftThings L p0 p1 p2 p3 S) : HmV l G yX8_shiftThings wsX8_shiftThings 0 0 [.ref p0, .int p1, .int p2, .int p3] L S (h_X8_shiftThings p0 p1 p2 p3 S) := by
  refine Met.ofW (cc := cX8_shiftThings) (maxL := 6) (ret := none) (by decide) rfl ?_
  intro p e s m args below meth c s₁ B hml hv
  obtain ⟨rfl, hP, hK, hnd, hE⟩ := hv
  have hx := B.exec
  have hb := B.bytes
  have hr := B.returns
  have hts := atoms_spec (ws := wsX8_shiftThings) B.pre
  have hown : s.vm.findClass RX8 = some m.cls := findClass_of_methodNamed B.named
  have hlocks := B.notSynchronized
  have hD := nd_D hnd
  have hS : va_S (AL L) s.heap s.heap [] := va_S.rf
  have hl := lv_entry ([.ref p0, .int p1, .int p2, .int p3]) (n := 6) (Nat.le_of_ble_eq_true rfl)
  rw [lg_entry_eq]
  generalize (lg_sl ([.ref p0, .int p1, .int p2, .int p3]) ++ List.replicate (6 - (lg_sl ([.ref p0, .int p1, .int p2, .int p3])).length) Slot.unset).toArray = ls at hl ⊢
  have hl : lv_has ls 6 [(0, .ref p0), (1, .int p1), (2, .int p2), (3, .int p3)] := hl
  obtain ⟨Z, hZ⟩ : ∃ z, z = MQ below (hm_QV G L (h_X8_shiftThings p0 p1 p2 p3 S)) ([.ref p0, .int p1, .int p2, .int p3] : List Value).toArray s 0 0 (AL L) := ⟨_, rfl⟩
  rw [← hZ]
  refine lv_iconst (v := 0) hx hb dX8_shiftThings_0 (by decide) ?_
  refine lv_istore (lv' := [(4, .int 0), (0, .ref p0), (1, .int p1), (2, .int p2), (3, .int p3)]) hx hb dX8_shiftThings_1 hl (by decide) rfl (fun ls hl => ?_)
  have K_3 : ∀ (n : Nat) (y_3_4 : Int32) (S_3 : HS) (H : Heap) (locs : List Loc), va_P (gD G) vwCl (va_pl L (PF G S_3)) H → va_S (AL L) s.heap H locs → ∀ (ls : Array Slot), lv_has ls 6 [(0, .ref p0), (1, .int p1), (2, .int p2), (3, .int p3), (4, .int y_3_4)] → ok_X8_shiftThings_l3 L p0 p1 p2 p3 S n y_3_4 S_3 → h_X8_shiftThings p0 p1 p2 p3 S = h_X8_shiftThings_l3 p0 p1 p2 p3 S n y_3_4 S_3 → W p l e (pm_R 0 0) s m ([.ref p0, .int p1, .int p2, .int p3] : List Value).toArray below meth c H locs 0 0 Z (F0 m 3 ls []) := by
    intro n
    induction n with
    | zero =>
      intro y_3_4 S_3 H locs hP hS ls hl hok hK_3
      exact False.elim hok
    | succ n ih =>
      intro y_3_4 S_3 H locs hP hS ls hl hok hK_3
      refine lv_iload hx hb dX8_shiftThings_3 (lv_at hl 4 rfl) ?_
      refine lv_iload_n hx hb dX8_shiftThings_5 rfl (lv_at hl 3 rfl) ?_
      refine lv_icmp_ge (tgt := 51) hx hb dX8_shiftThings_6 (by decide) (fun c_6 => ?_) (fun c_6 => ?_)
      ·
        have hok := (hok).1 c_6
        rw [hZ]
        exact hm_vret hx hb hr hlocks hS hP hK hnd hE (((hK_3).trans (if_pos c_6))) dX8_shiftThings_51
      ·
        have hok := (hok).2 c_6
        refine lv_iload_n hx hb dX8_shiftThings_9 rfl (lv_at hl 1 rfl) ?_
        refine lv_iload_n hx hb dX8_shiftThings_10 rfl (lv_at hl 2 rfl) ?_
        refine lv_icmp_ge (tgt := 23) hx hb dX8_shiftThings_11 (by decide) (fun c_11 => ?_) (fun c_11 => ?_)
        ·
          have hok := (hok).1 c_11
          refine lv_iload hx hb dX8_shiftThings_23 (lv_at hl 4 rfl) ?_
          refine lv_istore (lv' := [(5, .int y_3_4), (0, .ref p0), (1, .int p1), (2, .int p2), (3, .int p3), (4, .int y_3_4)]) hx hb dX8_shiftThings_25 hl (by decide) rfl (fun ls hl => ?_)
          refine lv_aload_n hx hb dX8_shiftThings_27 rfl (lv_at hl 1 rfl) ?_
          obtain ⟨h_28, hok⟩ := hok
          refine hp_getR (ci := 5) (C := RX7) (T := TX7) (N := 3) hx hb hts iw_X8_shiftThings_X7 hown hK hP h_28.1 (PF_5 h_28.2.1) rfl 2 (by decide) (hts _ (List.mem_of_getElem? (i := 1) rfl)) (fun _ h9 => h9) rfl h_28.2.2 dX8_shiftThings_28 ?_
          refine lv_iload_n hx hb dX8_shiftThings_31 rfl (lv_at hl 3 rfl) ?_
          refine lv_iload hx hb dX8_shiftThings_32 (lv_at hl 0 rfl) ?_
          refine lv_iadd hx hb dX8_shiftThings_34 ?_
          refine lv_aload_n hx hb dX8_shiftThings_35 rfl (lv_at hl 1 rfl) ?_
          obtain ⟨h_36, hok⟩ := hok
          refine hp_getR (ci := 5) (C := RX7) (T := TX7) (N := 3) hx hb hts iw_X8_shiftThings_X7 hown hK hP h_36.1 (PF_5 h_36.2.1) rfl 2 (by decide) (hts _ (List.mem_of_getElem? (i := 1) rfl)) (fun _ h9 => h9) rfl h_36.2.2 dX8_shiftThings_36 ?_
          refine lv_iload_n hx hb dX8_shiftThings_39 rfl (lv_at hl 2 rfl) ?_
          refine lv_iload hx hb dX8_shiftThings_40 (lv_at hl 0 rfl) ?_
          refine lv_iadd hx hb dX8_shiftThings_42 ?_
          obtain ⟨h_43, hok⟩ := hok
          refine hp_aald hx hb hK hP h_43.1 2 (PF_10 h_43.2.1) rfl h_43.2.2 dX8_shiftThings_43 ?_
          refine lv_topq (fun r_43 er_43 => ?_)
          rcases r_43 with _ | a_43
          ·
            have hok := (hok).1 er_43.symm
            obtain ⟨h_44, hok⟩ := hok
            refine hp_aastN (g2 := PF G (hwR S_3 ((hsQ S_3 p0 2).getD 0) (p2 + y_3_4).toNatClampNeg none)) hx hb hK hP (hD _) hS h_44.1 2 (PF_10 h_44.2.1) rfl h_44.2.2 (PF_sR h_44.2.1) (fun _ hb9 => PF_wR hb9) dX8_shiftThings_44 (fun H locs hP hS => ?_)
            refine lv_iinc (v := y_3_4 + 1) (lv' := [(4, .int (y_3_4 + 1)), (5, .int y_3_4), (0, .ref p0), (1, .int p1), (2, .int p2), (3, .int p3)]) hx hb dX8_shiftThings_45 hl (k := 5) rfl rfl (by decide) rfl (fun ls hl => ?_)
            refine lv_goto (tgt := 3) hx hb dX8_shiftThings_48 (by decide) ?_
            exact ih (y_3_4 + 1) (hwR S_3 ((hsQ S_3 p0 2).getD 0) (p2 + y_3_4).toNatClampNeg none) _ _ hP hS ls (lv_sub hl [2, 3, 4, 5, 0] rfl) hok (((hK_3).trans ((if_neg c_6).trans ((if_pos c_11).trans (oq_none er_43.symm)))))
          ·
            have hok := (hok).2 _ er_43.symm
            obtain ⟨h_44, hok⟩ := hok
            refine hp_aastT (g2 := PF G (hwR S_3 ((hsQ S_3 p0 2).getD 0) (p2 + y_3_4).toNatClampNeg (some a_43))) hx hb hE.2 hK hP (hD _) hS h_44.1.1 2 (PF_10 h_44.1.2.1) rfl h_44.2 h_44.1.2.2 (PF_sR h_44.1.2.1) (fun _ hb9 => PF_wR hb9) dX8_shiftThings_44 (fun H locs hP hS => ?_)
            refine lv_iinc (v := y_3_4 + 1) (lv' := [(4, .int (y_3_4 + 1)), (5, .int y_3_4), (0, .ref p0), (1, .int p1), (2, .int p2), (3, .int p3)]) hx hb dX8_shiftThings_45 hl (k := 5) rfl rfl (by decide) rfl (fun ls hl => ?_)
            refine lv_goto (tgt := 3) hx hb dX8_shiftThings_48 (by decide) ?_
            exact ih (y_3_4 + 1) (hwR S_3 ((hsQ S_3 p0 2).getD 0) (p2 + y_3_4).toNatClampNeg (some a_43)) _ _ hP hS ls (lv_sub hl [2, 3, 4, 5, 0] rfl) hok (((hK_3).trans ((if_neg c_6).trans ((if_pos c_11).trans (oq_some er_43.symm)))))
        ·
          have hok := (hok).2 c_11
          refine lv_iload_n hx hb dX8_shiftThings_14 rfl (lv_at hl 3 rfl) ?_
          refine lv_iconst (v := 1) hx hb dX8_shiftThings_15 (by decide) ?_
          refine lv_isub hx hb dX8_shiftThings_16 ?_
          refine lv_iload hx hb dX8_shiftThings_17 (lv_at hl 4 rfl) ?_
          refine lv_isub hx hb dX8_shiftThings_19 ?_
          refine lv_goto (tgt := 25) hx hb dX8_shiftThings_20 (by decide) ?_
          refine lv_istore (lv' := [(5, .int ((p3 - 1) - y_3_4)), (0, .ref p0), (1, .int p1), (2, .int p2), (3, .int p3), (4, .int y_3_4)]) hx hb dX8_shiftThings_25 hl (by decide) rfl (fun ls hl => ?_)
          refine lv_aload_n hx hb dX8_shiftThings_27 rfl (lv_at hl 1 rfl) ?_
          obtain ⟨h_28, hok⟩ := hok
          refine hp_getR (ci := 5) (C := RX7) (T := TX7) (N := 3) hx hb hts iw_X8_shiftThings_X7 hown hK hP h_28.1 (PF_5 h_28.2.1) rfl 2 (by decide) (hts _ (List.mem_of_getElem? (i := 1) rfl)) (fun _ h9 => h9) rfl h_28.2.2 dX8_shiftThings_28 ?_
          refine lv_iload_n hx hb dX8_shiftThings_31 rfl (lv_at hl 3 rfl) ?_
          refine lv_iload hx hb dX8_shiftThings_32 (lv_at hl 0 rfl) ?_
          refine lv_iadd hx hb dX8_shiftThings_34 ?_
          refine lv_aload_n hx hb dX8_shiftThings_35 rfl (lv_at hl 1 rfl) ?_
          obtain ⟨h_36, hok⟩ := hok
          refine hp_getR (ci := 5) (C := RX7) (T := TX7) (N := 3) hx hb hts iw_X8_shiftThings_X7 hown hK hP h_36.1 (PF_5 h_36.2.1) rfl 2 (by decide) (hts _ (List.mem_of_getElem? (i := 1) rfl)) (fun _ h9 => h9) rfl h_36.2.2 dX8_shiftThings_36 ?_
          refine lv_iload_n hx hb dX8_shiftThings_39 rfl (lv_at hl 2 rfl) ?_
          refine lv_iload hx hb dX8_shiftThings_40 (lv_at hl 0 rfl) ?_
          refine lv_iadd hx hb dX8_shiftThings_42 ?_
          obtain ⟨h_43, hok⟩ := hok
          refine hp_aald hx hb hK hP h_43.1 2 (PF_10 h_43.2.1) rfl h_43.2.2 dX8_shiftThings_43 ?_
          refine lv_topq (fun r_43 er_43 => ?_)
          rcases r_43 with _ | a_43
          ·
            have hok := (hok).1 er_43.symm
            obtain ⟨h_44, hok⟩ := hok
            refine hp_aastN (g2 := PF G (hwR S_3 ((hsQ S_3 p0 2).getD 0) (p2 + ((p3 - 1) - y_3_4)).toNatClampNeg none)) hx hb hK hP (hD _) hS h_44.1 2 (PF_10 h_44.2.1) rfl h_44.2.2 (PF_sR h_44.2.1) (fun _ hb9 => PF_wR hb9) dX8_shiftThings_44 (fun H locs hP hS => ?_)
            refine lv_iinc (v := y_3_4 + 1) (lv' := [(4, .int (y_3_4 + 1)), (5, .int ((p3 - 1) - y_3_4)), (0, .ref p0), (1, .int p1), (2, .int p2), (3, .int p3)]) hx hb dX8_shiftThings_45 hl (k := 5) rfl rfl (by decide) rfl (fun ls hl => ?_)
            refine lv_goto (tgt := 3) hx hb dX8_shiftThings_48 (by decide) ?_
            exact ih (y_3_4 + 1) (hwR S_3 ((hsQ S_3 p0 2).getD 0) (p2 + ((p3 - 1) - y_3_4)).toNatClampNeg none) _ _ hP hS ls (lv_sub hl [2, 3, 4, 5, 0] rfl) hok (((hK_3).trans ((if_neg c_6).trans ((if_neg c_11).trans (oq_none er_43.symm)))))
          ·
            have hok := (hok).2 _ er_43.symm
            obtain ⟨h_44, hok⟩ := hok
            refine hp_aastT (g2 := PF G (hwR S_3 ((hsQ S_3 p0 2).getD 0) (p2 + ((p3 - 1) - y_3_4)).toNatClampNeg (some a_43))) hx hb hE.2 hK hP (hD _) hS h_44.1.1 2 (PF_10 h_44.1.2.1) rfl h_44.2 h_44.1.2.2 (PF_sR h_44.1.2.1) (fun _ hb9 => PF_wR hb9) dX8_shiftThings_44 (fun H locs hP hS => ?_)
            refine lv_iinc (v := y_3_4 + 1) (lv' := [(4, .int (y_3_4 + 1)), (5, .int ((p3 - 1) - y_3_4)), (0, .ref p0), (1, .int p1), (2, .int p2), (3, .int p3)]) hx hb dX8_shiftThings_45 hl (k := 5) rfl rfl (by decide) rfl (fun ls hl => ?_)
            refine lv_goto (tgt := 3) hx hb dX8_shiftThings_48 (by decide) ?_
            exact ih (y_3_4 + 1) (hwR S_3 ((hsQ S_3 p0 2).getD 0) (p2 + ((p3 - 1) - y_3_4)).toNatClampNeg (some a_43)) _ _ hP hS ls (lv_sub hl [2, 3, 4, 5, 0] rfl) hok (((hK_3).trans ((if_neg c_6).trans ((if_neg c_11).trans (oq_some er_43.symm)))))
  exact K_3 (p3.toNatClampNeg + 1) 0 S _ _ hP hS ls (lv_sub hl [1, 2, 3, 4, 0] rfl) hok (rfl)
theorem hd_X8_copyThings : yX8_copyThings.cls ≠ "java/lang/invoke/MethodHandle" ∧ yX8_copyThings.cls ≠ "java/lang/invoke/VarHandle" ∧ (parseMethodDescriptor yX8_copyThings.desc).map (fun d => d.parameters.length) = some 5 := by decide +kernel
theorem iw_X8_copyThings_X7 : ∀ w ∈ u_ws RX7 TX7 3, w ∈ wsX8_copyThings := by decide +kernel
def h_X8_copyThings_l12 (p0 : Nat) (p1 : Int32) (p2 : Nat) (p3 : Int32) (p4 : Int32) (S : HS) : Nat → Int32 → HS → Int32 × HS
  | 0, _, _ => (0, S)
  | n + 1, y_12_6, S_12 =>
  if p4 ≤ y_12_6 then (0, S_12)
  else oq (hsR S_12 ((hsQ S_12 p0 2).getD 0) (p1 + y_12_6).toNatClampNeg) (if (h_X8_passesCast_n (s_X8_elementTypeOfKind (hsI S p2 0)) S_12) = 0 then (5, S_12)
    else h_X8_copyThings_l12 p0 p1 p2 p3 p4 S n (y_12_6 + 1) (hwR S_12 ((hsQ S_12 p2 2).getD 0) (p3 + y_12_6).toNatClampNeg none))
   (fun (a_27 : Nat) => if (h_X8_passesCast_s (s_X8_elementTypeOfKind (hsI S p2 0)) a_27 S_12) = 0 then (5, S_12)
    else h_X8_copyThings_l12 p0 p1 p2 p3 p4 S n (y_12_6 + 1) (hwR S_12 ((hsQ S_12 p2 2).getD 0) (p3 + y_12_6).toNatClampNeg (some a_27)))
def ok_X8_copyThings_l12 (L : List Nat) (p0 : Nat) (p1 : Int32) (p2 : Nat) (p3 : Int32) (p4 : Int32) (S : HS) : Nat → Int32 → HS → Prop
  | 0, _, _ => False
  | n + 1, y_12_6, S_12 =>
  ((p4 ≤ y_12_6) → (True)) ∧
  (¬ (p4 ≤ y_12_6) → ((p0 ∈ L ∧ hsK S_12 p0 = 5 ∧ hsQ S_12 p0 2 ≠ none) ∧ ((((hsQ S_12 p0 2).getD 0) ∈ L ∧ hsK S_12 ((hsQ S_12 p0 2).getD 0) = 10 ∧ vp_in (p1 + y_12_6) (hsN S_12 ((hsQ S_12 p0 2).getD 0))) ∧ (((hsR S_12 ((hsQ S_12 p0 2).getD 0) (p1 + y_12_6).toNatClampNeg) = none → ((ok_X8_passesCast_n L (s_X8_elementTypeOfKind (hsI S p2 0)) S_12) ∧ ((((h_X8_passesCast_n (s_X8_elementTypeOfKind (hsI S p2 0)) S_12) = 0) → (True)) ∧
    (¬ ((h_X8_passesCast_n (s_X8_elementTypeOfKind (hsI S p2 0)) S_12) = 0) → ((p2 ∈ L ∧ hsK S_12 p2 = 5 ∧ hsQ S_12 p2 2 ≠ none) ∧ ((((hsQ S_12 p2 2).getD 0) ∈ L ∧ hsK S_12 ((hsQ S_12 p2 2).getD 0) = 10 ∧ vp_in (p3 + y_12_6) (hsN S_12 ((hsQ S_12 p2 2).getD 0))) ∧ (ok_X8_copyThings_l12 L p0 p1 p2 p3 p4 S n (y_12_6 + 1) (hwR S_12 ((hsQ S_12 p2 2).getD 0) (p3 + y_12_6).toNatClampNeg none)))))))) ∧
   (∀ a_27 : Nat, (hsR S_12 ((hsQ S_12 p0 2).getD 0) (p1 + y_12_6).toNatClampNeg) = some a_27 → ((ok_X8_passesCast_s L (s_X8_elementTypeOfKind (hsI S p2 0)) a_27 S_12) ∧ ((((h_X8_passesCast_s (s_X8_elementTypeOfKind (hsI S p2 0)) a_27 S_12) = 0) → (True)) ∧
    (¬ ((h_X8_passesCast_s (s_X8_elementTypeOfKind (hsI S p2 0)) a_27 S_12) = 0) → ((p2 ∈ L ∧ hsK S_12 p2 = 5 ∧ hsQ S_12 p2 2 ≠ none) ∧ (((((hsQ S_12 p2 2).getD 0) ∈ L ∧ hsK S_12 ((hsQ S_12 p2 2).getD 0) = 10 ∧ vp_in (p3 + y_12_6) (hsN S_12 ((hsQ S_12 p2 2).getD 0))) ∧ a_27 ∈ L ∧ 1 ≤ hsK S_12 a_27 ∧ hsK S_12 a_27 ≤ 5) ∧ (ok_X8_copyThings_l12 L p0 p1 p2 p3 p4 S n (y_12_6 + 1) (hwR S_12 ((hsQ S_12 p2 2).getD 0) (p3 + y_12_6).toNatClampNeg (some a_27)))))))))))))
def h_X8_copyThings (p0 : Nat) (p1 : Int32) (p2 : Nat) (p3 : Int32) (p4 : Int32) (S : HS) : Int32 × HS :=
  h_X8_copyThings_l12 p0 p1 p2 p3 p4 S (p4.toNatClampNeg + 1) 0 S
def ok_X8_copyThings (L : List Nat) (p0 : Nat) (p1 : Int32) (p2 : Nat) (p3 : Int32) (p4 : Int32) (S : HS) : Prop :=
  (p2 ∈ L ∧ hsK S p2 = 5) ∧ (ok_X8_copyThings_l12 L p0 p1 p2 p3 p4 S (p4.toNatClampNeg + 1) 0 S)
set_option maxHeartbeats 4000000 in
set_option maxRecDepth 100000 in
theorem hm_X8_copyThings (l : Launch) (G : GE) (L : List Nat) (S : HS) (p0 : Nat) (p1 : Int32) (p2 : Nat) (p3 : Int32) (p4 : Int32) (hok : ok_X8_copyThings L p0 p1 p2 p3 p4 S) : HmI l G yX8_copyThings wsX8_copyThings 2 42 [.ref p0, .int p1, .ref p2, .int p3, .int p4] L S (h_X8_copyThings p0 p1 p2 p3 p4 S) := by
  refine Met.ofW (cc := cX8_copyThings) (maxL := 8) (ret := (some .int)) (by decide) rfl ?_
  intro p e s m args below meth c s₁ B hml hv
  obtain ⟨rfl, hP, hK, hnd, hE⟩ := hv
  have hx := B.exec
  have hb := B.bytes
  have hr := B.returns
  have hts := atoms_spec (ws := wsX8_copyThings) B.pre
  have hown : s.vm.findClass RX8 = some m.cls := findClass_of_methodNamed B.named
  have hlocks := B.notSynchronized
  have hD := nd_D hnd
  have hS : va_S (AL L) s.heap s.heap [] := va_S.rf
  have hl := lv_entry ([.ref p0, .int p1, .ref p2, .int p3, .int p4]) (n := 8) (Nat.le_of_ble_eq_true rfl)
  rw [lg_entry_eq]
  generalize (lg_sl ([.ref p0, .int p1, .ref p2, .int p3, .int p4]) ++ List.replicate (8 - (lg_sl ([.ref p0, .int p1, .ref p2, .int p3, .int p4])).length) Slot.unset).toArray = ls at hl ⊢
  have hl : lv_has ls 8 [(0, .ref p0), (1, .int p1), (2, .ref p2), (3, .int p3), (4, .int p4)] := hl
  obtain ⟨Z, hZ⟩ : ∃ z, z = MQ below (hm_QI G L (h_X8_copyThings p0 p1 p2 p3 p4 S)) ([.ref p0, .int p1, .ref p2, .int p3, .int p4] : List Value).toArray s 0 0 (AL L) := ⟨_, rfl⟩
  rw [← hZ]
  refine lv_aload_n hx hb dX8_copyThings_0 rfl (lv_at hl 2 rfl) ?_
  obtain ⟨h_1, hok⟩ := hok
  refine hp_get (ci := 5) (C := RX7) (T := TX7) (N := 3) hx hb hts iw_X8_copyThings_X7 hown hK hP h_1.1 (PF_5 h_1.2) rfl 0 (by decide) (hts _ (List.mem_of_getElem? (i := 1) rfl)) (fun x9 h9 => u_same (hts _ (List.mem_of_getElem? (i := 2) rfl)) x9 h9) rfl dX8_copyThings_1 ?_
  refine pm_callI (va_runS (As := [.int (hsI S p2 0)]) (rest := []) ⟨hx, hb, hml, hown, hts⟩ (pm_X8_elementTypeOfKind l (hsI S p2 0)) (va_cwS 1 hts gX8_copyThings_X8_elementTypeOfKind rfl rfl rfl hd_X8_elementTypeOfKind ⟨Nat.le_of_ble_eq_true rfl, Nat.le_of_ble_eq_true rfl⟩) ⟨pm_fbT, fun U hU hW => ⟨rfl, trivial⟩⟩ rfl rfl hl.1 rfl (lv_room (Nat.le_of_ble_eq_true rfl)) dX8_copyThings_4 ⟨Nat.le_refl 0, Nat.le_refl 0⟩) hS (fun H locs _ hk9 hS => ?_)
  replace hP := P_keep hP hk9
  refine lv_istore (lv' := [(5, .int (s_X8_elementTypeOfKind (hsI S p2 0))), (0, .ref p0), (1, .int p1), (2, .ref p2), (3, .int p3), (4, .int p4)]) hx hb dX8_copyThings_7 hl (by decide) rfl (fun ls hl => ?_)
  refine lv_iconst (v := 0) hx hb dX8_copyThings_9 (by decide) ?_
  refine lv_istore (lv' := [(6, .int 0), (5, .int (s_X8_elementTypeOfKind (hsI S p2 0))), (0, .ref p0), (1, .int p1), (2, .ref p2), (3, .int p3), (4, .int p4)]) hx hb dX8_copyThings_10 hl (by decide) rfl (fun ls hl => ?_)
  have K_12 : ∀ (n : Nat) (y_12_6 : Int32) (S_12 : HS) (H : Heap) (locs : List Loc), va_P (gD G) vwCl (va_pl L (PF G S_12)) H → va_S (AL L) s.heap H locs → ∀ (ls : Array Slot), lv_has ls 8 [(0, .ref p0), (1, .int p1), (2, .ref p2), (3, .int p3), (4, .int p4), (5, .int (s_X8_elementTypeOfKind (hsI S p2 0))), (6, .int y_12_6)] → ok_X8_copyThings_l12 L p0 p1 p2 p3 p4 S n y_12_6 S_12 → h_X8_copyThings p0 p1 p2 p3 p4 S = h_X8_copyThings_l12 p0 p1 p2 p3 p4 S n y_12_6 S_12 → W p l e (pm_R 2 42) s m ([.ref p0, .int p1, .ref p2, .int p3, .int p4] : List Value).toArray below meth c H locs 0 0 Z (F0 m 12 ls []) := by
    intro n
    induction n with
    | zero =>
      intro y_12_6 S_12 H locs hP hS ls hl hok hK_12
      exact False.elim hok
    | succ n ih =>
      intro y_12_6 S_12 H locs hP hS ls hl hok hK_12
      refine lv_iload hx hb dX8_copyThings_12 (lv_at hl 6 rfl) ?_
      refine lv_iload hx hb dX8_copyThings_14 (lv_at hl 4 rfl) ?_
      refine lv_icmp_ge (tgt := 59) hx hb dX8_copyThings_16 (by decide) (fun c_16 => ?_) (fun c_16 => ?_)
      ·
        have hok := (hok).1 c_16
        refine lv_iconst (v := 0) hx hb dX8_copyThings_59 (by decide) ?_
        rw [hZ]
        exact hm_iret hx hb hr hlocks hS hP hK hnd hE (((hK_12).trans (if_pos c_16))) dX8_copyThings_60
      ·
        have hok := (hok).2 c_16
        refine lv_aload_n hx hb dX8_copyThings_19 rfl (lv_at hl 0 rfl) ?_
        obtain ⟨h_20, hok⟩ := hok
        refine hp_getR (ci := 5) (C := RX7) (T := TX7) (N := 3) hx hb hts iw_X8_copyThings_X7 hown hK hP h_20.1 (PF_5 h_20.2.1) rfl 2 (by decide) (hts _ (List.mem_of_getElem? (i := 3) rfl)) (fun _ h9 => h9) rfl h_20.2.2 dX8_copyThings_20 ?_
        refine lv_iload_n hx hb dX8_copyThings_23 rfl (lv_at hl 1 rfl) ?_
        refine lv_iload hx hb dX8_copyThings_24 (lv_at hl 6 rfl) ?_
        refine lv_iadd hx hb dX8_copyThings_26 ?_
        obtain ⟨h_27, hok⟩ := hok
        refine hp_aald hx hb hK hP h_27.1 2 (PF_10 h_27.2.1) rfl h_27.2.2 dX8_copyThings_27 ?_
        refine lv_topq (fun r_27 er_27 => ?_)
        rcases r_27 with _ | a_27
        ·
          have hok := (hok).1 er_27.symm
          refine lv_astoreN (lv' := [(7, .null), (0, .ref p0), (1, .int p1), (2, .ref p2), (3, .int p3), (4, .int p4), (5, .int (s_X8_elementTypeOfKind (hsI S p2 0))), (6, .int y_12_6)]) hx hb dX8_copyThings_28 hl (by decide) rfl (fun ls hl => ?_)
          refine lv_iload hx hb dX8_copyThings_30 (lv_at hl 6 rfl) ?_
          refine lv_aloadN hx hb dX8_copyThings_32 (lv_at hl 0 rfl) ?_
          obtain ⟨h_34, hok⟩ := hok
          refine hm_callIr (G := G) (S1 := S_12) (a := ([.int (s_X8_elementTypeOfKind (hsI S p2 0)), .null] : List Value).toArray) (rest := []) (h_X8_passesCast_n (s_X8_elementTypeOfKind (hsI S p2 0)) S_12) ?_ hS (fun H locs hP hS => ?_)
          ·
            exact va_runS (As := [.int (s_X8_elementTypeOfKind (hsI S p2 0)), .null]) (rest := []) ⟨hx, hb, hml, hown, hts⟩ (hm_X8_passesCast_n l G L S_12 (s_X8_elementTypeOfKind (hsI S p2 0)) h_34) (va_cwS 2 hts gX8_copyThings_X8_passesCast rfl rfl rfl hd_X8_passesCast ⟨Nat.le_of_ble_eq_true rfl, Nat.le_of_ble_eq_true rfl⟩) ⟨HW.fb, fun U hU hW => ⟨rfl, HW.call hP hK hnd hE hS U hU hW⟩⟩ rfl rfl hl.1 rfl (lv_room (Nat.le_of_ble_eq_true rfl)) dX8_copyThings_34 ⟨Nat.le_refl 0, Nat.le_refl 0⟩
          ·
            refine lv_if_ne (tgt := 42) hx hb dX8_copyThings_37 (by decide) (fun c_37 => ?_) (fun c_37 => ?_)
            ·
              have hok := (hok).2 c_37
              refine lv_aload_n hx hb dX8_copyThings_42 rfl (lv_at hl 3 rfl) ?_
              obtain ⟨h_43, hok⟩ := hok
              refine hp_getR (ci := 5) (C := RX7) (T := TX7) (N := 3) hx hb hts iw_X8_copyThings_X7 hown hK hP h_43.1 (PF_5 h_43.2.1) rfl 2 (by decide) (hts _ (List.mem_of_getElem? (i := 3) rfl)) (fun _ h9 => h9) rfl h_43.2.2 dX8_copyThings_43 ?_
              refine lv_iload_n hx hb dX8_copyThings_46 rfl (lv_at hl 4 rfl) ?_
              refine lv_iload hx hb dX8_copyThings_47 (lv_at hl 7 rfl) ?_
              refine lv_iadd hx hb dX8_copyThings_49 ?_
              refine lv_aloadN hx hb dX8_copyThings_50 (lv_at hl 0 rfl) ?_
              obtain ⟨h_52, hok⟩ := hok
              refine hp_aastN (g2 := PF G (hwR S_12 ((hsQ S_12 p2 2).getD 0) (p3 + y_12_6).toNatClampNeg none)) hx hb hK hP (hD _) hS h_52.1 2 (PF_10 h_52.2.1) rfl h_52.2.2 (PF_sR h_52.2.1) (fun _ hb9 => PF_wR hb9) dX8_copyThings_52 (fun H locs hP hS => ?_)
              refine lv_iinc (v := y_12_6 + 1) (lv' := [(6, .int (y_12_6 + 1)), (7, .null), (0, .ref p0), (1, .int p1), (2, .ref p2), (3, .int p3), (4, .int p4), (5, .int (s_X8_elementTypeOfKind (hsI S p2 0)))]) hx hb dX8_copyThings_53 hl (k := 7) rfl rfl (by decide) rfl (fun ls hl => ?_)
              refine lv_goto (tgt := 12) hx hb dX8_copyThings_56 (by decide) ?_
              exact ih (y_12_6 + 1) (hwR S_12 ((hsQ S_12 p2 2).getD 0) (p3 + y_12_6).toNatClampNeg none) _ _ hP hS ls (lv_sub hl [2, 3, 4, 5, 6, 7, 0] rfl) hok (((hK_12).trans ((if_neg c_16).trans ((oq_none er_27.symm).trans (if_neg c_37)))))
            ·
              have hok := (hok).1 c_37
              refine lv_iconst (v := 5) hx hb dX8_copyThings_40 (by decide) ?_
              rw [hZ]
              exact hm_iret hx hb hr hlocks hS hP hK hnd hE (((hK_12).trans ((if_neg c_16).trans ((oq_none er_27.symm).trans (if_pos c_37))))) dX8_copyThings_41
        ·
          have hok := (hok).2 _ er_27.symm
          refine lv_astore (lv' := [(7, .ref a_27), (0, .ref p0), (1, .int p1), (2, .ref p2), (3, .int p3), (4, .int p4), (5, .int (s_X8_elementTypeOfKind (hsI S p2 0))), (6, .int y_12_6)]) hx hb dX8_copyThings_28 hl (by decide) rfl (fun ls hl => ?_)
          refine lv_iload hx hb dX8_copyThings_30 (lv_at hl 6 rfl) ?_
          refine lv_aload hx hb dX8_copyThings_32 (lv_at hl 0 rfl) ?_
          obtain ⟨h_34, hok⟩ := hok
          refine hm_callIr (G := G) (S1 := S_12) (a := ([.int (s_X8_elementTypeOfKind (hsI S p2 0)), .ref a_27] : List Value).toArray) (rest := []) (h_X8_passesCast_s (s_X8_elementTypeOfKind (hsI S p2 0)) a_27 S_12) ?_ hS (fun H locs hP hS => ?_)
          ·
            exact va_runS (As := [.int (s_X8_elementTypeOfKind (hsI S p2 0)), .ref a_27]) (rest := []) ⟨hx, hb, hml, hown, hts⟩ (hm_X8_passesCast_s l G L S_12 (s_X8_elementTypeOfKind (hsI S p2 0)) a_27 h_34) (va_cwS 2 hts gX8_copyThings_X8_passesCast rfl rfl rfl hd_X8_passesCast ⟨Nat.le_of_ble_eq_true rfl, Nat.le_of_ble_eq_true rfl⟩) ⟨HW.fb, fun U hU hW => ⟨rfl, HW.call hP hK hnd hE hS U hU hW⟩⟩ rfl rfl hl.1 rfl (lv_room (Nat.le_of_ble_eq_true rfl)) dX8_copyThings_34 ⟨Nat.le_refl 0, Nat.le_refl 0⟩
          ·
            refine lv_if_ne (tgt := 42) hx hb dX8_copyThings_37 (by decide) (fun c_37 => ?_) (fun c_37 => ?_)
            ·
              have hok := (hok).2 c_37
              refine lv_aload_n hx hb dX8_copyThings_42 rfl (lv_at hl 3 rfl) ?_
              obtain ⟨h_43, hok⟩ := hok
              refine hp_getR (ci := 5) (C := RX7) (T := TX7) (N := 3) hx hb hts iw_X8_copyThings_X7 hown hK hP h_43.1 (PF_5 h_43.2.1) rfl 2 (by decide) (hts _ (List.mem_of_getElem? (i := 3) rfl)) (fun _ h9 => h9) rfl h_43.2.2 dX8_copyThings_43 ?_
              refine lv_iload_n hx hb dX8_copyThings_46 rfl (lv_at hl 4 rfl) ?_
              refine lv_iload hx hb dX8_copyThings_47 (lv_at hl 7 rfl) ?_
              refine lv_iadd hx hb dX8_copyThings_49 ?_
              refine lv_aload hx hb dX8_copyThings_50 (lv_at hl 0 rfl) ?_
              obtain ⟨h_52, hok⟩ := hok
              refine hp_aastT (g2 := PF G (hwR S_12 ((hsQ S_12 p2 2).getD 0) (p3 + y_12_6).toNatClampNeg (some a_27))) hx hb hE.2 hK hP (hD _) hS h_52.1.1 2 (PF_10 h_52.1.2.1) rfl h_52.2 h_52.1.2.2 (PF_sR h_52.1.2.1) (fun _ hb9 => PF_wR hb9) dX8_copyThings_52 (fun H locs hP hS => ?_)
              refine lv_iinc (v := y_12_6 + 1) (lv' := [(6, .int (y_12_6 + 1)), (7, .ref a_27), (0, .ref p0), (1, .int p1), (2, .ref p2), (3, .int p3), (4, .int p4), (5, .int (s_X8_elementTypeOfKind (hsI S p2 0)))]) hx hb dX8_copyThings_53 hl (k := 7) rfl rfl (by decide) rfl (fun ls hl => ?_)
              refine lv_goto (tgt := 12) hx hb dX8_copyThings_56 (by decide) ?_
              exact ih (y_12_6 + 1) (hwR S_12 ((hsQ S_12 p2 2).getD 0) (p3 + y_12_6).toNatClampNeg (some a_27)) _ _ hP hS ls (lv_sub hl [2, 3, 4, 5, 6, 7, 0] rfl) hok (((hK_12).trans ((if_neg c_16).trans ((oq_some er_27.symm).trans (if_neg c_37)))))
            ·
              have hok := (hok).1 c_37
              refine lv_iconst (v := 5) hx hb dX8_copyThings_40 (by decide) ?_
              rw [hZ]
              exact hm_iret hx hb hr hlocks hS hP hK hnd hE (((hK_12).trans ((if_neg c_16).trans ((oq_some er_27.symm).trans (if_pos c_37))))) dX8_copyThings_41
  exact K_12 (p4.toNatClampNeg + 1) 0 S _ _ hP hS ls (lv_sub hl [2, 3, 4, 5, 6, 1, 0] rfl) hok (rfl)
theorem hd_X8_copyElements : yX8_copyElements.cls ≠ "java/lang/invoke/MethodHandle" ∧ yX8_copyElements.cls ≠ "java/lang/invoke/VarHandle" ∧ (parseMethodDescriptor yX8_copyElements.desc).map (fun d => d.parameters.length) = some 5 := by decide +kernel
def h_X8_copyElements_nn_j43 (p1 : Int32) (p3 : Int32) (p4 : Int32) (S : HS) : Int32 × HS :=
  (0, S)
def ok_X8_copyElements_nn_j43 (L : List Nat) (p1 : Int32) (p3 : Int32) (p4 : Int32) (S : HS) : Prop :=
  True
def h_X8_copyElements_nn (p1 : Int32) (p3 : Int32) (p4 : Int32) (S : HS) : Int32 × HS :=
  h_X8_copyElements_nn_j43 p1 p3 p4 S
def ok_X8_copyElements_nn (L : List Nat) (p1 : Int32) (p3 : Int32) (p4 : Int32) (S : HS) : Prop :=
  ok_X8_copyElements_nn_j43 L p1 p3 p4 S
set_option maxHeartbeats 4000000 in
set_option maxRecDepth 100000 in
theorem hm_X8_copyElements_nn (l : Launch) (G : GE) (L : List Nat) (S : HS) (p1 : Int32) (p3 : Int32) (p4 : Int32) (hok : ok_X8_copyElements_nn L p1 p3 p4 S) : HmI l G yX8_copyElements wsX8_copyElements 0 0 [.null, .int p1, .null, .int p3, .int p4] L S (h_X8_copyElements_nn p1 p3 p4 S) := by
  refine Met.ofW (cc := cX8_copyElements) (maxL := 7) (ret := (some .int)) (by decide) rfl ?_
  intro p e s m args below meth c s₁ B hml hv
  obtain ⟨rfl, hP, hK, hnd, hE⟩ := hv
  have hx := B.exec
  have hb := B.bytes
  have hr := B.returns
  have hts := atoms_spec (ws := wsX8_copyElements) B.pre
  have hown : s.vm.findClass RX8 = some m.cls := findClass_of_methodNamed B.named
  have hlocks := B.notSynchronized
  have hD := nd_D hnd
  have hS : va_S (AL L) s.heap s.heap [] := va_S.rf
  have hl := lv_entry ([.null, .int p1, .null, .int p3, .int p4]) (n := 7) (Nat.le_of_ble_eq_true rfl)
  rw [lg_entry_eq]
  generalize (lg_sl ([.null, .int p1, .null, .int p3, .int p4]) ++ List.replicate (7 - (lg_sl ([.null, .int p1, .null, .int p3, .int p4])).length) Slot.unset).toArray = ls at hl ⊢
  have hl : lv_has ls 7 [(0, .null), (1, .int p1), (2, .null), (3, .int p3), (4, .int p4)] := hl
  obtain ⟨Z, hZ⟩ : ∃ z, z = MQ below (hm_QI G L (h_X8_copyElements_nn p1 p3 p4 S)) ([.null, .int p1, .null, .int p3, .int p4] : List Value).toArray s 0 0 (AL L) := ⟨_, rfl⟩
  rw [← hZ]
  refine lv_aload_nN hx hb dX8_copyElements_0 rfl (lv_at hl 0 rfl) ?_
  refine lv_instN hx hb dX8_copyElements_1 ?_
  have K_43 : ∀ (H : Heap) (locs : List Loc), va_P (gD G) vwCl (va_pl L (PF G S)) H → va_S (AL L) s.heap H locs → ∀ (ls : Array Slot), lv_has ls 7 [(0, .null), (1, .int p1), (2, .null), (3, .int p3), (4, .int p4)] → ok_X8_copyElements_nn_j43 L p1 p3 p4 S → h_X8_copyElements_nn p1 p3 p4 S = h_X8_copyElements_nn_j43 p1 p3 p4 S → W p l e (pm_R 0 0) s m ([.null, .int p1, .null, .int p3, .int p4] : List Value).toArray below meth c H locs 0 0 Z (F0 m 43 ls []) := by
    intro H locs hP hS ls hl hok hK_43
    refine lv_aload_nN hx hb dX8_copyElements_43 rfl (lv_at hl 0 rfl) ?_
    refine lv_instN hx hb dX8_copyElements_44 ?_
    refine lv_if_eq (tgt := 97) hx hb dX8_copyElements_47 (by decide) (fun _ => ?_) (fun z9 => absurd z9 (by decide))
    refine lv_iconst (v := 0) hx hb dX8_copyElements_97 (by decide) ?_
    rw [hZ]
    exact hm_iret hx hb hr hlocks hS hP hK hnd hE ((hK_43)) dX8_copyElements_98
  refine lv_if_eq (tgt := 43) hx hb dX8_copyElements_4 (by decide) (fun _ => ?_) (fun z9 => absurd z9 (by decide))
  exact K_43 _ _ hP hS ls (lv_sub hl [0, 1, 2, 3, 4] rfl) hok (rfl)
def h_X8_copyElements_ns_j43 (p1 : Int32) (p2 : Nat) (p3 : Int32) (p4 : Int32) (S : HS) : Int32 × HS :=
  (0, S)
def ok_X8_copyElements_ns_j43 (L : List Nat) (p1 : Int32) (p2 : Nat) (p3 : Int32) (p4 : Int32) (S : HS) : Prop :=
  True
def h_X8_copyElements_ns (p1 : Int32) (p2 : Nat) (p3 : Int32) (p4 : Int32) (S : HS) : Int32 × HS :=
  h_X8_copyElements_ns_j43 p1 p2 p3 p4 S
def ok_X8_copyElements_ns (L : List Nat) (p1 : Int32) (p2 : Nat) (p3 : Int32) (p4 : Int32) (S : HS) : Prop :=
  ok_X8_copyElements_ns_j43 L p1 p2 p3 p4 S
set_option maxHeartbeats 4000000 in
set_option maxRecDepth 100000 in
theorem hm_X8_copyElements_ns (l : Launch) (G : GE) (L : List Nat) (S : HS) (p1 : Int32) (p2 : Nat) (p3 : Int32) (p4 : Int32) (hok : ok_X8_copyElements_ns L p1 p2 p3 p4 S) : HmI l G yX8_copyElements wsX8_copyElements 0 0 [.null, .int p1, .ref p2, .int p3, .int p4] L S (h_X8_copyElements_ns p1 p2 p3 p4 S) := by
  refine Met.ofW (cc := cX8_copyElements) (maxL := 7) (ret := (some .int)) (by decide) rfl ?_
  intro p e s m args below meth c s₁ B hml hv
  obtain ⟨rfl, hP, hK, hnd, hE⟩ := hv
  have hx := B.exec
  have hb := B.bytes
  have hr := B.returns
  have hts := atoms_spec (ws := wsX8_copyElements) B.pre
  have hown : s.vm.findClass RX8 = some m.cls := findClass_of_methodNamed B.named
  have hlocks := B.notSynchronized
  have hD := nd_D hnd
  have hS : va_S (AL L) s.heap s.heap [] := va_S.rf
  have hl := lv_entry ([.null, .int p1, .ref p2, .int p3, .int p4]) (n := 7) (Nat.le_of_ble_eq_true rfl)
  rw [lg_entry_eq]
  generalize (lg_sl ([.null, .int p1, .ref p2, .int p3, .int p4]) ++ List.replicate (7 - (lg_sl ([.null, .int p1, .ref p2, .int p3, .int p4])).length) Slot.unset).toArray = ls at hl ⊢
  have hl : lv_has ls 7 [(0, .null), (1, .int p1), (2, .ref p2), (3, .int p3), (4, .int p4)] := hl
  obtain ⟨Z, hZ⟩ : ∃ z, z = MQ below (hm_QI G L (h_X8_copyElements_ns p1 p2 p3 p4 S)) ([.null, .int p1, .ref p2, .int p3, .int p4] : List Value).toArray s 0 0 (AL L) := ⟨_, rfl⟩
  rw [← hZ]
  refine lv_aload_nN hx hb dX8_copyElements_0 rfl (lv_at hl 0 rfl) ?_
  refine lv_instN hx hb dX8_copyElements_1 ?_
  have K_43 : ∀ (H : Heap) (locs : List Loc), va_P (gD G) vwCl (va_pl L (PF G S)) H → va_S (AL L) s.heap H locs → ∀ (ls : Array Slot), lv_has ls 7 [(0, .null), (1, .int p1), (2, .ref p2), (3, .int p3), (4, .int p4)] → ok_X8_copyElements_ns_j43 L p1 p2 p3 p4 S → h_X8_copyElements_ns p1 p2 p3 p4 S = h_X8_copyElements_ns_j43 p1 p2 p3 p4 S → W p l e (pm_R 0 0) s m ([.null, .int p1, .ref p2, .int p3, .int p4] : List Value).toArray below meth c H locs 0 0 Z (F0 m 43 ls []) := by
    intro H locs hP hS ls hl hok hK_43
    refine lv_aload_nN hx hb dX8_copyElements_43 rfl (lv_at hl 0 rfl) ?_
    refine lv_instN hx hb dX8_copyElements_44 ?_
    refine lv_if_eq (tgt := 97) hx hb dX8_copyElements_47 (by decide) (fun _ => ?_) (fun z9 => absurd z9 (by decide))
    refine lv_iconst (v := 0) hx hb dX8_copyElements_97 (by decide) ?_
    rw [hZ]
    exact hm_iret hx hb hr hlocks hS hP hK hnd hE ((hK_43)) dX8_copyElements_98
  refine lv_if_eq (tgt := 43) hx hb dX8_copyElements_4 (by decide) (fun _ => ?_) (fun z9 => absurd z9 (by decide))
  exact K_43 _ _ hP hS ls (lv_sub hl [0, 1, 2, 3, 4] rfl) hok (rfl)
def h_X8_copyElements_sn_j43 (p0 : Nat) (p1 : Int32) (p3 : Int32) (p4 : Int32) (S : HS) : Int32 × HS :=
  if hsK S p0 = 5 then (0, S)
  else (0, S)
def ok_X8_copyElements_sn_j43 (L : List Nat) (p0 : Nat) (p1 : Int32) (p3 : Int32) (p4 : Int32) (S : HS) : Prop :=
  (p0 ∈ L ∧ 1 ≤ hsK S p0 ∧ hsK S p0 ≤ 5) ∧ (((hsK S p0 = 5) → ((p0 ∈ L ∧ hsK S p0 = 5) ∧ (True))) ∧
  (¬ (hsK S p0 = 5) → (True)))
def h_X8_copyElements_sn_j43a (p0 : Nat) (p1 : Int32) (p3 : Int32) (p4 : Int32) (S : HS) : Int32 × HS :=
  if hsK S p0 = 5 then (0, S)
  else (0, S)
def ok_X8_copyElements_sn_j43a (L : List Nat) (p0 : Nat) (p1 : Int32) (p3 : Int32) (p4 : Int32) (S : HS) : Prop :=
  (p0 ∈ L ∧ 1 ≤ hsK S p0 ∧ hsK S p0 ≤ 5) ∧ (((hsK S p0 = 5) → ((p0 ∈ L ∧ hsK S p0 = 5) ∧ (True))) ∧
  (¬ (hsK S p0 = 5) → (True)))
def h_X8_copyElements_sn (p0 : Nat) (p1 : Int32) (p3 : Int32) (p4 : Int32) (S : HS) : Int32 × HS :=
  if hsK S p0 = 1 then h_X8_copyElements_sn_j43 p0 p1 p3 p4 S
  else h_X8_copyElements_sn_j43a p0 p1 p3 p4 S
def ok_X8_copyElements_sn (L : List Nat) (p0 : Nat) (p1 : Int32) (p3 : Int32) (p4 : Int32) (S : HS) : Prop :=
  (p0 ∈ L ∧ 1 ≤ hsK S p0 ∧ hsK S p0 ≤ 5) ∧ (((hsK S p0 = 1) → ((p0 ∈ L ∧ hsK S p0 = 1) ∧ (ok_X8_copyElements_sn_j43 L p0 p1 p3 p4 S))) ∧
  (¬ (hsK S p0 = 1) → (ok_X8_copyElements_sn_j43a L p0 p1 p3 p4 S)))
set_option maxHeartbeats 4000000 in
set_option maxRecDepth 100000 in
theorem hm_X8_copyElements_sn (l : Launch) (G : GE) (L : List Nat) (S : HS) (p0 : Nat) (p1 : Int32) (p3 : Int32) (p4 : Int32) (hok : ok_X8_copyElements_sn L p0 p1 p3 p4 S) : HmI l G yX8_copyElements wsX8_copyElements 0 0 [.ref p0, .int p1, .null, .int p3, .int p4] L S (h_X8_copyElements_sn p0 p1 p3 p4 S) := by
  refine Met.ofW (cc := cX8_copyElements) (maxL := 7) (ret := (some .int)) (by decide) rfl ?_
  intro p e s m args below meth c s₁ B hml hv
  obtain ⟨rfl, hP, hK, hnd, hE⟩ := hv
  have hx := B.exec
  have hb := B.bytes
  have hr := B.returns
  have hts := atoms_spec (ws := wsX8_copyElements) B.pre
  have hown : s.vm.findClass RX8 = some m.cls := findClass_of_methodNamed B.named
  have hlocks := B.notSynchronized
  have hD := nd_D hnd
  have hS : va_S (AL L) s.heap s.heap [] := va_S.rf
  have hl := lv_entry ([.ref p0, .int p1, .null, .int p3, .int p4]) (n := 7) (Nat.le_of_ble_eq_true rfl)
  rw [lg_entry_eq]
  generalize (lg_sl ([.ref p0, .int p1, .null, .int p3, .int p4]) ++ List.replicate (7 - (lg_sl ([.ref p0, .int p1, .null, .int p3, .int p4])).length) Slot.unset).toArray = ls at hl ⊢
  have hl : lv_has ls 7 [(0, .ref p0), (1, .int p1), (2, .null), (3, .int p3), (4, .int p4)] := hl
  obtain ⟨Z, hZ⟩ : ∃ z, z = MQ below (hm_QI G L (h_X8_copyElements_sn p0 p1 p3 p4 S)) ([.ref p0, .int p1, .null, .int p3, .int p4] : List Value).toArray s 0 0 (AL L) := ⟨_, rfl⟩
  rw [← hZ]
  refine lv_aload_n hx hb dX8_copyElements_0 rfl (lv_at hl 0 rfl) ?_
  obtain ⟨h_1, hok⟩ := hok
  refine hp_inst1 hx hb hE.2 hown (hts _ (List.mem_of_getElem? (i := 1) rfl)) hK hP h_1 dX8_copyElements_1 (fun c_1 => ?_) (fun c_1 => ?_)
  ·
    have hok := (hok).1 c_1
    have K_43 : ∀ (H : Heap) (locs : List Loc), va_P (gD G) vwCl (va_pl L (PF G S)) H → va_S (AL L) s.heap H locs → ∀ (ls : Array Slot), lv_has ls 7 [(0, .ref p0), (1, .int p1), (2, .null), (3, .int p3), (4, .int p4)] → ok_X8_copyElements_sn_j43 L p0 p1 p3 p4 S → h_X8_copyElements_sn p0 p1 p3 p4 S = h_X8_copyElements_sn_j43 p0 p1 p3 p4 S → W p l e (pm_R 0 0) s m ([.ref p0, .int p1, .null, .int p3, .int p4] : List Value).toArray below meth c H locs 0 0 Z (F0 m 43 ls []) := by
      intro H locs hP hS ls hl hok hK_43
      refine lv_aload_n hx hb dX8_copyElements_43 rfl (lv_at hl 0 rfl) ?_
      obtain ⟨h_44, hok⟩ := hok
      refine hp_inst5 hx hb hE.2 hown (hts _ (List.mem_of_getElem? (i := 7) rfl)) hK hP h_44 dX8_copyElements_44 (fun c_44 => ?_) (fun c_44 => ?_)
      ·
        have hok := (hok).1 c_44
        refine lv_if_eq (tgt := 97) hx hb dX8_copyElements_47 (by decide) (fun z9 => absurd z9 (by decide)) (fun _ => ?_)
        refine lv_aload_n hx hb dX8_copyElements_50 rfl (lv_at hl 0 rfl) ?_
        obtain ⟨h_51, hok⟩ := hok
        refine hp_cast5 hx hb hE.2 hown (hts _ (List.mem_of_getElem? (i := 7) rfl)) hK hP h_51 dX8_copyElements_51 ?_
        refine lv_astore (lv' := [(5, .ref p0), (0, .ref p0), (1, .int p1), (2, .null), (3, .int p3), (4, .int p4)]) hx hb dX8_copyElements_54 hl (by decide) rfl (fun ls hl => ?_)
        refine lv_aload_nN hx hb dX8_copyElements_56 rfl (lv_at hl 3 rfl) ?_
        refine lv_instN hx hb dX8_copyElements_57 ?_
        refine lv_if_eq (tgt := 97) hx hb dX8_copyElements_60 (by decide) (fun _ => ?_) (fun z9 => absurd z9 (by decide))
        refine lv_iconst (v := 0) hx hb dX8_copyElements_97 (by decide) ?_
        rw [hZ]
        exact hm_iret hx hb hr hlocks hS hP hK hnd hE (((hK_43).trans (if_pos c_44))) dX8_copyElements_98
      ·
        have hok := (hok).2 c_44
        refine lv_if_eq (tgt := 97) hx hb dX8_copyElements_47 (by decide) (fun _ => ?_) (fun z9 => absurd z9 (by decide))
        refine lv_iconst (v := 0) hx hb dX8_copyElements_97 (by decide) ?_
        rw [hZ]
        exact hm_iret hx hb hr hlocks hS hP hK hnd hE (((hK_43).trans (if_neg c_44))) dX8_copyElements_98
    refine lv_if_eq (tgt := 43) hx hb dX8_copyElements_4 (by decide) (fun z9 => absurd z9 (by decide)) (fun _ => ?_)
    refine lv_aload_n hx hb dX8_copyElements_7 rfl (lv_at hl 0 rfl) ?_
    obtain ⟨h_8, hok⟩ := hok
    refine hp_cast1 hx hb hE.2 hown (hts _ (List.mem_of_getElem? (i := 1) rfl)) hK hP h_8 dX8_copyElements_8 ?_
    refine lv_astore (lv' := [(5, .ref p0), (0, .ref p0), (1, .int p1), (2, .null), (3, .int p3), (4, .int p4)]) hx hb dX8_copyElements_11 hl (by decide) rfl (fun ls hl => ?_)
    refine lv_aload_nN hx hb dX8_copyElements_13 rfl (lv_at hl 3 rfl) ?_
    refine lv_instN hx hb dX8_copyElements_14 ?_
    refine lv_if_eq (tgt := 43) hx hb dX8_copyElements_17 (by decide) (fun _ => ?_) (fun z9 => absurd z9 (by decide))
    exact K_43 _ _ hP hS ls (lv_sub hl [1, 2, 3, 4, 5] rfl) hok ((if_pos c_1))
  ·
    have hok := (hok).2 c_1
    have K_43 : ∀ (H : Heap) (locs : List Loc), va_P (gD G) vwCl (va_pl L (PF G S)) H → va_S (AL L) s.heap H locs → ∀ (ls : Array Slot), lv_has ls 7 [(0, .ref p0), (1, .int p1), (2, .null), (3, .int p3), (4, .int p4)] → ok_X8_copyElements_sn_j43a L p0 p1 p3 p4 S → h_X8_copyElements_sn p0 p1 p3 p4 S = h_X8_copyElements_sn_j43a p0 p1 p3 p4 S → W p l e (pm_R 0 0) s m ([.ref p0, .int p1, .null, .int p3, .int p4] : List Value).toArray below meth c H locs 0 0 Z (F0 m 43 ls []) := by
      intro H locs hP hS ls hl hok hK_43
      refine lv_aload_n hx hb dX8_copyElements_43 rfl (lv_at hl 0 rfl) ?_
      obtain ⟨h_44, hok⟩ := hok
      refine hp_inst5 hx hb hE.2 hown (hts _ (List.mem_of_getElem? (i := 7) rfl)) hK hP h_44 dX8_copyElements_44 (fun c_44 => ?_) (fun c_44 => ?_)
      ·
        have hok := (hok).1 c_44
        refine lv_if_eq (tgt := 97) hx hb dX8_copyElements_47 (by decide) (fun z9 => absurd z9 (by decide)) (fun _ => ?_)
        refine lv_aload_n hx hb dX8_copyElements_50 rfl (lv_at hl 0 rfl) ?_
        obtain ⟨h_51, hok⟩ := hok
        refine hp_cast5 hx hb hE.2 hown (hts _ (List.mem_of_getElem? (i := 7) rfl)) hK hP h_51 dX8_copyElements_51 ?_
        refine lv_astore (lv' := [(5, .ref p0), (0, .ref p0), (1, .int p1), (2, .null), (3, .int p3), (4, .int p4)]) hx hb dX8_copyElements_54 hl (by decide) rfl (fun ls hl => ?_)
        refine lv_aload_nN hx hb dX8_copyElements_56 rfl (lv_at hl 3 rfl) ?_
        refine lv_instN hx hb dX8_copyElements_57 ?_
        refine lv_if_eq (tgt := 97) hx hb dX8_copyElements_60 (by decide) (fun _ => ?_) (fun z9 => absurd z9 (by decide))
        refine lv_iconst (v := 0) hx hb dX8_copyElements_97 (by decide) ?_
        rw [hZ]
        exact hm_iret hx hb hr hlocks hS hP hK hnd hE (((hK_43).trans (if_pos c_44))) dX8_copyElements_98
      ·
        have hok := (hok).2 c_44
        refine lv_if_eq (tgt := 97) hx hb dX8_copyElements_47 (by decide) (fun _ => ?_) (fun z9 => absurd z9 (by decide))
        refine lv_iconst (v := 0) hx hb dX8_copyElements_97 (by decide) ?_
        rw [hZ]
        exact hm_iret hx hb hr hlocks hS hP hK hnd hE (((hK_43).trans (if_neg c_44))) dX8_copyElements_98
    refine lv_if_eq (tgt := 43) hx hb dX8_copyElements_4 (by decide) (fun _ => ?_) (fun z9 => absurd z9 (by decide))
    exact K_43 _ _ hP hS ls (lv_sub hl [0, 1, 2, 3, 4] rfl) hok ((if_neg c_1))
theorem iw_X8_copyElements_X1 : ∀ w ∈ u_ws RX1 TX1 3, w ∈ wsX8_copyElements := by decide +kernel
def h_X8_copyElements_ss_j43 (p0 : Nat) (p1 : Int32) (p2 : Nat) (p3 : Int32) (p4 : Int32) (S : HS) (S_43 : HS) : Int32 × HS :=
  if hsK S_43 p0 = 5 then if hsK S_43 p2 = 5 then if (some p0) = (some p2) then (0, h_X8_shiftThings p2 p1 p3 p4 S_43)
    else ((h_X8_copyThings p0 p1 p2 p3 p4 S_43).1, (h_X8_copyThings p0 p1 p2 p3 p4 S_43).2)
   else (0, S_43)
  else (0, S_43)
def ok_X8_copyElements_ss_j43 (L : List Nat) (p0 : Nat) (p1 : Int32) (p2 : Nat) (p3 : Int32) (p4 : Int32) (S : HS) (S_43 : HS) : Prop :=
  (p0 ∈ L ∧ 1 ≤ hsK S_43 p0 ∧ hsK S_43 p0 ≤ 5) ∧ (((hsK S_43 p0 = 5) → ((p0 ∈ L ∧ hsK S_43 p0 = 5) ∧ ((p2 ∈ L ∧ 1 ≤ hsK S_43 p2 ∧ hsK S_43 p2 ≤ 5) ∧ (((hsK S_43 p2 = 5) → ((p2 ∈ L ∧ hsK S_43 p2 = 5) ∧ ((((some p0) = (some p2)) → ((ok_X8_shiftThings L p2 p1 p3 p4 S_43) ∧ (True))) ∧
    (¬ ((some p0) = (some p2)) → ((ok_X8_copyThings L p0 p1 p2 p3 p4 S_43) ∧ (True)))))) ∧
   (¬ (hsK S_43 p2 = 5) → (True)))))) ∧
  (¬ (hsK S_43 p0 = 5) → (True)))
def h_X8_copyElements_ss_j43a (p0 : Nat) (p1 : Int32) (p2 : Nat) (p3 : Int32) (p4 : Int32) (S : HS) : Int32 × HS :=
  if hsK S p0 = 5 then if hsK S p2 = 5 then if (some p0) = (some p2) then (0, h_X8_shiftThings p2 p1 p3 p4 S)
    else ((h_X8_copyThings p0 p1 p2 p3 p4 S).1, (h_X8_copyThings p0 p1 p2 p3 p4 S).2)
   else (0, S)
  else (0, S)
def ok_X8_copyElements_ss_j43a (L : List Nat) (p0 : Nat) (p1 : Int32) (p2 : Nat) (p3 : Int32) (p4 : Int32) (S : HS) : Prop :=
  (p0 ∈ L ∧ 1 ≤ hsK S p0 ∧ hsK S p0 ≤ 5) ∧ (((hsK S p0 = 5) → ((p0 ∈ L ∧ hsK S p0 = 5) ∧ ((p2 ∈ L ∧ 1 ≤ hsK S p2 ∧ hsK S p2 ≤ 5) ∧ (((hsK S p2 = 5) → ((p2 ∈ L ∧ hsK S p2 = 5) ∧ ((((some p0) = (some p2)) → ((ok_X8_shiftThings L p2 p1 p3 p4 S) ∧ (True))) ∧
    (¬ ((some p0) = (some p2)) → ((ok_X8_copyThings L p0 p1 p2 p3 p4 S) ∧ (True)))))) ∧
   (¬ (hsK S p2 = 5) → (True)))))) ∧
  (¬ (hsK S p0 = 5) → (True)))
def h_X8_copyElements_ss (p0 : Nat) (p1 : Int32) (p2 : Nat) (p3 : Int32) (p4 : Int32) (S : HS) : Int32 × HS :=
  if hsK S p0 = 1 then if hsK S p2 = 1 then h_X8_copyElements_ss_j43 p0 p1 p2 p3 p4 S (hwJc S ((hsQ S p0 2).getD 0) ((hsQ S p2 2).getD 0) p1 p3 p4)
   else h_X8_copyElements_ss_j43 p0 p1 p2 p3 p4 S S
  else h_X8_copyElements_ss_j43a p0 p1 p2 p3 p4 S
def ok_X8_copyElements_ss (L : List Nat) (p0 : Nat) (p1 : Int32) (p2 : Nat) (p3 : Int32) (p4 : Int32) (S : HS) : Prop :=
  (p0 ∈ L ∧ 1 ≤ hsK S p0 ∧ hsK S p0 ≤ 5) ∧ (((hsK S p0 = 1) → ((p0 ∈ L ∧ hsK S p0 = 1) ∧ ((p2 ∈ L ∧ 1 ≤ hsK S p2 ∧ hsK S p2 ≤ 5) ∧ (((hsK S p2 = 1) → ((p2 ∈ L ∧ hsK S p2 = 1) ∧ ((p0 ∈ L ∧ hsK S p0 = 1 ∧ hsQ S p0 2 ≠ none) ∧ ((p2 ∈ L ∧ hsK S p2 = 1 ∧ hsQ S p2 2 ≠ none) ∧ (((((hsQ S p0 2).getD 0) ∈ L ∧ hsK S ((hsQ S p0 2).getD 0) = 9) ∧ (((hsQ S p2 2).getD 0) ∈ L ∧ hsK S ((hsQ S p2 2).getD 0) = 9) ∧ ¬ p1 < 0 ∧ ¬ p3 < 0 ∧ ¬ p4 < 0 ∧ p1.toNatClampNeg + p4.toNatClampNeg ≤ hsN S ((hsQ S p0 2).getD 0) ∧ p3.toNatClampNeg + p4.toNatClampNeg ≤ hsN S ((hsQ S p2 2).getD 0)) ∧ (ok_X8_copyElements_ss_j43 L p0 p1 p2 p3 p4 S (hwJc S ((hsQ S p0 2).getD 0) ((hsQ S p2 2).getD 0) p1 p3 p4))))))) ∧
   (¬ (hsK S p2 = 1) → (ok_X8_copyElements_ss_j43 L p0 p1 p2 p3 p4 S S)))))) ∧
  (¬ (hsK S p0 = 1) → (ok_X8_copyElements_ss_j43a L p0 p1 p2 p3 p4 S)))
set_option maxHeartbeats 4000000 in
set_option maxRecDepth 100000 in
theorem hm_X8_copyElements_ss (l : Launch) (G : GE) (L : List Nat) (S : HS) (p0 : Nat) (p1 : Int32) (p2 : Nat) (p3 : Int32) (p4 : Int32) (hok : ok_X8_copyElements_ss L p0 p1 p2 p3 p4 S) : HmI l G yX8_copyElements wsX8_copyElements 3 69 [.ref p0, .int p1, .ref p2, .int p3, .int p4] L S (h_X8_copyElements_ss p0 p1 p2 p3 p4 S) := by
  refine Met.ofW (cc := cX8_copyElements) (maxL := 7) (ret := (some .int)) (by decide) rfl ?_
  intro p e s m args below meth c s₁ B hml hv
  obtain ⟨rfl, hP, hK, hnd, hE⟩ := hv
  have hx := B.exec
  have hb := B.bytes
  have hr := B.returns
  have hts := atoms_spec (ws := wsX8_copyElements) B.pre
  have hown : s.vm.findClass RX8 = some m.cls := findClass_of_methodNamed B.named
  have hlocks := B.notSynchronized
  have hD := nd_D hnd
  have hS : va_S (AL L) s.heap s.heap [] := va_S.rf
  have hl := lv_entry ([.ref p0, .int p1, .ref p2, .int p3, .int p4]) (n := 7) (Nat.le_of_ble_eq_true rfl)
  rw [lg_entry_eq]
  generalize (lg_sl ([.ref p0, .int p1, .ref p2, .int p3, .int p4]) ++ List.replicate (7 - (lg_sl ([.ref p0, .int p1, .ref p2, .int p3, .int p4])).length) Slot.unset).toArray = ls at hl ⊢
  have hl : lv_has ls 7 [(0, .ref p0), (1, .int p1), (2, .ref p2), (3, .int p3), (4, .int p4)] := hl
  obtain ⟨Z, hZ⟩ : ∃ z, z = MQ below (hm_QI G L (h_X8_copyElements_ss p0 p1 p2 p3 p4 S)) ([.ref p0, .int p1, .ref p2, .int p3, .int p4] : List Value).toArray s 0 0 (AL L) := ⟨_, rfl⟩
  rw [← hZ]
  refine lv_aload_n hx hb dX8_copyElements_0 rfl (lv_at hl 0 rfl) ?_
  obtain ⟨h_1, hok⟩ := hok
  refine hp_inst1 hx hb hE.2 hown (hts _ (List.mem_of_getElem? (i := 1) rfl)) hK hP h_1 dX8_copyElements_1 (fun c_1 => ?_) (fun c_1 => ?_)
  ·
    have hok := (hok).1 c_1
    have K_43 : ∀ (S_43 : HS) (H : Heap) (locs : List Loc), va_P (gD G) vwCl (va_pl L (PF G S_43)) H → va_S (AL L) s.heap H locs → ∀ (ls : Array Slot), lv_has ls 7 [(0, .ref p0), (1, .int p1), (2, .ref p2), (3, .int p3), (4, .int p4)] → ok_X8_copyElements_ss_j43 L p0 p1 p2 p3 p4 S S_43 → h_X8_copyElements_ss p0 p1 p2 p3 p4 S = h_X8_copyElements_ss_j43 p0 p1 p2 p3 p4 S S_43 → W p l e (pm_R 3 69) s m ([.ref p0, .int p1, .ref p2, .int p3, .int p4] : List Value).toArray below meth c H locs 0 0 Z (F0 m 43 ls []) := by
      intro S_43 H locs hP hS ls hl hok hK_43
      refine lv_aload_n hx hb dX8_copyElements_43 rfl (lv_at hl 0 rfl) ?_
      obtain ⟨h_44, hok⟩ := hok
      refine hp_inst5 hx hb hE.2 hown (hts _ (List.mem_of_getElem? (i := 7) rfl)) hK hP h_44 dX8_copyElements_44 (fun c_44 => ?_) (fun c_44 => ?_)
      ·
        have hok := (hok).1 c_44
        refine lv_if_eq (tgt := 97) hx hb dX8_copyElements_47 (by decide) (fun z9 => absurd z9 (by decide)) (fun _ => ?_)
        refine lv_aload_n hx hb dX8_copyElements_50 rfl (lv_at hl 0 rfl) ?_
        obtain ⟨h_51, hok⟩ := hok
        refine hp_cast5 hx hb hE.2 hown (hts _ (List.mem_of_getElem? (i := 7) rfl)) hK hP h_51 dX8_copyElements_51 ?_
        refine lv_astore (lv' := [(5, .ref p0), (0, .ref p0), (1, .int p1), (2, .ref p2), (3, .int p3), (4, .int p4)]) hx hb dX8_copyElements_54 hl (by decide) rfl (fun ls hl => ?_)
        refine lv_aload_n hx hb dX8_copyElements_56 rfl (lv_at hl 3 rfl) ?_
        obtain ⟨h_57, hok⟩ := hok
        refine hp_inst5 hx hb hE.2 hown (hts _ (List.mem_of_getElem? (i := 7) rfl)) hK hP h_57 dX8_copyElements_57 (fun c_57 => ?_) (fun c_57 => ?_)
        ·
          have hok := (hok).1 c_57
          refine lv_if_eq (tgt := 97) hx hb dX8_copyElements_60 (by decide) (fun z9 => absurd z9 (by decide)) (fun _ => ?_)
          refine lv_aload_n hx hb dX8_copyElements_63 rfl (lv_at hl 3 rfl) ?_
          obtain ⟨h_64, hok⟩ := hok
          refine hp_cast5 hx hb hE.2 hown (hts _ (List.mem_of_getElem? (i := 7) rfl)) hK hP h_64 dX8_copyElements_64 ?_
          refine lv_astore (lv' := [(6, .ref p2), (5, .ref p0), (0, .ref p0), (1, .int p1), (2, .ref p2), (3, .int p3), (4, .int p4)]) hx hb dX8_copyElements_67 hl (by decide) rfl (fun ls hl => ?_)
          refine lv_aload hx hb dX8_copyElements_69 (lv_at hl 1 rfl) ?_
          refine lv_aload hx hb dX8_copyElements_71 (lv_at hl 0 rfl) ?_
          refine lv_acmp_eq (rx := (some p0)) (ry := (some p2)) (tgt := 88) hx hb dX8_copyElements_73 (by decide) (fun c_73 => ?_) (fun c_73 => ?_)
          ·
            have hok := (hok).1 c_73
            refine lv_aload hx hb dX8_copyElements_88 (lv_at hl 0 rfl) ?_
            refine lv_iload_n hx hb dX8_copyElements_90 rfl (lv_at hl 3 rfl) ?_
            refine lv_iload_n hx hb dX8_copyElements_91 rfl (lv_at hl 5 rfl) ?_
            refine lv_iload hx hb dX8_copyElements_92 (lv_at hl 6 rfl) ?_
            obtain ⟨h_94, hok⟩ := hok
            refine hm_callV (G := G) (a := ([.ref p2, .int p1, .int p3, .int p4] : List Value).toArray) (pr := (h_X8_shiftThings p2 p1 p3 p4 S_43)) (rest := []) ?_ hS (fun H locs hP hS => ?_)
            ·
              exact va_runS (As := [.ref p2, .int p1, .int p3, .int p4]) (rest := []) ⟨hx, hb, hml, hown, hts⟩ (hm_X8_shiftThings l G L S_43 p2 p1 p3 p4 h_94) (va_cwS 4 hts gX8_copyElements_X8_shiftThings rfl rfl rfl hd_X8_shiftThings ⟨Nat.le_of_ble_eq_true rfl, Nat.le_of_ble_eq_true rfl⟩) ⟨HW.fb, fun U hU hW => ⟨rfl, HW.call hP hK hnd hE hS U hU hW⟩⟩ rfl rfl hl.1 rfl (lv_room (Nat.le_of_ble_eq_true rfl)) dX8_copyElements_94 ⟨Nat.le_refl 0, Nat.le_refl 0⟩
            ·
              refine lv_iconst (v := 0) hx hb dX8_copyElements_97 (by decide) ?_
              rw [hZ]
              exact hm_iret hx hb hr hlocks hS hP hK hnd hE (((hK_43).trans ((if_pos c_44).trans ((if_pos c_57).trans (if_pos c_73))))) dX8_copyElements_98
          ·
            have hok := (hok).2 c_73
            refine lv_aload hx hb dX8_copyElements_76 (lv_at hl 1 rfl) ?_
            refine lv_iload_n hx hb dX8_copyElements_78 rfl (lv_at hl 3 rfl) ?_
            refine lv_aload hx hb dX8_copyElements_79 (lv_at hl 0 rfl) ?_
            refine lv_iload_n hx hb dX8_copyElements_81 rfl (lv_at hl 5 rfl) ?_
            refine lv_iload hx hb dX8_copyElements_82 (lv_at hl 6 rfl) ?_
            obtain ⟨h_84, hok⟩ := hok
            refine hm_callI (G := G) (a := ([.ref p0, .int p1, .ref p2, .int p3, .int p4] : List Value).toArray) (pr := (h_X8_copyThings p0 p1 p2 p3 p4 S_43)) (rest := []) ?_ hS (fun H locs hP hS => ?_)
            ·
              exact va_runS (As := [.ref p0, .int p1, .ref p2, .int p3, .int p4]) (rest := []) ⟨hx, hb, hml, hown, hts⟩ (hm_X8_copyThings l G L S_43 p0 p1 p2 p3 p4 h_84) (va_cwS 5 hts gX8_copyElements_X8_copyThings rfl rfl rfl hd_X8_copyThings ⟨Nat.le_of_ble_eq_true rfl, Nat.le_of_ble_eq_true rfl⟩) ⟨HW.fb, fun U hU hW => ⟨rfl, HW.call hP hK hnd hE hS U hU hW⟩⟩ rfl rfl hl.1 rfl (lv_room (Nat.le_of_ble_eq_true rfl)) dX8_copyElements_84 ⟨Nat.le_refl 0, Nat.le_refl 0⟩
            ·
              rw [hZ]
              exact hm_iret hx hb hr hlocks hS hP hK hnd hE (((hK_43).trans ((if_pos c_44).trans ((if_pos c_57).trans (if_neg c_73))))) dX8_copyElements_87
        ·
          have hok := (hok).2 c_57
          refine lv_if_eq (tgt := 97) hx hb dX8_copyElements_60 (by decide) (fun _ => ?_) (fun z9 => absurd z9 (by decide))
          refine lv_iconst (v := 0) hx hb dX8_copyElements_97 (by decide) ?_
          rw [hZ]
          exact hm_iret hx hb hr hlocks hS hP hK hnd hE (((hK_43).trans ((if_pos c_44).trans (if_neg c_57)))) dX8_copyElements_98
      ·
        have hok := (hok).2 c_44
        refine lv_if_eq (tgt := 97) hx hb dX8_copyElements_47 (by decide) (fun _ => ?_) (fun z9 => absurd z9 (by decide))
        refine lv_iconst (v := 0) hx hb dX8_copyElements_97 (by decide) ?_
        rw [hZ]
        exact hm_iret hx hb hr hlocks hS hP hK hnd hE (((hK_43).trans (if_neg c_44))) dX8_copyElements_98
    refine lv_if_eq (tgt := 43) hx hb dX8_copyElements_4 (by decide) (fun z9 => absurd z9 (by decide)) (fun _ => ?_)
    refine lv_aload_n hx hb dX8_copyElements_7 rfl (lv_at hl 0 rfl) ?_
    obtain ⟨h_8, hok⟩ := hok
    refine hp_cast1 hx hb hE.2 hown (hts _ (List.mem_of_getElem? (i := 1) rfl)) hK hP h_8 dX8_copyElements_8 ?_
    refine lv_astore (lv' := [(5, .ref p0), (0, .ref p0), (1, .int p1), (2, .ref p2), (3, .int p3), (4, .int p4)]) hx hb dX8_copyElements_11 hl (by decide) rfl (fun ls hl => ?_)
    refine lv_aload_n hx hb dX8_copyElements_13 rfl (lv_at hl 3 rfl) ?_
    obtain ⟨h_14, hok⟩ := hok
    refine hp_inst1 hx hb hE.2 hown (hts _ (List.mem_of_getElem? (i := 1) rfl)) hK hP h_14 dX8_copyElements_14 (fun c_14 => ?_) (fun c_14 => ?_)
    ·
      have hok := (hok).1 c_14
      refine lv_if_eq (tgt := 43) hx hb dX8_copyElements_17 (by decide) (fun z9 => absurd z9 (by decide)) (fun _ => ?_)
      refine lv_aload_n hx hb dX8_copyElements_20 rfl (lv_at hl 3 rfl) ?_
      obtain ⟨h_21, hok⟩ := hok
      refine hp_cast1 hx hb hE.2 hown (hts _ (List.mem_of_getElem? (i := 1) rfl)) hK hP h_21 dX8_copyElements_21 ?_
      refine lv_astore (lv' := [(6, .ref p2), (5, .ref p0), (0, .ref p0), (1, .int p1), (2, .ref p2), (3, .int p3), (4, .int p4)]) hx hb dX8_copyElements_24 hl (by decide) rfl (fun ls hl => ?_)
      refine lv_aload hx hb dX8_copyElements_26 (lv_at hl 1 rfl) ?_
      obtain ⟨h_28, hok⟩ := hok
      refine hp_getR (ci := 1) (C := RX1) (T := TX1) (N := 3) hx hb hts iw_X8_copyElements_X1 hown hK hP h_28.1 (PF_1 h_28.2.1) rfl 2 (by decide) (hts _ (List.mem_of_getElem? (i := 2) rfl)) (fun _ h9 => h9) rfl h_28.2.2 dX8_copyElements_28 ?_
      refine lv_iload_n hx hb dX8_copyElements_31 rfl (lv_at hl 3 rfl) ?_
      refine lv_aload hx hb dX8_copyElements_32 (lv_at hl 0 rfl) ?_
      obtain ⟨h_34, hok⟩ := hok
      refine hp_getR (ci := 1) (C := RX1) (T := TX1) (N := 3) hx hb hts iw_X8_copyElements_X1 hown hK hP h_34.1 (PF_1 h_34.2.1) rfl 2 (by decide) (hts _ (List.mem_of_getElem? (i := 2) rfl)) (fun _ h9 => h9) rfl h_34.2.2 dX8_copyElements_34 ?_
      refine lv_iload_n hx hb dX8_copyElements_37 rfl (lv_at hl 5 rfl) ?_
      refine lv_iload hx hb dX8_copyElements_38 (lv_at hl 6 rfl) ?_
      obtain ⟨h_40, hok⟩ := hok
      refine hp_copyl hx hb (hml.trans hl.1.symm) hown (hts _ (List.mem_of_getElem? (i := 3) rfl)) (hts _ (List.mem_of_getElem? (i := 4) rfl)) (hts _ (List.mem_of_getElem? (i := 5) rfl)) (hts _ (List.mem_of_getElem? (i := 6) rfl)) hK hP (hD _) hS h_40 (Nat.le_of_ble_eq_true rfl) (Nat.le_of_ble_eq_true rfl) dX8_copyElements_40 (fun H locs hP hS => ?_)
      exact K_43 (hwJc S ((hsQ S p0 2).getD 0) ((hsQ S p2 2).getD 0) p1 p3 p4) _ _ hP hS ls (lv_sub hl [2, 3, 4, 5, 6] rfl) hok (((if_pos c_1).trans (if_pos c_14)))
    ·
      have hok := (hok).2 c_14
      refine lv_if_eq (tgt := 43) hx hb dX8_copyElements_17 (by decide) (fun _ => ?_) (fun z9 => absurd z9 (by decide))
      exact K_43 S _ _ hP hS ls (lv_sub hl [1, 2, 3, 4, 5] rfl) hok (((if_pos c_1).trans (if_neg c_14)))
  ·
    have hok := (hok).2 c_1
    have K_43 : ∀ (H : Heap) (locs : List Loc), va_P (gD G) vwCl (va_pl L (PF G S)) H → va_S (AL L) s.heap H locs → ∀ (ls : Array Slot), lv_has ls 7 [(0, .ref p0), (1, .int p1), (2, .ref p2), (3, .int p3), (4, .int p4)] → ok_X8_copyElements_ss_j43a L p0 p1 p2 p3 p4 S → h_X8_copyElements_ss p0 p1 p2 p3 p4 S = h_X8_copyElements_ss_j43a p0 p1 p2 p3 p4 S → W p l e (pm_R 3 69) s m ([.ref p0, .int p1, .ref p2, .int p3, .int p4] : List Value).toArray below meth c H locs 0 0 Z (F0 m 43 ls []) := by
      intro H locs hP hS ls hl hok hK_43
      refine lv_aload_n hx hb dX8_copyElements_43 rfl (lv_at hl 0 rfl) ?_
      obtain ⟨h_44, hok⟩ := hok
      refine hp_inst5 hx hb hE.2 hown (hts _ (List.mem_of_getElem? (i := 7) rfl)) hK hP h_44 dX8_copyElements_44 (fun c_44 => ?_) (fun c_44 => ?_)
      ·
        have hok := (hok).1 c_44
        refine lv_if_eq (tgt := 97) hx hb dX8_copyElements_47 (by decide) (fun z9 => absurd z9 (by decide)) (fun _ => ?_)
        refine lv_aload_n hx hb dX8_copyElements_50 rfl (lv_at hl 0 rfl) ?_
        obtain ⟨h_51, hok⟩ := hok
        refine hp_cast5 hx hb hE.2 hown (hts _ (List.mem_of_getElem? (i := 7) rfl)) hK hP h_51 dX8_copyElements_51 ?_
        refine lv_astore (lv' := [(5, .ref p0), (0, .ref p0), (1, .int p1), (2, .ref p2), (3, .int p3), (4, .int p4)]) hx hb dX8_copyElements_54 hl (by decide) rfl (fun ls hl => ?_)
        refine lv_aload_n hx hb dX8_copyElements_56 rfl (lv_at hl 3 rfl) ?_
        obtain ⟨h_57, hok⟩ := hok
        refine hp_inst5 hx hb hE.2 hown (hts _ (List.mem_of_getElem? (i := 7) rfl)) hK hP h_57 dX8_copyElements_57 (fun c_57 => ?_) (fun c_57 => ?_)
        ·
          have hok := (hok).1 c_57
          refine lv_if_eq (tgt := 97) hx hb dX8_copyElements_60 (by decide) (fun z9 => absurd z9 (by decide)) (fun _ => ?_)
          refine lv_aload_n hx hb dX8_copyElements_63 rfl (lv_at hl 3 rfl) ?_
          obtain ⟨h_64, hok⟩ := hok
          refine hp_cast5 hx hb hE.2 hown (hts _ (List.mem_of_getElem? (i := 7) rfl)) hK hP h_64 dX8_copyElements_64 ?_
          refine lv_astore (lv' := [(6, .ref p2), (5, .ref p0), (0, .ref p0), (1, .int p1), (2, .ref p2), (3, .int p3), (4, .int p4)]) hx hb dX8_copyElements_67 hl (by decide) rfl (fun ls hl => ?_)
          refine lv_aload hx hb dX8_copyElements_69 (lv_at hl 1 rfl) ?_
          refine lv_aload hx hb dX8_copyElements_71 (lv_at hl 0 rfl) ?_
          refine lv_acmp_eq (rx := (some p0)) (ry := (some p2)) (tgt := 88) hx hb dX8_copyElements_73 (by decide) (fun c_73 => ?_) (fun c_73 => ?_)
          ·
            have hok := (hok).1 c_73
            refine lv_aload hx hb dX8_copyElements_88 (lv_at hl 0 rfl) ?_
            refine lv_iload_n hx hb dX8_copyElements_90 rfl (lv_at hl 3 rfl) ?_
            refine lv_iload_n hx hb dX8_copyElements_91 rfl (lv_at hl 5 rfl) ?_
            refine lv_iload hx hb dX8_copyElements_92 (lv_at hl 6 rfl) ?_
            obtain ⟨h_94, hok⟩ := hok
            refine hm_callV (G := G) (a := ([.ref p2, .int p1, .int p3, .int p4] : List Value).toArray) (pr := (h_X8_shiftThings p2 p1 p3 p4 S)) (rest := []) ?_ hS (fun H locs hP hS => ?_)
            ·
              exact va_runS (As := [.ref p2, .int p1, .int p3, .int p4]) (rest := []) ⟨hx, hb, hml, hown, hts⟩ (hm_X8_shiftThings l G L S p2 p1 p3 p4 h_94) (va_cwS 4 hts gX8_copyElements_X8_shiftThings rfl rfl rfl hd_X8_shiftThings ⟨Nat.le_of_ble_eq_true rfl, Nat.le_of_ble_eq_true rfl⟩) ⟨HW.fb, fun U hU hW => ⟨rfl, HW.call hP hK hnd hE hS U hU hW⟩⟩ rfl rfl hl.1 rfl (lv_room (Nat.le_of_ble_eq_true rfl)) dX8_copyElements_94 ⟨Nat.le_refl 0, Nat.le_refl 0⟩
            ·
              refine lv_iconst (v := 0) hx hb dX8_copyElements_97 (by decide) ?_
              rw [hZ]
              exact hm_iret hx hb hr hlocks hS hP hK hnd hE (((hK_43).trans ((if_pos c_44).trans ((if_pos c_57).trans (if_pos c_73))))) dX8_copyElements_98
          ·
            have hok := (hok).2 c_73
            refine lv_aload hx hb dX8_copyElements_76 (lv_at hl 1 rfl) ?_
            refine lv_iload_n hx hb dX8_copyElements_78 rfl (lv_at hl 3 rfl) ?_
            refine lv_aload hx hb dX8_copyElements_79 (lv_at hl 0 rfl) ?_
            refine lv_iload_n hx hb dX8_copyElements_81 rfl (lv_at hl 5 rfl) ?_
            refine lv_iload hx hb dX8_copyElements_82 (lv_at hl 6 rfl) ?_
            obtain ⟨h_84, hok⟩ := hok
            refine hm_callI (G := G) (a := ([.ref p0, .int p1, .ref p2, .int p3, .int p4] : List Value).toArray) (pr := (h_X8_copyThings p0 p1 p2 p3 p4 S)) (rest := []) ?_ hS (fun H locs hP hS => ?_)
            ·
              exact va_runS (As := [.ref p0, .int p1, .ref p2, .int p3, .int p4]) (rest := []) ⟨hx, hb, hml, hown, hts⟩ (hm_X8_copyThings l G L S p0 p1 p2 p3 p4 h_84) (va_cwS 5 hts gX8_copyElements_X8_copyThings rfl rfl rfl hd_X8_copyThings ⟨Nat.le_of_ble_eq_true rfl, Nat.le_of_ble_eq_true rfl⟩) ⟨HW.fb, fun U hU hW => ⟨rfl, HW.call hP hK hnd hE hS U hU hW⟩⟩ rfl rfl hl.1 rfl (lv_room (Nat.le_of_ble_eq_true rfl)) dX8_copyElements_84 ⟨Nat.le_refl 0, Nat.le_refl 0⟩
            ·
              rw [hZ]
              exact hm_iret hx hb hr hlocks hS hP hK hnd hE (((hK_43).trans ((if_pos c_44).trans ((if_pos c_57).trans (if_neg c_73))))) dX8_copyElements_87
        ·
          have hok := (hok).2 c_57
          refine lv_if_eq (tgt := 97) hx hb dX8_copyElements_60 (by decide) (fun _ => ?_) (fun z9 => absurd z9 (by decide))
          refine lv_iconst (v := 0) hx hb dX8_copyElements_97 (by decide) ?_
          rw [hZ]
          exact hm_iret hx hb hr hlocks hS hP hK hnd hE (((hK_43).trans ((if_pos c_44).trans (if_neg c_57)))) dX8_copyElements_98
      ·
        have hok := (hok).2 c_44
        refine lv_if_eq (tgt := 97) hx hb dX8_copyElements_47 (by decide) (fun _ => ?_) (fun z9 => absurd z9 (by decide))
        refine lv_iconst (v := 0) hx hb dX8_copyElements_97 (by decide) ?_
        rw [hZ]
        exact hm_iret hx hb hr hlocks hS hP hK hnd hE (((hK_43).trans (if_neg c_44))) dX8_copyElements_98
    refine lv_if_eq (tgt := 43) hx hb dX8_copyElements_4 (by decide) (fun _ => ?_) (fun z9 => absurd z9 (by decide))
    exact K_43 _ _ hP hS ls (lv_sub hl [0, 1, 2, 3, 4] rfl) hok ((if_neg c_1))
