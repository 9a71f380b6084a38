/-! ===== the class over its cells: causes, elements (laid by program) ===== -/
theorem hd_X8_putCause : yX8_putCause.cls ≠ "java/lang/invoke/MethodHandle" ∧ yX8_putCause.cls ≠ "java/lang/invoke/VarHandle" ∧ (parseMethodDescriptor yX8_putCause.desc).map (fun d => d.parameters.length) = some 4 := by decide +kernel
def h_X8_putCause_nn (p0 : Int32) (p2 : Int32) (S : HS) : Int32 :=
  if (h_X8_passesCast_n p0 S) = 0 then 4
  else if (h_X8_passesCast_n (s_X8_elementTypeOfType p0) S) = 0 then 4
   else 1
def ok_X8_putCause_nn (L : List Nat) (p0 : Int32) (p2 : Int32) (S : HS) : Prop :=
  (ok_X8_passesCast_n L p0 S) ∧ ((((h_X8_passesCast_n p0 S) = 0) → (True)) ∧
  (¬ ((h_X8_passesCast_n p0 S) = 0) → ((ok_X8_passesCast_n L (s_X8_elementTypeOfType p0) S) ∧ ((((h_X8_passesCast_n (s_X8_elementTypeOfType p0) S) = 0) → (True)) ∧
   (¬ ((h_X8_passesCast_n (s_X8_elementTypeOfType p0) S) = 0) → (True))))))
set_option maxHeartbeats 4000000 in
set_option maxRecDepth 100000 in
theorem hm_X8_putCause_nn (l : Launch) (G : GE) (L : List Nat) (S : HS) (p0 : Int32) (p2 : Int32) (hok : ok_X8_putCause_nn L p0 p2 S) : HmI l G yX8_putCause wsX8_putCause 2 40 [.int p0, .null, .int p2, .null] L S ((h_X8_putCause_nn p0 p2 S, S)) := by
  refine Met.ofW (cc := cX8_putCause) (maxL := 4) (ret := (some .int)) (by decide) rfl ?_
  intro p e s m args below meth c s₁ B hml hv
  obtain ⟨rfl, hP, hK, hnd, hE⟩ := hv
  have hx := B.exec
  have hb := B.bytes
  have hr := B.returns
  have hts := atoms_spec (ws := wsX8_putCause) B.pre
  have hown : s.vm.findClass RX8 = some m.cls := findClass_of_methodNamed B.named
  have hlocks := B.notSynchronized
  have hD := nd_D hnd
  have hS : va_S (AL L) s.heap s.heap [] := va_S.rf
  have hl := lv_entry ([.int p0, .null, .int p2, .null]) (n := 4) (Nat.le_of_ble_eq_true rfl)
  rw [lg_entry_eq]
  generalize (lg_sl ([.int p0, .null, .int p2, .null]) ++ List.replicate (4 - (lg_sl ([.int p0, .null, .int p2, .null])).length) Slot.unset).toArray = ls at hl ⊢
  have hl : lv_has ls 4 [(0, .int p0), (1, .null), (2, .int p2), (3, .null)] := hl
  obtain ⟨Z, hZ⟩ : ∃ z, z = MQ below (hm_QI G L ((h_X8_putCause_nn p0 p2 S, S))) ([.int p0, .null, .int p2, .null] : List Value).toArray s 0 0 (AL L) := ⟨_, rfl⟩
  rw [← hZ]
  refine lv_iload_n hx hb dX8_putCause_0 rfl (lv_at hl 0 rfl) ?_
  refine lv_aload_nN hx hb dX8_putCause_1 rfl (lv_at hl 1 rfl) ?_
  obtain ⟨h_2, hok⟩ := hok
  refine hm_callIr (G := G) (S1 := S) (a := ([.int p0, .null] : List Value).toArray) (rest := []) (h_X8_passesCast_n p0 S) ?_ hS (fun H locs hP hS => ?_)
  ·
    exact va_runS (As := [.int p0, .null]) (rest := []) ⟨hx, hb, hml, hown, hts⟩ (hm_X8_passesCast_n l G L S p0 h_2) (va_cwS 2 hts gX8_putCause_X8_passesCast rfl rfl rfl hd_X8_passesCast ⟨Nat.le_of_ble_eq_true rfl, Nat.le_of_ble_eq_true rfl⟩) ⟨HW.fb, fun U hU hW => ⟨rfl, HW.call hP hK hnd hE hS U hU hW⟩⟩ rfl rfl hl.1 rfl (lv_room (Nat.le_of_ble_eq_true rfl)) dX8_putCause_2 ⟨Nat.le_refl 0, Nat.le_refl 0⟩
  ·
    refine lv_if_eq (tgt := 19) hx hb dX8_putCause_5 (by decide) (fun c_5 => ?_) (fun c_5 => ?_)
    ·
      have hok := (hok).1 c_5
      refine lv_iconst (v := 4) hx hb dX8_putCause_19 (by decide) ?_
      rw [hZ]
      exact hm_iret hx hb hr hlocks hS hP hK hnd hE (congrArg (fun z => (z, S)) ((if_pos c_5))) dX8_putCause_20
    ·
      have hok := (hok).2 c_5
      refine lv_iload_n hx hb dX8_putCause_8 rfl (lv_at hl 0 rfl) ?_
      refine pm_callI (va_runS (As := [.int p0]) (rest := []) ⟨hx, hb, hml, hown, hts⟩ (pm_X8_elementTypeOfType l p0) (va_cwS 1 hts gX8_putCause_X8_elementTypeOfType rfl rfl rfl hd_X8_elementTypeOfType ⟨Nat.le_of_ble_eq_true rfl, Nat.le_of_ble_eq_true rfl⟩) ⟨pm_fbT, fun U hU hW => ⟨rfl, trivial⟩⟩ rfl rfl hl.1 rfl (lv_room (Nat.le_of_ble_eq_true rfl)) dX8_putCause_9 ⟨Nat.le_refl 0, Nat.le_refl 0⟩) hS (fun H locs _ hk9 hS => ?_)
      replace hP := P_keep hP hk9
      refine lv_aload_nN hx hb dX8_putCause_12 rfl (lv_at hl 3 rfl) ?_
      obtain ⟨h_13, hok⟩ := hok
      refine hm_callIr (G := G) (S1 := S) (a := ([.int (s_X8_elementTypeOfType p0), .null] : List Value).toArray) (rest := []) (h_X8_passesCast_n (s_X8_elementTypeOfType p0) S) ?_ hS (fun H locs hP hS => ?_)
      ·
        exact va_runS (As := [.int (s_X8_elementTypeOfType p0), .null]) (rest := []) ⟨hx, hb, hml, hown, hts⟩ (hm_X8_passesCast_n l G L S (s_X8_elementTypeOfType p0) h_13) (va_cwS 2 hts gX8_putCause_X8_passesCast rfl rfl rfl hd_X8_passesCast ⟨Nat.le_of_ble_eq_true rfl, Nat.le_of_ble_eq_true rfl⟩) ⟨HW.fb, fun U hU hW => ⟨rfl, HW.call hP hK hnd hE hS U hU hW⟩⟩ rfl rfl hl.1 rfl (lv_room (Nat.le_of_ble_eq_true rfl)) dX8_putCause_13 ⟨Nat.le_refl 0, Nat.le_refl 0⟩
      ·
        refine lv_if_ne (tgt := 21) hx hb dX8_putCause_16 (by decide) (fun c_16 => ?_) (fun c_16 => ?_)
        ·
          have hok := (hok).2 c_16
          refine lv_aload_nN hx hb dX8_putCause_21 rfl (lv_at hl 1 rfl) ?_
          refine lv_ifnonnullN hx hb dX8_putCause_22 ?_
          refine lv_iconst (v := 1) hx hb dX8_putCause_25 (by decide) ?_
          rw [hZ]
          exact hm_iret hx hb hr hlocks hS hP hK hnd hE (congrArg (fun z => (z, S)) (((if_neg c_5).trans (if_neg c_16)))) dX8_putCause_26
        ·
          have hok := (hok).1 c_16
          refine lv_iconst (v := 4) hx hb dX8_putCause_19 (by decide) ?_
          rw [hZ]
          exact hm_iret hx hb hr hlocks hS hP hK hnd hE (congrArg (fun z => (z, S)) (((if_neg c_5).trans (if_pos c_16)))) dX8_putCause_20
def h_X8_putCause_ns (p0 : Int32) (p2 : Int32) (p3 : Nat) (S : HS) : Int32 :=
  if (h_X8_passesCast_n p0 S) = 0 then 4
  else if (h_X8_passesCast_s (s_X8_elementTypeOfType p0) p3 S) = 0 then 4
   else 1
def ok_X8_putCause_ns (L : List Nat) (p0 : Int32) (p2 : Int32) (p3 : Nat) (S : HS) : Prop :=
  (ok_X8_passesCast_n L p0 S) ∧ ((((h_X8_passesCast_n p0 S) = 0) → (True)) ∧
  (¬ ((h_X8_passesCast_n p0 S) = 0) → ((ok_X8_passesCast_s L (s_X8_elementTypeOfType p0) p3 S) ∧ ((((h_X8_passesCast_s (s_X8_elementTypeOfType p0) p3 S) = 0) → (True)) ∧
   (¬ ((h_X8_passesCast_s (s_X8_elementTypeOfType p0) p3 S) = 0) → (True))))))
set_option maxHeartbeats 4000000 in
set_option maxRecDepth 100000 in
theorem hm_X8_putCause_ns (l : Launch) (G : GE) (L : List Nat) (S : HS) (p0 : Int32) (p2 : Int32) (p3 : Nat) (hok : ok_X8_putCause_ns L p0 p2 p3 S) : HmI l G yX8_putCause wsX8_putCause 2 42 [.int p0, .null, .int p2, .ref p3] L S ((h_X8_putCause_ns p0 p2 p3 S, S)) := by
  refine Met.ofW (cc := cX8_putCause) (maxL := 4) (ret := (some .int)) (by decide) rfl ?_
  intro p e s m args below meth c s₁ B hml hv
  obtain ⟨rfl, hP, hK, hnd, hE⟩ := hv
  have hx := B.exec
  have hb := B.bytes
  have hr := B.returns
  have hts := atoms_spec (ws := wsX8_putCause) B.pre
  have hown : s.vm.findClass RX8 = some m.cls := findClass_of_methodNamed B.named
  have hlocks := B.notSynchronized
  have hD := nd_D hnd
  have hS : va_S (AL L) s.heap s.heap [] := va_S.rf
  have hl := lv_entry ([.int p0, .null, .int p2, .ref p3]) (n := 4) (Nat.le_of_ble_eq_true rfl)
  rw [lg_entry_eq]
  generalize (lg_sl ([.int p0, .null, .int p2, .ref p3]) ++ List.replicate (4 - (lg_sl ([.int p0, .null, .int p2, .ref p3])).length) Slot.unset).toArray = ls at hl ⊢
  have hl : lv_has ls 4 [(0, .int p0), (1, .null), (2, .int p2), (3, .ref p3)] := hl
  obtain ⟨Z, hZ⟩ : ∃ z, z = MQ below (hm_QI G L ((h_X8_putCause_ns p0 p2 p3 S, S))) ([.int p0, .null, .int p2, .ref p3] : List Value).toArray s 0 0 (AL L) := ⟨_, rfl⟩
  rw [← hZ]
  refine lv_iload_n hx hb dX8_putCause_0 rfl (lv_at hl 0 rfl) ?_
  refine lv_aload_nN hx hb dX8_putCause_1 rfl (lv_at hl 1 rfl) ?_
  obtain ⟨h_2, hok⟩ := hok
  refine hm_callIr (G := G) (S1 := S) (a := ([.int p0, .null] : List Value).toArray) (rest := []) (h_X8_passesCast_n p0 S) ?_ hS (fun H locs hP hS => ?_)
  ·
    exact va_runS (As := [.int p0, .null]) (rest := []) ⟨hx, hb, hml, hown, hts⟩ (hm_X8_passesCast_n l G L S p0 h_2) (va_cwS 2 hts gX8_putCause_X8_passesCast rfl rfl rfl hd_X8_passesCast ⟨Nat.le_of_ble_eq_true rfl, Nat.le_of_ble_eq_true rfl⟩) ⟨HW.fb, fun U hU hW => ⟨rfl, HW.call hP hK hnd hE hS U hU hW⟩⟩ rfl rfl hl.1 rfl (lv_room (Nat.le_of_ble_eq_true rfl)) dX8_putCause_2 ⟨Nat.le_refl 0, Nat.le_refl 0⟩
  ·
    refine lv_if_eq (tgt := 19) hx hb dX8_putCause_5 (by decide) (fun c_5 => ?_) (fun c_5 => ?_)
    ·
      have hok := (hok).1 c_5
      refine lv_iconst (v := 4) hx hb dX8_putCause_19 (by decide) ?_
      rw [hZ]
      exact hm_iret hx hb hr hlocks hS hP hK hnd hE (congrArg (fun z => (z, S)) ((if_pos c_5))) dX8_putCause_20
    ·
      have hok := (hok).2 c_5
      refine lv_iload_n hx hb dX8_putCause_8 rfl (lv_at hl 0 rfl) ?_
      refine pm_callI (va_runS (As := [.int p0]) (rest := []) ⟨hx, hb, hml, hown, hts⟩ (pm_X8_elementTypeOfType l p0) (va_cwS 1 hts gX8_putCause_X8_elementTypeOfType rfl rfl rfl hd_X8_elementTypeOfType ⟨Nat.le_of_ble_eq_true rfl, Nat.le_of_ble_eq_true rfl⟩) ⟨pm_fbT, fun U hU hW => ⟨rfl, trivial⟩⟩ rfl rfl hl.1 rfl (lv_room (Nat.le_of_ble_eq_true rfl)) dX8_putCause_9 ⟨Nat.le_refl 0, Nat.le_refl 0⟩) hS (fun H locs _ hk9 hS => ?_)
      replace hP := P_keep hP hk9
      refine lv_aload_n hx hb dX8_putCause_12 rfl (lv_at hl 3 rfl) ?_
      obtain ⟨h_13, hok⟩ := hok
      refine hm_callIr (G := G) (S1 := S) (a := ([.int (s_X8_elementTypeOfType p0), .ref p3] : List Value).toArray) (rest := []) (h_X8_passesCast_s (s_X8_elementTypeOfType p0) p3 S) ?_ hS (fun H locs hP hS => ?_)
      ·
        exact va_runS (As := [.int (s_X8_elementTypeOfType p0), .ref p3]) (rest := []) ⟨hx, hb, hml, hown, hts⟩ (hm_X8_passesCast_s l G L S (s_X8_elementTypeOfType p0) p3 h_13) (va_cwS 2 hts gX8_putCause_X8_passesCast rfl rfl rfl hd_X8_passesCast ⟨Nat.le_of_ble_eq_true rfl, Nat.le_of_ble_eq_true rfl⟩) ⟨HW.fb, fun U hU hW => ⟨rfl, HW.call hP hK hnd hE hS U hU hW⟩⟩ rfl rfl hl.1 rfl (lv_room (Nat.le_of_ble_eq_true rfl)) dX8_putCause_13 ⟨Nat.le_refl 0, Nat.le_refl 0⟩
      ·
        refine lv_if_ne (tgt := 21) hx hb dX8_putCause_16 (by decide) (fun c_16 => ?_) (fun c_16 => ?_)
        ·
          have hok := (hok).2 c_16
          refine lv_aload_nN hx hb dX8_putCause_21 rfl (lv_at hl 1 rfl) ?_
          refine lv_ifnonnullN hx hb dX8_putCause_22 ?_
          refine lv_iconst (v := 1) hx hb dX8_putCause_25 (by decide) ?_
          rw [hZ]
          exact hm_iret hx hb hr hlocks hS hP hK hnd hE (congrArg (fun z => (z, S)) (((if_neg c_5).trans (if_neg c_16)))) dX8_putCause_26
        ·
          have hok := (hok).1 c_16
          refine lv_iconst (v := 4) hx hb dX8_putCause_19 (by decide) ?_
          rw [hZ]
          exact hm_iret hx hb hr hlocks hS hP hK hnd hE (congrArg (fun z => (z, S)) (((if_neg c_5).trans (if_pos c_16)))) dX8_putCause_20
theorem iw_X8_putCause_X1 : ∀ w ∈ u_ws RX1 TX1 3, w ∈ wsX8_putCause := by decide +kernel
theorem iw_X8_putCause_X2 : ∀ w ∈ u_ws RX2 TX2 3, w ∈ wsX8_putCause := by decide +kernel
theorem iw_X8_putCause_X4 : ∀ w ∈ u_ws RX4 TX4 3, w ∈ wsX8_putCause := by decide +kernel
theorem iw_X8_putCause_X5 : ∀ w ∈ u_ws RX5 TX5 3, w ∈ wsX8_putCause := by decide +kernel
theorem iw_X8_putCause_X7 : ∀ w ∈ u_ws RX7 TX7 3, w ∈ wsX8_putCause := by decide +kernel
def h_X8_putCause_sn (p0 : Int32) (p1 : Nat) (p2 : Int32) (S : HS) : Int32 :=
  if (h_X8_passesCast_s p0 p1 S) = 0 then 4
  else if (h_X8_passesCast_n (s_X8_elementTypeOfType p0) S) = 0 then 4
   else if (h_X6_holds p1 p2 S) = 0 then 2
    else if (h_X8_passesCast_n (s_X8_elementTypeOfKind (hsI S p1 0)) S) = 0 then 5
     else 0
def ok_X8_putCause_sn (L : List Nat) (p0 : Int32) (p1 : Nat) (p2 : Int32) (S : HS) : Prop :=
  (ok_X8_passesCast_s L p0 p1 S) ∧ ((((h_X8_passesCast_s p0 p1 S) = 0) → (True)) ∧
  (¬ ((h_X8_passesCast_s p0 p1 S) = 0) → ((ok_X8_passesCast_n L (s_X8_elementTypeOfType p0) S) ∧ ((((h_X8_passesCast_n (s_X8_elementTypeOfType p0) S) = 0) → (True)) ∧
   (¬ ((h_X8_passesCast_n (s_X8_elementTypeOfType p0) S) = 0) → ((p1 ∈ L ∧ (hsK S p1 = 1 ∨ hsK S p1 = 2 ∨ hsK S p1 = 3 ∨ hsK S p1 = 4 ∨ hsK S p1 = 5)) ∧ ((ok_X6_holds L p1 p2 S) ∧ ((((h_X6_holds p1 p2 S) = 0) → (True)) ∧
    (¬ ((h_X6_holds p1 p2 S) = 0) → ((p1 ∈ L ∧ 1 ≤ hsK S p1 ∧ hsK S p1 ≤ 5) ∧ ((ok_X8_passesCast_n L (s_X8_elementTypeOfKind (hsI S p1 0)) S) ∧ ((((h_X8_passesCast_n (s_X8_elementTypeOfKind (hsI S p1 0)) S) = 0) → (True)) ∧
     (¬ ((h_X8_passesCast_n (s_X8_elementTypeOfKind (hsI S p1 0)) S) = 0) → (True))))))))))))))
set_option maxHeartbeats 4000000 in
set_option maxRecDepth 100000 in
theorem hm_X8_putCause_sn (l : Launch) (G : GE) (L : List Nat) (S : HS) (p0 : Int32) (p1 : Nat) (p2 : Int32) (hok : ok_X8_putCause_sn L p0 p1 p2 S) : HmI l G yX8_putCause wsX8_putCause 2 42 [.int p0, .ref p1, .int p2, .null] L S ((h_X8_putCause_sn p0 p1 p2 S, S)) := by
  refine Met.ofW (cc := cX8_putCause) (maxL := 4) (ret := (some .int)) (by decide) rfl ?_
  intro p e s m args below meth c s₁ B hml hv
  obtain ⟨rfl, hP, hK, hnd, hE⟩ := hv
  have hx := B.exec
  have hb := B.bytes
  have hr := B.returns
  have hts := atoms_spec (ws := wsX8_putCause) B.pre
  have hown : s.vm.findClass RX8 = some m.cls := findClass_of_methodNamed B.named
  have hlocks := B.notSynchronized
  have hD := nd_D hnd
  have hS : va_S (AL L) s.heap s.heap [] := va_S.rf
  have hl := lv_entry ([.int p0, .ref p1, .int p2, .null]) (n := 4) (Nat.le_of_ble_eq_true rfl)
  rw [lg_entry_eq]
  generalize (lg_sl ([.int p0, .ref p1, .int p2, .null]) ++ List.replicate (4 - (lg_sl ([.int p0, .ref p1, .int p2, .null])).length) Slot.unset).toArray = ls at hl ⊢
  have hl : lv_has ls 4 [(0, .int p0), (1, .ref p1), (2, .int p2), (3, .null)] := hl
  obtain ⟨Z, hZ⟩ : ∃ z, z = MQ below (hm_QI G L ((h_X8_putCause_sn p0 p1 p2 S, S))) ([.int p0, .ref p1, .int p2, .null] : List Value).toArray s 0 0 (AL L) := ⟨_, rfl⟩
  rw [← hZ]
  refine lv_iload_n hx hb dX8_putCause_0 rfl (lv_at hl 0 rfl) ?_
  refine lv_aload_n hx hb dX8_putCause_1 rfl (lv_at hl 1 rfl) ?_
  obtain ⟨h_2, hok⟩ := hok
  refine hm_callIr (G := G) (S1 := S) (a := ([.int p0, .ref p1] : List Value).toArray) (rest := []) (h_X8_passesCast_s p0 p1 S) ?_ hS (fun H locs hP hS => ?_)
  ·
    exact va_runS (As := [.int p0, .ref p1]) (rest := []) ⟨hx, hb, hml, hown, hts⟩ (hm_X8_passesCast_s l G L S p0 p1 h_2) (va_cwS 2 hts gX8_putCause_X8_passesCast rfl rfl rfl hd_X8_passesCast ⟨Nat.le_of_ble_eq_true rfl, Nat.le_of_ble_eq_true rfl⟩) ⟨HW.fb, fun U hU hW => ⟨rfl, HW.call hP hK hnd hE hS U hU hW⟩⟩ rfl rfl hl.1 rfl (lv_room (Nat.le_of_ble_eq_true rfl)) dX8_putCause_2 ⟨Nat.le_refl 0, Nat.le_refl 0⟩
  ·
    refine lv_if_eq (tgt := 19) hx hb dX8_putCause_5 (by decide) (fun c_5 => ?_) (fun c_5 => ?_)
    ·
      have hok := (hok).1 c_5
      refine lv_iconst (v := 4) hx hb dX8_putCause_19 (by decide) ?_
      rw [hZ]
      exact hm_iret hx hb hr hlocks hS hP hK hnd hE (congrArg (fun z => (z, S)) ((if_pos c_5))) dX8_putCause_20
    ·
      have hok := (hok).2 c_5
      refine lv_iload_n hx hb dX8_putCause_8 rfl (lv_at hl 0 rfl) ?_
      refine pm_callI (va_runS (As := [.int p0]) (rest := []) ⟨hx, hb, hml, hown, hts⟩ (pm_X8_elementTypeOfType l p0) (va_cwS 1 hts gX8_putCause_X8_elementTypeOfType rfl rfl rfl hd_X8_elementTypeOfType ⟨Nat.le_of_ble_eq_true rfl, Nat.le_of_ble_eq_true rfl⟩) ⟨pm_fbT, fun U hU hW => ⟨rfl, trivial⟩⟩ rfl rfl hl.1 rfl (lv_room (Nat.le_of_ble_eq_true rfl)) dX8_putCause_9 ⟨Nat.le_refl 0, Nat.le_refl 0⟩) hS (fun H locs _ hk9 hS => ?_)
      replace hP := P_keep hP hk9
      refine lv_aload_nN hx hb dX8_putCause_12 rfl (lv_at hl 3 rfl) ?_
      obtain ⟨h_13, hok⟩ := hok
      refine hm_callIr (G := G) (S1 := S) (a := ([.int (s_X8_elementTypeOfType p0), .null] : List Value).toArray) (rest := []) (h_X8_passesCast_n (s_X8_elementTypeOfType p0) S) ?_ hS (fun H locs hP hS => ?_)
      ·
        exact va_runS (As := [.int (s_X8_elementTypeOfType p0), .null]) (rest := []) ⟨hx, hb, hml, hown, hts⟩ (hm_X8_passesCast_n l G L S (s_X8_elementTypeOfType p0) h_13) (va_cwS 2 hts gX8_putCause_X8_passesCast rfl rfl rfl hd_X8_passesCast ⟨Nat.le_of_ble_eq_true rfl, Nat.le_of_ble_eq_true rfl⟩) ⟨HW.fb, fun U hU hW => ⟨rfl, HW.call hP hK hnd hE hS U hU hW⟩⟩ rfl rfl hl.1 rfl (lv_room (Nat.le_of_ble_eq_true rfl)) dX8_putCause_13 ⟨Nat.le_refl 0, Nat.le_refl 0⟩
      ·
        refine lv_if_ne (tgt := 21) hx hb dX8_putCause_16 (by decide) (fun c_16 => ?_) (fun c_16 => ?_)
        ·
          have hok := (hok).2 c_16
          refine lv_aload_n hx hb dX8_putCause_21 rfl (lv_at hl 1 rfl) ?_
          refine lv_ifnonnull (tgt := 27) hx hb dX8_putCause_22 (by decide) ?_
          refine lv_aload_n hx hb dX8_putCause_27 rfl (lv_at hl 1 rfl) ?_
          refine lv_iload_n hx hb dX8_putCause_28 rfl (lv_at hl 2 rfl) ?_
          obtain ⟨h_29k, hok⟩ := hok
          obtain ⟨h_29, hok⟩ := hok
          refine hm_callIr (G := G) (S1 := S) (a := ([.ref p1, .int p2] : List Value).toArray) (rest := []) (h_X6_holds p1 p2 S) ?_ hS (fun H locs hP hS => ?_)
          ·
            rcases h_29k.2 with h9 | h9 | h9 | h9 | h9
            ·
              exact va_runU (As := [.int p2]) (rest := []) ⟨hx, hb, hml, hown, hts⟩ (hm_X6_holds l G L S p1 p2 h_29) (va_cwU (x := ⟨"ThrowModels$Thing", "holds", "(I)Z"⟩) 1 hts gX8_putCause_X6_holds_u221X1 rfl rfl rfl rfl (by decide +kernel) ⟨Nat.le_of_ble_eq_true rfl, Nat.le_of_ble_eq_true rfl⟩) ⟨HW.fb, hp_recv hK hP h_29k.1 (PF_1 h9) rfl, fun U hU hW => ⟨rfl, HW.call hP hK hnd hE hS U hU hW⟩⟩ rfl rfl hl.1 rfl (lv_room (Nat.le_of_ble_eq_true rfl)) dX8_putCause_29 ⟨Nat.le_refl 0, Nat.le_refl 0⟩
            ·
              exact va_runU (As := [.int p2]) (rest := []) ⟨hx, hb, hml, hown, hts⟩ (hm_X6_holds l G L S p1 p2 h_29) (va_cwU (x := ⟨"ThrowModels$Thing", "holds", "(I)Z"⟩) 1 hts gX8_putCause_X6_holds_u221X2 rfl rfl rfl rfl (by decide +kernel) ⟨Nat.le_of_ble_eq_true rfl, Nat.le_of_ble_eq_true rfl⟩) ⟨HW.fb, hp_recv hK hP h_29k.1 (PF_2 h9) rfl, fun U hU hW => ⟨rfl, HW.call hP hK hnd hE hS U hU hW⟩⟩ rfl rfl hl.1 rfl (lv_room (Nat.le_of_ble_eq_true rfl)) dX8_putCause_29 ⟨Nat.le_refl 0, Nat.le_refl 0⟩
            ·
              exact va_runU (As := [.int p2]) (rest := []) ⟨hx, hb, hml, hown, hts⟩ (hm_X6_holds l G L S p1 p2 h_29) (va_cwU (x := ⟨"ThrowModels$Thing", "holds", "(I)Z"⟩) 1 hts gX8_putCause_X6_holds_u221X4 rfl rfl rfl rfl (by decide +kernel) ⟨Nat.le_of_ble_eq_true rfl, Nat.le_of_ble_eq_true rfl⟩) ⟨HW.fb, hp_recv hK hP h_29k.1 (PF_3 h9) rfl, fun U hU hW => ⟨rfl, HW.call hP hK hnd hE hS U hU hW⟩⟩ rfl rfl hl.1 rfl (lv_room (Nat.le_of_ble_eq_true rfl)) dX8_putCause_29 ⟨Nat.le_refl 0, Nat.le_refl 0⟩
            ·
              exact va_runU (As := [.int p2]) (rest := []) ⟨hx, hb, hml, hown, hts⟩ (hm_X6_holds l G L S p1 p2 h_29) (va_cwU (x := ⟨"ThrowModels$Thing", "holds", "(I)Z"⟩) 1 hts gX8_putCause_X6_holds_u221X5 rfl rfl rfl rfl (by decide +kernel) ⟨Nat.le_of_ble_eq_true rfl, Nat.le_of_ble_eq_true rfl⟩) ⟨HW.fb, hp_recv hK hP h_29k.1 (PF_4 h9) rfl, fun U hU hW => ⟨rfl, HW.call hP hK hnd hE hS U hU hW⟩⟩ rfl rfl hl.1 rfl (lv_room (Nat.le_of_ble_eq_true rfl)) dX8_putCause_29 ⟨Nat.le_refl 0, Nat.le_refl 0⟩
            ·
              exact va_runU (As := [.int p2]) (rest := []) ⟨hx, hb, hml, hown, hts⟩ (hm_X6_holds l G L S p1 p2 h_29) (va_cwU (x := ⟨"ThrowModels$Thing", "holds", "(I)Z"⟩) 1 hts gX8_putCause_X6_holds_u221X7 rfl rfl rfl rfl (by decide +kernel) ⟨Nat.le_of_ble_eq_true rfl, Nat.le_of_ble_eq_true rfl⟩) ⟨HW.fb, hp_recv hK hP h_29k.1 (PF_5 h9) rfl, fun U hU hW => ⟨rfl, HW.call hP hK hnd hE hS U hU hW⟩⟩ rfl rfl hl.1 rfl (lv_room (Nat.le_of_ble_eq_true rfl)) dX8_putCause_29 ⟨Nat.le_refl 0, Nat.le_refl 0⟩
          ·
            refine lv_if_ne (tgt := 37) hx hb dX8_putCause_32 (by decide) (fun c_32 => ?_) (fun c_32 => ?_)
            ·
              have hok := (hok).2 c_32
              refine lv_aload_n hx hb dX8_putCause_37 rfl (lv_at hl 1 rfl) ?_
              obtain ⟨h_38, hok⟩ := hok
              refine hp_kind hx hb hts iw_X8_putCause_X1 iw_X8_putCause_X2 iw_X8_putCause_X4 iw_X8_putCause_X5 iw_X8_putCause_X7 hown hK hP h_38 (hts _ (List.mem_of_getElem? (i := 1) rfl)) (fun _ h9 => h9) dX8_putCause_38 ?_
              refine pm_callI (va_runS (As := [.int (hsI S p1 0)]) (rest := []) ⟨hx, hb, hml, hown, hts⟩ (pm_X8_elementTypeOfKind l (hsI S p1 0)) (va_cwS 1 hts gX8_putCause_X8_elementTypeOfKind rfl rfl rfl hd_X8_elementTypeOfKind ⟨Nat.le_of_ble_eq_true rfl, Nat.le_of_ble_eq_true rfl⟩) ⟨pm_fbT, fun U hU hW => ⟨rfl, trivial⟩⟩ rfl rfl hl.1 rfl (lv_room (Nat.le_of_ble_eq_true rfl)) dX8_putCause_41 ⟨Nat.le_refl 0, Nat.le_refl 0⟩) hS (fun H locs _ hk9 hS => ?_)
              replace hP := P_keep hP hk9
              refine lv_aload_nN hx hb dX8_putCause_44 rfl (lv_at hl 3 rfl) ?_
              obtain ⟨h_45, hok⟩ := hok
              refine hm_callIr (G := G) (S1 := S) (a := ([.int (s_X8_elementTypeOfKind (hsI S p1 0)), .null] : List Value).toArray) (rest := []) (h_X8_passesCast_n (s_X8_elementTypeOfKind (hsI S p1 0)) S) ?_ hS (fun H locs hP hS => ?_)
              ·
                exact va_runS (As := [.int (s_X8_elementTypeOfKind (hsI S p1 0)), .null]) (rest := []) ⟨hx, hb, hml, hown, hts⟩ (hm_X8_passesCast_n l G L S (s_X8_elementTypeOfKind (hsI S p1 0)) h_45) (va_cwS 2 hts gX8_putCause_X8_passesCast rfl rfl rfl hd_X8_passesCast ⟨Nat.le_of_ble_eq_true rfl, Nat.le_of_ble_eq_true rfl⟩) ⟨HW.fb, fun U hU hW => ⟨rfl, HW.call hP hK hnd hE hS U hU hW⟩⟩ rfl rfl hl.1 rfl (lv_room (Nat.le_of_ble_eq_true rfl)) dX8_putCause_45 ⟨Nat.le_refl 0, Nat.le_refl 0⟩
              ·
                refine lv_if_eq (tgt := 55) hx hb dX8_putCause_48 (by decide) (fun c_48 => ?_) (fun c_48 => ?_)
                ·
                  have hok := (hok).1 c_48
                  refine lv_iconst (v := 5) hx hb dX8_putCause_55 (by decide) ?_
                  rw [hZ]
                  exact hm_iret hx hb hr hlocks hS hP hK hnd hE (congrArg (fun z => (z, S)) (((if_neg c_5).trans ((if_neg c_16).trans ((if_neg c_32).trans (if_pos c_48)))))) dX8_putCause_56
                ·
                  have hok := (hok).2 c_48
                  refine lv_iconst (v := 0) hx hb dX8_putCause_51 (by decide) ?_
                  refine lv_goto (tgt := 56) hx hb dX8_putCause_52 (by decide) ?_
                  rw [hZ]
                  exact hm_iret hx hb hr hlocks hS hP hK hnd hE (congrArg (fun z => (z, S)) (((if_neg c_5).trans ((if_neg c_16).trans ((if_neg c_32).trans (if_neg c_48)))))) dX8_putCause_56
            ·
              have hok := (hok).1 c_32
              refine lv_iconst (v := 2) hx hb dX8_putCause_35 (by decide) ?_
              rw [hZ]
              exact hm_iret hx hb hr hlocks hS hP hK hnd hE (congrArg (fun z => (z, S)) (((if_neg c_5).trans ((if_neg c_16).trans (if_pos c_32))))) dX8_putCause_36
        ·
          have hok := (hok).1 c_16
          refine lv_iconst (v := 4) hx hb dX8_putCause_19 (by decide) ?_
          rw [hZ]
          exact hm_iret hx hb hr hlocks hS hP hK hnd hE (congrArg (fun z => (z, S)) (((if_neg c_5).trans (if_pos c_16)))) dX8_putCause_20
def h_X8_putCause_ss (p0 : Int32) (p1 : Nat) (p2 : Int32) (p3 : Nat) (S : HS) : Int32 :=
  if (h_X8_passesCast_s p0 p1 S) = 0 then 4
  else if (h_X8_passesCast_s (s_X8_elementTypeOfType p0) p3 S) = 0 then 4
   else if (h_X6_holds p1 p2 S) = 0 then 2
    else if (h_X8_passesCast_s (s_X8_elementTypeOfKind (hsI S p1 0)) p3 S) = 0 then 5
     else 0
def ok_X8_putCause_ss (L : List Nat) (p0 : Int32) (p1 : Nat) (p2 : Int32) (p3 : Nat) (S : HS) : Prop :=
  (ok_X8_passesCast_s L p0 p1 S) ∧ ((((h_X8_passesCast_s p0 p1 S) = 0) → (True)) ∧
  (¬ ((h_X8_passesCast_s p0 p1 S) = 0) → ((ok_X8_passesCast_s L (s_X8_elementTypeOfType p0) p3 S) ∧ ((((h_X8_passesCast_s (s_X8_elementTypeOfType p0) p3 S) = 0) → (True)) ∧
   (¬ ((h_X8_passesCast_s (s_X8_elementTypeOfType p0) p3 S) = 0) → ((p1 ∈ L ∧ (hsK S p1 = 1 ∨ hsK S p1 = 2 ∨ hsK S p1 = 3 ∨ hsK S p1 = 4 ∨ hsK S p1 = 5)) ∧ ((ok_X6_holds L p1 p2 S) ∧ ((((h_X6_holds p1 p2 S) = 0) → (True)) ∧
    (¬ ((h_X6_holds p1 p2 S) = 0) → ((p1 ∈ L ∧ 1 ≤ hsK S p1 ∧ hsK S p1 ≤ 5) ∧ ((ok_X8_passesCast_s L (s_X8_elementTypeOfKind (hsI S p1 0)) p3 S) ∧ ((((h_X8_passesCast_s (s_X8_elementTypeOfKind (hsI S p1 0)) p3 S) = 0) → (True)) ∧
     (¬ ((h_X8_passesCast_s (s_X8_elementTypeOfKind (hsI S p1 0)) p3 S) = 0) → (True))))))))))))))
set_option maxHeartbeats 4000000 in
set_option maxRecDepth 100000 in
theorem hm_X8_putCause_ss (l : Launch) (G : GE) (L : List Nat) (S : HS) (p0 : Int32) (p1 : Nat) (p2 : Int32) (p3 : Nat) (hok : ok_X8_putCause_ss L p0 p1 p2 p3 S) : HmI l G yX8_putCause wsX8_putCause 2 42 [.int p0, .ref p1, .int p2, .ref p3] L S ((h_X8_putCause_ss p0 p1 p2 p3 S, S)) := by
  refine Met.ofW (cc := cX8_putCause) (maxL := 4) (ret := (some .int)) (by decide) rfl ?_
  intro p e s m args below meth c s₁ B hml hv
  obtain ⟨rfl, hP, hK, hnd, hE⟩ := hv
  have hx := B.exec
  have hb := B.bytes
  have hr := B.returns
  have hts := atoms_spec (ws := wsX8_putCause) B.pre
  have hown : s.vm.findClass RX8 = some m.cls := findClass_of_methodNamed B.named
  have hlocks := B.notSynchronized
  have hD := nd_D hnd
  have hS : va_S (AL L) s.heap s.heap [] := va_S.rf
  have hl := lv_entry ([.int p0, .ref p1, .int p2, .ref p3]) (n := 4) (Nat.le_of_ble_eq_true rfl)
  rw [lg_entry_eq]
  generalize (lg_sl ([.int p0, .ref p1, .int p2, .ref p3]) ++ List.replicate (4 - (lg_sl ([.int p0, .ref p1, .int p2, .ref p3])).length) Slot.unset).toArray = ls at hl ⊢
  have hl : lv_has ls 4 [(0, .int p0), (1, .ref p1), (2, .int p2), (3, .ref p3)] := hl
  obtain ⟨Z, hZ⟩ : ∃ z, z = MQ below (hm_QI G L ((h_X8_putCause_ss p0 p1 p2 p3 S, S))) ([.int p0, .ref p1, .int p2, .ref p3] : List Value).toArray s 0 0 (AL L) := ⟨_, rfl⟩
  rw [← hZ]
  refine lv_iload_n hx hb dX8_putCause_0 rfl (lv_at hl 0 rfl) ?_
  refine lv_aload_n hx hb dX8_putCause_1 rfl (lv_at hl 1 rfl) ?_
  obtain ⟨h_2, hok⟩ := hok
  refine hm_callIr (G := G) (S1 := S) (a := ([.int p0, .ref p1] : List Value).toArray) (rest := []) (h_X8_passesCast_s p0 p1 S) ?_ hS (fun H locs hP hS => ?_)
  ·
    exact va_runS (As := [.int p0, .ref p1]) (rest := []) ⟨hx, hb, hml, hown, hts⟩ (hm_X8_passesCast_s l G L S p0 p1 h_2) (va_cwS 2 hts gX8_putCause_X8_passesCast rfl rfl rfl hd_X8_passesCast ⟨Nat.le_of_ble_eq_true rfl, Nat.le_of_ble_eq_true rfl⟩) ⟨HW.fb, fun U hU hW => ⟨rfl, HW.call hP hK hnd hE hS U hU hW⟩⟩ rfl rfl hl.1 rfl (lv_room (Nat.le_of_ble_eq_true rfl)) dX8_putCause_2 ⟨Nat.le_refl 0, Nat.le_refl 0⟩
  ·
    refine lv_if_eq (tgt := 19) hx hb dX8_putCause_5 (by decide) (fun c_5 => ?_) (fun c_5 => ?_)
    ·
      have hok := (hok).1 c_5
      refine lv_iconst (v := 4) hx hb dX8_putCause_19 (by decide) ?_
      rw [hZ]
      exact hm_iret hx hb hr hlocks hS hP hK hnd hE (congrArg (fun z => (z, S)) ((if_pos c_5))) dX8_putCause_20
    ·
      have hok := (hok).2 c_5
      refine lv_iload_n hx hb dX8_putCause_8 rfl (lv_at hl 0 rfl) ?_
      refine pm_callI (va_runS (As := [.int p0]) (rest := []) ⟨hx, hb, hml, hown, hts⟩ (pm_X8_elementTypeOfType l p0) (va_cwS 1 hts gX8_putCause_X8_elementTypeOfType rfl rfl rfl hd_X8_elementTypeOfType ⟨Nat.le_of_ble_eq_true rfl, Nat.le_of_ble_eq_true rfl⟩) ⟨pm_fbT, fun U hU hW => ⟨rfl, trivial⟩⟩ rfl rfl hl.1 rfl (lv_room (Nat.le_of_ble_eq_true rfl)) dX8_putCause_9 ⟨Nat.le_refl 0, Nat.le_refl 0⟩) hS (fun H locs _ hk9 hS => ?_)
      replace hP := P_keep hP hk9
      refine lv_aload_n hx hb dX8_putCause_12 rfl (lv_at hl 3 rfl) ?_
      obtain ⟨h_13, hok⟩ := hok
      refine hm_callIr (G := G) (S1 := S) (a := ([.int (s_X8_elementTypeOfType p0), .ref p3] : List Value).toArray) (rest := []) (h_X8_passesCast_s (s_X8_elementTypeOfType p0) p3 S) ?_ hS (fun H locs hP hS => ?_)
      ·
        exact va_runS (As := [.int (s_X8_elementTypeOfType p0), .ref p3]) (rest := []) ⟨hx, hb, hml, hown, hts⟩ (hm_X8_passesCast_s l G L S (s_X8_elementTypeOfType p0) p3 h_13) (va_cwS 2 hts gX8_putCause_X8_passesCast rfl rfl rfl hd_X8_passesCast ⟨Nat.le_of_ble_eq_true rfl, Nat.le_of_ble_eq_true rfl⟩) ⟨HW.fb, fun U hU hW => ⟨rfl, HW.call hP hK hnd hE hS U hU hW⟩⟩ rfl rfl hl.1 rfl (lv_room (Nat.le_of_ble_eq_true rfl)) dX8_putCause_13 ⟨Nat.le_refl 0, Nat.le_refl 0⟩
      ·
        refine lv_if_ne (tgt := 21) hx hb dX8_putCause_16 (by decide) (fun c_16 => ?_) (fun c_16 => ?_)
        ·
          have hok := (hok).2 c_16
          refine lv_aload_n hx hb dX8_putCause_21 rfl (lv_at hl 1 rfl) ?_
          refine lv_ifnonnull (tgt := 27) hx hb dX8_putCause_22 (by decide) ?_
          refine lv_aload_n hx hb dX8_putCause_27 rfl (lv_at hl 1 rfl) ?_
          refine lv_iload_n hx hb dX8_putCause_28 rfl (lv_at hl 2 rfl) ?_
          obtain ⟨h_29k, hok⟩ := hok
          obtain ⟨h_29, hok⟩ := hok
          refine hm_callIr (G := G) (S1 := S) (a := ([.ref p1, .int p2] : List Value).toArray) (rest := []) (h_X6_holds p1 p2 S) ?_ hS (fun H locs hP hS => ?_)
          ·
            rcases h_29k.2 with h9 | h9 | h9 | h9 | h9
            ·
              exact va_runU (As := [.int p2]) (rest := []) ⟨hx, hb, hml, hown, hts⟩ (hm_X6_holds l G L S p1 p2 h_29) (va_cwU (x := ⟨"ThrowModels$Thing", "holds", "(I)Z"⟩) 1 hts gX8_putCause_X6_holds_u221X1 rfl rfl rfl rfl (by decide +kernel) ⟨Nat.le_of_ble_eq_true rfl, Nat.le_of_ble_eq_true rfl⟩) ⟨HW.fb, hp_recv hK hP h_29k.1 (PF_1 h9) rfl, fun U hU hW => ⟨rfl, HW.call hP hK hnd hE hS U hU hW⟩⟩ rfl rfl hl.1 rfl (lv_room (Nat.le_of_ble_eq_true rfl)) dX8_putCause_29 ⟨Nat.le_refl 0, Nat.le_refl 0⟩
            ·
              exact va_runU (As := [.int p2]) (rest := []) ⟨hx, hb, hml, hown, hts⟩ (hm_X6_holds l G L S p1 p2 h_29) (va_cwU (x := ⟨"ThrowModels$Thing", "holds", "(I)Z"⟩) 1 hts gX8_putCause_X6_holds_u221X2 rfl rfl rfl rfl (by decide +kernel) ⟨Nat.le_of_ble_eq_true rfl, Nat.le_of_ble_eq_true rfl⟩) ⟨HW.fb, hp_recv hK hP h_29k.1 (PF_2 h9) rfl, fun U hU hW => ⟨rfl, HW.call hP hK hnd hE hS U hU hW⟩⟩ rfl rfl hl.1 rfl (lv_room (Nat.le_of_ble_eq_true rfl)) dX8_putCause_29 ⟨Nat.le_refl 0, Nat.le_refl 0⟩
            ·
              exact va_runU (As := [.int p2]) (rest := []) ⟨hx, hb, hml, hown, hts⟩ (hm_X6_holds l G L S p1 p2 h_29) (va_cwU (x := ⟨"ThrowModels$Thing", "holds", "(I)Z"⟩) 1 hts gX8_putCause_X6_holds_u221X4 rfl rfl rfl rfl (by decide +kernel) ⟨Nat.le_of_ble_eq_true rfl, Nat.le_of_ble_eq_true rfl⟩) ⟨HW.fb, hp_recv hK hP h_29k.1 (PF_3 h9) rfl, fun U hU hW => ⟨rfl, HW.call hP hK hnd hE hS U hU hW⟩⟩ rfl rfl hl.1 rfl (lv_room (Nat.le_of_ble_eq_true rfl)) dX8_putCause_29 ⟨Nat.le_refl 0, Nat.le_refl 0⟩
            ·
              exact va_runU (As := [.int p2]) (rest := []) ⟨hx, hb, hml, hown, hts⟩ (hm_X6_holds l G L S p1 p2 h_29) (va_cwU (x := ⟨"ThrowModels$Thing", "holds", "(I)Z"⟩) 1 hts gX8_putCause_X6_holds_u221X5 rfl rfl rfl rfl (by decide +kernel) ⟨Nat.le_of_ble_eq_true rfl, Nat.le_of_ble_eq_true rfl⟩) ⟨HW.fb, hp_recv hK hP h_29k.1 (PF_4 h9) rfl, fun U hU hW => ⟨rfl, HW.call hP hK hnd hE hS U hU hW⟩⟩ rfl rfl hl.1 rfl (lv_room (Nat.le_of_ble_eq_true rfl)) dX8_putCause_29 ⟨Nat.le_refl 0, Nat.le_refl 0⟩
            ·
              exact va_runU (As := [.int p2]) (rest := []) ⟨hx, hb, hml, hown, hts⟩ (hm_X6_holds l G L S p1 p2 h_29) (va_cwU (x := ⟨"ThrowModels$Thing", "holds", "(I)Z"⟩) 1 hts gX8_putCause_X6_holds_u221X7 rfl rfl rfl rfl (by decide +kernel) ⟨Nat.le_of_ble_eq_true rfl, Nat.le_of_ble_eq_true rfl⟩) ⟨HW.fb, hp_recv hK hP h_29k.1 (PF_5 h9) rfl, fun U hU hW => ⟨rfl, HW.call hP hK hnd hE hS U hU hW⟩⟩ rfl rfl hl.1 rfl (lv_room (Nat.le_of_ble_eq_true rfl)) dX8_putCause_29 ⟨Nat.le_refl 0, Nat.le_refl 0⟩
          ·
            refine lv_if_ne (tgt := 37) hx hb dX8_putCause_32 (by decide) (fun c_32 => ?_) (fun c_32 => ?_)
            ·
              have hok := (hok).2 c_32
              refine lv_aload_n hx hb dX8_putCause_37 rfl (lv_at hl 1 rfl) ?_
              obtain ⟨h_38, hok⟩ := hok
              refine hp_kind hx hb hts iw_X8_putCause_X1 iw_X8_putCause_X2 iw_X8_putCause_X4 iw_X8_putCause_X5 iw_X8_putCause_X7 hown hK hP h_38 (hts _ (List.mem_of_getElem? (i := 1) rfl)) (fun _ h9 => h9) dX8_putCause_38 ?_
              refine pm_callI (va_runS (As := [.int (hsI S p1 0)]) (rest := []) ⟨hx, hb, hml, hown, hts⟩ (pm_X8_elementTypeOfKind l (hsI S p1 0)) (va_cwS 1 hts gX8_putCause_X8_elementTypeOfKind rfl rfl rfl hd_X8_elementTypeOfKind ⟨Nat.le_of_ble_eq_true rfl, Nat.le_of_ble_eq_true rfl⟩) ⟨pm_fbT, fun U hU hW => ⟨rfl, trivial⟩⟩ rfl rfl hl.1 rfl (lv_room (Nat.le_of_ble_eq_true rfl)) dX8_putCause_41 ⟨Nat.le_refl 0, Nat.le_refl 0⟩) hS (fun H locs _ hk9 hS => ?_)
              replace hP := P_keep hP hk9
              refine lv_aload_n hx hb dX8_putCause_44 rfl (lv_at hl 3 rfl) ?_
              obtain ⟨h_45, hok⟩ := hok
              refine hm_callIr (G := G) (S1 := S) (a := ([.int (s_X8_elementTypeOfKind (hsI S p1 0)), .ref p3] : List Value).toArray) (rest := []) (h_X8_passesCast_s (s_X8_elementTypeOfKind (hsI S p1 0)) p3 S) ?_ hS (fun H locs hP hS => ?_)
              ·
                exact va_runS (As := [.int (s_X8_elementTypeOfKind (hsI S p1 0)), .ref p3]) (rest := []) ⟨hx, hb, hml, hown, hts⟩ (hm_X8_passesCast_s l G L S (s_X8_elementTypeOfKind (hsI S p1 0)) p3 h_45) (va_cwS 2 hts gX8_putCause_X8_passesCast rfl rfl rfl hd_X8_passesCast ⟨Nat.le_of_ble_eq_true rfl, Nat.le_of_ble_eq_true rfl⟩) ⟨HW.fb, fun U hU hW => ⟨rfl, HW.call hP hK hnd hE hS U hU hW⟩⟩ rfl rfl hl.1 rfl (lv_room (Nat.le_of_ble_eq_true rfl)) dX8_putCause_45 ⟨Nat.le_refl 0, Nat.le_refl 0⟩
              ·
                refine lv_if_eq (tgt := 55) hx hb dX8_putCause_48 (by decide) (fun c_48 => ?_) (fun c_48 => ?_)
                ·
                  have hok := (hok).1 c_48
                  refine lv_iconst (v := 5) hx hb dX8_putCause_55 (by decide) ?_
                  rw [hZ]
                  exact hm_iret hx hb hr hlocks hS hP hK hnd hE (congrArg (fun z => (z, S)) (((if_neg c_5).trans ((if_neg c_16).trans ((if_neg c_32).trans (if_pos c_48)))))) dX8_putCause_56
                ·
                  have hok := (hok).2 c_48
                  refine lv_iconst (v := 0) hx hb dX8_putCause_51 (by decide) ?_
                  refine lv_goto (tgt := 56) hx hb dX8_putCause_52 (by decide) ?_
                  rw [hZ]
                  exact hm_iret hx hb hr hlocks hS hP hK hnd hE (congrArg (fun z => (z, S)) (((if_neg c_5).trans ((if_neg c_16).trans ((if_neg c_32).trans (if_neg c_48)))))) dX8_putCause_56
            ·
              have hok := (hok).1 c_32
              refine lv_iconst (v := 2) hx hb dX8_putCause_35 (by decide) ?_
              rw [hZ]
              exact hm_iret hx hb hr hlocks hS hP hK hnd hE (congrArg (fun z => (z, S)) (((if_neg c_5).trans ((if_neg c_16).trans (if_pos c_32))))) dX8_putCause_36
        ·
          have hok := (hok).1 c_16
          refine lv_iconst (v := 4) hx hb dX8_putCause_19 (by decide) ?_
          rw [hZ]
          exact hm_iret hx hb hr hlocks hS hP hK hnd hE (congrArg (fun z => (z, S)) (((if_neg c_5).trans (if_pos c_16)))) dX8_putCause_20
theorem hd_X8_elementAt : yX8_elementAt.cls ≠ "java/lang/invoke/MethodHandle" ∧ yX8_elementAt.cls ≠ "java/lang/invoke/VarHandle" ∧ (parseMethodDescriptor yX8_elementAt.desc).map (fun d => d.parameters.length) = some 2 := by decide +kernel
def h_X8_elementAt_n (p1 : Int32) (S : HS) : Option Nat :=
  none
def ok_X8_elementAt_n (L : List Nat) (p1 : Int32) (S : HS) : Prop :=
  True
set_option maxHeartbeats 4000000 in
set_option maxRecDepth 100000 in
theorem hm_X8_elementAt_n (l : Launch) (G : GE) (L : List Nat) (S : HS) (p1 : Int32) (hok : ok_X8_elementAt_n L p1 S) : HmQ l G yX8_elementAt wsX8_elementAt 0 0 [.null, .int p1] L S ((h_X8_elementAt_n p1 S, S)) := by
  refine Met.ofW (cc := cX8_elementAt) (maxL := 3) (ret := (some (.object "ThrowModels$Thing"))) (by decide) rfl ?_
  intro p e s m args below meth c s₁ B hml hv
  obtain ⟨rfl, hP, hK, hnd, hE⟩ := hv
  have hx := B.exec
  have hb := B.bytes
  have hr := B.returns
  have hts := atoms_spec (ws := wsX8_elementAt) B.pre
  have hown : s.vm.findClass RX8 = some m.cls := findClass_of_methodNamed B.named
  have hlocks := B.notSynchronized
  have hD := nd_D hnd
  have hS : va_S (AL L) s.heap s.heap [] := va_S.rf
  have hl := lv_entry ([.null, .int p1]) (n := 3) (Nat.le_of_ble_eq_true rfl)
  rw [lg_entry_eq]
  generalize (lg_sl ([.null, .int p1]) ++ List.replicate (3 - (lg_sl ([.null, .int p1])).length) Slot.unset).toArray = ls at hl ⊢
  have hl : lv_has ls 3 [(0, .null), (1, .int p1)] := hl
  obtain ⟨Z, hZ⟩ : ∃ z, z = MQ below (hm_QQ G L ((h_X8_elementAt_n p1 S, S))) ([.null, .int p1] : List Value).toArray s 0 0 (AL L) := ⟨_, rfl⟩
  rw [← hZ]
  refine lv_aload_nN hx hb dX8_elementAt_0 rfl (lv_at hl 0 rfl) ?_
  refine lv_instN hx hb dX8_elementAt_1 ?_
  refine lv_if_eq (tgt := 27) hx hb dX8_elementAt_4 (by decide) (fun _ => ?_) (fun z9 => absurd z9 (by decide))
  refine lv_null hx hb dX8_elementAt_27 ?_
  rw [hZ]
  exact hm_qret (v := none) hx hb hr ⟨_, rfl⟩ hlocks hS hP hK hnd hE (congrArg (fun z => (z, S)) (rfl)) dX8_elementAt_28
theorem iw_X8_elementAt_X7 : ∀ w ∈ u_ws RX7 TX7 3, w ∈ wsX8_elementAt := by decide +kernel
def h_X8_elementAt_s (p0 : Nat) (p1 : Int32) (S : HS) : Option Nat :=
  if hsK S p0 = 5 then if (h_X6_holds p0 p1 S) = 0 then none
   else oq (hsR S ((hsQ S p0 2).getD 0) p1.toNatClampNeg) (none)
    (fun (a_25 : Nat) => some a_25)
  else none
def ok_X8_elementAt_s (L : List Nat) (p0 : Nat) (p1 : Int32) (S : HS) : Prop :=
  (p0 ∈ L ∧ 1 ≤ hsK S p0 ∧ hsK S p0 ≤ 5) ∧ (((hsK S p0 = 5) → ((p0 ∈ L ∧ hsK S p0 = 5) ∧ ((p0 ∈ L ∧ hsK S p0 = 5) ∧ ((ok_X6_holds L p0 p1 S) ∧ ((((h_X6_holds p0 p1 S) = 0) → (True)) ∧
   (¬ ((h_X6_holds p0 p1 S) = 0) → ((p0 ∈ L ∧ hsK S p0 = 5 ∧ hsQ S p0 2 ≠ none) ∧ ((((hsQ S p0 2).getD 0) ∈ L ∧ hsK S ((hsQ S p0 2).getD 0) = 10 ∧ vp_in p1 (hsN S ((hsQ S p0 2).getD 0))) ∧ (((hsR S ((hsQ S p0 2).getD 0) p1.toNatClampNeg) = none → (True)) ∧
    (∀ a_25 : Nat, (hsR S ((hsQ S p0 2).getD 0) p1.toNatClampNeg) = some a_25 → (True))))))))))) ∧
  (¬ (hsK S p0 = 5) → (True)))
set_option maxHeartbeats 4000000 in
set_option maxRecDepth 100000 in
theorem hm_X8_elementAt_s (l : Launch) (G : GE) (L : List Nat) (S : HS) (p0 : Nat) (p1 : Int32) (hok : ok_X8_elementAt_s L p0 p1 S) : HmQ l G yX8_elementAt wsX8_elementAt 1 21 [.ref p0, .int p1] L S ((h_X8_elementAt_s p0 p1 S, S)) := by
  refine Met.ofW (cc := cX8_elementAt) (maxL := 3) (ret := (some (.object "ThrowModels$Thing"))) (by decide) rfl ?_
  intro p e s m args below meth c s₁ B hml hv
  obtain ⟨rfl, hP, hK, hnd, hE⟩ := hv
  have hx := B.exec
  have hb := B.bytes
  have hr := B.returns
  have hts := atoms_spec (ws := wsX8_elementAt) B.pre
  have hown : s.vm.findClass RX8 = some m.cls := findClass_of_methodNamed B.named
  have hlocks := B.notSynchronized
  have hD := nd_D hnd
  have hS : va_S (AL L) s.heap s.heap [] := va_S.rf
  have hl := lv_entry ([.ref p0, .int p1]) (n := 3) (Nat.le_of_ble_eq_true rfl)
  rw [lg_entry_eq]
  generalize (lg_sl ([.ref p0, .int p1]) ++ List.replicate (3 - (lg_sl ([.ref p0, .int p1])).length) Slot.unset).toArray = ls at hl ⊢
  have hl : lv_has ls 3 [(0, .ref p0), (1, .int p1)] := hl
  obtain ⟨Z, hZ⟩ : ∃ z, z = MQ below (hm_QQ G L ((h_X8_elementAt_s p0 p1 S, S))) ([.ref p0, .int p1] : List Value).toArray s 0 0 (AL L) := ⟨_, rfl⟩
  rw [← hZ]
  refine lv_aload_n hx hb dX8_elementAt_0 rfl (lv_at hl 0 rfl) ?_
  obtain ⟨h_1, hok⟩ := hok
  refine hp_inst5 hx hb hE.2 hown (hts _ (List.mem_of_getElem? (i := 1) rfl)) hK hP h_1 dX8_elementAt_1 (fun c_1 => ?_) (fun c_1 => ?_)
  ·
    have hok := (hok).1 c_1
    refine lv_if_eq (tgt := 27) hx hb dX8_elementAt_4 (by decide) (fun z9 => absurd z9 (by decide)) (fun _ => ?_)
    refine lv_aload_n hx hb dX8_elementAt_7 rfl (lv_at hl 0 rfl) ?_
    obtain ⟨h_8, hok⟩ := hok
    refine hp_cast5 hx hb hE.2 hown (hts _ (List.mem_of_getElem? (i := 1) rfl)) hK hP h_8 dX8_elementAt_8 ?_
    refine lv_astore_n (lv' := [(2, .ref p0), (0, .ref p0), (1, .int p1)]) hx hb dX8_elementAt_11 rfl hl (by decide) rfl (fun ls hl => ?_)
    refine lv_aload_n hx hb dX8_elementAt_12 rfl (lv_at hl 0 rfl) ?_
    refine lv_iload_n hx hb dX8_elementAt_13 rfl (lv_at hl 2 rfl) ?_
    obtain ⟨h_14k, hok⟩ := hok
    obtain ⟨h_14, hok⟩ := hok
    refine hm_callIr (G := G) (S1 := S) (a := ([.ref p0, .int p1] : List Value).toArray) (rest := []) (h_X6_holds p0 p1 S) ?_ hS (fun H locs hP hS => ?_)
    ·
      exact va_runU (As := [.int p1]) (rest := []) ⟨hx, hb, hml, hown, hts⟩ (hm_X6_holds l G L S p0 p1 h_14) (va_cwU (x := ⟨"ThrowModels$ThingArray", "holds", "(I)Z"⟩) 1 hts gX8_elementAt_X6_holds_u104X7 rfl rfl rfl rfl (by decide +kernel) ⟨Nat.le_of_ble_eq_true rfl, Nat.le_of_ble_eq_true rfl⟩) ⟨HW.fb, hp_recv hK hP h_14k.1 (PF_5 h_14k.2) rfl, fun U hU hW => ⟨rfl, HW.call hP hK hnd hE hS U hU hW⟩⟩ rfl rfl hl.1 rfl (lv_room (Nat.le_of_ble_eq_true rfl)) dX8_elementAt_14 ⟨Nat.le_refl 0, Nat.le_refl 0⟩
    ·
      refine lv_if_eq (tgt := 27) hx hb dX8_elementAt_17 (by decide) (fun c_17 => ?_) (fun c_17 => ?_)
      ·
        have hok := (hok).1 c_17
        refine lv_null hx hb dX8_elementAt_27 ?_
        rw [hZ]
        exact hm_qret (v := none) hx hb hr ⟨_, rfl⟩ hlocks hS hP hK hnd hE (congrArg (fun z => (z, S)) (((if_pos c_1).trans (if_pos c_17)))) dX8_elementAt_28
      ·
        have hok := (hok).2 c_17
        refine lv_aload_n hx hb dX8_elementAt_20 rfl (lv_at hl 0 rfl) ?_
        obtain ⟨h_21, hok⟩ := hok
        refine hp_getR (ci := 5) (C := RX7) (T := TX7) (N := 3) hx hb hts iw_X8_elementAt_X7 hown hK hP h_21.1 (PF_5 h_21.2.1) rfl 2 (by decide) (hts _ (List.mem_of_getElem? (i := 2) rfl)) (fun _ h9 => h9) rfl h_21.2.2 dX8_elementAt_21 ?_
        refine lv_iload_n hx hb dX8_elementAt_24 rfl (lv_at hl 2 rfl) ?_
        obtain ⟨h_25, hok⟩ := hok
        refine hp_aald hx hb hK hP h_25.1 2 (PF_10 h_25.2.1) rfl h_25.2.2 dX8_elementAt_25 ?_
        refine lv_topq (fun r_25 er_25 => ?_)
        rcases r_25 with _ | a_25
        ·
          have hok := (hok).1 er_25.symm
          rw [hZ]
          exact hm_qret (v := none) hx hb hr ⟨_, rfl⟩ hlocks hS hP hK hnd hE (congrArg (fun z => (z, S)) (((if_pos c_1).trans ((if_neg c_17).trans (oq_none er_25.symm))))) dX8_elementAt_26
        ·
          have hok := (hok).2 _ er_25.symm
          rw [hZ]
          exact hm_qret (v := some a_25) hx hb hr ⟨_, rfl⟩ hlocks hS hP hK hnd hE (congrArg (fun z => (z, S)) (((if_pos c_1).trans ((if_neg c_17).trans (oq_some er_25.symm))))) dX8_elementAt_26
  ·
    have hok := (hok).2 c_1
    refine lv_if_eq (tgt := 27) hx hb dX8_elementAt_4 (by decide) (fun _ => ?_) (fun z9 => absurd z9 (by decide))
    refine lv_null hx hb dX8_elementAt_27 ?_
    rw [hZ]
    exact hm_qret (v := none) hx hb hr ⟨_, rfl⟩ hlocks hS hP hK hnd hE (congrArg (fun z => (z, S)) ((if_neg c_1))) dX8_elementAt_28
theorem hd_X8_numberAt : yX8_numberAt.cls ≠ "java/lang/invoke/MethodHandle" ∧ yX8_numberAt.cls ≠ "java/lang/invoke/VarHandle" ∧ (parseMethodDescriptor yX8_numberAt.desc).map (fun d => d.parameters.length) = some 2 := by decide +kernel
def h_X8_numberAt_n (p1 : Int32) (S : HS) : Int64 :=
  0
def ok_X8_numberAt_n (L : List Nat) (p1 : Int32) (S : HS) : Prop :=
  True
set_option maxHeartbeats 4000000 in
set_option maxRecDepth 100000 in
theorem hm_X8_numberAt_n (l : Launch) (G : GE) (L : List Nat) (S : HS) (p1 : Int32) (hok : ok_X8_numberAt_n L p1 S) : HmL l G yX8_numberAt wsX8_numberAt 0 0 [.null, .int p1] L S ((h_X8_numberAt_n p1 S, S)) := by
  refine Met.ofW (cc := cX8_numberAt) (maxL := 3) (ret := (some .long)) (by decide) rfl ?_
  intro p e s m args below meth c s₁ B hml hv
  obtain ⟨rfl, hP, hK, hnd, hE⟩ := hv
  have hx := B.exec
  have hb := B.bytes
  have hr := B.returns
  have hts := atoms_spec (ws := wsX8_numberAt) B.pre
  have hown : s.vm.findClass RX8 = some m.cls := findClass_of_methodNamed B.named
  have hlocks := B.notSynchronized
  have hD := nd_D hnd
  have hS : va_S (AL L) s.heap s.heap [] := va_S.rf
  have hl := lv_entry ([.null, .int p1]) (n := 3) (Nat.le_of_ble_eq_true rfl)
  rw [lg_entry_eq]
  generalize (lg_sl ([.null, .int p1]) ++ List.replicate (3 - (lg_sl ([.null, .int p1])).length) Slot.unset).toArray = ls at hl ⊢
  have hl : lv_has ls 3 [(0, .null), (1, .int p1)] := hl
  obtain ⟨Z, hZ⟩ : ∃ z, z = MQ below (hm_QL G L ((h_X8_numberAt_n p1 S, S))) ([.null, .int p1] : List Value).toArray s 0 0 (AL L) := ⟨_, rfl⟩
  rw [← hZ]
  refine lv_aload_nN hx hb dX8_numberAt_0 rfl (lv_at hl 0 rfl) ?_
  refine lv_instN hx hb dX8_numberAt_1 ?_
  refine lv_if_eq (tgt := 27) hx hb dX8_numberAt_4 (by decide) (fun _ => ?_) (fun z9 => absurd z9 (by decide))
  refine lv_lconst (v := 0) hx hb dX8_numberAt_27 (by decide) ?_
  rw [hZ]
  exact hm_lret hx hb hr hlocks hS hP hK hnd hE (congrArg (fun z => (z, S)) (rfl)) dX8_numberAt_28
theorem iw_X8_numberAt_X1 : ∀ w ∈ u_ws RX1 TX1 3, w ∈ wsX8_numberAt := by decide +kernel
def h_X8_numberAt_s (p0 : Nat) (p1 : Int32) (S : HS) : Int64 :=
  if hsK S p0 = 1 then if (h_X6_holds p0 p1 S) = 0 then 0
   else hsJ S ((hsQ S p0 2).getD 0) p1.toNatClampNeg
  else 0
def ok_X8_numberAt_s (L : List Nat) (p0 : Nat) (p1 : Int32) (S : HS) : Prop :=
  (p0 ∈ L ∧ 1 ≤ hsK S p0 ∧ hsK S p0 ≤ 5) ∧ (((hsK S p0 = 1) → ((p0 ∈ L ∧ hsK S p0 = 1) ∧ ((p0 ∈ L ∧ hsK S p0 = 1) ∧ ((ok_X6_holds L p0 p1 S) ∧ ((((h_X6_holds p0 p1 S) = 0) → (True)) ∧
   (¬ ((h_X6_holds p0 p1 S) = 0) → ((p0 ∈ L ∧ hsK S p0 = 1 ∧ hsQ S p0 2 ≠ none) ∧ ((((hsQ S p0 2).getD 0) ∈ L ∧ hsK S ((hsQ S p0 2).getD 0) = 9 ∧ vp_in p1 (hsN S ((hsQ S p0 2).getD 0))) ∧ (True))))))))) ∧
  (¬ (hsK S p0 = 1) → (True)))
set_option maxHeartbeats 4000000 in
set_option maxRecDepth 100000 in
theorem hm_X8_numberAt_s (l : Launch) (G : GE) (L : List Nat) (S : HS) (p0 : Nat) (p1 : Int32) (hok : ok_X8_numberAt_s L p0 p1 S) : HmL l G yX8_numberAt wsX8_numberAt 1 21 [.ref p0, .int p1] L S ((h_X8_numberAt_s p0 p1 S, S)) := by
  refine Met.ofW (cc := cX8_numberAt) (maxL := 3) (ret := (some .long)) (by decide) rfl ?_
  intro p e s m args below meth c s₁ B hml hv
  obtain ⟨rfl, hP, hK, hnd, hE⟩ := hv
  have hx := B.exec
  have hb := B.bytes
  have hr := B.returns
  have hts := atoms_spec (ws := wsX8_numberAt) B.pre
  have hown : s.vm.findClass RX8 = some m.cls := findClass_of_methodNamed B.named
  have hlocks := B.notSynchronized
  have hD := nd_D hnd
  have hS : va_S (AL L) s.heap s.heap [] := va_S.rf
  have hl := lv_entry ([.ref p0, .int p1]) (n := 3) (Nat.le_of_ble_eq_true rfl)
  rw [lg_entry_eq]
  generalize (lg_sl ([.ref p0, .int p1]) ++ List.replicate (3 - (lg_sl ([.ref p0, .int p1])).length) Slot.unset).toArray = ls at hl ⊢
  have hl : lv_has ls 3 [(0, .ref p0), (1, .int p1)] := hl
  obtain ⟨Z, hZ⟩ : ∃ z, z = MQ below (hm_QL G L ((h_X8_numberAt_s p0 p1 S, S))) ([.ref p0, .int p1] : List Value).toArray s 0 0 (AL L) := ⟨_, rfl⟩
  rw [← hZ]
  refine lv_aload_n hx hb dX8_numberAt_0 rfl (lv_at hl 0 rfl) ?_
  obtain ⟨h_1, hok⟩ := hok
  refine hp_inst1 hx hb hE.2 hown (hts _ (List.mem_of_getElem? (i := 1) rfl)) hK hP h_1 dX8_numberAt_1 (fun c_1 => ?_) (fun c_1 => ?_)
  ·
    have hok := (hok).1 c_1
    refine lv_if_eq (tgt := 27) hx hb dX8_numberAt_4 (by decide) (fun z9 => absurd z9 (by decide)) (fun _ => ?_)
    refine lv_aload_n hx hb dX8_numberAt_7 rfl (lv_at hl 0 rfl) ?_
    obtain ⟨h_8, hok⟩ := hok
    refine hp_cast1 hx hb hE.2 hown (hts _ (List.mem_of_getElem? (i := 1) rfl)) hK hP h_8 dX8_numberAt_8 ?_
    refine lv_astore_n (lv' := [(2, .ref p0), (0, .ref p0), (1, .int p1)]) hx hb dX8_numberAt_11 rfl hl (by decide) rfl (fun ls hl => ?_)
    refine lv_aload_n hx hb dX8_numberAt_12 rfl (lv_at hl 0 rfl) ?_
    refine lv_iload_n hx hb dX8_numberAt_13 rfl (lv_at hl 2 rfl) ?_
    obtain ⟨h_14k, hok⟩ := hok
    obtain ⟨h_14, hok⟩ := hok
    refine hm_callIr (G := G) (S1 := S) (a := ([.ref p0, .int p1] : List Value).toArray) (rest := []) (h_X6_holds p0 p1 S) ?_ hS (fun H locs hP hS => ?_)
    ·
      exact va_runU (As := [.int p1]) (rest := []) ⟨hx, hb, hml, hown, hts⟩ (hm_X6_holds l G L S p0 p1 h_14) (va_cwU (x := ⟨"ThrowModels$NumberArray", "holds", "(I)Z"⟩) 1 hts gX8_numberAt_X6_holds_u81X1 rfl rfl rfl rfl (by decide +kernel) ⟨Nat.le_of_ble_eq_true rfl, Nat.le_of_ble_eq_true rfl⟩) ⟨HW.fb, hp_recv hK hP h_14k.1 (PF_1 h_14k.2) rfl, fun U hU hW => ⟨rfl, HW.call hP hK hnd hE hS U hU hW⟩⟩ rfl rfl hl.1 rfl (lv_room (Nat.le_of_ble_eq_true rfl)) dX8_numberAt_14 ⟨Nat.le_refl 0, Nat.le_refl 0⟩
    ·
      refine lv_if_eq (tgt := 27) hx hb dX8_numberAt_17 (by decide) (fun c_17 => ?_) (fun c_17 => ?_)
      ·
        have hok := (hok).1 c_17
        refine lv_lconst (v := 0) hx hb dX8_numberAt_27 (by decide) ?_
        rw [hZ]
        exact hm_lret hx hb hr hlocks hS hP hK hnd hE (congrArg (fun z => (z, S)) (((if_pos c_1).trans (if_pos c_17)))) dX8_numberAt_28
      ·
        have hok := (hok).2 c_17
        refine lv_aload_n hx hb dX8_numberAt_20 rfl (lv_at hl 0 rfl) ?_
        obtain ⟨h_21, hok⟩ := hok
        refine hp_getR (ci := 1) (C := RX1) (T := TX1) (N := 3) hx hb hts iw_X8_numberAt_X1 hown hK hP h_21.1 (PF_1 h_21.2.1) rfl 2 (by decide) (hts _ (List.mem_of_getElem? (i := 2) rfl)) (fun _ h9 => h9) rfl h_21.2.2 dX8_numberAt_21 ?_
        refine lv_iload_n hx hb dX8_numberAt_24 rfl (lv_at hl 2 rfl) ?_
        obtain ⟨h_25, hok⟩ := hok
        refine hp_lald hx hb hK hP h_25.1 1 (PF_9 h_25.2.1) rfl h_25.2.2 dX8_numberAt_25 ?_
        rw [hZ]
        exact hm_lret hx hb hr hlocks hS hP hK hnd hE (congrArg (fun z => (z, S)) (((if_pos c_1).trans (if_neg c_17)))) dX8_numberAt_26
  ·
    have hok := (hok).2 c_1
    refine lv_if_eq (tgt := 27) hx hb dX8_numberAt_4 (by decide) (fun _ => ?_) (fun z9 => absurd z9 (by decide))
    refine lv_lconst (v := 0) hx hb dX8_numberAt_27 (by decide) ?_
    rw [hZ]
    exact hm_lret hx hb hr hlocks hS hP hK hnd hE (congrArg (fun z => (z, S)) ((if_neg c_1))) dX8_numberAt_28
theorem hd_X8_crossCause : yX8_crossCause.cls ≠ "java/lang/invoke/MethodHandle" ∧ yX8_crossCause.cls ≠ "java/lang/invoke/VarHandle" ∧ (parseMethodDescriptor yX8_crossCause.desc).map (fun d => d.parameters.length) = some 3 := by decide +kernel
def h_X8_crossCause_n (p1 : Int32) (p2 : Int32) (S : HS) : Int32 :=
  if (h_X8_elementCause_n 7 p1 S) = 0 then oq (h_X8_elementAt_n p1 S) (h_X8_elementCause_n 0 p2 S)
   (fun (a_19 : Nat) => h_X8_elementCause_s 0 a_19 p2 S)
  else h_X8_elementCause_n 7 p1 S
def ok_X8_crossCause_n (L : List Nat) (p1 : Int32) (p2 : Int32) (S : HS) : Prop :=
  (ok_X8_elementCause_n L 7 p1 S) ∧ ((((h_X8_elementCause_n 7 p1 S) = 0) → ((ok_X8_elementAt_n L p1 S) ∧ (((h_X8_elementAt_n p1 S) = none → ((ok_X8_elementCause_n L 0 p2 S) ∧ (True))) ∧
   (∀ a_19 : Nat, (h_X8_elementAt_n p1 S) = some a_19 → ((ok_X8_elementCause_s L 0 a_19 p2 S) ∧ (True)))))) ∧
  (¬ ((h_X8_elementCause_n 7 p1 S) = 0) → (True)))
set_option maxHeartbeats 4000000 in
set_option maxRecDepth 100000 in
theorem hm_X8_crossCause_n (l : Launch) (G : GE) (L : List Nat) (S : HS) (p1 : Int32) (p2 : Int32) (hok : ok_X8_crossCause_n L p1 p2 S) : HmI l G yX8_crossCause wsX8_crossCause 4 86 [.null, .int p1, .int p2] L S ((h_X8_crossCause_n p1 p2 S, S)) := by
  refine Met.ofW (cc := cX8_crossCause) (maxL := 4) (ret := (some .int)) (by decide) rfl ?_
  intro p e s m args below meth c s₁ B hml hv
  obtain ⟨rfl, hP, hK, hnd, hE⟩ := hv
  have hx := B.exec
  have hb := B.bytes
  have hr := B.returns
  have hts := atoms_spec (ws := wsX8_crossCause) B.pre
  have hown : s.vm.findClass RX8 = some m.cls := findClass_of_methodNamed B.named
  have hlocks := B.notSynchronized
  have hD := nd_D hnd
  have hS : va_S (AL L) s.heap s.heap [] := va_S.rf
  have hl := lv_entry ([.null, .int p1, .int p2]) (n := 4) (Nat.le_of_ble_eq_true rfl)
  rw [lg_entry_eq]
  generalize (lg_sl ([.null, .int p1, .int p2]) ++ List.replicate (4 - (lg_sl ([.null, .int p1, .int p2])).length) Slot.unset).toArray = ls at hl ⊢
  have hl : lv_has ls 4 [(0, .null), (1, .int p1), (2, .int p2)] := hl
  obtain ⟨Z, hZ⟩ : ∃ z, z = MQ below (hm_QI G L ((h_X8_crossCause_n p1 p2 S, S))) ([.null, .int p1, .int p2] : List Value).toArray s 0 0 (AL L) := ⟨_, rfl⟩
  rw [← hZ]
  refine lv_bipush (v := 7) hx hb dX8_crossCause_0 (by decide) ?_
  refine lv_aload_nN hx hb dX8_crossCause_2 rfl (lv_at hl 0 rfl) ?_
  refine lv_iload_n hx hb dX8_crossCause_3 rfl (lv_at hl 1 rfl) ?_
  obtain ⟨h_4, hok⟩ := hok
  refine hm_callIr (G := G) (S1 := S) (a := ([.int 7, .null, .int p1] : List Value).toArray) (rest := []) (h_X8_elementCause_n 7 p1 S) ?_ hS (fun H locs hP hS => ?_)
  ·
    exact va_runS (As := [.int 7, .null, .int p1]) (rest := []) ⟨hx, hb, hml, hown, hts⟩ (hm_X8_elementCause_n l G L S 7 p1 h_4) (va_cwS 3 hts gX8_crossCause_X8_elementCause rfl rfl rfl hd_X8_elementCause ⟨Nat.le_of_ble_eq_true rfl, Nat.le_of_ble_eq_true rfl⟩) ⟨HW.fb, fun U hU hW => ⟨rfl, HW.call hP hK hnd hE hS U hU hW⟩⟩ rfl rfl hl.1 rfl (lv_room (Nat.le_of_ble_eq_true rfl)) dX8_crossCause_4 ⟨Nat.le_refl 0, Nat.le_refl 0⟩
  ·
    refine lv_istore_n (lv' := [(3, .int (h_X8_elementCause_n 7 p1 S)), (0, .null), (1, .int p1), (2, .int p2)]) hx hb dX8_crossCause_7 rfl hl (by decide) rfl (fun ls hl => ?_)
    refine lv_iload_n hx hb dX8_crossCause_8 rfl (lv_at hl 0 rfl) ?_
    refine lv_if_eq (tgt := 16) hx hb dX8_crossCause_9 (by decide) (fun c_9 => ?_) (fun c_9 => ?_)
    ·
      have hok := (hok).1 c_9
      refine lv_iconst (v := 0) hx hb dX8_crossCause_16 (by decide) ?_
      refine lv_aload_nN hx hb dX8_crossCause_17 rfl (lv_at hl 1 rfl) ?_
      refine lv_iload_n hx hb dX8_crossCause_18 rfl (lv_at hl 2 rfl) ?_
      obtain ⟨h_19, hok⟩ := hok
      refine hm_callQr (G := G) (S1 := S) (a := ([.null, .int p1] : List Value).toArray) (rest := [.int 0]) (h_X8_elementAt_n p1 S) ?_ hS (fun H locs hP hS => ?_)
      ·
        exact va_runS (As := [.null, .int p1]) (rest := [.int 0]) ⟨hx, hb, hml, hown, hts⟩ (hm_X8_elementAt_n l G L S p1 h_19) (va_cwS 2 hts gX8_crossCause_X8_elementAt rfl rfl rfl hd_X8_elementAt ⟨Nat.le_of_ble_eq_true rfl, Nat.le_of_ble_eq_true rfl⟩) ⟨HW.fb, fun U hU hW => ⟨rfl, HW.call hP hK hnd hE hS U hU hW⟩⟩ rfl rfl hl.1 rfl (lv_room (Nat.le_of_ble_eq_true rfl)) dX8_crossCause_19 ⟨Nat.le_refl 0, Nat.le_refl 0⟩
      ·
        refine lv_topq (fun r_19 er_19 => ?_)
        rcases r_19 with _ | a_19
        ·
          have hok := (hok).1 er_19.symm
          refine lv_iload_n hx hb dX8_crossCause_22 rfl (lv_at hl 3 rfl) ?_
          obtain ⟨h_23, hok⟩ := hok
          refine hm_callIr (G := G) (S1 := S) (a := ([.int 0, .null, .int p2] : List Value).toArray) (rest := []) (h_X8_elementCause_n 0 p2 S) ?_ hS (fun H locs hP hS => ?_)
          ·
            exact va_runS (As := [.int 0, .null, .int p2]) (rest := []) ⟨hx, hb, hml, hown, hts⟩ (hm_X8_elementCause_n l G L S 0 p2 h_23) (va_cwS 3 hts gX8_crossCause_X8_elementCause rfl rfl rfl hd_X8_elementCause ⟨Nat.le_of_ble_eq_true rfl, Nat.le_of_ble_eq_true rfl⟩) ⟨HW.fb, fun U hU hW => ⟨rfl, HW.call hP hK hnd hE hS U hU hW⟩⟩ rfl rfl hl.1 rfl (lv_room (Nat.le_of_ble_eq_true rfl)) dX8_crossCause_23 ⟨Nat.le_refl 0, Nat.le_refl 0⟩
          ·
            rw [hZ]
            exact hm_iret hx hb hr hlocks hS hP hK hnd hE (congrArg (fun z => (z, S)) (((if_pos c_9).trans (oq_none er_19.symm)))) dX8_crossCause_26
        ·
          have hok := (hok).2 _ er_19.symm
          refine lv_iload_n hx hb dX8_crossCause_22 rfl (lv_at hl 3 rfl) ?_
          obtain ⟨h_23, hok⟩ := hok
          refine hm_callIr (G := G) (S1 := S) (a := ([.int 0, .ref a_19, .int p2] : List Value).toArray) (rest := []) (h_X8_elementCause_s 0 a_19 p2 S) ?_ hS (fun H locs hP hS => ?_)
          ·
            exact va_runS (As := [.int 0, .ref a_19, .int p2]) (rest := []) ⟨hx, hb, hml, hown, hts⟩ (hm_X8_elementCause_s l G L S 0 a_19 p2 h_23) (va_cwS 3 hts gX8_crossCause_X8_elementCause rfl rfl rfl hd_X8_elementCause ⟨Nat.le_of_ble_eq_true rfl, Nat.le_of_ble_eq_true rfl⟩) ⟨HW.fb, fun U hU hW => ⟨rfl, HW.call hP hK hnd hE hS U hU hW⟩⟩ rfl rfl hl.1 rfl (lv_room (Nat.le_of_ble_eq_true rfl)) dX8_crossCause_23 ⟨Nat.le_refl 0, Nat.le_refl 0⟩
          ·
            rw [hZ]
            exact hm_iret hx hb hr hlocks hS hP hK hnd hE (congrArg (fun z => (z, S)) (((if_pos c_9).trans (oq_some er_19.symm)))) dX8_crossCause_26
    ·
      have hok := (hok).2 c_9
      refine lv_iload_n hx hb dX8_crossCause_12 rfl (lv_at hl 0 rfl) ?_
      refine lv_goto (tgt := 26) hx hb dX8_crossCause_13 (by decide) ?_
      rw [hZ]
      exact hm_iret hx hb hr hlocks hS hP hK hnd hE (congrArg (fun z => (z, S)) ((if_neg c_9))) dX8_crossCause_26
def h_X8_crossCause_s (p0 : Nat) (p1 : Int32) (p2 : Int32) (S : HS) : Int32 :=
  if (h_X8_elementCause_s 7 p0 p1 S) = 0 then oq (h_X8_elementAt_s p0 p1 S) (h_X8_elementCause_n 0 p2 S)
   (fun (a_19 : Nat) => h_X8_elementCause_s 0 a_19 p2 S)
  else h_X8_elementCause_s 7 p0 p1 S
def ok_X8_crossCause_s (L : List Nat) (p0 : Nat) (p1 : Int32) (p2 : Int32) (S : HS) : Prop :=
  (ok_X8_elementCause_s L 7 p0 p1 S) ∧ ((((h_X8_elementCause_s 7 p0 p1 S) = 0) → ((ok_X8_elementAt_s L p0 p1 S) ∧ (((h_X8_elementAt_s p0 p1 S) = none → ((ok_X8_elementCause_n L 0 p2 S) ∧ (True))) ∧
   (∀ a_19 : Nat, (h_X8_elementAt_s p0 p1 S) = some a_19 → ((ok_X8_elementCause_s L 0 a_19 p2 S) ∧ (True)))))) ∧
  (¬ ((h_X8_elementCause_s 7 p0 p1 S) = 0) → (True)))
set_option maxHeartbeats 4000000 in
set_option maxRecDepth 100000 in
theorem hm_X8_crossCause_s (l : Launch) (G : GE) (L : List Nat) (S : HS) (p0 : Nat) (p1 : Int32) (p2 : Int32) (hok : ok_X8_crossCause_s L p0 p1 p2 S) : HmI l G yX8_crossCause wsX8_crossCause 4 86 [.ref p0, .int p1, .int p2] L S ((h_X8_crossCause_s p0 p1 p2 S, S)) := by
  refine Met.ofW (cc := cX8_crossCause) (maxL := 4) (ret := (some .int)) (by decide) rfl ?_
  intro p e s m args below meth c s₁ B hml hv
  obtain ⟨rfl, hP, hK, hnd, hE⟩ := hv
  have hx := B.exec
  have hb := B.bytes
  have hr := B.returns
  have hts := atoms_spec (ws := wsX8_crossCause) B.pre
  have hown : s.vm.findClass RX8 = some m.cls := findClass_of_methodNamed B.named
  have hlocks := B.notSynchronized
  have hD := nd_D hnd
  have hS : va_S (AL L) s.heap s.heap [] := va_S.rf
  have hl := lv_entry ([.ref p0, .int p1, .int p2]) (n := 4) (Nat.le_of_ble_eq_true rfl)
  rw [lg_entry_eq]
  generalize (lg_sl ([.ref p0, .int p1, .int p2]) ++ List.replicate (4 - (lg_sl ([.ref p0, .int p1, .int p2])).length) Slot.unset).toArray = ls at hl ⊢
  have hl : lv_has ls 4 [(0, .ref p0), (1, .int p1), (2, .int p2)] := hl
  obtain ⟨Z, hZ⟩ : ∃ z, z = MQ below (hm_QI G L ((h_X8_crossCause_s p0 p1 p2 S, S))) ([.ref p0, .int p1, .int p2] : List Value).toArray s 0 0 (AL L) := ⟨_, rfl⟩
  rw [← hZ]
  refine lv_bipush (v := 7) hx hb dX8_crossCause_0 (by decide) ?_
  refine lv_aload_n hx hb dX8_crossCause_2 rfl (lv_at hl 0 rfl) ?_
  refine lv_iload_n hx hb dX8_crossCause_3 rfl (lv_at hl 1 rfl) ?_
  obtain ⟨h_4, hok⟩ := hok
  refine hm_callIr (G := G) (S1 := S) (a := ([.int 7, .ref p0, .int p1] : List Value).toArray) (rest := []) (h_X8_elementCause_s 7 p0 p1 S) ?_ hS (fun H locs hP hS => ?_)
  ·
    exact va_runS (As := [.int 7, .ref p0, .int p1]) (rest := []) ⟨hx, hb, hml, hown, hts⟩ (hm_X8_elementCause_s l G L S 7 p0 p1 h_4) (va_cwS 3 hts gX8_crossCause_X8_elementCause rfl rfl rfl hd_X8_elementCause ⟨Nat.le_of_ble_eq_true rfl, Nat.le_of_ble_eq_true rfl⟩) ⟨HW.fb, fun U hU hW => ⟨rfl, HW.call hP hK hnd hE hS U hU hW⟩⟩ rfl rfl hl.1 rfl (lv_room (Nat.le_of_ble_eq_true rfl)) dX8_crossCause_4 ⟨Nat.le_refl 0, Nat.le_refl 0⟩
  ·
    refine lv_istore_n (lv' := [(3, .int (h_X8_elementCause_s 7 p0 p1 S)), (0, .ref p0), (1, .int p1), (2, .int p2)]) hx hb dX8_crossCause_7 rfl hl (by decide) rfl (fun ls hl => ?_)
    refine lv_iload_n hx hb dX8_crossCause_8 rfl (lv_at hl 0 rfl) ?_
    refine lv_if_eq (tgt := 16) hx hb dX8_crossCause_9 (by decide) (fun c_9 => ?_) (fun c_9 => ?_)
    ·
      have hok := (hok).1 c_9
      refine lv_iconst (v := 0) hx hb dX8_crossCause_16 (by decide) ?_
      refine lv_aload_n hx hb dX8_crossCause_17 rfl (lv_at hl 1 rfl) ?_
      refine lv_iload_n hx hb dX8_crossCause_18 rfl (lv_at hl 2 rfl) ?_
      obtain ⟨h_19, hok⟩ := hok
      refine hm_callQr (G := G) (S1 := S) (a := ([.ref p0, .int p1] : List Value).toArray) (rest := [.int 0]) (h_X8_elementAt_s p0 p1 S) ?_ hS (fun H locs hP hS => ?_)
      ·
        exact va_runS (As := [.ref p0, .int p1]) (rest := [.int 0]) ⟨hx, hb, hml, hown, hts⟩ (hm_X8_elementAt_s l G L S p0 p1 h_19) (va_cwS 2 hts gX8_crossCause_X8_elementAt rfl rfl rfl hd_X8_elementAt ⟨Nat.le_of_ble_eq_true rfl, Nat.le_of_ble_eq_true rfl⟩) ⟨HW.fb, fun U hU hW => ⟨rfl, HW.call hP hK hnd hE hS U hU hW⟩⟩ rfl rfl hl.1 rfl (lv_room (Nat.le_of_ble_eq_true rfl)) dX8_crossCause_19 ⟨Nat.le_refl 0, Nat.le_refl 0⟩
      ·
        refine lv_topq (fun r_19 er_19 => ?_)
        rcases r_19 with _ | a_19
        ·
          have hok := (hok).1 er_19.symm
          refine lv_iload_n hx hb dX8_crossCause_22 rfl (lv_at hl 3 rfl) ?_
          obtain ⟨h_23, hok⟩ := hok
          refine hm_callIr (G := G) (S1 := S) (a := ([.int 0, .null, .int p2] : List Value).toArray) (rest := []) (h_X8_elementCause_n 0 p2 S) ?_ hS (fun H locs hP hS => ?_)
          ·
            exact va_runS (As := [.int 0, .null, .int p2]) (rest := []) ⟨hx, hb, hml, hown, hts⟩ (hm_X8_elementCause_n l G L S 0 p2 h_23) (va_cwS 3 hts gX8_crossCause_X8_elementCause rfl rfl rfl hd_X8_elementCause ⟨Nat.le_of_ble_eq_true rfl, Nat.le_of_ble_eq_true rfl⟩) ⟨HW.fb, fun U hU hW => ⟨rfl, HW.call hP hK hnd hE hS U hU hW⟩⟩ rfl rfl hl.1 rfl (lv_room (Nat.le_of_ble_eq_true rfl)) dX8_crossCause_23 ⟨Nat.le_refl 0, Nat.le_refl 0⟩
          ·
            rw [hZ]
            exact hm_iret hx hb hr hlocks hS hP hK hnd hE (congrArg (fun z => (z, S)) (((if_pos c_9).trans (oq_none er_19.symm)))) dX8_crossCause_26
        ·
          have hok := (hok).2 _ er_19.symm
          refine lv_iload_n hx hb dX8_crossCause_22 rfl (lv_at hl 3 rfl) ?_
          obtain ⟨h_23, hok⟩ := hok
          refine hm_callIr (G := G) (S1 := S) (a := ([.int 0, .ref a_19, .int p2] : List Value).toArray) (rest := []) (h_X8_elementCause_s 0 a_19 p2 S) ?_ hS (fun H locs hP hS => ?_)
          ·
            exact va_runS (As := [.int 0, .ref a_19, .int p2]) (rest := []) ⟨hx, hb, hml, hown, hts⟩ (hm_X8_elementCause_s l G L S 0 a_19 p2 h_23) (va_cwS 3 hts gX8_crossCause_X8_elementCause rfl rfl rfl hd_X8_elementCause ⟨Nat.le_of_ble_eq_true rfl, Nat.le_of_ble_eq_true rfl⟩) ⟨HW.fb, fun U hU hW => ⟨rfl, HW.call hP hK hnd hE hS U hU hW⟩⟩ rfl rfl hl.1 rfl (lv_room (Nat.le_of_ble_eq_true rfl)) dX8_crossCause_23 ⟨Nat.le_refl 0, Nat.le_refl 0⟩
          ·
            rw [hZ]
            exact hm_iret hx hb hr hlocks hS hP hK hnd hE (congrArg (fun z => (z, S)) (((if_pos c_9).trans (oq_some er_19.symm)))) dX8_crossCause_26
    ·
      have hok := (hok).2 c_9
      refine lv_iload_n hx hb dX8_crossCause_12 rfl (lv_at hl 0 rfl) ?_
      refine lv_goto (tgt := 26) hx hb dX8_crossCause_13 (by decide) ?_
      rw [hZ]
      exact hm_iret hx hb hr hlocks hS hP hK hnd hE (congrArg (fun z => (z, S)) ((if_neg c_9))) dX8_crossCause_26
theorem hd_X8_copyCause : yX8_copyCause.cls ≠ "java/lang/invoke/MethodHandle" ∧ yX8_copyCause.cls ≠ "java/lang/invoke/VarHandle" ∧ (parseMethodDescriptor yX8_copyCause.desc).map (fun d => d.parameters.length) = some 5 := by decide +kernel
def h_X8_copyCause_nn (p1 : Int32) (p3 : Int32) (p4 : Int32) (S : HS) : Int32 :=
  1
def ok_X8_copyCause_nn (L : List Nat) (p1 : Int32) (p3 : Int32) (p4 : Int32) (S : HS) : Prop :=
  True
set_option maxHeartbeats 4000000 in
set_option maxRecDepth 100000 in
theorem hm_X8_copyCause_nn (l : Launch) (G : GE) (L : List Nat) (S : HS) (p1 : Int32) (p3 : Int32) (p4 : Int32) (hok : ok_X8_copyCause_nn L p1 p3 p4 S) : HmI l G yX8_copyCause wsX8_copyCause 0 0 [.null, .int p1, .null, .int p3, .int p4] L S ((h_X8_copyCause_nn p1 p3 p4 S, S)) := by
  refine Met.ofW (cc := cX8_copyCause) (maxL := 8) (ret := (some .int)) (by decide) rfl ?_
  intro p e s m args below meth c s₁ B hml hv
  obtain ⟨rfl, hP, hK, hnd, hE⟩ := hv
  have hx := B.exec
  have hb := B.bytes
  have hr := B.returns
  have hts := atoms_spec (ws := wsX8_copyCause) B.pre
  have hown : s.vm.findClass RX8 = some m.cls := findClass_of_methodNamed B.named
  have hlocks := B.notSynchronized
  have hD := nd_D hnd
  have hS : va_S (AL L) s.heap s.heap [] := va_S.rf
  have hl := lv_entry ([.null, .int p1, .null, .int p3, .int p4]) (n := 8) (Nat.le_of_ble_eq_true rfl)
  rw [lg_entry_eq]
  generalize (lg_sl ([.null, .int p1, .null, .int p3, .int p4]) ++ List.replicate (8 - (lg_sl ([.null, .int p1, .null, .int p3, .int p4])).length) Slot.unset).toArray = ls at hl ⊢
  have hl : lv_has ls 8 [(0, .null), (1, .int p1), (2, .null), (3, .int p3), (4, .int p4)] := hl
  obtain ⟨Z, hZ⟩ : ∃ z, z = MQ below (hm_QI G L ((h_X8_copyCause_nn p1 p3 p4 S, S))) ([.null, .int p1, .null, .int p3, .int p4] : List Value).toArray s 0 0 (AL L) := ⟨_, rfl⟩
  rw [← hZ]
  refine lv_aload_nN hx hb dX8_copyCause_0 rfl (lv_at hl 0 rfl) ?_
  refine lv_ifnullN (tgt := 8) hx hb dX8_copyCause_1 (by decide) ?_
  refine lv_iconst (v := 1) hx hb dX8_copyCause_8 (by decide) ?_
  rw [hZ]
  exact hm_iret hx hb hr hlocks hS hP hK hnd hE (congrArg (fun z => (z, S)) (rfl)) dX8_copyCause_9
def h_X8_copyCause_ns (p1 : Int32) (p2 : Nat) (p3 : Int32) (p4 : Int32) (S : HS) : Int32 :=
  1
def ok_X8_copyCause_ns (L : List Nat) (p1 : Int32) (p2 : Nat) (p3 : Int32) (p4 : Int32) (S : HS) : Prop :=
  True
set_option maxHeartbeats 4000000 in
set_option maxRecDepth 100000 in
theorem hm_X8_copyCause_ns (l : Launch) (G : GE) (L : List Nat) (S : HS) (p1 : Int32) (p2 : Nat) (p3 : Int32) (p4 : Int32) (hok : ok_X8_copyCause_ns L p1 p2 p3 p4 S) : HmI l G yX8_copyCause wsX8_copyCause 0 0 [.null, .int p1, .ref p2, .int p3, .int p4] L S ((h_X8_copyCause_ns p1 p2 p3 p4 S, S)) := by
  refine Met.ofW (cc := cX8_copyCause) (maxL := 8) (ret := (some .int)) (by decide) rfl ?_
  intro p e s m args below meth c s₁ B hml hv
  obtain ⟨rfl, hP, hK, hnd, hE⟩ := hv
  have hx := B.exec
  have hb := B.bytes
  have hr := B.returns
  have hts := atoms_spec (ws := wsX8_copyCause) B.pre
  have hown : s.vm.findClass RX8 = some m.cls := findClass_of_methodNamed B.named
  have hlocks := B.notSynchronized
  have hD := nd_D hnd
  have hS : va_S (AL L) s.heap s.heap [] := va_S.rf
  have hl := lv_entry ([.null, .int p1, .ref p2, .int p3, .int p4]) (n := 8) (Nat.le_of_ble_eq_true rfl)
  rw [lg_entry_eq]
  generalize (lg_sl ([.null, .int p1, .ref p2, .int p3, .int p4]) ++ List.replicate (8 - (lg_sl ([.null, .int p1, .ref p2, .int p3, .int p4])).length) Slot.unset).toArray = ls at hl ⊢
  have hl : lv_has ls 8 [(0, .null), (1, .int p1), (2, .ref p2), (3, .int p3), (4, .int p4)] := hl
  obtain ⟨Z, hZ⟩ : ∃ z, z = MQ below (hm_QI G L ((h_X8_copyCause_ns p1 p2 p3 p4 S, S))) ([.null, .int p1, .ref p2, .int p3, .int p4] : List Value).toArray s 0 0 (AL L) := ⟨_, rfl⟩
  rw [← hZ]
  refine lv_aload_nN hx hb dX8_copyCause_0 rfl (lv_at hl 0 rfl) ?_
  refine lv_ifnullN (tgt := 8) hx hb dX8_copyCause_1 (by decide) ?_
  refine lv_iconst (v := 1) hx hb dX8_copyCause_8 (by decide) ?_
  rw [hZ]
  exact hm_iret hx hb hr hlocks hS hP hK hnd hE (congrArg (fun z => (z, S)) (rfl)) dX8_copyCause_9
def h_X8_copyCause_sn (p0 : Nat) (p1 : Int32) (p3 : Int32) (p4 : Int32) (S : HS) : Int32 :=
  1
def ok_X8_copyCause_sn (L : List Nat) (p0 : Nat) (p1 : Int32) (p3 : Int32) (p4 : Int32) (S : HS) : Prop :=
  True
set_option maxHeartbeats 4000000 in
set_option maxRecDepth 100000 in
theorem hm_X8_copyCause_sn (l : Launch) (G : GE) (L : List Nat) (S : HS) (p0 : Nat) (p1 : Int32) (p3 : Int32) (p4 : Int32) (hok : ok_X8_copyCause_sn L p0 p1 p3 p4 S) : HmI l G yX8_copyCause wsX8_copyCause 0 0 [.ref p0, .int p1, .null, .int p3, .int p4] L S ((h_X8_copyCause_sn p0 p1 p3 p4 S, S)) := by
  refine Met.ofW (cc := cX8_copyCause) (maxL := 8) (ret := (some .int)) (by decide) rfl ?_
  intro p e s m args below meth c s₁ B hml hv
  obtain ⟨rfl, hP, hK, hnd, hE⟩ := hv
  have hx := B.exec
  have hb := B.bytes
  have hr := B.returns
  have hts := atoms_spec (ws := wsX8_copyCause) B.pre
  have hown : s.vm.findClass RX8 = some m.cls := findClass_of_methodNamed B.named
  have hlocks := B.notSynchronized
  have hD := nd_D hnd
  have hS : va_S (AL L) s.heap s.heap [] := va_S.rf
  have hl := lv_entry ([.ref p0, .int p1, .null, .int p3, .int p4]) (n := 8) (Nat.le_of_ble_eq_true rfl)
  rw [lg_entry_eq]
  generalize (lg_sl ([.ref p0, .int p1, .null, .int p3, .int p4]) ++ List.replicate (8 - (lg_sl ([.ref p0, .int p1, .null, .int p3, .int p4])).length) Slot.unset).toArray = ls at hl ⊢
  have hl : lv_has ls 8 [(0, .ref p0), (1, .int p1), (2, .null), (3, .int p3), (4, .int p4)] := hl
  obtain ⟨Z, hZ⟩ : ∃ z, z = MQ below (hm_QI G L ((h_X8_copyCause_sn p0 p1 p3 p4 S, S))) ([.ref p0, .int p1, .null, .int p3, .int p4] : List Value).toArray s 0 0 (AL L) := ⟨_, rfl⟩
  rw [← hZ]
  refine lv_aload_n hx hb dX8_copyCause_0 rfl (lv_at hl 0 rfl) ?_
  refine lv_ifnull hx hb dX8_copyCause_1 ?_
  refine lv_aload_nN hx hb dX8_copyCause_4 rfl (lv_at hl 2 rfl) ?_
  refine lv_ifnonnullN hx hb dX8_copyCause_5 ?_
  refine lv_iconst (v := 1) hx hb dX8_copyCause_8 (by decide) ?_
  rw [hZ]
  exact hm_iret hx hb hr hlocks hS hP hK hnd hE (congrArg (fun z => (z, S)) (rfl)) dX8_copyCause_9
theorem iw_X8_copyCause_X1 : ∀ w ∈ u_ws RX1 TX1 3, w ∈ wsX8_copyCause := by decide +kernel
theorem iw_X8_copyCause_X2 : ∀ w ∈ u_ws RX2 TX2 3, w ∈ wsX8_copyCause := by decide +kernel
theorem iw_X8_copyCause_X4 : ∀ w ∈ u_ws RX4 TX4 3, w ∈ wsX8_copyCause := by decide +kernel
theorem iw_X8_copyCause_X5 : ∀ w ∈ u_ws RX5 TX5 3, w ∈ wsX8_copyCause := by decide +kernel
theorem iw_X8_copyCause_X7 : ∀ w ∈ u_ws RX7 TX7 3, w ∈ wsX8_copyCause := by decide +kernel
def h_X8_copyCause_ss_j125 (p0 : Nat) (p1 : Int32) (p2 : Nat) (p3 : Int32) (p4 : Int32) (z_125_0 : Int32) (S : HS) : Int32 :=
  if z_125_0 = 0 then 2
  else 0
def ok_X8_copyCause_ss_j125 (L : List Nat) (p0 : Nat) (p1 : Int32) (p2 : Nat) (p3 : Int32) (p4 : Int32) (z_125_0 : Int32) (S : HS) : Prop :=
  ((z_125_0 = 0) → (True)) ∧
  (¬ (z_125_0 = 0) → (True))
def h_X8_copyCause_ss_j77 (p0 : Nat) (p1 : Int32) (p2 : Nat) (p3 : Int32) (p4 : Int32) (S : HS) : Int32 :=
  if p1 < 0 then h_X8_copyCause_ss_j125 p0 p1 p2 p3 p4 0 S
  else if p3 < 0 then h_X8_copyCause_ss_j125 p0 p1 p2 p3 p4 0 S
   else if p4 < 0 then h_X8_copyCause_ss_j125 p0 p1 p2 p3 p4 0 S
    else if ((hsI S p0 1).toInt64) < (p1.toInt64 + p4.toInt64) then h_X8_copyCause_ss_j125 p0 p1 p2 p3 p4 0 S
     else if ((hsI S p2 1).toInt64) < (p3.toInt64 + p4.toInt64) then h_X8_copyCause_ss_j125 p0 p1 p2 p3 p4 0 S
      else h_X8_copyCause_ss_j125 p0 p1 p2 p3 p4 1 S
def ok_X8_copyCause_ss_j77 (L : List Nat) (p0 : Nat) (p1 : Int32) (p2 : Nat) (p3 : Int32) (p4 : Int32) (S : HS) : Prop :=
  ((p1 < 0) → (ok_X8_copyCause_ss_j125 L p0 p1 p2 p3 p4 0 S)) ∧
  (¬ (p1 < 0) → (((p3 < 0) → (ok_X8_copyCause_ss_j125 L p0 p1 p2 p3 p4 0 S)) ∧
   (¬ (p3 < 0) → (((p4 < 0) → (ok_X8_copyCause_ss_j125 L p0 p1 p2 p3 p4 0 S)) ∧
    (¬ (p4 < 0) → ((p0 ∈ L ∧ 1 ≤ hsK S p0 ∧ hsK S p0 ≤ 5) ∧ (((((hsI S p0 1).toInt64) < (p1.toInt64 + p4.toInt64)) → (ok_X8_copyCause_ss_j125 L p0 p1 p2 p3 p4 0 S)) ∧
     (¬ (((hsI S p0 1).toInt64) < (p1.toInt64 + p4.toInt64)) → ((p2 ∈ L ∧ 1 ≤ hsK S p2 ∧ hsK S p2 ≤ 5) ∧ (((((hsI S p2 1).toInt64) < (p3.toInt64 + p4.toInt64)) → (ok_X8_copyCause_ss_j125 L p0 p1 p2 p3 p4 0 S)) ∧
      (¬ (((hsI S p2 1).toInt64) < (p3.toInt64 + p4.toInt64)) → (ok_X8_copyCause_ss_j125 L p0 p1 p2 p3 p4 1 S))))))))))))
def h_X8_copyCause_ss_j63 (p0 : Nat) (p1 : Int32) (p2 : Nat) (p3 : Int32) (p4 : Int32) (z_35_0 : Int32) (z_63_0 : Int32) (S : HS) : Int32 :=
  if z_35_0 = 0 then if z_63_0 = 0 then 5
   else h_X8_copyCause_ss_j77 p0 p1 p2 p3 p4 S
  else h_X8_copyCause_ss_j77 p0 p1 p2 p3 p4 S
def ok_X8_copyCause_ss_j63 (L : List Nat) (p0 : Nat) (p1 : Int32) (p2 : Nat) (p3 : Int32) (p4 : Int32) (z_35_0 : Int32) (z_63_0 : Int32) (S : HS) : Prop :=
  ((z_35_0 = 0) → (((z_63_0 = 0) → (True)) ∧
   (¬ (z_63_0 = 0) → (ok_X8_copyCause_ss_j77 L p0 p1 p2 p3 p4 S)))) ∧
  (¬ (z_35_0 = 0) → (ok_X8_copyCause_ss_j77 L p0 p1 p2 p3 p4 S))
def h_X8_copyCause_ss_j35 (p0 : Nat) (p1 : Int32) (p2 : Nat) (p3 : Int32) (p4 : Int32) (z_35_0 : Int32) (S : HS) : Int32 :=
  if (s_X8_isArrayType (hsI S p0 0)) = 0 then h_X8_copyCause_ss_j63 p0 p1 p2 p3 p4 z_35_0 0 S
  else if (hsI S p0 0) = (hsI S p2 0) then h_X8_copyCause_ss_j63 p0 p1 p2 p3 p4 z_35_0 1 S
   else h_X8_copyCause_ss_j63 p0 p1 p2 p3 p4 z_35_0 0 S
def ok_X8_copyCause_ss_j35 (L : List Nat) (p0 : Nat) (p1 : Int32) (p2 : Nat) (p3 : Int32) (p4 : Int32) (z_35_0 : Int32) (S : HS) : Prop :=
  (p0 ∈ L ∧ 1 ≤ hsK S p0 ∧ hsK S p0 ≤ 5) ∧ ((((s_X8_isArrayType (hsI S p0 0)) = 0) → (ok_X8_copyCause_ss_j63 L p0 p1 p2 p3 p4 z_35_0 0 S)) ∧
  (¬ ((s_X8_isArrayType (hsI S p0 0)) = 0) → ((p0 ∈ L ∧ 1 ≤ hsK S p0 ∧ hsK S p0 ≤ 5) ∧ ((p2 ∈ L ∧ 1 ≤ hsK S p2 ∧ hsK S p2 ≤ 5) ∧ ((((hsI S p0 0) = (hsI S p2 0)) → (ok_X8_copyCause_ss_j63 L p0 p1 p2 p3 p4 z_35_0 1 S)) ∧
   (¬ ((hsI S p0 0) = (hsI S p2 0)) → (ok_X8_copyCause_ss_j63 L p0 p1 p2 p3 p4 z_35_0 0 S)))))))
def h_X8_copyCause_ss (p0 : Nat) (p1 : Int32) (p2 : Nat) (p3 : Int32) (p4 : Int32) (S : HS) : Int32 :=
  if (s_X8_isThingArrayType (hsI S p0 0)) = 0 then h_X8_copyCause_ss_j35 p0 p1 p2 p3 p4 0 S
  else if (s_X8_isThingArrayType (hsI S p2 0)) = 0 then h_X8_copyCause_ss_j35 p0 p1 p2 p3 p4 0 S
   else h_X8_copyCause_ss_j35 p0 p1 p2 p3 p4 1 S
def ok_X8_copyCause_ss (L : List Nat) (p0 : Nat) (p1 : Int32) (p2 : Nat) (p3 : Int32) (p4 : Int32) (S : HS) : Prop :=
  (p0 ∈ L ∧ 1 ≤ hsK S p0 ∧ hsK S p0 ≤ 5) ∧ ((((s_X8_isThingArrayType (hsI S p0 0)) = 0) → (ok_X8_copyCause_ss_j35 L p0 p1 p2 p3 p4 0 S)) ∧
  (¬ ((s_X8_isThingArrayType (hsI S p0 0)) = 0) → ((p2 ∈ L ∧ 1 ≤ hsK S p2 ∧ hsK S p2 ≤ 5) ∧ ((((s_X8_isThingArrayType (hsI S p2 0)) = 0) → (ok_X8_copyCause_ss_j35 L p0 p1 p2 p3 p4 0 S)) ∧
   (¬ ((s_X8_isThingArrayType (hsI S p2 0)) = 0) → (ok_X8_copyCause_ss_j35 L p0 p1 p2 p3 p4 1 S))))))
set_option maxHeartbeats 4000000 in
set_option maxRecDepth 100000 in
theorem hm_X8_copyCause_ss (l : Launch) (G : GE) (L : List Nat) (S : HS) (p0 : Nat) (p1 : Int32) (p2 : Nat) (p3 : Int32) (p4 : Int32) (hok : ok_X8_copyCause_ss L p0 p1 p2 p3 p4 S) : HmI l G yX8_copyCause wsX8_copyCause 2 40 [.ref p0, .int p1, .ref p2, .int p3, .int p4] L S ((h_X8_copyCause_ss p0 p1 p2 p3 p4 S, S)) := by
  refine Met.ofW (cc := cX8_copyCause) (maxL := 8) (ret := (some .int)) (by decide) rfl ?_
  intro p e s m args below meth c s₁ B hml hv
  obtain ⟨rfl, hP, hK, hnd, hE⟩ := hv
  have hx := B.exec
  have hb := B.bytes
  have hr := B.returns
  have hts := atoms_spec (ws := wsX8_copyCause) B.pre
  have hown : s.vm.findClass RX8 = some m.cls := findClass_of_methodNamed B.named
  have hlocks := B.notSynchronized
  have hD := nd_D hnd
  have hS : va_S (AL L) s.heap s.heap [] := va_S.rf
  have hl := lv_entry ([.ref p0, .int p1, .ref p2, .int p3, .int p4]) (n := 8) (Nat.le_of_ble_eq_true rfl)
  rw [lg_entry_eq]
  generalize (lg_sl ([.ref p0, .int p1, .ref p2, .int p3, .int p4]) ++ List.replicate (8 - (lg_sl ([.ref p0, .int p1, .ref p2, .int p3, .int p4])).length) Slot.unset).toArray = ls at hl ⊢
  have hl : lv_has ls 8 [(0, .ref p0), (1, .int p1), (2, .ref p2), (3, .int p3), (4, .int p4)] := hl
  obtain ⟨Z, hZ⟩ : ∃ z, z = MQ below (hm_QI G L ((h_X8_copyCause_ss p0 p1 p2 p3 p4 S, S))) ([.ref p0, .int p1, .ref p2, .int p3, .int p4] : List Value).toArray s 0 0 (AL L) := ⟨_, rfl⟩
  rw [← hZ]
  refine lv_aload_n hx hb dX8_copyCause_0 rfl (lv_at hl 0 rfl) ?_
  refine lv_ifnull hx hb dX8_copyCause_1 ?_
  refine lv_aload_n hx hb dX8_copyCause_4 rfl (lv_at hl 2 rfl) ?_
  refine lv_ifnonnull (tgt := 10) hx hb dX8_copyCause_5 (by decide) ?_
  refine lv_aload_n hx hb dX8_copyCause_10 rfl (lv_at hl 0 rfl) ?_
  obtain ⟨h_11, hok⟩ := hok
  refine hp_kind hx hb hts iw_X8_copyCause_X1 iw_X8_copyCause_X2 iw_X8_copyCause_X4 iw_X8_copyCause_X5 iw_X8_copyCause_X7 hown hK hP h_11 (hts _ (List.mem_of_getElem? (i := 1) rfl)) (fun _ h9 => h9) dX8_copyCause_11 ?_
  refine pm_callI (va_runS (As := [.int (hsI S p0 0)]) (rest := []) ⟨hx, hb, hml, hown, hts⟩ (pm_X8_isThingArrayType l (hsI S p0 0)) (va_cwS 1 hts gX8_copyCause_X8_isThingArrayType rfl rfl rfl hd_X8_isThingArrayType ⟨Nat.le_of_ble_eq_true rfl, Nat.le_of_ble_eq_true rfl⟩) ⟨pm_fbT, fun U hU hW => ⟨rfl, trivial⟩⟩ rfl rfl hl.1 rfl (lv_room (Nat.le_of_ble_eq_true rfl)) dX8_copyCause_14 ⟨Nat.le_refl 0, Nat.le_refl 0⟩) hS (fun H locs _ hk9 hS => ?_)
  replace hP := P_keep hP hk9
  have K_35 : ∀ (z_35_0 : Int32) (H : Heap) (locs : List Loc), va_P (gD G) vwCl (va_pl L (PF G S)) H → va_S (AL L) s.heap H locs → ∀ (ls : Array Slot), lv_has ls 8 [(0, .ref p0), (1, .int p1), (2, .ref p2), (3, .int p3), (4, .int p4)] → ok_X8_copyCause_ss_j35 L p0 p1 p2 p3 p4 z_35_0 S → h_X8_copyCause_ss p0 p1 p2 p3 p4 S = h_X8_copyCause_ss_j35 p0 p1 p2 p3 p4 z_35_0 S → W p l e (pm_R 2 40) s m ([.ref p0, .int p1, .ref p2, .int p3, .int p4] : List Value).toArray below meth c H locs 0 0 Z (F0 m 35 ls [.int z_35_0]) := by
    intro z_35_0 H locs hP hS ls hl hok hK_35
    refine lv_istore (lv' := [(5, .int z_35_0), (0, .ref p0), (1, .int p1), (2, .ref p2), (3, .int p3), (4, .int p4)]) hx hb dX8_copyCause_35 hl (by decide) rfl (fun ls hl => ?_)
    refine lv_aload_n hx hb dX8_copyCause_37 rfl (lv_at hl 1 rfl) ?_
    obtain ⟨h_38, hok⟩ := hok
    refine hp_kind hx hb hts iw_X8_copyCause_X1 iw_X8_copyCause_X2 iw_X8_copyCause_X4 iw_X8_copyCause_X5 iw_X8_copyCause_X7 hown hK hP h_38 (hts _ (List.mem_of_getElem? (i := 1) rfl)) (fun _ h9 => h9) dX8_copyCause_38 ?_
    refine pm_callI (va_runS (As := [.int (hsI S p0 0)]) (rest := []) ⟨hx, hb, hml, hown, hts⟩ (pm_X8_isArrayType l (hsI S p0 0)) (va_cwS 1 hts gX8_copyCause_X8_isArrayType rfl rfl rfl hd_X8_isArrayType ⟨Nat.le_of_ble_eq_true rfl, Nat.le_of_ble_eq_true rfl⟩) ⟨pm_fbT, fun U hU hW => ⟨rfl, trivial⟩⟩ rfl rfl hl.1 rfl (lv_room (Nat.le_of_ble_eq_true rfl)) dX8_copyCause_41 ⟨Nat.le_refl 0, Nat.le_refl 0⟩) hS (fun H locs _ hk9 hS => ?_)
    replace hP := P_keep hP hk9
    have K_63 : ∀ (z_63_0 : Int32) (H : Heap) (locs : List Loc), va_P (gD G) vwCl (va_pl L (PF G S)) H → va_S (AL L) s.heap H locs → ∀ (ls : Array Slot), lv_has ls 8 [(0, .ref p0), (1, .int p1), (2, .ref p2), (3, .int p3), (4, .int p4), (5, .int z_35_0)] → ok_X8_copyCause_ss_j63 L p0 p1 p2 p3 p4 z_35_0 z_63_0 S → h_X8_copyCause_ss p0 p1 p2 p3 p4 S = h_X8_copyCause_ss_j63 p0 p1 p2 p3 p4 z_35_0 z_63_0 S → W p l e (pm_R 2 40) s m ([.ref p0, .int p1, .ref p2, .int p3, .int p4] : List Value).toArray below meth c H locs 0 0 Z (F0 m 63 ls [.int z_63_0]) := by
      intro z_63_0 H locs hP hS ls hl hok hK_63
      refine lv_istore (lv' := [(6, .int z_63_0), (0, .ref p0), (1, .int p1), (2, .ref p2), (3, .int p3), (4, .int p4), (5, .int z_35_0)]) hx hb dX8_copyCause_63 hl (by decide) rfl (fun ls hl => ?_)
      refine lv_iload hx hb dX8_copyCause_65 (lv_at hl 6 rfl) ?_
      have K_77 : ∀ (H : Heap) (locs : List Loc), va_P (gD G) vwCl (va_pl L (PF G S)) H → va_S (AL L) s.heap H locs → ∀ (ls : Array Slot), lv_has ls 8 [(0, .ref p0), (1, .int p1), (2, .ref p2), (3, .int p3), (4, .int p4)] → ok_X8_copyCause_ss_j77 L p0 p1 p2 p3 p4 S → h_X8_copyCause_ss p0 p1 p2 p3 p4 S = h_X8_copyCause_ss_j77 p0 p1 p2 p3 p4 S → W p l e (pm_R 2 40) s m ([.ref p0, .int p1, .ref p2, .int p3, .int p4] : List Value).toArray below meth c H locs 0 0 Z (F0 m 77 ls []) := by
        intro H locs hP hS ls hl hok hK_77
        refine lv_iload_n hx hb dX8_copyCause_77 rfl (lv_at hl 1 rfl) ?_
        have K_125 : ∀ (z_125_0 : Int32) (H : Heap) (locs : List Loc), va_P (gD G) vwCl (va_pl L (PF G S)) H → va_S (AL L) s.heap H locs → ∀ (ls : Array Slot), lv_has ls 8 [] → ok_X8_copyCause_ss_j125 L p0 p1 p2 p3 p4 z_125_0 S → h_X8_copyCause_ss p0 p1 p2 p3 p4 S = h_X8_copyCause_ss_j125 p0 p1 p2 p3 p4 z_125_0 S → W p l e (pm_R 2 40) s m ([.ref p0, .int p1, .ref p2, .int p3, .int p4] : List Value).toArray below meth c H locs 0 0 Z (F0 m 125 ls [.int z_125_0]) := by
          intro z_125_0 H locs hP hS ls hl hok hK_125
          refine lv_istore (lv' := [(7, .int z_125_0)]) hx hb dX8_copyCause_125 hl (by decide) rfl (fun ls hl => ?_)
          refine lv_iload hx hb dX8_copyCause_127 (lv_at hl 0 rfl) ?_
          refine lv_if_eq (tgt := 136) hx hb dX8_copyCause_129 (by decide) (fun c_129 => ?_) (fun c_129 => ?_)
          ·
            have hok := (hok).1 c_129
            refine lv_iconst (v := 2) hx hb dX8_copyCause_136 (by decide) ?_
            rw [hZ]
            exact hm_iret hx hb hr hlocks hS hP hK hnd hE (congrArg (fun z => (z, S)) (((hK_125).trans (if_pos c_129)))) dX8_copyCause_137
          ·
            have hok := (hok).2 c_129
            refine lv_iconst (v := 0) hx hb dX8_copyCause_132 (by decide) ?_
            refine lv_goto (tgt := 137) hx hb dX8_copyCause_133 (by decide) ?_
            rw [hZ]
            exact hm_iret hx hb hr hlocks hS hP hK hnd hE (congrArg (fun z => (z, S)) (((hK_125).trans (if_neg c_129)))) dX8_copyCause_137
        refine lv_if_lt (tgt := 124) hx hb dX8_copyCause_78 (by decide) (fun c_78 => ?_) (fun c_78 => ?_)
        ·
          have hok := (hok).1 c_78
          refine lv_iconst (v := 0) hx hb dX8_copyCause_124 (by decide) ?_
          exact K_125 0 _ _ hP hS ls (lv_sub hl [] rfl) hok (((hK_77).trans (if_pos c_78)))
        ·
          have hok := (hok).2 c_78
          refine lv_iload_n hx hb dX8_copyCause_81 rfl (lv_at hl 3 rfl) ?_
          refine lv_if_lt (tgt := 124) hx hb dX8_copyCause_82 (by decide) (fun c_82 => ?_) (fun c_82 => ?_)
          ·
            have hok := (hok).1 c_82
            refine lv_iconst (v := 0) hx hb dX8_copyCause_124 (by decide) ?_
            exact K_125 0 _ _ hP hS ls (lv_sub hl [] rfl) hok (((hK_77).trans ((if_neg c_78).trans (if_pos c_82))))
          ·
            have hok := (hok).2 c_82
            refine lv_iload hx hb dX8_copyCause_85 (lv_at hl 4 rfl) ?_
            refine lv_if_lt (tgt := 124) hx hb dX8_copyCause_87 (by decide) (fun c_87 => ?_) (fun c_87 => ?_)
            ·
              have hok := (hok).1 c_87
              refine lv_iconst (v := 0) hx hb dX8_copyCause_124 (by decide) ?_
              exact K_125 0 _ _ hP hS ls (lv_sub hl [] rfl) hok (((hK_77).trans ((if_neg c_78).trans ((if_neg c_82).trans (if_pos c_87)))))
            ·
              have hok := (hok).2 c_87
              refine lv_iload_n hx hb dX8_copyCause_90 rfl (lv_at hl 1 rfl) ?_
              refine lv_i2l (v := p1.toInt64) hx hb dX8_copyCause_91 rfl ?_
              refine lv_iload hx hb dX8_copyCause_92 (lv_at hl 4 rfl) ?_
              refine lv_i2l (v := p4.toInt64) hx hb dX8_copyCause_94 rfl ?_
              refine lv_ladd hx hb dX8_copyCause_95 ?_
              refine lv_aload_n hx hb dX8_copyCause_96 rfl (lv_at hl 0 rfl) ?_
              obtain ⟨h_97, hok⟩ := hok
              refine hp_length hx hb hts iw_X8_copyCause_X1 iw_X8_copyCause_X2 iw_X8_copyCause_X4 iw_X8_copyCause_X5 iw_X8_copyCause_X7 hown hK hP h_97 (hts _ (List.mem_of_getElem? (i := 2) rfl)) (fun _ h9 => h9) dX8_copyCause_97 ?_
              refine lv_i2l (v := (hsI S p0 1).toInt64) hx hb dX8_copyCause_100 rfl ?_
              refine lp_gt (tgt := 124) hx hb dX8_copyCause_101 dX8_copyCause_102 (by decide) (fun c_101 => ?_) (fun c_101 => ?_)
              ·
                have hok := (hok).1 c_101
                refine lv_iconst (v := 0) hx hb dX8_copyCause_124 (by decide) ?_
                exact K_125 0 _ _ hP hS ls (lv_sub hl [] rfl) hok (((hK_77).trans ((if_neg c_78).trans ((if_neg c_82).trans ((if_neg c_87).trans (if_pos c_101))))))
              ·
                have hok := (hok).2 c_101
                refine lv_iload_n hx hb dX8_copyCause_105 rfl (lv_at hl 3 rfl) ?_
                refine lv_i2l (v := p3.toInt64) hx hb dX8_copyCause_106 rfl ?_
                refine lv_iload hx hb dX8_copyCause_107 (lv_at hl 4 rfl) ?_
                refine lv_i2l (v := p4.toInt64) hx hb dX8_copyCause_109 rfl ?_
                refine lv_ladd hx hb dX8_copyCause_110 ?_
                refine lv_aload_n hx hb dX8_copyCause_111 rfl (lv_at hl 2 rfl) ?_
                obtain ⟨h_112, hok⟩ := hok
                refine hp_length hx hb hts iw_X8_copyCause_X1 iw_X8_copyCause_X2 iw_X8_copyCause_X4 iw_X8_copyCause_X5 iw_X8_copyCause_X7 hown hK hP h_112 (hts _ (List.mem_of_getElem? (i := 2) rfl)) (fun _ h9 => h9) dX8_copyCause_112 ?_
                refine lv_i2l (v := (hsI S p2 1).toInt64) hx hb dX8_copyCause_115 rfl ?_
                refine lp_gt (tgt := 124) hx hb dX8_copyCause_116 dX8_copyCause_117 (by decide) (fun c_116 => ?_) (fun c_116 => ?_)
                ·
                  have hok := (hok).1 c_116
                  refine lv_iconst (v := 0) hx hb dX8_copyCause_124 (by decide) ?_
                  exact K_125 0 _ _ hP hS ls (lv_sub hl [] rfl) hok (((hK_77).trans ((if_neg c_78).trans ((if_neg c_82).trans ((if_neg c_87).trans ((if_neg c_101).trans (if_pos c_116)))))))
                ·
                  have hok := (hok).2 c_116
                  refine lv_iconst (v := 1) hx hb dX8_copyCause_120 (by decide) ?_
                  refine lv_goto (tgt := 125) hx hb dX8_copyCause_121 (by decide) ?_
                  exact K_125 1 _ _ hP hS ls (lv_sub hl [] rfl) hok (((hK_77).trans ((if_neg c_78).trans ((if_neg c_82).trans ((if_neg c_87).trans ((if_neg c_101).trans (if_neg c_116)))))))
      refine lv_if_ne (tgt := 77) hx hb dX8_copyCause_67 (by decide) (fun c_67 => ?_) (fun c_67 => ?_)
      ·
        have hok := (hok).2 c_67
        exact K_77 _ _ hP hS ls (lv_sub hl [1, 2, 3, 4, 5] rfl) hok (((hK_63).trans (if_neg c_67)))
      ·
        have hok := (hok).1 c_67
        refine lv_iload hx hb dX8_copyCause_70 (lv_at hl 0 rfl) ?_
        refine lv_if_ne (tgt := 77) hx hb dX8_copyCause_72 (by decide) (fun c_72 => ?_) (fun c_72 => ?_)
        ·
          have hok := (hok).2 c_72
          exact K_77 _ _ hP hS ls (lv_sub hl [1, 2, 3, 4, 5] rfl) hok (((hK_63).trans ((if_pos c_67).trans (if_neg c_72))))
        ·
          have hok := (hok).1 c_72
          refine lv_iconst (v := 5) hx hb dX8_copyCause_75 (by decide) ?_
          rw [hZ]
          exact hm_iret hx hb hr hlocks hS hP hK hnd hE (congrArg (fun z => (z, S)) (((hK_63).trans ((if_pos c_67).trans (if_pos c_72))))) dX8_copyCause_76
    refine lv_if_eq (tgt := 62) hx hb dX8_copyCause_44 (by decide) (fun c_44 => ?_) (fun c_44 => ?_)
    ·
      have hok := (hok).1 c_44
      refine lv_iconst (v := 0) hx hb dX8_copyCause_62 (by decide) ?_
      exact K_63 0 _ _ hP hS ls (lv_sub hl [1, 2, 3, 4, 5, 0] rfl) hok (((hK_35).trans (if_pos c_44)))
    ·
      have hok := (hok).2 c_44
      refine lv_aload_n hx hb dX8_copyCause_47 rfl (lv_at hl 1 rfl) ?_
      obtain ⟨h_48, hok⟩ := hok
      refine hp_kind hx hb hts iw_X8_copyCause_X1 iw_X8_copyCause_X2 iw_X8_copyCause_X4 iw_X8_copyCause_X5 iw_X8_copyCause_X7 hown hK hP h_48 (hts _ (List.mem_of_getElem? (i := 1) rfl)) (fun _ h9 => h9) dX8_copyCause_48 ?_
      refine lv_aload_n hx hb dX8_copyCause_51 rfl (lv_at hl 3 rfl) ?_
      obtain ⟨h_52, hok⟩ := hok
      refine hp_kind hx hb hts iw_X8_copyCause_X1 iw_X8_copyCause_X2 iw_X8_copyCause_X4 iw_X8_copyCause_X5 iw_X8_copyCause_X7 hown hK hP h_52 (hts _ (List.mem_of_getElem? (i := 1) rfl)) (fun _ h9 => h9) dX8_copyCause_52 ?_
      refine lv_icmp_ne (tgt := 62) hx hb dX8_copyCause_55 (by decide) (fun c_55 => ?_) (fun c_55 => ?_)
      ·
        have hok := (hok).2 c_55
        refine lv_iconst (v := 0) hx hb dX8_copyCause_62 (by decide) ?_
        exact K_63 0 _ _ hP hS ls (lv_sub hl [1, 2, 3, 4, 5, 0] rfl) hok (((hK_35).trans ((if_neg c_44).trans (if_neg c_55))))
      ·
        have hok := (hok).1 c_55
        refine lv_iconst (v := 1) hx hb dX8_copyCause_58 (by decide) ?_
        refine lv_goto (tgt := 63) hx hb dX8_copyCause_59 (by decide) ?_
        exact K_63 1 _ _ hP hS ls (lv_sub hl [1, 2, 3, 4, 5, 0] rfl) hok (((hK_35).trans ((if_neg c_44).trans (if_pos c_55))))
  refine lv_if_eq (tgt := 34) hx hb dX8_copyCause_17 (by decide) (fun c_17 => ?_) (fun c_17 => ?_)
  ·
    have hok := (hok).1 c_17
    refine lv_iconst (v := 0) hx hb dX8_copyCause_34 (by decide) ?_
    exact K_35 0 _ _ hP hS ls (lv_sub hl [0, 1, 2, 3, 4] rfl) hok ((if_pos c_17))
  ·
    have hok := (hok).2 c_17
    refine lv_aload_n hx hb dX8_copyCause_20 rfl (lv_at hl 2 rfl) ?_
    obtain ⟨h_21, hok⟩ := hok
    refine hp_kind hx hb hts iw_X8_copyCause_X1 iw_X8_copyCause_X2 iw_X8_copyCause_X4 iw_X8_copyCause_X5 iw_X8_copyCause_X7 hown hK hP h_21 (hts _ (List.mem_of_getElem? (i := 1) rfl)) (fun _ h9 => h9) dX8_copyCause_21 ?_
    refine pm_callI (va_runS (As := [.int (hsI S p2 0)]) (rest := []) ⟨hx, hb, hml, hown, hts⟩ (pm_X8_isThingArrayType l (hsI S p2 0)) (va_cwS 1 hts gX8_copyCause_X8_isThingArrayType rfl rfl rfl hd_X8_isThingArrayType ⟨Nat.le_of_ble_eq_true rfl, Nat.le_of_ble_eq_true rfl⟩) ⟨pm_fbT, fun U hU hW => ⟨rfl, trivial⟩⟩ rfl rfl hl.1 rfl (lv_room (Nat.le_of_ble_eq_true rfl)) dX8_copyCause_24 ⟨Nat.le_refl 0, Nat.le_refl 0⟩) hS (fun H locs _ hk9 hS => ?_)
    replace hP := P_keep hP hk9
    refine lv_if_eq (tgt := 34) hx hb dX8_copyCause_27 (by decide) (fun c_27 => ?_) (fun c_27 => ?_)
    ·
      have hok := (hok).1 c_27
      refine lv_iconst (v := 0) hx hb dX8_copyCause_34 (by decide) ?_
      exact K_35 0 _ _ hP hS ls (lv_sub hl [0, 1, 2, 3, 4] rfl) hok (((if_neg c_17).trans (if_pos c_27)))
    ·
      have hok := (hok).2 c_27
      refine lv_iconst (v := 1) hx hb dX8_copyCause_30 (by decide) ?_
      refine lv_goto (tgt := 35) hx hb dX8_copyCause_31 (by decide) ?_
      exact K_35 1 _ _ hP hS ls (lv_sub hl [0, 1, 2, 3, 4] rfl) hok (((if_neg c_17).trans (if_neg c_27)))
theorem hd_X8_callCause : yX8_callCause.cls ≠ "java/lang/invoke/MethodHandle" ∧ yX8_callCause.cls ≠ "java/lang/invoke/VarHandle" ∧ (parseMethodDescriptor yX8_callCause.desc).map (fun d => d.parameters.length) = some 2 := by decide +kernel
def h_X8_callCause_n (p1 : Int32) (S : HS) : Int32 :=
  if (h_X8_castCause_n 13 S) = 0 then h_X8_castCause_n 13 S
  else h_X8_castCause_n 13 S
def ok_X8_callCause_n (L : List Nat) (p1 : Int32) (S : HS) : Prop :=
  (ok_X8_castCause_n L 13 S) ∧ ((((h_X8_castCause_n 13 S) = 0) → (True)) ∧
  (¬ ((h_X8_castCause_n 13 S) = 0) → (True)))
set_option maxHeartbeats 4000000 in
set_option maxRecDepth 100000 in
theorem hm_X8_callCause_n (l : Launch) (G : GE) (L : List Nat) (S : HS) (p1 : Int32) (hok : ok_X8_callCause_n L p1 S) : HmI l G yX8_callCause wsX8_callCause 2 42 [.null, .int p1] L S ((h_X8_callCause_n p1 S, S)) := by
  refine Met.ofW (cc := cX8_callCause) (maxL := 4) (ret := (some .int)) (by decide) rfl ?_
  intro p e s m args below meth c s₁ B hml hv
  obtain ⟨rfl, hP, hK, hnd, hE⟩ := hv
  have hx := B.exec
  have hb := B.bytes
  have hr := B.returns
  have hts := atoms_spec (ws := wsX8_callCause) B.pre
  have hown : s.vm.findClass RX8 = some m.cls := findClass_of_methodNamed B.named
  have hlocks := B.notSynchronized
  have hD := nd_D hnd
  have hS : va_S (AL L) s.heap s.heap [] := va_S.rf
  have hl := lv_entry ([.null, .int p1]) (n := 4) (Nat.le_of_ble_eq_true rfl)
  rw [lg_entry_eq]
  generalize (lg_sl ([.null, .int p1]) ++ List.replicate (4 - (lg_sl ([.null, .int p1])).length) Slot.unset).toArray = ls at hl ⊢
  have hl : lv_has ls 4 [(0, .null), (1, .int p1)] := hl
  obtain ⟨Z, hZ⟩ : ∃ z, z = MQ below (hm_QI G L ((h_X8_callCause_n p1 S, S))) ([.null, .int p1] : List Value).toArray s 0 0 (AL L) := ⟨_, rfl⟩
  rw [← hZ]
  refine lv_bipush (v := 13) hx hb dX8_callCause_0 (by decide) ?_
  refine lv_aload_nN hx hb dX8_callCause_2 rfl (lv_at hl 0 rfl) ?_
  obtain ⟨h_3, hok⟩ := hok
  refine hm_callIr (G := G) (S1 := S) (a := ([.int 13, .null] : List Value).toArray) (rest := []) (h_X8_castCause_n 13 S) ?_ hS (fun H locs hP hS => ?_)
  ·
    exact va_runS (As := [.int 13, .null]) (rest := []) ⟨hx, hb, hml, hown, hts⟩ (hm_X8_castCause_n l G L S 13 h_3) (va_cwS 2 hts gX8_callCause_X8_castCause rfl rfl rfl hd_X8_castCause ⟨Nat.le_of_ble_eq_true rfl, Nat.le_of_ble_eq_true rfl⟩) ⟨HW.fb, fun U hU hW => ⟨rfl, HW.call hP hK hnd hE hS U hU hW⟩⟩ rfl rfl hl.1 rfl (lv_room (Nat.le_of_ble_eq_true rfl)) dX8_callCause_3 ⟨Nat.le_refl 0, Nat.le_refl 0⟩
  ·
    refine lv_istore_n (lv' := [(2, .int (h_X8_castCause_n 13 S)), (0, .null), (1, .int p1)]) hx hb dX8_callCause_6 rfl hl (by decide) rfl (fun ls hl => ?_)
    refine lv_iload_n hx hb dX8_callCause_7 rfl (lv_at hl 0 rfl) ?_
    refine lv_if_ne (tgt := 54) hx hb dX8_callCause_8 (by decide) (fun c_8 => ?_) (fun c_8 => ?_)
    ·
      have hok := (hok).2 c_8
      refine lv_iload_n hx hb dX8_callCause_54 rfl (lv_at hl 0 rfl) ?_
      rw [hZ]
      exact hm_iret hx hb hr hlocks hS hP hK hnd hE (congrArg (fun z => (z, S)) ((if_neg c_8))) dX8_callCause_55
    ·
      have hok := (hok).1 c_8
      refine lv_aload_nN hx hb dX8_callCause_11 rfl (lv_at hl 1 rfl) ?_
      refine lv_instN hx hb dX8_callCause_12 ?_
      refine lv_if_eq (tgt := 54) hx hb dX8_callCause_15 (by decide) (fun _ => ?_) (fun z9 => absurd z9 (by decide))
      refine lv_iload_n hx hb dX8_callCause_54 rfl (lv_at hl 0 rfl) ?_
      rw [hZ]
      exact hm_iret hx hb hr hlocks hS hP hK hnd hE (congrArg (fun z => (z, S)) ((if_pos c_8))) dX8_callCause_55
theorem iw_X8_callCause_X2 : ∀ w ∈ u_ws RX2 TX2 3, w ∈ wsX8_callCause := by decide +kernel
theorem iw_X8_callCause_X4 : ∀ w ∈ u_ws RX4 TX4 3, w ∈ wsX8_callCause := by decide +kernel
theorem iw_X8_callCause_X5 : ∀ w ∈ u_ws RX5 TX5 3, w ∈ wsX8_callCause := by decide +kernel
def h_X8_callCause_s_j38 (p0 : Nat) (p1 : Int32) (S : HS) : Int32 :=
  if p1 = 6 then if (hsI S p0 2) = 0 then 6
   else h_X8_castCause_s 13 p0 S
  else h_X8_castCause_s 13 p0 S
def ok_X8_callCause_s_j38 (L : List Nat) (p0 : Nat) (p1 : Int32) (S : HS) : Prop :=
  ((p1 = 6) → ((p0 ∈ L ∧ 2 ≤ hsK S p0 ∧ hsK S p0 ≤ 4) ∧ ((((hsI S p0 2) = 0) → (True)) ∧
   (¬ ((hsI S p0 2) = 0) → (True))))) ∧
  (¬ (p1 = 6) → (True))
def h_X8_callCause_s (p0 : Nat) (p1 : Int32) (S : HS) : Int32 :=
  if (h_X8_castCause_s 13 p0 S) = 0 then if 2 ≤ hsK S p0 ∧ hsK S p0 ≤ 4 then if p1 = 5 then if 0 ≤ (if hsK S p0 = 2 then h_X2_size p0 S else (if hsK S p0 = 3 then h_X4_size p0 S else h_X5_size p0 S)) then h_X8_callCause_s_j38 p0 p1 S
     else 7
    else h_X8_callCause_s_j38 p0 p1 S
   else h_X8_castCause_s 13 p0 S
  else h_X8_castCause_s 13 p0 S
def ok_X8_callCause_s (L : List Nat) (p0 : Nat) (p1 : Int32) (S : HS) : Prop :=
  (ok_X8_castCause_s L 13 p0 S) ∧ ((((h_X8_castCause_s 13 p0 S) = 0) → ((p0 ∈ L ∧ 1 ≤ hsK S p0 ∧ hsK S p0 ≤ 5) ∧ (((2 ≤ hsK S p0 ∧ hsK S p0 ≤ 4) → ((p0 ∈ L ∧ 2 ≤ hsK S p0 ∧ hsK S p0 ≤ 4) ∧ (((p1 = 5) → ((p0 ∈ L ∧ (hsK S p0 = 2 ∨ hsK S p0 = 3 ∨ hsK S p0 = 4)) ∧ (((hsK S p0 = 2 → ok_X2_size L p0 S) ∧ (hsK S p0 = 3 → ok_X4_size L p0 S) ∧ (hsK S p0 = 4 → ok_X5_size L p0 S)) ∧ (((0 ≤ (if hsK S p0 = 2 then h_X2_size p0 S else (if hsK S p0 = 3 then h_X4_size p0 S else h_X5_size p0 S))) → (ok_X8_callCause_s_j38 L p0 p1 S)) ∧
     (¬ (0 ≤ (if hsK S p0 = 2 then h_X2_size p0 S else (if hsK S p0 = 3 then h_X4_size p0 S else h_X5_size p0 S))) → (True)))))) ∧
    (¬ (p1 = 5) → (ok_X8_callCause_s_j38 L p0 p1 S))))) ∧
   (¬ (2 ≤ hsK S p0 ∧ hsK S p0 ≤ 4) → (True))))) ∧
  (¬ ((h_X8_castCause_s 13 p0 S) = 0) → (True)))
set_option maxHeartbeats 4000000 in
set_option maxRecDepth 100000 in
theorem hm_X8_callCause_s (l : Launch) (G : GE) (L : List Nat) (S : HS) (p0 : Nat) (p1 : Int32) (hok : ok_X8_callCause_s L p0 p1 S) : HmI l G yX8_callCause wsX8_callCause 3 63 [.ref p0, .int p1] L S ((h_X8_callCause_s p0 p1 S, S)) := by
  refine Met.ofW (cc := cX8_callCause) (maxL := 4) (ret := (some .int)) (by decide) rfl ?_
  intro p e s m args below meth c s₁ B hml hv
  obtain ⟨rfl, hP, hK, hnd, hE⟩ := hv
  have hx := B.exec
  have hb := B.bytes
  have hr := B.returns
  have hts := atoms_spec (ws := wsX8_callCause) B.pre
  have hown : s.vm.findClass RX8 = some m.cls := findClass_of_methodNamed B.named
  have hlocks := B.notSynchronized
  have hD := nd_D hnd
  have hS : va_S (AL L) s.heap s.heap [] := va_S.rf
  have hl := lv_entry ([.ref p0, .int p1]) (n := 4) (Nat.le_of_ble_eq_true rfl)
  rw [lg_entry_eq]
  generalize (lg_sl ([.ref p0, .int p1]) ++ List.replicate (4 - (lg_sl ([.ref p0, .int p1])).length) Slot.unset).toArray = ls at hl ⊢
  have hl : lv_has ls 4 [(0, .ref p0), (1, .int p1)] := hl
  obtain ⟨Z, hZ⟩ : ∃ z, z = MQ below (hm_QI G L ((h_X8_callCause_s p0 p1 S, S))) ([.ref p0, .int p1] : List Value).toArray s 0 0 (AL L) := ⟨_, rfl⟩
  rw [← hZ]
  refine lv_bipush (v := 13) hx hb dX8_callCause_0 (by decide) ?_
  refine lv_aload_n hx hb dX8_callCause_2 rfl (lv_at hl 0 rfl) ?_
  obtain ⟨h_3, hok⟩ := hok
  refine hm_callIr (G := G) (S1 := S) (a := ([.int 13, .ref p0] : List Value).toArray) (rest := []) (h_X8_castCause_s 13 p0 S) ?_ hS (fun H locs hP hS => ?_)
  ·
    exact va_runS (As := [.int 13, .ref p0]) (rest := []) ⟨hx, hb, hml, hown, hts⟩ (hm_X8_castCause_s l G L S 13 p0 h_3) (va_cwS 2 hts gX8_callCause_X8_castCause rfl rfl rfl hd_X8_castCause ⟨Nat.le_of_ble_eq_true rfl, Nat.le_of_ble_eq_true rfl⟩) ⟨HW.fb, fun U hU hW => ⟨rfl, HW.call hP hK hnd hE hS U hU hW⟩⟩ rfl rfl hl.1 rfl (lv_room (Nat.le_of_ble_eq_true rfl)) dX8_callCause_3 ⟨Nat.le_refl 0, Nat.le_refl 0⟩
  ·
    refine lv_istore_n (lv' := [(2, .int (h_X8_castCause_s 13 p0 S)), (0, .ref p0), (1, .int p1)]) hx hb dX8_callCause_6 rfl hl (by decide) rfl (fun ls hl => ?_)
    refine lv_iload_n hx hb dX8_callCause_7 rfl (lv_at hl 0 rfl) ?_
    refine lv_if_ne (tgt := 54) hx hb dX8_callCause_8 (by decide) (fun c_8 => ?_) (fun c_8 => ?_)
    ·
      have hok := (hok).2 c_8
      refine lv_iload_n hx hb dX8_callCause_54 rfl (lv_at hl 0 rfl) ?_
      rw [hZ]
      exact hm_iret hx hb hr hlocks hS hP hK hnd hE (congrArg (fun z => (z, S)) ((if_neg c_8))) dX8_callCause_55
    ·
      have hok := (hok).1 c_8
      refine lv_aload_n hx hb dX8_callCause_11 rfl (lv_at hl 1 rfl) ?_
      obtain ⟨h_12, hok⟩ := hok
      refine hp_inst2 hx hb hE.2 hown (hts _ (List.mem_of_getElem? (i := 1) rfl)) hK hP h_12 dX8_callCause_12 (fun c_12 => ?_) (fun c_12 => ?_)
      ·
        have hok := (hok).1 c_12
        refine lv_if_eq (tgt := 54) hx hb dX8_callCause_15 (by decide) (fun z9 => absurd z9 (by decide)) (fun _ => ?_)
        refine lv_aload_n hx hb dX8_callCause_18 rfl (lv_at hl 1 rfl) ?_
        obtain ⟨h_19, hok⟩ := hok
        refine hp_cast2 hx hb hE.2 hown (hts _ (List.mem_of_getElem? (i := 1) rfl)) hK hP h_19 dX8_callCause_19 ?_
        refine lv_astore_n (lv' := [(3, .ref p0), (2, .int (h_X8_castCause_s 13 p0 S)), (0, .ref p0), (1, .int p1)]) hx hb dX8_callCause_22 rfl hl (by decide) rfl (fun ls hl => ?_)
        refine lv_iload_n hx hb dX8_callCause_23 rfl (lv_at hl 3 rfl) ?_
        refine lv_iconst (v := 5) hx hb dX8_callCause_24 (by decide) ?_
        have K_38 : ∀ (H : Heap) (locs : List Loc), va_P (gD G) vwCl (va_pl L (PF G S)) H → va_S (AL L) s.heap H locs → ∀ (ls : Array Slot), lv_has ls 4 [(1, .int p1), (2, .int (h_X8_castCause_s 13 p0 S)), (3, .ref p0)] → ok_X8_callCause_s_j38 L p0 p1 S → h_X8_callCause_s p0 p1 S = h_X8_callCause_s_j38 p0 p1 S → W p l e (pm_R 3 63) s m ([.ref p0, .int p1] : List Value).toArray below meth c H locs 0 0 Z (F0 m 38 ls []) := by
          intro H locs hP hS ls hl hok hK_38
          refine lv_iload_n hx hb dX8_callCause_38 rfl (lv_at hl 0 rfl) ?_
          refine lv_bipush (v := 6) hx hb dX8_callCause_39 (by decide) ?_
          refine lv_icmp_ne (tgt := 54) hx hb dX8_callCause_41 (by decide) (fun c_41 => ?_) (fun c_41 => ?_)
          ·
            have hok := (hok).2 c_41
            refine lv_iload_n hx hb dX8_callCause_54 rfl (lv_at hl 1 rfl) ?_
            rw [hZ]
            exact hm_iret hx hb hr hlocks hS hP hK hnd hE (congrArg (fun z => (z, S)) (((hK_38).trans (if_neg c_41)))) dX8_callCause_55
          ·
            have hok := (hok).1 c_41
            refine lv_aload_n hx hb dX8_callCause_44 rfl (lv_at hl 2 rfl) ?_
            obtain ⟨h_45, hok⟩ := hok
            refine hp_value hx hb hts iw_X8_callCause_X2 iw_X8_callCause_X4 iw_X8_callCause_X5 hown hK hP h_45 (hts _ (List.mem_of_getElem? (i := 2) rfl)) (fun _ h9 => h9) dX8_callCause_45 ?_
            refine lv_if_ne (tgt := 54) hx hb dX8_callCause_48 (by decide) (fun c_48 => ?_) (fun c_48 => ?_)
            ·
              have hok := (hok).2 c_48
              refine lv_iload_n hx hb dX8_callCause_54 rfl (lv_at hl 1 rfl) ?_
              rw [hZ]
              exact hm_iret hx hb hr hlocks hS hP hK hnd hE (congrArg (fun z => (z, S)) (((hK_38).trans ((if_pos c_41).trans (if_neg c_48))))) dX8_callCause_55
            ·
              have hok := (hok).1 c_48
              refine lv_bipush (v := 6) hx hb dX8_callCause_51 (by decide) ?_
              rw [hZ]
              exact hm_iret hx hb hr hlocks hS hP hK hnd hE (congrArg (fun z => (z, S)) (((hK_38).trans ((if_pos c_41).trans (if_pos c_48))))) dX8_callCause_53
        refine lv_icmp_ne (tgt := 38) hx hb dX8_callCause_25 (by decide) (fun c_25 => ?_) (fun c_25 => ?_)
        ·
          have hok := (hok).2 c_25
          exact K_38 _ _ hP hS ls (lv_sub hl [3, 1, 0] rfl) hok (((if_pos c_8).trans ((if_pos c_12).trans (if_neg c_25))))
        ·
          have hok := (hok).1 c_25
          refine lv_aload_n hx hb dX8_callCause_28 rfl (lv_at hl 0 rfl) ?_
          obtain ⟨h_29k, hok⟩ := hok
          obtain ⟨h_29, hok⟩ := hok
          refine hm_callIr (G := G) (S1 := S) (a := ([.ref p0] : List Value).toArray) (rest := []) ((if hsK S p0 = 2 then h_X2_size p0 S else (if hsK S p0 = 3 then h_X4_size p0 S else h_X5_size p0 S))) ?_ hS (fun H locs hP hS => ?_)
          ·
            rcases h_29k.2 with h9 | h9 | h9
            ·
              rw [if_pos h9]
              exact va_runV (As := []) (rest := []) ⟨hx, hb, hml, hown, hts⟩ (hm_X2_size l G L S p0 (h_29.1 h9)) (cwV 0 hts gX8_callCause_X2_size rfl rfl rfl hdv_X2_size ⟨Nat.le_of_ble_eq_true rfl, Nat.le_of_ble_eq_true rfl⟩) ⟨HW.fb, hp_recv hK hP h_29k.1 (PF_2 h9) rfl, fun U hU hW => ⟨rfl, HW.call hP hK hnd hE hS U hU hW⟩⟩ rfl rfl hl.1 rfl (lv_room (Nat.le_of_ble_eq_true rfl)) dX8_callCause_29 ⟨Nat.le_refl 0, Nat.le_refl 0⟩
            ·
              rw [if_neg (show ¬ hsK S p0 = 2 from by rw [h9]; decide), if_pos h9]
              exact va_runU (As := []) (rest := []) ⟨hx, hb, hml, hown, hts⟩ (hm_X4_size l G L S p0 (h_29.2.1 h9)) (va_cwO (x := ⟨"ThrowModels$Plain", "size", "()I"⟩) 0 hts gX8_callCause_X4_size_u229X4 rfl rfl rfl (List.mem_of_getElem? (i := 25) rfl) (by decide +kernel) ⟨Nat.le_of_ble_eq_true rfl, Nat.le_of_ble_eq_true rfl⟩) ⟨HW.fb, hp_recv hK hP h_29k.1 (PF_3 h9) rfl, fun U hU hW => ⟨rfl, HW.call hP hK hnd hE hS U hU hW⟩⟩ rfl rfl hl.1 rfl (lv_room (Nat.le_of_ble_eq_true rfl)) dX8_callCause_29 ⟨Nat.le_refl 0, Nat.le_refl 0⟩
            ·
              rw [if_neg (show ¬ hsK S p0 = 2 from by rw [h9]; decide), if_neg (show ¬ hsK S p0 = 3 from by rw [h9]; decide)]
              exact va_runU (As := []) (rest := []) ⟨hx, hb, hml, hown, hts⟩ (hm_X5_size l G L S p0 (h_29.2.2 h9)) (va_cwO (x := ⟨"ThrowModels$Plain", "size", "()I"⟩) 0 hts gX8_callCause_X5_size_u229X5 rfl rfl rfl (List.mem_of_getElem? (i := 25) rfl) (by decide +kernel) ⟨Nat.le_of_ble_eq_true rfl, Nat.le_of_ble_eq_true rfl⟩) ⟨HW.fb, hp_recv hK hP h_29k.1 (PF_4 h9) rfl, fun U hU hW => ⟨rfl, HW.call hP hK hnd hE hS U hU hW⟩⟩ rfl rfl hl.1 rfl (lv_room (Nat.le_of_ble_eq_true rfl)) dX8_callCause_29 ⟨Nat.le_refl 0, Nat.le_refl 0⟩
          ·
            refine lv_if_ge (tgt := 38) hx hb dX8_callCause_32 (by decide) (fun c_32 => ?_) (fun c_32 => ?_)
            ·
              have hok := (hok).1 c_32
              exact K_38 _ _ hP hS ls (lv_sub hl [3, 1, 0] rfl) hok (((if_pos c_8).trans ((if_pos c_12).trans ((if_pos c_25).trans (if_pos c_32)))))
            ·
              have hok := (hok).2 c_32
              refine lv_bipush (v := 7) hx hb dX8_callCause_35 (by decide) ?_
              rw [hZ]
              exact hm_iret hx hb hr hlocks hS hP hK hnd hE (congrArg (fun z => (z, S)) (((if_pos c_8).trans ((if_pos c_12).trans ((if_pos c_25).trans (if_neg c_32)))))) dX8_callCause_37
      ·
        have hok := (hok).2 c_12
        refine lv_if_eq (tgt := 54) hx hb dX8_callCause_15 (by decide) (fun _ => ?_) (fun z9 => absurd z9 (by decide))
        refine lv_iload_n hx hb dX8_callCause_54 rfl (lv_at hl 0 rfl) ?_
        rw [hZ]
        exact hm_iret hx hb hr hlocks hS hP hK hnd hE (congrArg (fun z => (z, S)) (((if_pos c_8).trans (if_neg c_12)))) dX8_callCause_55
