/-! ===== the class's own face over its cells (laid by program) ===== -/
theorem hdv_X8_trace : yX8_trace.cls = RX8 ∧ yX8_trace.cls ≠ "java/lang/invoke/MethodHandle" ∧ yX8_trace.cls ≠ "java/lang/invoke/VarHandle" ∧ (parseMethodDescriptor yX8_trace.desc).map (fun d => d.parameters.length) = some 0 := by decide +kernel
theorem iw_X8_trace_X8 : ∀ w ∈ u_ws RX8 TX8 4, w ∈ wsX8_trace := by decide +kernel
def h_X8_trace (x : Nat) (S : HS) : Int32 :=
  hsI S x 3
def ok_X8_trace (L : List Nat) (x : Nat) (S : HS) : Prop :=
  (x ∈ L ∧ hsK S x = 6) ∧ (True)
set_option maxHeartbeats 4000000 in
set_option maxRecDepth 100000 in
theorem hm_X8_trace (l : Launch) (G : GE) (L : List Nat) (S : HS) (x : Nat) (hok : ok_X8_trace L x S) : HmI l G yX8_trace wsX8_trace 0 0 [.ref x] L S ((h_X8_trace x S, S)) := by
  refine Met.ofW (cc := cX8_trace) (maxL := 1) (ret := (some .int)) (by decide) rfl ?_
  intro p e s m args below meth c s₁ B hml hv
  obtain ⟨rfl, hP, hK, hnd, hE⟩ := hv
  have hx := B.exec
  have hb := B.bytes
  have hr := B.returns
  have hts := atoms_spec (ws := wsX8_trace) B.pre
  have hown : s.vm.findClass RX8 = some m.cls := findClass_of_methodNamed B.named
  have hlocks := B.notSynchronized
  have hD := nd_D hnd
  have hS : va_S (AL L) s.heap s.heap [] := va_S.rf
  have hl := lv_entry ([.ref x]) (n := 1) (Nat.le_of_ble_eq_true rfl)
  rw [lg_entry_eq]
  generalize (lg_sl ([.ref x]) ++ List.replicate (1 - (lg_sl ([.ref x])).length) Slot.unset).toArray = ls at hl ⊢
  have hl : lv_has ls 1 [(0, .ref x)] := hl
  obtain ⟨Z, hZ⟩ : ∃ z, z = MQ below (hm_QI G L ((h_X8_trace x S, S))) ([.ref x] : List Value).toArray s 0 0 (AL L) := ⟨_, rfl⟩
  rw [← hZ]
  refine lv_aload_n hx hb dX8_trace_0 rfl (lv_at hl 0 rfl) ?_
  obtain ⟨h_1, hok⟩ := hok
  refine hp_get (ci := 6) (C := RX8) (T := TX8) (N := 4) hx hb hts iw_X8_trace_X8 hown hK hP h_1.1 (PF_6 h_1.2) rfl 3 (by decide) (hts _ (List.mem_of_getElem? (i := 1) rfl)) (fun _ h9 => h9) rfl dX8_trace_1 ?_
  rw [hZ]
  exact hm_iret hx hb hr hlocks hS hP hK hnd hE (congrArg (fun z => (z, S)) (rfl)) dX8_trace_4
theorem hdv_X8_latest : yX8_latest.cls = RX8 ∧ yX8_latest.cls ≠ "java/lang/invoke/MethodHandle" ∧ yX8_latest.cls ≠ "java/lang/invoke/VarHandle" ∧ (parseMethodDescriptor yX8_latest.desc).map (fun d => d.parameters.length) = some 0 := by decide +kernel
theorem iw_X8_latest_X8 : ∀ w ∈ u_ws RX8 TX8 4, w ∈ wsX8_latest := by decide +kernel
def h_X8_latest (x : Nat) (S : HS) : Int32 :=
  hsI S x 2
def ok_X8_latest (L : List Nat) (x : Nat) (S : HS) : Prop :=
  (x ∈ L ∧ hsK S x = 6) ∧ (True)
set_option maxHeartbeats 4000000 in
set_option maxRecDepth 100000 in
theorem hm_X8_latest (l : Launch) (G : GE) (L : List Nat) (S : HS) (x : Nat) (hok : ok_X8_latest L x S) : HmI l G yX8_latest wsX8_latest 0 0 [.ref x] L S ((h_X8_latest x S, S)) := by
  refine Met.ofW (cc := cX8_latest) (maxL := 1) (ret := (some .int)) (by decide) rfl ?_
  intro p e s m args below meth c s₁ B hml hv
  obtain ⟨rfl, hP, hK, hnd, hE⟩ := hv
  have hx := B.exec
  have hb := B.bytes
  have hr := B.returns
  have hts := atoms_spec (ws := wsX8_latest) B.pre
  have hown : s.vm.findClass RX8 = some m.cls := findClass_of_methodNamed B.named
  have hlocks := B.notSynchronized
  have hD := nd_D hnd
  have hS : va_S (AL L) s.heap s.heap [] := va_S.rf
  have hl := lv_entry ([.ref x]) (n := 1) (Nat.le_of_ble_eq_true rfl)
  rw [lg_entry_eq]
  generalize (lg_sl ([.ref x]) ++ List.replicate (1 - (lg_sl ([.ref x])).length) Slot.unset).toArray = ls at hl ⊢
  have hl : lv_has ls 1 [(0, .ref x)] := hl
  obtain ⟨Z, hZ⟩ : ∃ z, z = MQ below (hm_QI G L ((h_X8_latest x S, S))) ([.ref x] : List Value).toArray s 0 0 (AL L) := ⟨_, rfl⟩
  rw [← hZ]
  refine lv_aload_n hx hb dX8_latest_0 rfl (lv_at hl 0 rfl) ?_
  obtain ⟨h_1, hok⟩ := hok
  refine hp_get (ci := 6) (C := RX8) (T := TX8) (N := 4) hx hb hts iw_X8_latest_X8 hown hK hP h_1.1 (PF_6 h_1.2) rfl 2 (by decide) (hts _ (List.mem_of_getElem? (i := 1) rfl)) (fun _ h9 => h9) rfl dX8_latest_1 ?_
  rw [hZ]
  exact hm_iret hx hb hr hlocks hS hP hK hnd hE (congrArg (fun z => (z, S)) (rfl)) dX8_latest_4
theorem hdv_X8_thrown : yX8_thrown.cls = RX8 ∧ yX8_thrown.cls ≠ "java/lang/invoke/MethodHandle" ∧ yX8_thrown.cls ≠ "java/lang/invoke/VarHandle" ∧ (parseMethodDescriptor yX8_thrown.desc).map (fun d => d.parameters.length) = some 1 := by decide +kernel
theorem iw_X8_thrown_X8 : ∀ w ∈ u_ws RX8 TX8 4, w ∈ wsX8_thrown := by decide +kernel
def h_X8_thrown (x : Nat) (p0 : Int32) (S : HS) : Int32 :=
  if p0 < 1 then 0
  else if 8 < p0 then 0
   else hsA S ((hsQ S x 1).getD 0) p0.toNatClampNeg
def ok_X8_thrown (L : List Nat) (x : Nat) (p0 : Int32) (S : HS) : Prop :=
  ((p0 < 1) → (True)) ∧
  (¬ (p0 < 1) → (((8 < p0) → (True)) ∧
   (¬ (8 < p0) → ((x ∈ L ∧ hsK S x = 6 ∧ hsQ S x 1 ≠ none) ∧ ((((hsQ S x 1).getD 0) ∈ L ∧ hsK S ((hsQ S x 1).getD 0) = 8 ∧ vp_in p0 (hsN S ((hsQ S x 1).getD 0))) ∧ (True))))))
set_option maxHeartbeats 4000000 in
set_option maxRecDepth 100000 in
theorem hm_X8_thrown (l : Launch) (G : GE) (L : List Nat) (S : HS) (x : Nat) (p0 : Int32) (hok : ok_X8_thrown L x p0 S) : HmI l G yX8_thrown wsX8_thrown 0 0 [.ref x, .int p0] L S ((h_X8_thrown x p0 S, S)) := by
  refine Met.ofW (cc := cX8_thrown) (maxL := 2) (ret := (some .int)) (by decide) rfl ?_
  intro p e s m args below meth c s₁ B hml hv
  obtain ⟨rfl, hP, hK, hnd, hE⟩ := hv
  have hx := B.exec
  have hb := B.bytes
  have hr := B.returns
  have hts := atoms_spec (ws := wsX8_thrown) B.pre
  have hown : s.vm.findClass RX8 = some m.cls := findClass_of_methodNamed B.named
  have hlocks := B.notSynchronized
  have hD := nd_D hnd
  have hS : va_S (AL L) s.heap s.heap [] := va_S.rf
  have hl := lv_entry ([.ref x, .int p0]) (n := 2) (Nat.le_of_ble_eq_true rfl)
  rw [lg_entry_eq]
  generalize (lg_sl ([.ref x, .int p0]) ++ List.replicate (2 - (lg_sl ([.ref x, .int p0])).length) Slot.unset).toArray = ls at hl ⊢
  have hl : lv_has ls 2 [(0, .ref x), (1, .int p0)] := hl
  obtain ⟨Z, hZ⟩ : ∃ z, z = MQ below (hm_QI G L ((h_X8_thrown x p0 S, S))) ([.ref x, .int p0] : List Value).toArray s 0 0 (AL L) := ⟨_, rfl⟩
  rw [← hZ]
  refine lv_iload_n hx hb dX8_thrown_0 rfl (lv_at hl 1 rfl) ?_
  refine lv_iconst (v := 1) hx hb dX8_thrown_1 (by decide) ?_
  refine lv_icmp_lt (tgt := 20) hx hb dX8_thrown_2 (by decide) (fun c_2 => ?_) (fun c_2 => ?_)
  ·
    have hok := (hok).1 c_2
    refine lv_iconst (v := 0) hx hb dX8_thrown_20 (by decide) ?_
    rw [hZ]
    exact hm_iret hx hb hr hlocks hS hP hK hnd hE (congrArg (fun z => (z, S)) ((if_pos c_2))) dX8_thrown_21
  ·
    have hok := (hok).2 c_2
    refine lv_iload_n hx hb dX8_thrown_5 rfl (lv_at hl 1 rfl) ?_
    refine lv_bipush (v := 8) hx hb dX8_thrown_6 (by decide) ?_
    refine lv_icmp_gt (tgt := 20) hx hb dX8_thrown_8 (by decide) (fun c_8 => ?_) (fun c_8 => ?_)
    ·
      have hok := (hok).1 c_8
      refine lv_iconst (v := 0) hx hb dX8_thrown_20 (by decide) ?_
      rw [hZ]
      exact hm_iret hx hb hr hlocks hS hP hK hnd hE (congrArg (fun z => (z, S)) (((if_neg c_2).trans (if_pos c_8)))) dX8_thrown_21
    ·
      have hok := (hok).2 c_8
      refine lv_aload_n hx hb dX8_thrown_11 rfl (lv_at hl 0 rfl) ?_
      obtain ⟨h_12, hok⟩ := hok
      refine hp_getR (ci := 6) (C := RX8) (T := TX8) (N := 4) hx hb hts iw_X8_thrown_X8 hown hK hP h_12.1 (PF_6 h_12.2.1) rfl 1 (by decide) (hts _ (List.mem_of_getElem? (i := 1) rfl)) (fun _ h9 => h9) rfl h_12.2.2 dX8_thrown_12 ?_
      refine lv_iload_n hx hb dX8_thrown_15 rfl (lv_at hl 1 rfl) ?_
      obtain ⟨h_16, hok⟩ := hok
      refine hp_iald hx hb hK hP h_16.1 0 (PF_8 h_16.2.1) rfl h_16.2.2 dX8_thrown_16 ?_
      refine lv_goto (tgt := 21) hx hb dX8_thrown_17 (by decide) ?_
      rw [hZ]
      exact hm_iret hx hb hr hlocks hS hP hK hnd hE (congrArg (fun z => (z, S)) (((if_neg c_2).trans (if_neg c_8)))) dX8_thrown_21
theorem hdv_X8_is : yX8_is.cls = RX8 ∧ yX8_is.cls ≠ "java/lang/invoke/MethodHandle" ∧ yX8_is.cls ≠ "java/lang/invoke/VarHandle" ∧ (parseMethodDescriptor yX8_is.desc).map (fun d => d.parameters.length) = some 2 := by decide +kernel
theorem iw_X8_is_X8 : ∀ w ∈ u_ws RX8 TX8 4, w ∈ wsX8_is := by decide +kernel
def h_X8_is (x : Nat) (p0 : Int32) (p1 : Int32) (S : HS) : Int32 :=
  if (s_X8_isCell p0) = 0 then (-1)
  else if p1 < 0 then (-1)
   else if p1 ≤ 15 then oq (hsR S ((hsQ S x 0).getD 0) p0.toNatClampNeg) (0)
     (fun (a_24 : Nat) => if (h_X6_isOf a_24 p1 S) = 0 then 0
      else 1)
    else (-1)
def ok_X8_is (L : List Nat) (x : Nat) (p0 : Int32) (p1 : Int32) (S : HS) : Prop :=
  (((s_X8_isCell p0) = 0) → (True)) ∧
  (¬ ((s_X8_isCell p0) = 0) → (((p1 < 0) → (True)) ∧
   (¬ (p1 < 0) → (((p1 ≤ 15) → ((x ∈ L ∧ hsK S x = 6 ∧ hsQ S x 0 ≠ none) ∧ ((((hsQ S x 0).getD 0) ∈ L ∧ hsK S ((hsQ S x 0).getD 0) = 10 ∧ vp_in p0 (hsN S ((hsQ S x 0).getD 0))) ∧ (((hsR S ((hsQ S x 0).getD 0) p0.toNatClampNeg) = none → (True)) ∧
     (∀ a_24 : Nat, (hsR S ((hsQ S x 0).getD 0) p0.toNatClampNeg) = some a_24 → ((a_24 ∈ L ∧ (hsK S a_24 = 1 ∨ hsK S a_24 = 2 ∨ hsK S a_24 = 3 ∨ hsK S a_24 = 4 ∨ hsK S a_24 = 5)) ∧ ((ok_X6_isOf L a_24 p1 S) ∧ ((((h_X6_isOf a_24 p1 S) = 0) → (True)) ∧
      (¬ ((h_X6_isOf a_24 p1 S) = 0) → (True)))))))))) ∧
    (¬ (p1 ≤ 15) → (True))))))
set_option maxHeartbeats 4000000 in
set_option maxRecDepth 100000 in
theorem hm_X8_is (l : Launch) (G : GE) (L : List Nat) (S : HS) (x : Nat) (p0 : Int32) (p1 : Int32) (hok : ok_X8_is L x p0 p1 S) : HmI l G yX8_is wsX8_is 1 21 [.ref x, .int p0, .int p1] L S ((h_X8_is x p0 p1 S, S)) := by
  refine Met.ofW (cc := cX8_is) (maxL := 4) (ret := (some .int)) (by decide) rfl ?_
  intro p e s m args below meth c s₁ B hml hv
  obtain ⟨rfl, hP, hK, hnd, hE⟩ := hv
  have hx := B.exec
  have hb := B.bytes
  have hr := B.returns
  have hts := atoms_spec (ws := wsX8_is) B.pre
  have hown : s.vm.findClass RX8 = some m.cls := findClass_of_methodNamed B.named
  have hlocks := B.notSynchronized
  have hD := nd_D hnd
  have hS : va_S (AL L) s.heap s.heap [] := va_S.rf
  have hl := lv_entry ([.ref x, .int p0, .int p1]) (n := 4) (Nat.le_of_ble_eq_true rfl)
  rw [lg_entry_eq]
  generalize (lg_sl ([.ref x, .int p0, .int p1]) ++ List.replicate (4 - (lg_sl ([.ref x, .int p0, .int p1])).length) Slot.unset).toArray = ls at hl ⊢
  have hl : lv_has ls 4 [(0, .ref x), (1, .int p0), (2, .int p1)] := hl
  obtain ⟨Z, hZ⟩ : ∃ z, z = MQ below (hm_QI G L ((h_X8_is x p0 p1 S, S))) ([.ref x, .int p0, .int p1] : List Value).toArray s 0 0 (AL L) := ⟨_, rfl⟩
  rw [← hZ]
  refine lv_iload_n hx hb dX8_is_0 rfl (lv_at hl 1 rfl) ?_
  refine pm_callI (va_runS (As := [.int p0]) (rest := []) ⟨hx, hb, hml, hown, hts⟩ (pm_X8_isCell l p0) (va_cwS 1 hts gX8_is_X8_isCell rfl rfl rfl hd_X8_isCell ⟨Nat.le_of_ble_eq_true rfl, Nat.le_of_ble_eq_true rfl⟩) ⟨pm_fbT, fun U hU hW => ⟨rfl, trivial⟩⟩ rfl rfl hl.1 rfl (lv_room (Nat.le_of_ble_eq_true rfl)) dX8_is_1 ⟨Nat.le_refl 0, Nat.le_refl 0⟩) hS (fun H locs _ hk9 hS => ?_)
  replace hP := P_keep hP hk9
  refine lv_if_eq (tgt := 17) hx hb dX8_is_4 (by decide) (fun c_4 => ?_) (fun c_4 => ?_)
  ·
    have hok := (hok).1 c_4
    refine lv_iconst (v := (-1)) hx hb dX8_is_17 (by decide) ?_
    rw [hZ]
    exact hm_iret hx hb hr hlocks hS hP hK hnd hE (congrArg (fun z => (z, S)) ((if_pos c_4))) dX8_is_18
  ·
    have hok := (hok).2 c_4
    refine lv_iload_n hx hb dX8_is_7 rfl (lv_at hl 2 rfl) ?_
    refine lv_if_lt (tgt := 17) hx hb dX8_is_8 (by decide) (fun c_8 => ?_) (fun c_8 => ?_)
    ·
      have hok := (hok).1 c_8
      refine lv_iconst (v := (-1)) hx hb dX8_is_17 (by decide) ?_
      rw [hZ]
      exact hm_iret hx hb hr hlocks hS hP hK hnd hE (congrArg (fun z => (z, S)) (((if_neg c_4).trans (if_pos c_8)))) dX8_is_18
    ·
      have hok := (hok).2 c_8
      refine lv_iload_n hx hb dX8_is_11 rfl (lv_at hl 2 rfl) ?_
      refine lv_bipush (v := 15) hx hb dX8_is_12 (by decide) ?_
      refine lv_icmp_le (tgt := 19) hx hb dX8_is_14 (by decide) (fun c_14 => ?_) (fun c_14 => ?_)
      ·
        have hok := (hok).1 c_14
        refine lv_aload_n hx hb dX8_is_19 rfl (lv_at hl 0 rfl) ?_
        obtain ⟨h_20, hok⟩ := hok
        refine hp_getR (ci := 6) (C := RX8) (T := TX8) (N := 4) hx hb hts iw_X8_is_X8 hown hK hP h_20.1 (PF_6 h_20.2.1) rfl 0 (by decide) (hts _ (List.mem_of_getElem? (i := 1) rfl)) (fun _ h9 => h9) rfl h_20.2.2 dX8_is_20 ?_
        refine lv_iload_n hx hb dX8_is_23 rfl (lv_at hl 1 rfl) ?_
        obtain ⟨h_24, hok⟩ := hok
        refine hp_aald hx hb hK hP h_24.1 2 (PF_10 h_24.2.1) rfl h_24.2.2 dX8_is_24 ?_
        refine lv_topq (fun r_24 er_24 => ?_)
        rcases r_24 with _ | a_24
        ·
          have hok := (hok).1 er_24.symm
          refine lv_astore_nN (lv' := [(3, .null), (0, .ref x), (1, .int p0), (2, .int p1)]) hx hb dX8_is_25 rfl hl (by decide) rfl (fun ls hl => ?_)
          refine lv_aload_nN hx hb dX8_is_26 rfl (lv_at hl 0 rfl) ?_
          refine lv_ifnullN (tgt := 42) hx hb dX8_is_27 (by decide) ?_
          refine lv_iconst (v := 0) hx hb dX8_is_42 (by decide) ?_
          rw [hZ]
          exact hm_iret hx hb hr hlocks hS hP hK hnd hE (congrArg (fun z => (z, S)) (((if_neg c_4).trans ((if_neg c_8).trans ((if_pos c_14).trans (oq_none er_24.symm)))))) dX8_is_43
        ·
          have hok := (hok).2 _ er_24.symm
          refine lv_astore_n (lv' := [(3, .ref a_24), (0, .ref x), (1, .int p0), (2, .int p1)]) hx hb dX8_is_25 rfl hl (by decide) rfl (fun ls hl => ?_)
          refine lv_aload_n hx hb dX8_is_26 rfl (lv_at hl 0 rfl) ?_
          refine lv_ifnull hx hb dX8_is_27 ?_
          refine lv_aload_n hx hb dX8_is_30 rfl (lv_at hl 0 rfl) ?_
          refine lv_iload_n hx hb dX8_is_31 rfl (lv_at hl 3 rfl) ?_
          obtain ⟨h_32k, hok⟩ := hok
          obtain ⟨h_32, hok⟩ := hok
          refine hm_callIr (G := G) (S1 := S) (a := ([.ref a_24, .int p1] : List Value).toArray) (rest := []) (h_X6_isOf a_24 p1 S) ?_ hS (fun H locs hP hS => ?_)
          ·
            rcases h_32k.2 with h9 | h9 | h9 | h9 | h9
            ·
              exact va_runU (As := [.int p1]) (rest := []) ⟨hx, hb, hml, hown, hts⟩ (hm_X6_isOf l G L S a_24 p1 h_32) (va_cwU (x := ⟨"ThrowModels$Thing", "isOf", "(I)Z"⟩) 1 hts gX8_is_X6_isOf_u63X1 rfl rfl rfl rfl (by decide +kernel) ⟨Nat.le_of_ble_eq_true rfl, Nat.le_of_ble_eq_true rfl⟩) ⟨HW.fb, hp_recv hK hP h_32k.1 (PF_1 h9) rfl, fun U hU hW => ⟨rfl, HW.call hP hK hnd hE hS U hU hW⟩⟩ rfl rfl hl.1 rfl (lv_room (Nat.le_of_ble_eq_true rfl)) dX8_is_32 ⟨Nat.le_refl 0, Nat.le_refl 0⟩
            ·
              exact va_runU (As := [.int p1]) (rest := []) ⟨hx, hb, hml, hown, hts⟩ (hm_X6_isOf l G L S a_24 p1 h_32) (va_cwU (x := ⟨"ThrowModels$Thing", "isOf", "(I)Z"⟩) 1 hts gX8_is_X6_isOf_u63X2 rfl rfl rfl rfl (by decide +kernel) ⟨Nat.le_of_ble_eq_true rfl, Nat.le_of_ble_eq_true rfl⟩) ⟨HW.fb, hp_recv hK hP h_32k.1 (PF_2 h9) rfl, fun U hU hW => ⟨rfl, HW.call hP hK hnd hE hS U hU hW⟩⟩ rfl rfl hl.1 rfl (lv_room (Nat.le_of_ble_eq_true rfl)) dX8_is_32 ⟨Nat.le_refl 0, Nat.le_refl 0⟩
            ·
              exact va_runU (As := [.int p1]) (rest := []) ⟨hx, hb, hml, hown, hts⟩ (hm_X6_isOf l G L S a_24 p1 h_32) (va_cwU (x := ⟨"ThrowModels$Thing", "isOf", "(I)Z"⟩) 1 hts gX8_is_X6_isOf_u63X4 rfl rfl rfl rfl (by decide +kernel) ⟨Nat.le_of_ble_eq_true rfl, Nat.le_of_ble_eq_true rfl⟩) ⟨HW.fb, hp_recv hK hP h_32k.1 (PF_3 h9) rfl, fun U hU hW => ⟨rfl, HW.call hP hK hnd hE hS U hU hW⟩⟩ rfl rfl hl.1 rfl (lv_room (Nat.le_of_ble_eq_true rfl)) dX8_is_32 ⟨Nat.le_refl 0, Nat.le_refl 0⟩
            ·
              exact va_runU (As := [.int p1]) (rest := []) ⟨hx, hb, hml, hown, hts⟩ (hm_X6_isOf l G L S a_24 p1 h_32) (va_cwU (x := ⟨"ThrowModels$Thing", "isOf", "(I)Z"⟩) 1 hts gX8_is_X6_isOf_u63X5 rfl rfl rfl rfl (by decide +kernel) ⟨Nat.le_of_ble_eq_true rfl, Nat.le_of_ble_eq_true rfl⟩) ⟨HW.fb, hp_recv hK hP h_32k.1 (PF_4 h9) rfl, fun U hU hW => ⟨rfl, HW.call hP hK hnd hE hS U hU hW⟩⟩ rfl rfl hl.1 rfl (lv_room (Nat.le_of_ble_eq_true rfl)) dX8_is_32 ⟨Nat.le_refl 0, Nat.le_refl 0⟩
            ·
              exact va_runU (As := [.int p1]) (rest := []) ⟨hx, hb, hml, hown, hts⟩ (hm_X6_isOf l G L S a_24 p1 h_32) (va_cwU (x := ⟨"ThrowModels$Thing", "isOf", "(I)Z"⟩) 1 hts gX8_is_X6_isOf_u63X7 rfl rfl rfl rfl (by decide +kernel) ⟨Nat.le_of_ble_eq_true rfl, Nat.le_of_ble_eq_true rfl⟩) ⟨HW.fb, hp_recv hK hP h_32k.1 (PF_5 h9) rfl, fun U hU hW => ⟨rfl, HW.call hP hK hnd hE hS U hU hW⟩⟩ rfl rfl hl.1 rfl (lv_room (Nat.le_of_ble_eq_true rfl)) dX8_is_32 ⟨Nat.le_refl 0, Nat.le_refl 0⟩
          ·
            refine lv_if_eq (tgt := 42) hx hb dX8_is_35 (by decide) (fun c_35 => ?_) (fun c_35 => ?_)
            ·
              have hok := (hok).1 c_35
              refine lv_iconst (v := 0) hx hb dX8_is_42 (by decide) ?_
              rw [hZ]
              exact hm_iret hx hb hr hlocks hS hP hK hnd hE (congrArg (fun z => (z, S)) (((if_neg c_4).trans ((if_neg c_8).trans ((if_pos c_14).trans ((oq_some er_24.symm).trans (if_pos c_35))))))) dX8_is_43
            ·
              have hok := (hok).2 c_35
              refine lv_iconst (v := 1) hx hb dX8_is_38 (by decide) ?_
              refine lv_goto (tgt := 43) hx hb dX8_is_39 (by decide) ?_
              rw [hZ]
              exact hm_iret hx hb hr hlocks hS hP hK hnd hE (congrArg (fun z => (z, S)) (((if_neg c_4).trans ((if_neg c_8).trans ((if_pos c_14).trans ((oq_some er_24.symm).trans (if_neg c_35))))))) dX8_is_43
      ·
        have hok := (hok).2 c_14
        refine lv_iconst (v := (-1)) hx hb dX8_is_17 (by decide) ?_
        rw [hZ]
        exact hm_iret hx hb hr hlocks hS hP hK hnd hE (congrArg (fun z => (z, S)) (((if_neg c_4).trans ((if_neg c_8).trans (if_neg c_14))))) dX8_is_18
theorem hdv_X8_same : yX8_same.cls = RX8 ∧ yX8_same.cls ≠ "java/lang/invoke/MethodHandle" ∧ yX8_same.cls ≠ "java/lang/invoke/VarHandle" ∧ (parseMethodDescriptor yX8_same.desc).map (fun d => d.parameters.length) = some 2 := by decide +kernel
theorem iw_X8_same_X8 : ∀ w ∈ u_ws RX8 TX8 4, w ∈ wsX8_same := by decide +kernel
def h_X8_same (x : Nat) (p0 : Int32) (p1 : Int32) (S : HS) : Int32 :=
  if (s_X8_isCell p0) = 0 then (-1)
  else if (s_X8_isCell p1) = 0 then (-1)
   else if (hsR S ((hsQ S x 0).getD 0) p0.toNatClampNeg) = (hsR S ((hsQ S x 0).getD 0) p1.toNatClampNeg) then 1
    else 0
def ok_X8_same (L : List Nat) (x : Nat) (p0 : Int32) (p1 : Int32) (S : HS) : Prop :=
  (((s_X8_isCell p0) = 0) → (True)) ∧
  (¬ ((s_X8_isCell p0) = 0) → ((((s_X8_isCell p1) = 0) → (True)) ∧
   (¬ ((s_X8_isCell p1) = 0) → ((x ∈ L ∧ hsK S x = 6 ∧ hsQ S x 0 ≠ none) ∧ ((((hsQ S x 0).getD 0) ∈ L ∧ hsK S ((hsQ S x 0).getD 0) = 10 ∧ vp_in p0 (hsN S ((hsQ S x 0).getD 0))) ∧ ((x ∈ L ∧ hsK S x = 6 ∧ hsQ S x 0 ≠ none) ∧ ((((hsQ S x 0).getD 0) ∈ L ∧ hsK S ((hsQ S x 0).getD 0) = 10 ∧ vp_in p1 (hsN S ((hsQ S x 0).getD 0))) ∧ ((((hsR S ((hsQ S x 0).getD 0) p0.toNatClampNeg) = (hsR S ((hsQ S x 0).getD 0) p1.toNatClampNeg)) → (True)) ∧
    (¬ ((hsR S ((hsQ S x 0).getD 0) p0.toNatClampNeg) = (hsR S ((hsQ S x 0).getD 0) p1.toNatClampNeg)) → (True))))))))))
set_option maxHeartbeats 4000000 in
set_option maxRecDepth 100000 in
theorem hm_X8_same (l : Launch) (G : GE) (L : List Nat) (S : HS) (x : Nat) (p0 : Int32) (p1 : Int32) (hok : ok_X8_same L x p0 p1 S) : HmI l G yX8_same wsX8_same 1 20 [.ref x, .int p0, .int p1] L S ((h_X8_same x p0 p1 S, S)) := by
  refine Met.ofW (cc := cX8_same) (maxL := 3) (ret := (some .int)) (by decide) rfl ?_
  intro p e s m args below meth c s₁ B hml hv
  obtain ⟨rfl, hP, hK, hnd, hE⟩ := hv
  have hx := B.exec
  have hb := B.bytes
  have hr := B.returns
  have hts := atoms_spec (ws := wsX8_same) B.pre
  have hown : s.vm.findClass RX8 = some m.cls := findClass_of_methodNamed B.named
  have hlocks := B.notSynchronized
  have hD := nd_D hnd
  have hS : va_S (AL L) s.heap s.heap [] := va_S.rf
  have hl := lv_entry ([.ref x, .int p0, .int p1]) (n := 3) (Nat.le_of_ble_eq_true rfl)
  rw [lg_entry_eq]
  generalize (lg_sl ([.ref x, .int p0, .int p1]) ++ List.replicate (3 - (lg_sl ([.ref x, .int p0, .int p1])).length) Slot.unset).toArray = ls at hl ⊢
  have hl : lv_has ls 3 [(0, .ref x), (1, .int p0), (2, .int p1)] := hl
  obtain ⟨Z, hZ⟩ : ∃ z, z = MQ below (hm_QI G L ((h_X8_same x p0 p1 S, S))) ([.ref x, .int p0, .int p1] : List Value).toArray s 0 0 (AL L) := ⟨_, rfl⟩
  rw [← hZ]
  refine lv_iload_n hx hb dX8_same_0 rfl (lv_at hl 1 rfl) ?_
  refine pm_callI (va_runS (As := [.int p0]) (rest := []) ⟨hx, hb, hml, hown, hts⟩ (pm_X8_isCell l p0) (va_cwS 1 hts gX8_same_X8_isCell rfl rfl rfl hd_X8_isCell ⟨Nat.le_of_ble_eq_true rfl, Nat.le_of_ble_eq_true rfl⟩) ⟨pm_fbT, fun U hU hW => ⟨rfl, trivial⟩⟩ rfl rfl hl.1 rfl (lv_room (Nat.le_of_ble_eq_true rfl)) dX8_same_1 ⟨Nat.le_refl 0, Nat.le_refl 0⟩) hS (fun H locs _ hk9 hS => ?_)
  replace hP := P_keep hP hk9
  refine lv_if_eq (tgt := 14) hx hb dX8_same_4 (by decide) (fun c_4 => ?_) (fun c_4 => ?_)
  ·
    have hok := (hok).1 c_4
    refine lv_iconst (v := (-1)) hx hb dX8_same_14 (by decide) ?_
    rw [hZ]
    exact hm_iret hx hb hr hlocks hS hP hK hnd hE (congrArg (fun z => (z, S)) ((if_pos c_4))) dX8_same_15
  ·
    have hok := (hok).2 c_4
    refine lv_iload_n hx hb dX8_same_7 rfl (lv_at hl 2 rfl) ?_
    refine pm_callI (va_runS (As := [.int p1]) (rest := []) ⟨hx, hb, hml, hown, hts⟩ (pm_X8_isCell l p1) (va_cwS 1 hts gX8_same_X8_isCell rfl rfl rfl hd_X8_isCell ⟨Nat.le_of_ble_eq_true rfl, Nat.le_of_ble_eq_true rfl⟩) ⟨pm_fbT, fun U hU hW => ⟨rfl, trivial⟩⟩ rfl rfl hl.1 rfl (lv_room (Nat.le_of_ble_eq_true rfl)) dX8_same_8 ⟨Nat.le_refl 0, Nat.le_refl 0⟩) hS (fun H locs _ hk9 hS => ?_)
    replace hP := P_keep hP hk9
    refine lv_if_ne (tgt := 16) hx hb dX8_same_11 (by decide) (fun c_11 => ?_) (fun c_11 => ?_)
    ·
      have hok := (hok).2 c_11
      refine lv_aload_n hx hb dX8_same_16 rfl (lv_at hl 0 rfl) ?_
      obtain ⟨h_17, hok⟩ := hok
      refine hp_getR (ci := 6) (C := RX8) (T := TX8) (N := 4) hx hb hts iw_X8_same_X8 hown hK hP h_17.1 (PF_6 h_17.2.1) rfl 0 (by decide) (hts _ (List.mem_of_getElem? (i := 1) rfl)) (fun _ h9 => h9) rfl h_17.2.2 dX8_same_17 ?_
      refine lv_iload_n hx hb dX8_same_20 rfl (lv_at hl 1 rfl) ?_
      obtain ⟨h_21, hok⟩ := hok
      refine hp_aald hx hb hK hP h_21.1 2 (PF_10 h_21.2.1) rfl h_21.2.2 dX8_same_21 ?_
      refine lv_topq (fun r_21 er_21 => ?_)
      subst er_21
      refine lv_aload_n hx hb dX8_same_22 rfl (lv_at hl 0 rfl) ?_
      obtain ⟨h_23, hok⟩ := hok
      refine hp_getR (ci := 6) (C := RX8) (T := TX8) (N := 4) hx hb hts iw_X8_same_X8 hown hK hP h_23.1 (PF_6 h_23.2.1) rfl 0 (by decide) (hts _ (List.mem_of_getElem? (i := 1) rfl)) (fun _ h9 => h9) rfl h_23.2.2 dX8_same_23 ?_
      refine lv_iload_n hx hb dX8_same_26 rfl (lv_at hl 2 rfl) ?_
      obtain ⟨h_27, hok⟩ := hok
      refine hp_aald hx hb hK hP h_27.1 2 (PF_10 h_27.2.1) rfl h_27.2.2 dX8_same_27 ?_
      refine lv_topq (fun r_27 er_27 => ?_)
      subst er_27
      refine lv_acmp_ne (rx := (hsR S ((hsQ S x 0).getD 0) p0.toNatClampNeg)) (ry := (hsR S ((hsQ S x 0).getD 0) p1.toNatClampNeg)) (tgt := 35) hx hb dX8_same_28 (by decide) (fun c_28 => ?_) (fun c_28 => ?_)
      ·
        have hok := (hok).2 c_28
        refine lv_iconst (v := 0) hx hb dX8_same_35 (by decide) ?_
        rw [hZ]
        exact hm_iret hx hb hr hlocks hS hP hK hnd hE (congrArg (fun z => (z, S)) (((if_neg c_4).trans ((if_neg c_11).trans (if_neg c_28))))) dX8_same_36
      ·
        have hok := (hok).1 c_28
        refine lv_iconst (v := 1) hx hb dX8_same_31 (by decide) ?_
        refine lv_goto (tgt := 36) hx hb dX8_same_32 (by decide) ?_
        rw [hZ]
        exact hm_iret hx hb hr hlocks hS hP hK hnd hE (congrArg (fun z => (z, S)) (((if_neg c_4).trans ((if_neg c_11).trans (if_pos c_28))))) dX8_same_36
    ·
      have hok := (hok).1 c_11
      refine lv_iconst (v := (-1)) hx hb dX8_same_14 (by decide) ?_
      rw [hZ]
      exact hm_iret hx hb hr hlocks hS hP hK hnd hE (congrArg (fun z => (z, S)) (((if_neg c_4).trans (if_pos c_11)))) dX8_same_15
theorem hdv_X8_move : yX8_move.cls = RX8 ∧ yX8_move.cls ≠ "java/lang/invoke/MethodHandle" ∧ yX8_move.cls ≠ "java/lang/invoke/VarHandle" ∧ (parseMethodDescriptor yX8_move.desc).map (fun d => d.parameters.length) = some 2 := by decide +kernel
theorem iw_X8_move_X8 : ∀ w ∈ u_ws RX8 TX8 4, w ∈ wsX8_move := by decide +kernel
def h_X8_move_j36 (x : Nat) (p0 : Int32) (p1 : Int32) (z_36_0 : Int32) (S : HS) : Int32 × HS :=
  if ((h_X8_stops x z_36_0 S).1) = 0 then if p0 = (-1) then (1, (hwR ((h_X8_stops x z_36_0 S).2) ((hsQ ((h_X8_stops x z_36_0 S).2) x 0).getD 0) p1.toNatClampNeg none))
   else oq (hsR ((h_X8_stops x z_36_0 S).2) ((hsQ ((h_X8_stops x z_36_0 S).2) x 0).getD 0) p0.toNatClampNeg) ((1, (hwR ((h_X8_stops x z_36_0 S).2) ((hsQ ((h_X8_stops x z_36_0 S).2) x 0).getD 0) p1.toNatClampNeg none)))
    (fun (a_63 : Nat) => (1, (hwR ((h_X8_stops x z_36_0 S).2) ((hsQ ((h_X8_stops x z_36_0 S).2) x 0).getD 0) p1.toNatClampNeg (some a_63))))
  else (0, (h_X8_stops x z_36_0 S).2)
def ok_X8_move_j36 (L : List Nat) (x : Nat) (p0 : Int32) (p1 : Int32) (z_36_0 : Int32) (S : HS) : Prop :=
  (x ∈ L ∧ hsK S x = 6) ∧ ((ok_X8_stops L x z_36_0 S) ∧ (((((h_X8_stops x z_36_0 S).1) = 0) → ((x ∈ L ∧ hsK ((h_X8_stops x z_36_0 S).2) x = 6 ∧ hsQ ((h_X8_stops x z_36_0 S).2) x 0 ≠ none) ∧ (((p0 = (-1)) → ((((hsQ ((h_X8_stops x z_36_0 S).2) x 0).getD 0) ∈ L ∧ hsK ((h_X8_stops x z_36_0 S).2) ((hsQ ((h_X8_stops x z_36_0 S).2) x 0).getD 0) = 10 ∧ vp_in p1 (hsN ((h_X8_stops x z_36_0 S).2) ((hsQ ((h_X8_stops x z_36_0 S).2) x 0).getD 0))) ∧ (True))) ∧
   (¬ (p0 = (-1)) → ((x ∈ L ∧ hsK ((h_X8_stops x z_36_0 S).2) x = 6 ∧ hsQ ((h_X8_stops x z_36_0 S).2) x 0 ≠ none) ∧ ((((hsQ ((h_X8_stops x z_36_0 S).2) x 0).getD 0) ∈ L ∧ hsK ((h_X8_stops x z_36_0 S).2) ((hsQ ((h_X8_stops x z_36_0 S).2) x 0).getD 0) = 10 ∧ vp_in p0 (hsN ((h_X8_stops x z_36_0 S).2) ((hsQ ((h_X8_stops x z_36_0 S).2) x 0).getD 0))) ∧ (((hsR ((h_X8_stops x z_36_0 S).2) ((hsQ ((h_X8_stops x z_36_0 S).2) x 0).getD 0) p0.toNatClampNeg) = none → ((((hsQ ((h_X8_stops x z_36_0 S).2) x 0).getD 0) ∈ L ∧ hsK ((h_X8_stops x z_36_0 S).2) ((hsQ ((h_X8_stops x z_36_0 S).2) x 0).getD 0) = 10 ∧ vp_in p1 (hsN ((h_X8_stops x z_36_0 S).2) ((hsQ ((h_X8_stops x z_36_0 S).2) x 0).getD 0))) ∧ (True))) ∧
    (∀ a_63 : Nat, (hsR ((h_X8_stops x z_36_0 S).2) ((hsQ ((h_X8_stops x z_36_0 S).2) x 0).getD 0) p0.toNatClampNeg) = some a_63 → (((((hsQ ((h_X8_stops x z_36_0 S).2) x 0).getD 0) ∈ L ∧ hsK ((h_X8_stops x z_36_0 S).2) ((hsQ ((h_X8_stops x z_36_0 S).2) x 0).getD 0) = 10 ∧ vp_in p1 (hsN ((h_X8_stops x z_36_0 S).2) ((hsQ ((h_X8_stops x z_36_0 S).2) x 0).getD 0))) ∧ a_63 ∈ L ∧ 1 ≤ hsK ((h_X8_stops x z_36_0 S).2) a_63 ∧ hsK ((h_X8_stops x z_36_0 S).2) a_63 ≤ 5) ∧ (True)))))))))) ∧
  (¬ (((h_X8_stops x z_36_0 S).1) = 0) → (True))))
def h_X8_move_j24 (x : Nat) (p0 : Int32) (p1 : Int32) (z_24_0 : Int32) (S : HS) : Int32 × HS :=
  if z_24_0 = 0 then h_X8_move_j36 x p0 p1 8 S
  else h_X8_move_j36 x p0 p1 0 S
def ok_X8_move_j24 (L : List Nat) (x : Nat) (p0 : Int32) (p1 : Int32) (z_24_0 : Int32) (S : HS) : Prop :=
  ((z_24_0 = 0) → (ok_X8_move_j36 L x p0 p1 8 S)) ∧
  (¬ (z_24_0 = 0) → (ok_X8_move_j36 L x p0 p1 0 S))
def h_X8_move_j12 (x : Nat) (p0 : Int32) (p1 : Int32) (S : HS) : Int32 × HS :=
  if (s_X8_isCell p1) = 0 then h_X8_move_j24 x p0 p1 0 S
  else h_X8_move_j24 x p0 p1 1 S
def ok_X8_move_j12 (L : List Nat) (x : Nat) (p0 : Int32) (p1 : Int32) (S : HS) : Prop :=
  (((s_X8_isCell p1) = 0) → (ok_X8_move_j24 L x p0 p1 0 S)) ∧
  (¬ ((s_X8_isCell p1) = 0) → (ok_X8_move_j24 L x p0 p1 1 S))
def h_X8_move (x : Nat) (p0 : Int32) (p1 : Int32) (S : HS) : Int32 × HS :=
  if p0 = (-1) then h_X8_move_j12 x p0 p1 S
  else if (s_X8_isCell p0) = 0 then h_X8_move_j24 x p0 p1 0 S
   else h_X8_move_j12 x p0 p1 S
def ok_X8_move (L : List Nat) (x : Nat) (p0 : Int32) (p1 : Int32) (S : HS) : Prop :=
  ((p0 = (-1)) → (ok_X8_move_j12 L x p0 p1 S)) ∧
  (¬ (p0 = (-1)) → ((((s_X8_isCell p0) = 0) → (ok_X8_move_j24 L x p0 p1 0 S)) ∧
   (¬ ((s_X8_isCell p0) = 0) → (ok_X8_move_j12 L x p0 p1 S))))
set_option maxHeartbeats 4000000 in
set_option maxRecDepth 100000 in
theorem hm_X8_move (l : Launch) (G : GE) (L : List Nat) (S : HS) (x : Nat) (p0 : Int32) (p1 : Int32) (hok : ok_X8_move L x p0 p1 S) : HmI l G yX8_move wsX8_move 1 21 [.ref x, .int p0, .int p1] L S (h_X8_move x p0 p1 S) := by
  refine Met.ofW (cc := cX8_move) (maxL := 4) (ret := (some .int)) (by decide) rfl ?_
  intro p e s m args below meth c s₁ B hml hv
  obtain ⟨rfl, hP, hK, hnd, hE⟩ := hv
  have hx := B.exec
  have hb := B.bytes
  have hr := B.returns
  have hts := atoms_spec (ws := wsX8_move) B.pre
  have hown : s.vm.findClass RX8 = some m.cls := findClass_of_methodNamed B.named
  have hlocks := B.notSynchronized
  have hD := nd_D hnd
  have hS : va_S (AL L) s.heap s.heap [] := va_S.rf
  have hl := lv_entry ([.ref x, .int p0, .int p1]) (n := 4) (Nat.le_of_ble_eq_true rfl)
  rw [lg_entry_eq]
  generalize (lg_sl ([.ref x, .int p0, .int p1]) ++ List.replicate (4 - (lg_sl ([.ref x, .int p0, .int p1])).length) Slot.unset).toArray = ls at hl ⊢
  have hl : lv_has ls 4 [(0, .ref x), (1, .int p0), (2, .int p1)] := hl
  obtain ⟨Z, hZ⟩ : ∃ z, z = MQ below (hm_QI G L (h_X8_move x p0 p1 S)) ([.ref x, .int p0, .int p1] : List Value).toArray s 0 0 (AL L) := ⟨_, rfl⟩
  rw [← hZ]
  refine lv_iload_n hx hb dX8_move_0 rfl (lv_at hl 1 rfl) ?_
  refine lv_iconst (v := (-1)) hx hb dX8_move_1 (by decide) ?_
  have K_24 : ∀ (z_24_0 : Int32) (H : Heap) (locs : List Loc), va_P (gD G) vwCl (va_pl L (PF G S)) H → va_S (AL L) s.heap H locs → ∀ (ls : Array Slot), lv_has ls 4 [(0, .ref x), (1, .int p0), (2, .int p1)] → ok_X8_move_j24 L x p0 p1 z_24_0 S → h_X8_move x p0 p1 S = h_X8_move_j24 x p0 p1 z_24_0 S → W p l e (pm_R 1 21) s m ([.ref x, .int p0, .int p1] : List Value).toArray below meth c H locs 0 0 Z (F0 m 24 ls [.int z_24_0]) := by
    intro z_24_0 H locs hP hS ls hl hok hK_24
    refine lv_istore_n (lv' := [(3, .int z_24_0), (0, .ref x), (1, .int p0), (2, .int p1)]) hx hb dX8_move_24 rfl hl (by decide) rfl (fun ls hl => ?_)
    refine lv_aload_n hx hb dX8_move_25 rfl (lv_at hl 1 rfl) ?_
    refine lv_iload_n hx hb dX8_move_26 rfl (lv_at hl 0 rfl) ?_
    have K_36 : ∀ (z_36_0 : Int32) (H : Heap) (locs : List Loc), va_P (gD G) vwCl (va_pl L (PF G S)) H → va_S (AL L) s.heap H locs → ∀ (ls : Array Slot), lv_has ls 4 [(0, .ref x), (1, .int p0), (2, .int p1)] → ok_X8_move_j36 L x p0 p1 z_36_0 S → h_X8_move x p0 p1 S = h_X8_move_j36 x p0 p1 z_36_0 S → W p l e (pm_R 1 21) s m ([.ref x, .int p0, .int p1] : List Value).toArray below meth c H locs 0 0 Z (F0 m 36 ls [.int z_36_0, .ref x]) := by
      intro z_36_0 H locs hP hS ls hl hok hK_36
      obtain ⟨h_36k, hok⟩ := hok
      obtain ⟨h_36, hok⟩ := hok
      refine hm_callI (G := G) (a := ([.ref x, .int z_36_0] : List Value).toArray) (pr := (h_X8_stops x z_36_0 S)) (rest := []) ?_ hS (fun H locs hP hS => ?_)
      ·
        exact va_runV (As := [.int z_36_0]) (rest := []) ⟨hx, hb, hml, hown, hts⟩ (hm_X8_stops l G L S x z_36_0 h_36) (cwV 1 hts gX8_move_X8_stops rfl rfl rfl hdv_X8_stops ⟨Nat.le_of_ble_eq_true rfl, Nat.le_of_ble_eq_true rfl⟩) ⟨HW.fb, hp_recv hK hP h_36k.1 (PF_6 h_36k.2) rfl, fun U hU hW => ⟨rfl, HW.call hP hK hnd hE hS U hU hW⟩⟩ rfl rfl hl.1 rfl (lv_room (Nat.le_of_ble_eq_true rfl)) dX8_move_36 ⟨Nat.le_refl 0, Nat.le_refl 0⟩
      ·
        refine lv_if_eq (tgt := 44) hx hb dX8_move_39 (by decide) (fun c_39 => ?_) (fun c_39 => ?_)
        ·
          have hok := (hok).1 c_39
          refine lv_aload_n hx hb dX8_move_44 rfl (lv_at hl 0 rfl) ?_
          obtain ⟨h_45, hok⟩ := hok
          refine hp_getR (ci := 6) (C := RX8) (T := TX8) (N := 4) hx hb hts iw_X8_move_X8 hown hK hP h_45.1 (PF_6 h_45.2.1) rfl 0 (by decide) (hts _ (List.mem_of_getElem? (i := 1) rfl)) (fun _ h9 => h9) rfl h_45.2.2 dX8_move_45 ?_
          refine lv_iload_n hx hb dX8_move_48 rfl (lv_at hl 2 rfl) ?_
          refine lv_iload_n hx hb dX8_move_49 rfl (lv_at hl 1 rfl) ?_
          refine lv_iconst (v := (-1)) hx hb dX8_move_50 (by decide) ?_
          refine lv_icmp_ne (tgt := 58) hx hb dX8_move_51 (by decide) (fun c_51 => ?_) (fun c_51 => ?_)
          ·
            have hok := (hok).2 c_51
            refine lv_aload_n hx hb dX8_move_58 rfl (lv_at hl 0 rfl) ?_
            obtain ⟨h_59, hok⟩ := hok
            refine hp_getR (ci := 6) (C := RX8) (T := TX8) (N := 4) hx hb hts iw_X8_move_X8 hown hK hP h_59.1 (PF_6 h_59.2.1) rfl 0 (by decide) (hts _ (List.mem_of_getElem? (i := 1) rfl)) (fun _ h9 => h9) rfl h_59.2.2 dX8_move_59 ?_
            refine lv_iload_n hx hb dX8_move_62 rfl (lv_at hl 1 rfl) ?_
            obtain ⟨h_63, hok⟩ := hok
            refine hp_aald hx hb hK hP h_63.1 2 (PF_10 h_63.2.1) rfl h_63.2.2 dX8_move_63 ?_
            refine lv_topq (fun r_63 er_63 => ?_)
            rcases r_63 with _ | a_63
            ·
              have hok := (hok).1 er_63.symm
              obtain ⟨h_64, hok⟩ := hok
              refine hp_aastN (g2 := PF G (hwR ((h_X8_stops x z_36_0 S).2) ((hsQ ((h_X8_stops x z_36_0 S).2) x 0).getD 0) p1.toNatClampNeg none)) hx hb hK hP (hD _) hS h_64.1 2 (PF_10 h_64.2.1) rfl h_64.2.2 (PF_sR h_64.2.1) (fun _ hb9 => PF_wR hb9) dX8_move_64 (fun H locs hP hS => ?_)
              refine lv_iconst (v := 1) hx hb dX8_move_65 (by decide) ?_
              rw [hZ]
              exact hm_iret hx hb hr hlocks hS hP hK hnd hE (((hK_36).trans ((if_pos c_39).trans ((if_neg c_51).trans (oq_none er_63.symm))))) dX8_move_66
            ·
              have hok := (hok).2 _ er_63.symm
              obtain ⟨h_64, hok⟩ := hok
              refine hp_aastT (g2 := PF G (hwR ((h_X8_stops x z_36_0 S).2) ((hsQ ((h_X8_stops x z_36_0 S).2) x 0).getD 0) p1.toNatClampNeg (some a_63))) hx hb hE.2 hK hP (hD _) hS h_64.1.1 2 (PF_10 h_64.1.2.1) rfl h_64.2 h_64.1.2.2 (PF_sR h_64.1.2.1) (fun _ hb9 => PF_wR hb9) dX8_move_64 (fun H locs hP hS => ?_)
              refine lv_iconst (v := 1) hx hb dX8_move_65 (by decide) ?_
              rw [hZ]
              exact hm_iret hx hb hr hlocks hS hP hK hnd hE (((hK_36).trans ((if_pos c_39).trans ((if_neg c_51).trans (oq_some er_63.symm))))) dX8_move_66
          ·
            have hok := (hok).1 c_51
            refine lv_null hx hb dX8_move_54 ?_
            refine lv_goto (tgt := 64) hx hb dX8_move_55 (by decide) ?_
            obtain ⟨h_64, hok⟩ := hok
            refine hp_aastN (g2 := PF G (hwR ((h_X8_stops x z_36_0 S).2) ((hsQ ((h_X8_stops x z_36_0 S).2) x 0).getD 0) p1.toNatClampNeg none)) hx hb hK hP (hD _) hS h_64.1 2 (PF_10 h_64.2.1) rfl h_64.2.2 (PF_sR h_64.2.1) (fun _ hb9 => PF_wR hb9) dX8_move_64 (fun H locs hP hS => ?_)
            refine lv_iconst (v := 1) hx hb dX8_move_65 (by decide) ?_
            rw [hZ]
            exact hm_iret hx hb hr hlocks hS hP hK hnd hE (((hK_36).trans ((if_pos c_39).trans (if_pos c_51)))) dX8_move_66
        ·
          have hok := (hok).2 c_39
          refine lv_iconst (v := 0) hx hb dX8_move_42 (by decide) ?_
          rw [hZ]
          exact hm_iret hx hb hr hlocks hS hP hK hnd hE (((hK_36).trans (if_neg c_39))) dX8_move_43
    refine lv_if_eq (tgt := 34) hx hb dX8_move_27 (by decide) (fun c_27 => ?_) (fun c_27 => ?_)
    ·
      have hok := (hok).1 c_27
      refine lv_bipush (v := 8) hx hb dX8_move_34 (by decide) ?_
      exact K_36 8 _ _ hP hS ls (lv_sub hl [1, 2, 3] rfl) hok (((hK_24).trans (if_pos c_27)))
    ·
      have hok := (hok).2 c_27
      refine lv_iconst (v := 0) hx hb dX8_move_30 (by decide) ?_
      refine lv_goto (tgt := 36) hx hb dX8_move_31 (by decide) ?_
      exact K_36 0 _ _ hP hS ls (lv_sub hl [1, 2, 3] rfl) hok (((hK_24).trans (if_neg c_27)))
  have K_12 : ∀ (H : Heap) (locs : List Loc), va_P (gD G) vwCl (va_pl L (PF G S)) H → va_S (AL L) s.heap H locs → ∀ (ls : Array Slot), lv_has ls 4 [(0, .ref x), (1, .int p0), (2, .int p1)] → ok_X8_move_j12 L x p0 p1 S → h_X8_move x p0 p1 S = h_X8_move_j12 x p0 p1 S → W p l e (pm_R 1 21) s m ([.ref x, .int p0, .int p1] : List Value).toArray below meth c H locs 0 0 Z (F0 m 12 ls []) := by
    intro H locs hP hS ls hl hok hK_12
    refine lv_iload_n hx hb dX8_move_12 rfl (lv_at hl 2 rfl) ?_
    refine pm_callI (va_runS (As := [.int p1]) (rest := []) ⟨hx, hb, hml, hown, hts⟩ (pm_X8_isCell l p1) (va_cwS 1 hts gX8_move_X8_isCell rfl rfl rfl hd_X8_isCell ⟨Nat.le_of_ble_eq_true rfl, Nat.le_of_ble_eq_true rfl⟩) ⟨pm_fbT, fun U hU hW => ⟨rfl, trivial⟩⟩ rfl rfl hl.1 rfl (lv_room (Nat.le_of_ble_eq_true rfl)) dX8_move_13 ⟨Nat.le_refl 0, Nat.le_refl 0⟩) hS (fun H locs _ hk9 hS => ?_)
    replace hP := P_keep hP hk9
    refine lv_if_eq (tgt := 23) hx hb dX8_move_16 (by decide) (fun c_16 => ?_) (fun c_16 => ?_)
    ·
      have hok := (hok).1 c_16
      refine lv_iconst (v := 0) hx hb dX8_move_23 (by decide) ?_
      exact K_24 0 _ _ hP hS ls (lv_sub hl [0, 1, 2] rfl) hok (((hK_12).trans (if_pos c_16)))
    ·
      have hok := (hok).2 c_16
      refine lv_iconst (v := 1) hx hb dX8_move_19 (by decide) ?_
      refine lv_goto (tgt := 24) hx hb dX8_move_20 (by decide) ?_
      exact K_24 1 _ _ hP hS ls (lv_sub hl [0, 1, 2] rfl) hok (((hK_12).trans (if_neg c_16)))
  refine lv_icmp_eq (tgt := 12) hx hb dX8_move_2 (by decide) (fun c_2 => ?_) (fun c_2 => ?_)
  ·
    have hok := (hok).1 c_2
    exact K_12 _ _ hP hS ls (lv_sub hl [0, 1, 2] rfl) hok ((if_pos c_2))
  ·
    have hok := (hok).2 c_2
    refine lv_iload_n hx hb dX8_move_5 rfl (lv_at hl 1 rfl) ?_
    refine pm_callI (va_runS (As := [.int p0]) (rest := []) ⟨hx, hb, hml, hown, hts⟩ (pm_X8_isCell l p0) (va_cwS 1 hts gX8_move_X8_isCell rfl rfl rfl hd_X8_isCell ⟨Nat.le_of_ble_eq_true rfl, Nat.le_of_ble_eq_true rfl⟩) ⟨pm_fbT, fun U hU hW => ⟨rfl, trivial⟩⟩ rfl rfl hl.1 rfl (lv_room (Nat.le_of_ble_eq_true rfl)) dX8_move_6 ⟨Nat.le_refl 0, Nat.le_refl 0⟩) hS (fun H locs _ hk9 hS => ?_)
    replace hP := P_keep hP hk9
    refine lv_if_eq (tgt := 23) hx hb dX8_move_9 (by decide) (fun c_9 => ?_) (fun c_9 => ?_)
    ·
      have hok := (hok).1 c_9
      refine lv_iconst (v := 0) hx hb dX8_move_23 (by decide) ?_
      exact K_24 0 _ _ hP hS ls (lv_sub hl [0, 1, 2] rfl) hok (((if_neg c_2).trans (if_pos c_9)))
    ·
      have hok := (hok).2 c_9
      exact K_12 _ _ hP hS ls (lv_sub hl [0, 1, 2] rfl) hok (((if_neg c_2).trans (if_neg c_9)))
theorem hdv_X8_length : yX8_length.cls = RX8 ∧ yX8_length.cls ≠ "java/lang/invoke/MethodHandle" ∧ yX8_length.cls ≠ "java/lang/invoke/VarHandle" ∧ (parseMethodDescriptor yX8_length.desc).map (fun d => d.parameters.length) = some 2 := by decide +kernel
theorem iw_X8_length_X8 : ∀ w ∈ u_ws RX8 TX8 4, w ∈ wsX8_length := by decide +kernel
theorem iw_X8_length_X1 : ∀ w ∈ u_ws RX1 TX1 3, w ∈ wsX8_length := by decide +kernel
theorem iw_X8_length_X2 : ∀ w ∈ u_ws RX2 TX2 3, w ∈ wsX8_length := by decide +kernel
theorem iw_X8_length_X4 : ∀ w ∈ u_ws RX4 TX4 3, w ∈ wsX8_length := by decide +kernel
theorem iw_X8_length_X5 : ∀ w ∈ u_ws RX5 TX5 3, w ∈ wsX8_length := by decide +kernel
theorem iw_X8_length_X7 : ∀ w ∈ u_ws RX7 TX7 3, w ∈ wsX8_length := by decide +kernel
def h_X8_length_j40 (x : Nat) (p0 : Int32) (p1 : Int32) (z_40_0 : Int32) (S : HS) : Int32 × HS :=
  if ((h_X8_stops x z_40_0 S).1) = 0 then oq (hsR ((h_X8_stops x z_40_0 S).2) ((hsQ ((h_X8_stops x z_40_0 S).2) x 0).getD 0) p1.toNatClampNeg) ((0, (h_X8_stops x z_40_0 S).2))
   (fun (a_53 : Nat) => (hsI ((h_X8_stops x z_40_0 S).2) a_53 1, (h_X8_stops x z_40_0 S).2))
  else (0, (h_X8_stops x z_40_0 S).2)
def ok_X8_length_j40 (L : List Nat) (x : Nat) (p0 : Int32) (p1 : Int32) (z_40_0 : Int32) (S : HS) : Prop :=
  (x ∈ L ∧ hsK S x = 6) ∧ ((ok_X8_stops L x z_40_0 S) ∧ (((((h_X8_stops x z_40_0 S).1) = 0) → ((x ∈ L ∧ hsK ((h_X8_stops x z_40_0 S).2) x = 6 ∧ hsQ ((h_X8_stops x z_40_0 S).2) x 0 ≠ none) ∧ ((((hsQ ((h_X8_stops x z_40_0 S).2) x 0).getD 0) ∈ L ∧ hsK ((h_X8_stops x z_40_0 S).2) ((hsQ ((h_X8_stops x z_40_0 S).2) x 0).getD 0) = 10 ∧ vp_in p1 (hsN ((h_X8_stops x z_40_0 S).2) ((hsQ ((h_X8_stops x z_40_0 S).2) x 0).getD 0))) ∧ (((hsR ((h_X8_stops x z_40_0 S).2) ((hsQ ((h_X8_stops x z_40_0 S).2) x 0).getD 0) p1.toNatClampNeg) = none → (True)) ∧
   (∀ a_53 : Nat, (hsR ((h_X8_stops x z_40_0 S).2) ((hsQ ((h_X8_stops x z_40_0 S).2) x 0).getD 0) p1.toNatClampNeg) = some a_53 → ((a_53 ∈ L ∧ 1 ≤ hsK ((h_X8_stops x z_40_0 S).2) a_53 ∧ hsK ((h_X8_stops x z_40_0 S).2) a_53 ≤ 5) ∧ (True))))))) ∧
  (¬ (((h_X8_stops x z_40_0 S).1) = 0) → (True))))
def h_X8_length_j19 (x : Nat) (p0 : Int32) (p1 : Int32) (z_19_0 : Int32) (S : HS) : Int32 × HS :=
  if z_19_0 = 0 then h_X8_length_j40 x p0 p1 8 S
  else oq (hsR S ((hsQ S x 0).getD 0) p1.toNatClampNeg) (h_X8_length_j40 x p0 p1 (h_X8_castCause_n p0 S) S)
   (fun (a_31 : Nat) => h_X8_length_j40 x p0 p1 (h_X8_castCause_s p0 a_31 S) S)
def ok_X8_length_j19 (L : List Nat) (x : Nat) (p0 : Int32) (p1 : Int32) (z_19_0 : Int32) (S : HS) : Prop :=
  ((z_19_0 = 0) → (ok_X8_length_j40 L x p0 p1 8 S)) ∧
  (¬ (z_19_0 = 0) → ((x ∈ L ∧ hsK S x = 6 ∧ hsQ S x 0 ≠ none) ∧ ((((hsQ S x 0).getD 0) ∈ L ∧ hsK S ((hsQ S x 0).getD 0) = 10 ∧ vp_in p1 (hsN S ((hsQ S x 0).getD 0))) ∧ (((hsR S ((hsQ S x 0).getD 0) p1.toNatClampNeg) = none → ((ok_X8_castCause_n L p0 S) ∧ (ok_X8_length_j40 L x p0 p1 (h_X8_castCause_n p0 S) S))) ∧
   (∀ a_31 : Nat, (hsR S ((hsQ S x 0).getD 0) p1.toNatClampNeg) = some a_31 → ((ok_X8_castCause_s L p0 a_31 S) ∧ (ok_X8_length_j40 L x p0 p1 (h_X8_castCause_s p0 a_31 S) S)))))))
def h_X8_length (x : Nat) (p0 : Int32) (p1 : Int32) (S : HS) : Int32 × HS :=
  if (s_X8_isArrayType p0) = 0 then h_X8_length_j19 x p0 p1 0 S
  else if (s_X8_isCell p1) = 0 then h_X8_length_j19 x p0 p1 0 S
   else h_X8_length_j19 x p0 p1 1 S
def ok_X8_length (L : List Nat) (x : Nat) (p0 : Int32) (p1 : Int32) (S : HS) : Prop :=
  (((s_X8_isArrayType p0) = 0) → (ok_X8_length_j19 L x p0 p1 0 S)) ∧
  (¬ ((s_X8_isArrayType p0) = 0) → ((((s_X8_isCell p1) = 0) → (ok_X8_length_j19 L x p0 p1 0 S)) ∧
   (¬ ((s_X8_isCell p1) = 0) → (ok_X8_length_j19 L x p0 p1 1 S))))
set_option maxHeartbeats 4000000 in
set_option maxRecDepth 100000 in
theorem hm_X8_length (l : Launch) (G : GE) (L : List Nat) (S : HS) (x : Nat) (p0 : Int32) (p1 : Int32) (hok : ok_X8_length L x p0 p1 S) : HmI l G yX8_length wsX8_length 3 63 [.ref x, .int p0, .int p1] L S (h_X8_length x p0 p1 S) := by
  refine Met.ofW (cc := cX8_length) (maxL := 5) (ret := (some .int)) (by decide) rfl ?_
  intro p e s m args below meth c s₁ B hml hv
  obtain ⟨rfl, hP, hK, hnd, hE⟩ := hv
  have hx := B.exec
  have hb := B.bytes
  have hr := B.returns
  have hts := atoms_spec (ws := wsX8_length) B.pre
  have hown : s.vm.findClass RX8 = some m.cls := findClass_of_methodNamed B.named
  have hlocks := B.notSynchronized
  have hD := nd_D hnd
  have hS : va_S (AL L) s.heap s.heap [] := va_S.rf
  have hl := lv_entry ([.ref x, .int p0, .int p1]) (n := 5) (Nat.le_of_ble_eq_true rfl)
  rw [lg_entry_eq]
  generalize (lg_sl ([.ref x, .int p0, .int p1]) ++ List.replicate (5 - (lg_sl ([.ref x, .int p0, .int p1])).length) Slot.unset).toArray = ls at hl ⊢
  have hl : lv_has ls 5 [(0, .ref x), (1, .int p0), (2, .int p1)] := hl
  obtain ⟨Z, hZ⟩ : ∃ z, z = MQ below (hm_QI G L (h_X8_length x p0 p1 S)) ([.ref x, .int p0, .int p1] : List Value).toArray s 0 0 (AL L) := ⟨_, rfl⟩
  rw [← hZ]
  refine lv_iload_n hx hb dX8_length_0 rfl (lv_at hl 1 rfl) ?_
  refine pm_callI (va_runS (As := [.int p0]) (rest := []) ⟨hx, hb, hml, hown, hts⟩ (pm_X8_isArrayType l p0) (va_cwS 1 hts gX8_length_X8_isArrayType rfl rfl rfl hd_X8_isArrayType ⟨Nat.le_of_ble_eq_true rfl, Nat.le_of_ble_eq_true rfl⟩) ⟨pm_fbT, fun U hU hW => ⟨rfl, trivial⟩⟩ rfl rfl hl.1 rfl (lv_room (Nat.le_of_ble_eq_true rfl)) dX8_length_1 ⟨Nat.le_refl 0, Nat.le_refl 0⟩) hS (fun H locs _ hk9 hS => ?_)
  replace hP := P_keep hP hk9
  have K_19 : ∀ (z_19_0 : Int32) (H : Heap) (locs : List Loc), va_P (gD G) vwCl (va_pl L (PF G S)) H → va_S (AL L) s.heap H locs → ∀ (ls : Array Slot), lv_has ls 5 [(0, .ref x), (1, .int p0), (2, .int p1)] → ok_X8_length_j19 L x p0 p1 z_19_0 S → h_X8_length x p0 p1 S = h_X8_length_j19 x p0 p1 z_19_0 S → W p l e (pm_R 3 63) s m ([.ref x, .int p0, .int p1] : List Value).toArray below meth c H locs 0 0 Z (F0 m 19 ls [.int z_19_0]) := by
    intro z_19_0 H locs hP hS ls hl hok hK_19
    refine lv_istore_n (lv' := [(3, .int z_19_0), (0, .ref x), (1, .int p0), (2, .int p1)]) hx hb dX8_length_19 rfl hl (by decide) rfl (fun ls hl => ?_)
    refine lv_aload_n hx hb dX8_length_20 rfl (lv_at hl 1 rfl) ?_
    refine lv_iload_n hx hb dX8_length_21 rfl (lv_at hl 0 rfl) ?_
    have K_40 : ∀ (z_40_0 : Int32) (H : Heap) (locs : List Loc), va_P (gD G) vwCl (va_pl L (PF G S)) H → va_S (AL L) s.heap H locs → ∀ (ls : Array Slot), lv_has ls 5 [(0, .ref x), (2, .int p1)] → ok_X8_length_j40 L x p0 p1 z_40_0 S → h_X8_length x p0 p1 S = h_X8_length_j40 x p0 p1 z_40_0 S → W p l e (pm_R 3 63) s m ([.ref x, .int p0, .int p1] : List Value).toArray below meth c H locs 0 0 Z (F0 m 40 ls [.int z_40_0, .ref x]) := by
      intro z_40_0 H locs hP hS ls hl hok hK_40
      obtain ⟨h_40k, hok⟩ := hok
      obtain ⟨h_40, hok⟩ := hok
      refine hm_callI (G := G) (a := ([.ref x, .int z_40_0] : List Value).toArray) (pr := (h_X8_stops x z_40_0 S)) (rest := []) ?_ hS (fun H locs hP hS => ?_)
      ·
        exact va_runV (As := [.int z_40_0]) (rest := []) ⟨hx, hb, hml, hown, hts⟩ (hm_X8_stops l G L S x z_40_0 h_40) (cwV 1 hts gX8_length_X8_stops rfl rfl rfl hdv_X8_stops ⟨Nat.le_of_ble_eq_true rfl, Nat.le_of_ble_eq_true rfl⟩) ⟨HW.fb, hp_recv hK hP h_40k.1 (PF_6 h_40k.2) rfl, fun U hU hW => ⟨rfl, HW.call hP hK hnd hE hS U hU hW⟩⟩ rfl rfl hl.1 rfl (lv_room (Nat.le_of_ble_eq_true rfl)) dX8_length_40 ⟨Nat.le_refl 0, Nat.le_refl 0⟩
      ·
        refine lv_if_eq (tgt := 48) hx hb dX8_length_43 (by decide) (fun c_43 => ?_) (fun c_43 => ?_)
        ·
          have hok := (hok).1 c_43
          refine lv_aload_n hx hb dX8_length_48 rfl (lv_at hl 0 rfl) ?_
          obtain ⟨h_49, hok⟩ := hok
          refine hp_getR (ci := 6) (C := RX8) (T := TX8) (N := 4) hx hb hts iw_X8_length_X8 hown hK hP h_49.1 (PF_6 h_49.2.1) rfl 0 (by decide) (hts _ (List.mem_of_getElem? (i := 1) rfl)) (fun _ h9 => h9) rfl h_49.2.2 dX8_length_49 ?_
          refine lv_iload_n hx hb dX8_length_52 rfl (lv_at hl 1 rfl) ?_
          obtain ⟨h_53, hok⟩ := hok
          refine hp_aald hx hb hK hP h_53.1 2 (PF_10 h_53.2.1) rfl h_53.2.2 dX8_length_53 ?_
          refine lv_topq (fun r_53 er_53 => ?_)
          rcases r_53 with _ | a_53
          ·
            have hok := (hok).1 er_53.symm
            refine lv_astoreN (lv' := [(4, .null), (0, .ref x), (2, .int p1)]) hx hb dX8_length_54 hl (by decide) rfl (fun ls hl => ?_)
            refine lv_aloadN hx hb dX8_length_56 (lv_at hl 0 rfl) ?_
            refine lv_ifnonnullN hx hb dX8_length_58 ?_
            refine lv_iconst (v := 0) hx hb dX8_length_61 (by decide) ?_
            refine lv_goto (tgt := 70) hx hb dX8_length_62 (by decide) ?_
            rw [hZ]
            exact hm_iret hx hb hr hlocks hS hP hK hnd hE (((hK_40).trans ((if_pos c_43).trans (oq_none er_53.symm)))) dX8_length_70
          ·
            have hok := (hok).2 _ er_53.symm
            refine lv_astore (lv' := [(4, .ref a_53), (0, .ref x), (2, .int p1)]) hx hb dX8_length_54 hl (by decide) rfl (fun ls hl => ?_)
            refine lv_aload hx hb dX8_length_56 (lv_at hl 0 rfl) ?_
            refine lv_ifnonnull (tgt := 65) hx hb dX8_length_58 (by decide) ?_
            refine lv_aload hx hb dX8_length_65 (lv_at hl 0 rfl) ?_
            obtain ⟨h_67, hok⟩ := hok
            refine hp_length hx hb hts iw_X8_length_X1 iw_X8_length_X2 iw_X8_length_X4 iw_X8_length_X5 iw_X8_length_X7 hown hK hP h_67 (hts _ (List.mem_of_getElem? (i := 2) rfl)) (fun _ h9 => h9) dX8_length_67 ?_
            rw [hZ]
            exact hm_iret hx hb hr hlocks hS hP hK hnd hE (((hK_40).trans ((if_pos c_43).trans (oq_some er_53.symm)))) dX8_length_70
        ·
          have hok := (hok).2 c_43
          refine lv_iconst (v := 0) hx hb dX8_length_46 (by decide) ?_
          rw [hZ]
          exact hm_iret hx hb hr hlocks hS hP hK hnd hE (((hK_40).trans (if_neg c_43))) dX8_length_47
    refine lv_if_eq (tgt := 38) hx hb dX8_length_22 (by decide) (fun c_22 => ?_) (fun c_22 => ?_)
    ·
      have hok := (hok).1 c_22
      refine lv_bipush (v := 8) hx hb dX8_length_38 (by decide) ?_
      exact K_40 8 _ _ hP hS ls (lv_sub hl [1, 3] rfl) hok (((hK_19).trans (if_pos c_22)))
    ·
      have hok := (hok).2 c_22
      refine lv_iload_n hx hb dX8_length_25 rfl (lv_at hl 2 rfl) ?_
      refine lv_aload_n hx hb dX8_length_26 rfl (lv_at hl 1 rfl) ?_
      obtain ⟨h_27, hok⟩ := hok
      refine hp_getR (ci := 6) (C := RX8) (T := TX8) (N := 4) hx hb hts iw_X8_length_X8 hown hK hP h_27.1 (PF_6 h_27.2.1) rfl 0 (by decide) (hts _ (List.mem_of_getElem? (i := 1) rfl)) (fun _ h9 => h9) rfl h_27.2.2 dX8_length_27 ?_
      refine lv_iload_n hx hb dX8_length_30 rfl (lv_at hl 3 rfl) ?_
      obtain ⟨h_31, hok⟩ := hok
      refine hp_aald hx hb hK hP h_31.1 2 (PF_10 h_31.2.1) rfl h_31.2.2 dX8_length_31 ?_
      refine lv_topq (fun r_31 er_31 => ?_)
      rcases r_31 with _ | a_31
      ·
        have hok := (hok).1 er_31.symm
        obtain ⟨h_32, hok⟩ := hok
        refine hm_callIr (G := G) (S1 := S) (a := ([.int p0, .null] : List Value).toArray) (rest := [.ref x]) (h_X8_castCause_n p0 S) ?_ hS (fun H locs hP hS => ?_)
        ·
          exact va_runS (As := [.int p0, .null]) (rest := [.ref x]) ⟨hx, hb, hml, hown, hts⟩ (hm_X8_castCause_n l G L S p0 h_32) (va_cwS 2 hts gX8_length_X8_castCause rfl rfl rfl hd_X8_castCause ⟨Nat.le_of_ble_eq_true rfl, Nat.le_of_ble_eq_true rfl⟩) ⟨HW.fb, fun U hU hW => ⟨rfl, HW.call hP hK hnd hE hS U hU hW⟩⟩ rfl rfl hl.1 rfl (lv_room (Nat.le_of_ble_eq_true rfl)) dX8_length_32 ⟨Nat.le_refl 0, Nat.le_refl 0⟩
        ·
          refine lv_goto (tgt := 40) hx hb dX8_length_35 (by decide) ?_
          exact K_40 (h_X8_castCause_n p0 S) _ _ hP hS ls (lv_sub hl [1, 3] rfl) hok (((hK_19).trans ((if_neg c_22).trans (oq_none er_31.symm))))
      ·
        have hok := (hok).2 _ er_31.symm
        obtain ⟨h_32, hok⟩ := hok
        refine hm_callIr (G := G) (S1 := S) (a := ([.int p0, .ref a_31] : List Value).toArray) (rest := [.ref x]) (h_X8_castCause_s p0 a_31 S) ?_ hS (fun H locs hP hS => ?_)
        ·
          exact va_runS (As := [.int p0, .ref a_31]) (rest := [.ref x]) ⟨hx, hb, hml, hown, hts⟩ (hm_X8_castCause_s l G L S p0 a_31 h_32) (va_cwS 2 hts gX8_length_X8_castCause rfl rfl rfl hd_X8_castCause ⟨Nat.le_of_ble_eq_true rfl, Nat.le_of_ble_eq_true rfl⟩) ⟨HW.fb, fun U hU hW => ⟨rfl, HW.call hP hK hnd hE hS U hU hW⟩⟩ rfl rfl hl.1 rfl (lv_room (Nat.le_of_ble_eq_true rfl)) dX8_length_32 ⟨Nat.le_refl 0, Nat.le_refl 0⟩
        ·
          refine lv_goto (tgt := 40) hx hb dX8_length_35 (by decide) ?_
          exact K_40 (h_X8_castCause_s p0 a_31 S) _ _ hP hS ls (lv_sub hl [1, 3] rfl) hok (((hK_19).trans ((if_neg c_22).trans (oq_some er_31.symm))))
  refine lv_if_eq (tgt := 18) hx hb dX8_length_4 (by decide) (fun c_4 => ?_) (fun c_4 => ?_)
  ·
    have hok := (hok).1 c_4
    refine lv_iconst (v := 0) hx hb dX8_length_18 (by decide) ?_
    exact K_19 0 _ _ hP hS ls (lv_sub hl [0, 1, 2] rfl) hok ((if_pos c_4))
  ·
    have hok := (hok).2 c_4
    refine lv_iload_n hx hb dX8_length_7 rfl (lv_at hl 2 rfl) ?_
    refine pm_callI (va_runS (As := [.int p1]) (rest := []) ⟨hx, hb, hml, hown, hts⟩ (pm_X8_isCell l p1) (va_cwS 1 hts gX8_length_X8_isCell rfl rfl rfl hd_X8_isCell ⟨Nat.le_of_ble_eq_true rfl, Nat.le_of_ble_eq_true rfl⟩) ⟨pm_fbT, fun U hU hW => ⟨rfl, trivial⟩⟩ rfl rfl hl.1 rfl (lv_room (Nat.le_of_ble_eq_true rfl)) dX8_length_8 ⟨Nat.le_refl 0, Nat.le_refl 0⟩) hS (fun H locs _ hk9 hS => ?_)
    replace hP := P_keep hP hk9
    refine lv_if_eq (tgt := 18) hx hb dX8_length_11 (by decide) (fun c_11 => ?_) (fun c_11 => ?_)
    ·
      have hok := (hok).1 c_11
      refine lv_iconst (v := 0) hx hb dX8_length_18 (by decide) ?_
      exact K_19 0 _ _ hP hS ls (lv_sub hl [0, 1, 2] rfl) hok (((if_neg c_4).trans (if_pos c_11)))
    ·
      have hok := (hok).2 c_11
      refine lv_iconst (v := 1) hx hb dX8_length_14 (by decide) ?_
      refine lv_goto (tgt := 19) hx hb dX8_length_15 (by decide) ?_
      exact K_19 1 _ _ hP hS ls (lv_sub hl [0, 1, 2] rfl) hok (((if_neg c_4).trans (if_neg c_11)))
theorem hdv_X8_load : yX8_load.cls = RX8 ∧ yX8_load.cls ≠ "java/lang/invoke/MethodHandle" ∧ yX8_load.cls ≠ "java/lang/invoke/VarHandle" ∧ (parseMethodDescriptor yX8_load.desc).map (fun d => d.parameters.length) = some 3 := by decide +kernel
theorem iw_X8_load_X8 : ∀ w ∈ u_ws RX8 TX8 4, w ∈ wsX8_load := by decide +kernel
def h_X8_load_j43 (x : Nat) (p0 : Int32) (p1 : Int32) (p2 : Int32) (z_43_0 : Int32) (S : HS) : Int64 × HS :=
  if ((h_X8_stops x z_43_0 S).1) = 0 then oq (hsR ((h_X8_stops x z_43_0 S).2) ((hsQ ((h_X8_stops x z_43_0 S).2) x 0).getD 0) p1.toNatClampNeg) ((h_X8_numberAt_n p2 ((h_X8_stops x z_43_0 S).2), (h_X8_stops x z_43_0 S).2))
   (fun (a_56 : Nat) => (h_X8_numberAt_s a_56 p2 ((h_X8_stops x z_43_0 S).2), (h_X8_stops x z_43_0 S).2))
  else (0, (h_X8_stops x z_43_0 S).2)
def ok_X8_load_j43 (L : List Nat) (x : Nat) (p0 : Int32) (p1 : Int32) (p2 : Int32) (z_43_0 : Int32) (S : HS) : Prop :=
  (x ∈ L ∧ hsK S x = 6) ∧ ((ok_X8_stops L x z_43_0 S) ∧ (((((h_X8_stops x z_43_0 S).1) = 0) → ((x ∈ L ∧ hsK ((h_X8_stops x z_43_0 S).2) x = 6 ∧ hsQ ((h_X8_stops x z_43_0 S).2) x 0 ≠ none) ∧ ((((hsQ ((h_X8_stops x z_43_0 S).2) x 0).getD 0) ∈ L ∧ hsK ((h_X8_stops x z_43_0 S).2) ((hsQ ((h_X8_stops x z_43_0 S).2) x 0).getD 0) = 10 ∧ vp_in p1 (hsN ((h_X8_stops x z_43_0 S).2) ((hsQ ((h_X8_stops x z_43_0 S).2) x 0).getD 0))) ∧ (((hsR ((h_X8_stops x z_43_0 S).2) ((hsQ ((h_X8_stops x z_43_0 S).2) x 0).getD 0) p1.toNatClampNeg) = none → ((ok_X8_numberAt_n L p2 ((h_X8_stops x z_43_0 S).2)) ∧ (True))) ∧
   (∀ a_56 : Nat, (hsR ((h_X8_stops x z_43_0 S).2) ((hsQ ((h_X8_stops x z_43_0 S).2) x 0).getD 0) p1.toNatClampNeg) = some a_56 → ((ok_X8_numberAt_s L a_56 p2 ((h_X8_stops x z_43_0 S).2)) ∧ (True))))))) ∧
  (¬ (((h_X8_stops x z_43_0 S).1) = 0) → (True))))
def h_X8_load_j19 (x : Nat) (p0 : Int32) (p1 : Int32) (p2 : Int32) (z_19_0 : Int32) (S : HS) : Int64 × HS :=
  if z_19_0 = 0 then h_X8_load_j43 x p0 p1 p2 8 S
  else oq (hsR S ((hsQ S x 0).getD 0) p1.toNatClampNeg) (h_X8_load_j43 x p0 p1 p2 (h_X8_elementCause_n p0 p2 S) S)
   (fun (a_33 : Nat) => h_X8_load_j43 x p0 p1 p2 (h_X8_elementCause_s p0 a_33 p2 S) S)
def ok_X8_load_j19 (L : List Nat) (x : Nat) (p0 : Int32) (p1 : Int32) (p2 : Int32) (z_19_0 : Int32) (S : HS) : Prop :=
  ((z_19_0 = 0) → (ok_X8_load_j43 L x p0 p1 p2 8 S)) ∧
  (¬ (z_19_0 = 0) → ((x ∈ L ∧ hsK S x = 6 ∧ hsQ S x 0 ≠ none) ∧ ((((hsQ S x 0).getD 0) ∈ L ∧ hsK S ((hsQ S x 0).getD 0) = 10 ∧ vp_in p1 (hsN S ((hsQ S x 0).getD 0))) ∧ (((hsR S ((hsQ S x 0).getD 0) p1.toNatClampNeg) = none → ((ok_X8_elementCause_n L p0 p2 S) ∧ (ok_X8_load_j43 L x p0 p1 p2 (h_X8_elementCause_n p0 p2 S) S))) ∧
   (∀ a_33 : Nat, (hsR S ((hsQ S x 0).getD 0) p1.toNatClampNeg) = some a_33 → ((ok_X8_elementCause_s L p0 a_33 p2 S) ∧ (ok_X8_load_j43 L x p0 p1 p2 (h_X8_elementCause_s p0 a_33 p2 S) S)))))))
def h_X8_load (x : Nat) (p0 : Int32) (p1 : Int32) (p2 : Int32) (S : HS) : Int64 × HS :=
  if (s_X8_isNumberType p0) = 0 then h_X8_load_j19 x p0 p1 p2 0 S
  else if (s_X8_isCell p1) = 0 then h_X8_load_j19 x p0 p1 p2 0 S
   else h_X8_load_j19 x p0 p1 p2 1 S
def ok_X8_load (L : List Nat) (x : Nat) (p0 : Int32) (p1 : Int32) (p2 : Int32) (S : HS) : Prop :=
  (((s_X8_isNumberType p0) = 0) → (ok_X8_load_j19 L x p0 p1 p2 0 S)) ∧
  (¬ ((s_X8_isNumberType p0) = 0) → ((((s_X8_isCell p1) = 0) → (ok_X8_load_j19 L x p0 p1 p2 0 S)) ∧
   (¬ ((s_X8_isCell p1) = 0) → (ok_X8_load_j19 L x p0 p1 p2 1 S))))
set_option maxHeartbeats 4000000 in
set_option maxRecDepth 100000 in
theorem hm_X8_load (l : Launch) (G : GE) (L : List Nat) (S : HS) (x : Nat) (p0 : Int32) (p1 : Int32) (p2 : Int32) (hok : ok_X8_load L x p0 p1 p2 S) : HmL l G yX8_load wsX8_load 4 86 [.ref x, .int p0, .int p1, .int p2] L S (h_X8_load x p0 p1 p2 S) := by
  refine Met.ofW (cc := cX8_load) (maxL := 5) (ret := (some .long)) (by decide) rfl ?_
  intro p e s m args below meth c s₁ B hml hv
  obtain ⟨rfl, hP, hK, hnd, hE⟩ := hv
  have hx := B.exec
  have hb := B.bytes
  have hr := B.returns
  have hts := atoms_spec (ws := wsX8_load) B.pre
  have hown : s.vm.findClass RX8 = some m.cls := findClass_of_methodNamed B.named
  have hlocks := B.notSynchronized
  have hD := nd_D hnd
  have hS : va_S (AL L) s.heap s.heap [] := va_S.rf
  have hl := lv_entry ([.ref x, .int p0, .int p1, .int p2]) (n := 5) (Nat.le_of_ble_eq_true rfl)
  rw [lg_entry_eq]
  generalize (lg_sl ([.ref x, .int p0, .int p1, .int p2]) ++ List.replicate (5 - (lg_sl ([.ref x, .int p0, .int p1, .int p2])).length) Slot.unset).toArray = ls at hl ⊢
  have hl : lv_has ls 5 [(0, .ref x), (1, .int p0), (2, .int p1), (3, .int p2)] := hl
  obtain ⟨Z, hZ⟩ : ∃ z, z = MQ below (hm_QL G L (h_X8_load x p0 p1 p2 S)) ([.ref x, .int p0, .int p1, .int p2] : List Value).toArray s 0 0 (AL L) := ⟨_, rfl⟩
  rw [← hZ]
  refine lv_iload_n hx hb dX8_load_0 rfl (lv_at hl 1 rfl) ?_
  refine pm_callI (va_runS (As := [.int p0]) (rest := []) ⟨hx, hb, hml, hown, hts⟩ (pm_X8_isNumberType l p0) (va_cwS 1 hts gX8_load_X8_isNumberType rfl rfl rfl hd_X8_isNumberType ⟨Nat.le_of_ble_eq_true rfl, Nat.le_of_ble_eq_true rfl⟩) ⟨pm_fbT, fun U hU hW => ⟨rfl, trivial⟩⟩ rfl rfl hl.1 rfl (lv_room (Nat.le_of_ble_eq_true rfl)) dX8_load_1 ⟨Nat.le_refl 0, Nat.le_refl 0⟩) hS (fun H locs _ hk9 hS => ?_)
  replace hP := P_keep hP hk9
  have K_19 : ∀ (z_19_0 : Int32) (H : Heap) (locs : List Loc), va_P (gD G) vwCl (va_pl L (PF G S)) H → va_S (AL L) s.heap H locs → ∀ (ls : Array Slot), lv_has ls 5 [(0, .ref x), (1, .int p0), (2, .int p1), (3, .int p2)] → ok_X8_load_j19 L x p0 p1 p2 z_19_0 S → h_X8_load x p0 p1 p2 S = h_X8_load_j19 x p0 p1 p2 z_19_0 S → W p l e (pm_R 4 86) s m ([.ref x, .int p0, .int p1, .int p2] : List Value).toArray below meth c H locs 0 0 Z (F0 m 19 ls [.int z_19_0]) := by
    intro z_19_0 H locs hP hS ls hl hok hK_19
    refine lv_istore (lv' := [(4, .int z_19_0), (0, .ref x), (1, .int p0), (2, .int p1), (3, .int p2)]) hx hb dX8_load_19 hl (by decide) rfl (fun ls hl => ?_)
    refine lv_aload_n hx hb dX8_load_21 rfl (lv_at hl 1 rfl) ?_
    refine lv_iload hx hb dX8_load_22 (lv_at hl 0 rfl) ?_
    have K_43 : ∀ (z_43_0 : Int32) (H : Heap) (locs : List Loc), va_P (gD G) vwCl (va_pl L (PF G S)) H → va_S (AL L) s.heap H locs → ∀ (ls : Array Slot), lv_has ls 5 [(0, .ref x), (2, .int p1), (3, .int p2)] → ok_X8_load_j43 L x p0 p1 p2 z_43_0 S → h_X8_load x p0 p1 p2 S = h_X8_load_j43 x p0 p1 p2 z_43_0 S → W p l e (pm_R 4 86) s m ([.ref x, .int p0, .int p1, .int p2] : List Value).toArray below meth c H locs 0 0 Z (F0 m 43 ls [.int z_43_0, .ref x]) := by
      intro z_43_0 H locs hP hS ls hl hok hK_43
      obtain ⟨h_43k, hok⟩ := hok
      obtain ⟨h_43, hok⟩ := hok
      refine hm_callI (G := G) (a := ([.ref x, .int z_43_0] : List Value).toArray) (pr := (h_X8_stops x z_43_0 S)) (rest := []) ?_ hS (fun H locs hP hS => ?_)
      ·
        exact va_runV (As := [.int z_43_0]) (rest := []) ⟨hx, hb, hml, hown, hts⟩ (hm_X8_stops l G L S x z_43_0 h_43) (cwV 1 hts gX8_load_X8_stops rfl rfl rfl hdv_X8_stops ⟨Nat.le_of_ble_eq_true rfl, Nat.le_of_ble_eq_true rfl⟩) ⟨HW.fb, hp_recv hK hP h_43k.1 (PF_6 h_43k.2) rfl, fun U hU hW => ⟨rfl, HW.call hP hK hnd hE hS U hU hW⟩⟩ rfl rfl hl.1 rfl (lv_room (Nat.le_of_ble_eq_true rfl)) dX8_load_43 ⟨Nat.le_refl 0, Nat.le_refl 0⟩
      ·
        refine lv_if_eq (tgt := 51) hx hb dX8_load_46 (by decide) (fun c_46 => ?_) (fun c_46 => ?_)
        ·
          have hok := (hok).1 c_46
          refine lv_aload_n hx hb dX8_load_51 rfl (lv_at hl 0 rfl) ?_
          obtain ⟨h_52, hok⟩ := hok
          refine hp_getR (ci := 6) (C := RX8) (T := TX8) (N := 4) hx hb hts iw_X8_load_X8 hown hK hP h_52.1 (PF_6 h_52.2.1) rfl 0 (by decide) (hts _ (List.mem_of_getElem? (i := 1) rfl)) (fun _ h9 => h9) rfl h_52.2.2 dX8_load_52 ?_
          refine lv_iload_n hx hb dX8_load_55 rfl (lv_at hl 1 rfl) ?_
          obtain ⟨h_56, hok⟩ := hok
          refine hp_aald hx hb hK hP h_56.1 2 (PF_10 h_56.2.1) rfl h_56.2.2 dX8_load_56 ?_
          refine lv_topq (fun r_56 er_56 => ?_)
          rcases r_56 with _ | a_56
          ·
            have hok := (hok).1 er_56.symm
            refine lv_iload_n hx hb dX8_load_57 rfl (lv_at hl 2 rfl) ?_
            obtain ⟨h_58, hok⟩ := hok
            refine hm_callLr (G := G) (S1 := (h_X8_stops x z_43_0 S).2) (a := ([.null, .int p2] : List Value).toArray) (rest := []) (h_X8_numberAt_n p2 ((h_X8_stops x z_43_0 S).2)) ?_ hS (fun H locs hP hS => ?_)
            ·
              exact va_runS (As := [.null, .int p2]) (rest := []) ⟨hx, hb, hml, hown, hts⟩ (hm_X8_numberAt_n l G L ((h_X8_stops x z_43_0 S).2) p2 h_58) (va_cwS 2 hts gX8_load_X8_numberAt rfl rfl rfl hd_X8_numberAt ⟨Nat.le_of_ble_eq_true rfl, Nat.le_of_ble_eq_true rfl⟩) ⟨HW.fb, fun U hU hW => ⟨rfl, HW.call hP hK hnd hE hS U hU hW⟩⟩ rfl rfl hl.1 rfl (lv_room (Nat.le_of_ble_eq_true rfl)) dX8_load_58 ⟨Nat.le_refl 0, Nat.le_refl 0⟩
            ·
              rw [hZ]
              exact hm_lret hx hb hr hlocks hS hP hK hnd hE (((hK_43).trans ((if_pos c_46).trans (oq_none er_56.symm)))) dX8_load_61
          ·
            have hok := (hok).2 _ er_56.symm
            refine lv_iload_n hx hb dX8_load_57 rfl (lv_at hl 2 rfl) ?_
            obtain ⟨h_58, hok⟩ := hok
            refine hm_callLr (G := G) (S1 := (h_X8_stops x z_43_0 S).2) (a := ([.ref a_56, .int p2] : List Value).toArray) (rest := []) (h_X8_numberAt_s a_56 p2 ((h_X8_stops x z_43_0 S).2)) ?_ hS (fun H locs hP hS => ?_)
            ·
              exact va_runS (As := [.ref a_56, .int p2]) (rest := []) ⟨hx, hb, hml, hown, hts⟩ (hm_X8_numberAt_s l G L ((h_X8_stops x z_43_0 S).2) a_56 p2 h_58) (va_cwS 2 hts gX8_load_X8_numberAt rfl rfl rfl hd_X8_numberAt ⟨Nat.le_of_ble_eq_true rfl, Nat.le_of_ble_eq_true rfl⟩) ⟨HW.fb, fun U hU hW => ⟨rfl, HW.call hP hK hnd hE hS U hU hW⟩⟩ rfl rfl hl.1 rfl (lv_room (Nat.le_of_ble_eq_true rfl)) dX8_load_58 ⟨Nat.le_refl 0, Nat.le_refl 0⟩
            ·
              rw [hZ]
              exact hm_lret hx hb hr hlocks hS hP hK hnd hE (((hK_43).trans ((if_pos c_46).trans (oq_some er_56.symm)))) dX8_load_61
        ·
          have hok := (hok).2 c_46
          refine lv_lconst (v := 0) hx hb dX8_load_49 (by decide) ?_
          rw [hZ]
          exact hm_lret hx hb hr hlocks hS hP hK hnd hE (((hK_43).trans (if_neg c_46))) dX8_load_50
    refine lv_if_eq (tgt := 41) hx hb dX8_load_24 (by decide) (fun c_24 => ?_) (fun c_24 => ?_)
    ·
      have hok := (hok).1 c_24
      refine lv_bipush (v := 8) hx hb dX8_load_41 (by decide) ?_
      exact K_43 8 _ _ hP hS ls (lv_sub hl [1, 3, 4] rfl) hok (((hK_19).trans (if_pos c_24)))
    ·
      have hok := (hok).2 c_24
      refine lv_iload_n hx hb dX8_load_27 rfl (lv_at hl 2 rfl) ?_
      refine lv_aload_n hx hb dX8_load_28 rfl (lv_at hl 1 rfl) ?_
      obtain ⟨h_29, hok⟩ := hok
      refine hp_getR (ci := 6) (C := RX8) (T := TX8) (N := 4) hx hb hts iw_X8_load_X8 hown hK hP h_29.1 (PF_6 h_29.2.1) rfl 0 (by decide) (hts _ (List.mem_of_getElem? (i := 1) rfl)) (fun _ h9 => h9) rfl h_29.2.2 dX8_load_29 ?_
      refine lv_iload_n hx hb dX8_load_32 rfl (lv_at hl 3 rfl) ?_
      obtain ⟨h_33, hok⟩ := hok
      refine hp_aald hx hb hK hP h_33.1 2 (PF_10 h_33.2.1) rfl h_33.2.2 dX8_load_33 ?_
      refine lv_topq (fun r_33 er_33 => ?_)
      rcases r_33 with _ | a_33
      ·
        have hok := (hok).1 er_33.symm
        refine lv_iload_n hx hb dX8_load_34 rfl (lv_at hl 4 rfl) ?_
        obtain ⟨h_35, hok⟩ := hok
        refine hm_callIr (G := G) (S1 := S) (a := ([.int p0, .null, .int p2] : List Value).toArray) (rest := [.ref x]) (h_X8_elementCause_n p0 p2 S) ?_ hS (fun H locs hP hS => ?_)
        ·
          exact va_runS (As := [.int p0, .null, .int p2]) (rest := [.ref x]) ⟨hx, hb, hml, hown, hts⟩ (hm_X8_elementCause_n l G L S p0 p2 h_35) (va_cwS 3 hts gX8_load_X8_elementCause rfl rfl rfl hd_X8_elementCause ⟨Nat.le_of_ble_eq_true rfl, Nat.le_of_ble_eq_true rfl⟩) ⟨HW.fb, fun U hU hW => ⟨rfl, HW.call hP hK hnd hE hS U hU hW⟩⟩ rfl rfl hl.1 rfl (lv_room (Nat.le_of_ble_eq_true rfl)) dX8_load_35 ⟨Nat.le_refl 0, Nat.le_refl 0⟩
        ·
          refine lv_goto (tgt := 43) hx hb dX8_load_38 (by decide) ?_
          exact K_43 (h_X8_elementCause_n p0 p2 S) _ _ hP hS ls (lv_sub hl [1, 3, 4] rfl) hok (((hK_19).trans ((if_neg c_24).trans (oq_none er_33.symm))))
      ·
        have hok := (hok).2 _ er_33.symm
        refine lv_iload_n hx hb dX8_load_34 rfl (lv_at hl 4 rfl) ?_
        obtain ⟨h_35, hok⟩ := hok
        refine hm_callIr (G := G) (S1 := S) (a := ([.int p0, .ref a_33, .int p2] : List Value).toArray) (rest := [.ref x]) (h_X8_elementCause_s p0 a_33 p2 S) ?_ hS (fun H locs hP hS => ?_)
        ·
          exact va_runS (As := [.int p0, .ref a_33, .int p2]) (rest := [.ref x]) ⟨hx, hb, hml, hown, hts⟩ (hm_X8_elementCause_s l G L S p0 a_33 p2 h_35) (va_cwS 3 hts gX8_load_X8_elementCause rfl rfl rfl hd_X8_elementCause ⟨Nat.le_of_ble_eq_true rfl, Nat.le_of_ble_eq_true rfl⟩) ⟨HW.fb, fun U hU hW => ⟨rfl, HW.call hP hK hnd hE hS U hU hW⟩⟩ rfl rfl hl.1 rfl (lv_room (Nat.le_of_ble_eq_true rfl)) dX8_load_35 ⟨Nat.le_refl 0, Nat.le_refl 0⟩
        ·
          refine lv_goto (tgt := 43) hx hb dX8_load_38 (by decide) ?_
          exact K_43 (h_X8_elementCause_s p0 a_33 p2 S) _ _ hP hS ls (lv_sub hl [1, 3, 4] rfl) hok (((hK_19).trans ((if_neg c_24).trans (oq_some er_33.symm))))
  refine lv_if_eq (tgt := 18) hx hb dX8_load_4 (by decide) (fun c_4 => ?_) (fun c_4 => ?_)
  ·
    have hok := (hok).1 c_4
    refine lv_iconst (v := 0) hx hb dX8_load_18 (by decide) ?_
    exact K_19 0 _ _ hP hS ls (lv_sub hl [0, 1, 2, 3] rfl) hok ((if_pos c_4))
  ·
    have hok := (hok).2 c_4
    refine lv_iload_n hx hb dX8_load_7 rfl (lv_at hl 2 rfl) ?_
    refine pm_callI (va_runS (As := [.int p1]) (rest := []) ⟨hx, hb, hml, hown, hts⟩ (pm_X8_isCell l p1) (va_cwS 1 hts gX8_load_X8_isCell rfl rfl rfl hd_X8_isCell ⟨Nat.le_of_ble_eq_true rfl, Nat.le_of_ble_eq_true rfl⟩) ⟨pm_fbT, fun U hU hW => ⟨rfl, trivial⟩⟩ rfl rfl hl.1 rfl (lv_room (Nat.le_of_ble_eq_true rfl)) dX8_load_8 ⟨Nat.le_refl 0, Nat.le_refl 0⟩) hS (fun H locs _ hk9 hS => ?_)
    replace hP := P_keep hP hk9
    refine lv_if_eq (tgt := 18) hx hb dX8_load_11 (by decide) (fun c_11 => ?_) (fun c_11 => ?_)
    ·
      have hok := (hok).1 c_11
      refine lv_iconst (v := 0) hx hb dX8_load_18 (by decide) ?_
      exact K_19 0 _ _ hP hS ls (lv_sub hl [0, 1, 2, 3] rfl) hok (((if_neg c_4).trans (if_pos c_11)))
    ·
      have hok := (hok).2 c_11
      refine lv_iconst (v := 1) hx hb dX8_load_14 (by decide) ?_
      refine lv_goto (tgt := 19) hx hb dX8_load_15 (by decide) ?_
      exact K_19 1 _ _ hP hS ls (lv_sub hl [0, 1, 2, 3] rfl) hok (((if_neg c_4).trans (if_neg c_11)))
theorem hdv_X8_take : yX8_take.cls = RX8 ∧ yX8_take.cls ≠ "java/lang/invoke/MethodHandle" ∧ yX8_take.cls ≠ "java/lang/invoke/VarHandle" ∧ (parseMethodDescriptor yX8_take.desc).map (fun d => d.parameters.length) = some 4 := by decide +kernel
theorem iw_X8_take_X8 : ∀ w ∈ u_ws RX8 TX8 4, w ∈ wsX8_take := by decide +kernel
def h_X8_take_j51 (x : Nat) (p0 : Int32) (p1 : Int32) (p2 : Int32) (p3 : Int32) (z_51_0 : Int32) (S : HS) : Int32 × HS :=
  if ((h_X8_stops x z_51_0 S).1) = 0 then oq (hsR ((h_X8_stops x z_51_0 S).2) ((hsQ ((h_X8_stops x z_51_0 S).2) x 0).getD 0) p1.toNatClampNeg) (oq (h_X8_elementAt_n p2 ((h_X8_stops x z_51_0 S).2)) ((1, (hwR ((h_X8_stops x z_51_0 S).2) ((hsQ ((h_X8_stops x z_51_0 S).2) x 0).getD 0) p3.toNatClampNeg none)))
    (fun (a_72 : Nat) => (1, (hwR ((h_X8_stops x z_51_0 S).2) ((hsQ ((h_X8_stops x z_51_0 S).2) x 0).getD 0) p3.toNatClampNeg (some a_72)))))
   (fun (a_70 : Nat) => oq (h_X8_elementAt_s a_70 p2 ((h_X8_stops x z_51_0 S).2)) ((1, (hwR ((h_X8_stops x z_51_0 S).2) ((hsQ ((h_X8_stops x z_51_0 S).2) x 0).getD 0) p3.toNatClampNeg none)))
    (fun (a_72 : Nat) => (1, (hwR ((h_X8_stops x z_51_0 S).2) ((hsQ ((h_X8_stops x z_51_0 S).2) x 0).getD 0) p3.toNatClampNeg (some a_72)))))
  else (0, (h_X8_stops x z_51_0 S).2)
def ok_X8_take_j51 (L : List Nat) (x : Nat) (p0 : Int32) (p1 : Int32) (p2 : Int32) (p3 : Int32) (z_51_0 : Int32) (S : HS) : Prop :=
  (x ∈ L ∧ hsK S x = 6) ∧ ((ok_X8_stops L x z_51_0 S) ∧ (((((h_X8_stops x z_51_0 S).1) = 0) → ((x ∈ L ∧ hsK ((h_X8_stops x z_51_0 S).2) x = 6 ∧ hsQ ((h_X8_stops x z_51_0 S).2) x 0 ≠ none) ∧ ((x ∈ L ∧ hsK ((h_X8_stops x z_51_0 S).2) x = 6 ∧ hsQ ((h_X8_stops x z_51_0 S).2) x 0 ≠ none) ∧ ((((hsQ ((h_X8_stops x z_51_0 S).2) x 0).getD 0) ∈ L ∧ hsK ((h_X8_stops x z_51_0 S).2) ((hsQ ((h_X8_stops x z_51_0 S).2) x 0).getD 0) = 10 ∧ vp_in p1 (hsN ((h_X8_stops x z_51_0 S).2) ((hsQ ((h_X8_stops x z_51_0 S).2) x 0).getD 0))) ∧ (((hsR ((h_X8_stops x z_51_0 S).2) ((hsQ ((h_X8_stops x z_51_0 S).2) x 0).getD 0) p1.toNatClampNeg) = none → ((ok_X8_elementAt_n L p2 ((h_X8_stops x z_51_0 S).2)) ∧ (((h_X8_elementAt_n p2 ((h_X8_stops x z_51_0 S).2)) = none → ((((hsQ ((h_X8_stops x z_51_0 S).2) x 0).getD 0) ∈ L ∧ hsK ((h_X8_stops x z_51_0 S).2) ((hsQ ((h_X8_stops x z_51_0 S).2) x 0).getD 0) = 10 ∧ vp_in p3 (hsN ((h_X8_stops x z_51_0 S).2) ((hsQ ((h_X8_stops x z_51_0 S).2) x 0).getD 0))) ∧ (True))) ∧
    (∀ a_72 : Nat, (h_X8_elementAt_n p2 ((h_X8_stops x z_51_0 S).2)) = some a_72 → (((((hsQ ((h_X8_stops x z_51_0 S).2) x 0).getD 0) ∈ L ∧ hsK ((h_X8_stops x z_51_0 S).2) ((hsQ ((h_X8_stops x z_51_0 S).2) x 0).getD 0) = 10 ∧ vp_in p3 (hsN ((h_X8_stops x z_51_0 S).2) ((hsQ ((h_X8_stops x z_51_0 S).2) x 0).getD 0))) ∧ a_72 ∈ L ∧ 1 ≤ hsK ((h_X8_stops x z_51_0 S).2) a_72 ∧ hsK ((h_X8_stops x z_51_0 S).2) a_72 ≤ 5) ∧ (True)))))) ∧
   (∀ a_70 : Nat, (hsR ((h_X8_stops x z_51_0 S).2) ((hsQ ((h_X8_stops x z_51_0 S).2) x 0).getD 0) p1.toNatClampNeg) = some a_70 → ((ok_X8_elementAt_s L a_70 p2 ((h_X8_stops x z_51_0 S).2)) ∧ (((h_X8_elementAt_s a_70 p2 ((h_X8_stops x z_51_0 S).2)) = none → ((((hsQ ((h_X8_stops x z_51_0 S).2) x 0).getD 0) ∈ L ∧ hsK ((h_X8_stops x z_51_0 S).2) ((hsQ ((h_X8_stops x z_51_0 S).2) x 0).getD 0) = 10 ∧ vp_in p3 (hsN ((h_X8_stops x z_51_0 S).2) ((hsQ ((h_X8_stops x z_51_0 S).2) x 0).getD 0))) ∧ (True))) ∧
    (∀ a_72 : Nat, (h_X8_elementAt_s a_70 p2 ((h_X8_stops x z_51_0 S).2)) = some a_72 → (((((hsQ ((h_X8_stops x z_51_0 S).2) x 0).getD 0) ∈ L ∧ hsK ((h_X8_stops x z_51_0 S).2) ((hsQ ((h_X8_stops x z_51_0 S).2) x 0).getD 0) = 10 ∧ vp_in p3 (hsN ((h_X8_stops x z_51_0 S).2) ((hsQ ((h_X8_stops x z_51_0 S).2) x 0).getD 0))) ∧ a_72 ∈ L ∧ 1 ≤ hsK ((h_X8_stops x z_51_0 S).2) a_72 ∧ hsK ((h_X8_stops x z_51_0 S).2) a_72 ≤ 5) ∧ (True))))))))))) ∧
  (¬ (((h_X8_stops x z_51_0 S).1) = 0) → (True))))
def h_X8_take_j27 (x : Nat) (p0 : Int32) (p1 : Int32) (p2 : Int32) (p3 : Int32) (z_27_0 : Int32) (S : HS) : Int32 × HS :=
  if z_27_0 = 0 then h_X8_take_j51 x p0 p1 p2 p3 8 S
  else oq (hsR S ((hsQ S x 0).getD 0) p1.toNatClampNeg) (h_X8_take_j51 x p0 p1 p2 p3 (h_X8_elementCause_n p0 p2 S) S)
   (fun (a_41 : Nat) => h_X8_take_j51 x p0 p1 p2 p3 (h_X8_elementCause_s p0 a_41 p2 S) S)
def ok_X8_take_j27 (L : List Nat) (x : Nat) (p0 : Int32) (p1 : Int32) (p2 : Int32) (p3 : Int32) (z_27_0 : Int32) (S : HS) : Prop :=
  ((z_27_0 = 0) → (ok_X8_take_j51 L x p0 p1 p2 p3 8 S)) ∧
  (¬ (z_27_0 = 0) → ((x ∈ L ∧ hsK S x = 6 ∧ hsQ S x 0 ≠ none) ∧ ((((hsQ S x 0).getD 0) ∈ L ∧ hsK S ((hsQ S x 0).getD 0) = 10 ∧ vp_in p1 (hsN S ((hsQ S x 0).getD 0))) ∧ (((hsR S ((hsQ S x 0).getD 0) p1.toNatClampNeg) = none → ((ok_X8_elementCause_n L p0 p2 S) ∧ (ok_X8_take_j51 L x p0 p1 p2 p3 (h_X8_elementCause_n p0 p2 S) S))) ∧
   (∀ a_41 : Nat, (hsR S ((hsQ S x 0).getD 0) p1.toNatClampNeg) = some a_41 → ((ok_X8_elementCause_s L p0 a_41 p2 S) ∧ (ok_X8_take_j51 L x p0 p1 p2 p3 (h_X8_elementCause_s p0 a_41 p2 S) S)))))))
def h_X8_take (x : Nat) (p0 : Int32) (p1 : Int32) (p2 : Int32) (p3 : Int32) (S : HS) : Int32 × HS :=
  if (s_X8_isThingArrayType p0) = 0 then h_X8_take_j27 x p0 p1 p2 p3 0 S
  else if (s_X8_isCell p1) = 0 then h_X8_take_j27 x p0 p1 p2 p3 0 S
   else if (s_X8_isCell p3) = 0 then h_X8_take_j27 x p0 p1 p2 p3 0 S
    else h_X8_take_j27 x p0 p1 p2 p3 1 S
def ok_X8_take (L : List Nat) (x : Nat) (p0 : Int32) (p1 : Int32) (p2 : Int32) (p3 : Int32) (S : HS) : Prop :=
  (((s_X8_isThingArrayType p0) = 0) → (ok_X8_take_j27 L x p0 p1 p2 p3 0 S)) ∧
  (¬ ((s_X8_isThingArrayType p0) = 0) → ((((s_X8_isCell p1) = 0) → (ok_X8_take_j27 L x p0 p1 p2 p3 0 S)) ∧
   (¬ ((s_X8_isCell p1) = 0) → ((((s_X8_isCell p3) = 0) → (ok_X8_take_j27 L x p0 p1 p2 p3 0 S)) ∧
    (¬ ((s_X8_isCell p3) = 0) → (ok_X8_take_j27 L x p0 p1 p2 p3 1 S))))))
set_option maxHeartbeats 4000000 in
set_option maxRecDepth 100000 in
theorem hm_X8_take (l : Launch) (G : GE) (L : List Nat) (S : HS) (x : Nat) (p0 : Int32) (p1 : Int32) (p2 : Int32) (p3 : Int32) (hok : ok_X8_take L x p0 p1 p2 p3 S) : HmI l G yX8_take wsX8_take 4 86 [.ref x, .int p0, .int p1, .int p2, .int p3] L S (h_X8_take x p0 p1 p2 p3 S) := by
  refine Met.ofW (cc := cX8_take) (maxL := 6) (ret := (some .int)) (by decide) rfl ?_
  intro p e s m args below meth c s₁ B hml hv
  obtain ⟨rfl, hP, hK, hnd, hE⟩ := hv
  have hx := B.exec
  have hb := B.bytes
  have hr := B.returns
  have hts := atoms_spec (ws := wsX8_take) B.pre
  have hown : s.vm.findClass RX8 = some m.cls := findClass_of_methodNamed B.named
  have hlocks := B.notSynchronized
  have hD := nd_D hnd
  have hS : va_S (AL L) s.heap s.heap [] := va_S.rf
  have hl := lv_entry ([.ref x, .int p0, .int p1, .int p2, .int p3]) (n := 6) (Nat.le_of_ble_eq_true rfl)
  rw [lg_entry_eq]
  generalize (lg_sl ([.ref x, .int p0, .int p1, .int p2, .int p3]) ++ List.replicate (6 - (lg_sl ([.ref x, .int p0, .int p1, .int p2, .int p3])).length) Slot.unset).toArray = ls at hl ⊢
  have hl : lv_has ls 6 [(0, .ref x), (1, .int p0), (2, .int p1), (3, .int p2), (4, .int p3)] := hl
  obtain ⟨Z, hZ⟩ : ∃ z, z = MQ below (hm_QI G L (h_X8_take x p0 p1 p2 p3 S)) ([.ref x, .int p0, .int p1, .int p2, .int p3] : List Value).toArray s 0 0 (AL L) := ⟨_, rfl⟩
  rw [← hZ]
  refine lv_iload_n hx hb dX8_take_0 rfl (lv_at hl 1 rfl) ?_
  refine pm_callI (va_runS (As := [.int p0]) (rest := []) ⟨hx, hb, hml, hown, hts⟩ (pm_X8_isThingArrayType l p0) (va_cwS 1 hts gX8_take_X8_isThingArrayType rfl rfl rfl hd_X8_isThingArrayType ⟨Nat.le_of_ble_eq_true rfl, Nat.le_of_ble_eq_true rfl⟩) ⟨pm_fbT, fun U hU hW => ⟨rfl, trivial⟩⟩ rfl rfl hl.1 rfl (lv_room (Nat.le_of_ble_eq_true rfl)) dX8_take_1 ⟨Nat.le_refl 0, Nat.le_refl 0⟩) hS (fun H locs _ hk9 hS => ?_)
  replace hP := P_keep hP hk9
  have K_27 : ∀ (z_27_0 : Int32) (H : Heap) (locs : List Loc), va_P (gD G) vwCl (va_pl L (PF G S)) H → va_S (AL L) s.heap H locs → ∀ (ls : Array Slot), lv_has ls 6 [(0, .ref x), (1, .int p0), (2, .int p1), (3, .int p2), (4, .int p3)] → ok_X8_take_j27 L x p0 p1 p2 p3 z_27_0 S → h_X8_take x p0 p1 p2 p3 S = h_X8_take_j27 x p0 p1 p2 p3 z_27_0 S → W p l e (pm_R 4 86) s m ([.ref x, .int p0, .int p1, .int p2, .int p3] : List Value).toArray below meth c H locs 0 0 Z (F0 m 27 ls [.int z_27_0]) := by
    intro z_27_0 H locs hP hS ls hl hok hK_27
    refine lv_istore (lv' := [(5, .int z_27_0), (0, .ref x), (1, .int p0), (2, .int p1), (3, .int p2), (4, .int p3)]) hx hb dX8_take_27 hl (by decide) rfl (fun ls hl => ?_)
    refine lv_aload_n hx hb dX8_take_29 rfl (lv_at hl 1 rfl) ?_
    refine lv_iload hx hb dX8_take_30 (lv_at hl 0 rfl) ?_
    have K_51 : ∀ (z_51_0 : Int32) (H : Heap) (locs : List Loc), va_P (gD G) vwCl (va_pl L (PF G S)) H → va_S (AL L) s.heap H locs → ∀ (ls : Array Slot), lv_has ls 6 [(0, .ref x), (2, .int p1), (3, .int p2), (4, .int p3)] → ok_X8_take_j51 L x p0 p1 p2 p3 z_51_0 S → h_X8_take x p0 p1 p2 p3 S = h_X8_take_j51 x p0 p1 p2 p3 z_51_0 S → W p l e (pm_R 4 86) s m ([.ref x, .int p0, .int p1, .int p2, .int p3] : List Value).toArray below meth c H locs 0 0 Z (F0 m 51 ls [.int z_51_0, .ref x]) := by
      intro z_51_0 H locs hP hS ls hl hok hK_51
      obtain ⟨h_51k, hok⟩ := hok
      obtain ⟨h_51, hok⟩ := hok
      refine hm_callI (G := G) (a := ([.ref x, .int z_51_0] : List Value).toArray) (pr := (h_X8_stops x z_51_0 S)) (rest := []) ?_ hS (fun H locs hP hS => ?_)
      ·
        exact va_runV (As := [.int z_51_0]) (rest := []) ⟨hx, hb, hml, hown, hts⟩ (hm_X8_stops l G L S x z_51_0 h_51) (cwV 1 hts gX8_take_X8_stops rfl rfl rfl hdv_X8_stops ⟨Nat.le_of_ble_eq_true rfl, Nat.le_of_ble_eq_true rfl⟩) ⟨HW.fb, hp_recv hK hP h_51k.1 (PF_6 h_51k.2) rfl, fun U hU hW => ⟨rfl, HW.call hP hK hnd hE hS U hU hW⟩⟩ rfl rfl hl.1 rfl (lv_room (Nat.le_of_ble_eq_true rfl)) dX8_take_51 ⟨Nat.le_refl 0, Nat.le_refl 0⟩
      ·
        refine lv_if_eq (tgt := 59) hx hb dX8_take_54 (by decide) (fun c_54 => ?_) (fun c_54 => ?_)
        ·
          have hok := (hok).1 c_54
          refine lv_aload_n hx hb dX8_take_59 rfl (lv_at hl 0 rfl) ?_
          obtain ⟨h_60, hok⟩ := hok
          refine hp_getR (ci := 6) (C := RX8) (T := TX8) (N := 4) hx hb hts iw_X8_take_X8 hown hK hP h_60.1 (PF_6 h_60.2.1) rfl 0 (by decide) (hts _ (List.mem_of_getElem? (i := 1) rfl)) (fun _ h9 => h9) rfl h_60.2.2 dX8_take_60 ?_
          refine lv_iload hx hb dX8_take_63 (lv_at hl 3 rfl) ?_
          refine lv_aload_n hx hb dX8_take_65 rfl (lv_at hl 0 rfl) ?_
          obtain ⟨h_66, hok⟩ := hok
          refine hp_getR (ci := 6) (C := RX8) (T := TX8) (N := 4) hx hb hts iw_X8_take_X8 hown hK hP h_66.1 (PF_6 h_66.2.1) rfl 0 (by decide) (hts _ (List.mem_of_getElem? (i := 1) rfl)) (fun _ h9 => h9) rfl h_66.2.2 dX8_take_66 ?_
          refine lv_iload_n hx hb dX8_take_69 rfl (lv_at hl 1 rfl) ?_
          obtain ⟨h_70, hok⟩ := hok
          refine hp_aald hx hb hK hP h_70.1 2 (PF_10 h_70.2.1) rfl h_70.2.2 dX8_take_70 ?_
          refine lv_topq (fun r_70 er_70 => ?_)
          rcases r_70 with _ | a_70
          ·
            have hok := (hok).1 er_70.symm
            refine lv_iload_n hx hb dX8_take_71 rfl (lv_at hl 2 rfl) ?_
            obtain ⟨h_72, hok⟩ := hok
            refine hm_callQr (G := G) (S1 := (h_X8_stops x z_51_0 S).2) (a := ([.null, .int p2] : List Value).toArray) (rest := [.int p3, .ref ((hsQ ((h_X8_stops x z_51_0 S).2) x 0).getD 0)]) (h_X8_elementAt_n p2 ((h_X8_stops x z_51_0 S).2)) ?_ hS (fun H locs hP hS => ?_)
            ·
              exact va_runS (As := [.null, .int p2]) (rest := [.int p3, .ref ((hsQ ((h_X8_stops x z_51_0 S).2) x 0).getD 0)]) ⟨hx, hb, hml, hown, hts⟩ (hm_X8_elementAt_n l G L ((h_X8_stops x z_51_0 S).2) p2 h_72) (va_cwS 2 hts gX8_take_X8_elementAt rfl rfl rfl hd_X8_elementAt ⟨Nat.le_of_ble_eq_true rfl, Nat.le_of_ble_eq_true rfl⟩) ⟨HW.fb, fun U hU hW => ⟨rfl, HW.call hP hK hnd hE hS U hU hW⟩⟩ rfl rfl hl.1 rfl (lv_room (Nat.le_of_ble_eq_true rfl)) dX8_take_72 ⟨Nat.le_refl 0, Nat.le_refl 0⟩
            ·
              refine lv_topq (fun r_72 er_72 => ?_)
              rcases r_72 with _ | a_72
              ·
                have hok := (hok).1 er_72.symm
                obtain ⟨h_75, hok⟩ := hok
                refine hp_aastN (g2 := PF G (hwR ((h_X8_stops x z_51_0 S).2) ((hsQ ((h_X8_stops x z_51_0 S).2) x 0).getD 0) p3.toNatClampNeg none)) hx hb hK hP (hD _) hS h_75.1 2 (PF_10 h_75.2.1) rfl h_75.2.2 (PF_sR h_75.2.1) (fun _ hb9 => PF_wR hb9) dX8_take_75 (fun H locs hP hS => ?_)
                refine lv_iconst (v := 1) hx hb dX8_take_76 (by decide) ?_
                rw [hZ]
                exact hm_iret hx hb hr hlocks hS hP hK hnd hE (((hK_51).trans ((if_pos c_54).trans ((oq_none er_70.symm).trans (oq_none er_72.symm))))) dX8_take_77
              ·
                have hok := (hok).2 _ er_72.symm
                obtain ⟨h_75, hok⟩ := hok
                refine hp_aastT (g2 := PF G (hwR ((h_X8_stops x z_51_0 S).2) ((hsQ ((h_X8_stops x z_51_0 S).2) x 0).getD 0) p3.toNatClampNeg (some a_72))) hx hb hE.2 hK hP (hD _) hS h_75.1.1 2 (PF_10 h_75.1.2.1) rfl h_75.2 h_75.1.2.2 (PF_sR h_75.1.2.1) (fun _ hb9 => PF_wR hb9) dX8_take_75 (fun H locs hP hS => ?_)
                refine lv_iconst (v := 1) hx hb dX8_take_76 (by decide) ?_
                rw [hZ]
                exact hm_iret hx hb hr hlocks hS hP hK hnd hE (((hK_51).trans ((if_pos c_54).trans ((oq_none er_70.symm).trans (oq_some er_72.symm))))) dX8_take_77
          ·
            have hok := (hok).2 _ er_70.symm
            refine lv_iload_n hx hb dX8_take_71 rfl (lv_at hl 2 rfl) ?_
            obtain ⟨h_72, hok⟩ := hok
            refine hm_callQr (G := G) (S1 := (h_X8_stops x z_51_0 S).2) (a := ([.ref a_70, .int p2] : List Value).toArray) (rest := [.int p3, .ref ((hsQ ((h_X8_stops x z_51_0 S).2) x 0).getD 0)]) (h_X8_elementAt_s a_70 p2 ((h_X8_stops x z_51_0 S).2)) ?_ hS (fun H locs hP hS => ?_)
            ·
              exact va_runS (As := [.ref a_70, .int p2]) (rest := [.int p3, .ref ((hsQ ((h_X8_stops x z_51_0 S).2) x 0).getD 0)]) ⟨hx, hb, hml, hown, hts⟩ (hm_X8_elementAt_s l G L ((h_X8_stops x z_51_0 S).2) a_70 p2 h_72) (va_cwS 2 hts gX8_take_X8_elementAt rfl rfl rfl hd_X8_elementAt ⟨Nat.le_of_ble_eq_true rfl, Nat.le_of_ble_eq_true rfl⟩) ⟨HW.fb, fun U hU hW => ⟨rfl, HW.call hP hK hnd hE hS U hU hW⟩⟩ rfl rfl hl.1 rfl (lv_room (Nat.le_of_ble_eq_true rfl)) dX8_take_72 ⟨Nat.le_refl 0, Nat.le_refl 0⟩
            ·
              refine lv_topq (fun r_72 er_72 => ?_)
              rcases r_72 with _ | a_72
              ·
                have hok := (hok).1 er_72.symm
                obtain ⟨h_75, hok⟩ := hok
                refine hp_aastN (g2 := PF G (hwR ((h_X8_stops x z_51_0 S).2) ((hsQ ((h_X8_stops x z_51_0 S).2) x 0).getD 0) p3.toNatClampNeg none)) hx hb hK hP (hD _) hS h_75.1 2 (PF_10 h_75.2.1) rfl h_75.2.2 (PF_sR h_75.2.1) (fun _ hb9 => PF_wR hb9) dX8_take_75 (fun H locs hP hS => ?_)
                refine lv_iconst (v := 1) hx hb dX8_take_76 (by decide) ?_
                rw [hZ]
                exact hm_iret hx hb hr hlocks hS hP hK hnd hE (((hK_51).trans ((if_pos c_54).trans ((oq_some er_70.symm).trans (oq_none er_72.symm))))) dX8_take_77
              ·
                have hok := (hok).2 _ er_72.symm
                obtain ⟨h_75, hok⟩ := hok
                refine hp_aastT (g2 := PF G (hwR ((h_X8_stops x z_51_0 S).2) ((hsQ ((h_X8_stops x z_51_0 S).2) x 0).getD 0) p3.toNatClampNeg (some a_72))) hx hb hE.2 hK hP (hD _) hS h_75.1.1 2 (PF_10 h_75.1.2.1) rfl h_75.2 h_75.1.2.2 (PF_sR h_75.1.2.1) (fun _ hb9 => PF_wR hb9) dX8_take_75 (fun H locs hP hS => ?_)
                refine lv_iconst (v := 1) hx hb dX8_take_76 (by decide) ?_
                rw [hZ]
                exact hm_iret hx hb hr hlocks hS hP hK hnd hE (((hK_51).trans ((if_pos c_54).trans ((oq_some er_70.symm).trans (oq_some er_72.symm))))) dX8_take_77
        ·
          have hok := (hok).2 c_54
          refine lv_iconst (v := 0) hx hb dX8_take_57 (by decide) ?_
          rw [hZ]
          exact hm_iret hx hb hr hlocks hS hP hK hnd hE (((hK_51).trans (if_neg c_54))) dX8_take_58
    refine lv_if_eq (tgt := 49) hx hb dX8_take_32 (by decide) (fun c_32 => ?_) (fun c_32 => ?_)
    ·
      have hok := (hok).1 c_32
      refine lv_bipush (v := 8) hx hb dX8_take_49 (by decide) ?_
      exact K_51 8 _ _ hP hS ls (lv_sub hl [1, 3, 4, 5] rfl) hok (((hK_27).trans (if_pos c_32)))
    ·
      have hok := (hok).2 c_32
      refine lv_iload_n hx hb dX8_take_35 rfl (lv_at hl 2 rfl) ?_
      refine lv_aload_n hx hb dX8_take_36 rfl (lv_at hl 1 rfl) ?_
      obtain ⟨h_37, hok⟩ := hok
      refine hp_getR (ci := 6) (C := RX8) (T := TX8) (N := 4) hx hb hts iw_X8_take_X8 hown hK hP h_37.1 (PF_6 h_37.2.1) rfl 0 (by decide) (hts _ (List.mem_of_getElem? (i := 1) rfl)) (fun _ h9 => h9) rfl h_37.2.2 dX8_take_37 ?_
      refine lv_iload_n hx hb dX8_take_40 rfl (lv_at hl 3 rfl) ?_
      obtain ⟨h_41, hok⟩ := hok
      refine hp_aald hx hb hK hP h_41.1 2 (PF_10 h_41.2.1) rfl h_41.2.2 dX8_take_41 ?_
      refine lv_topq (fun r_41 er_41 => ?_)
      rcases r_41 with _ | a_41
      ·
        have hok := (hok).1 er_41.symm
        refine lv_iload_n hx hb dX8_take_42 rfl (lv_at hl 4 rfl) ?_
        obtain ⟨h_43, hok⟩ := hok
        refine hm_callIr (G := G) (S1 := S) (a := ([.int p0, .null, .int p2] : List Value).toArray) (rest := [.ref x]) (h_X8_elementCause_n p0 p2 S) ?_ hS (fun H locs hP hS => ?_)
        ·
          exact va_runS (As := [.int p0, .null, .int p2]) (rest := [.ref x]) ⟨hx, hb, hml, hown, hts⟩ (hm_X8_elementCause_n l G L S p0 p2 h_43) (va_cwS 3 hts gX8_take_X8_elementCause rfl rfl rfl hd_X8_elementCause ⟨Nat.le_of_ble_eq_true rfl, Nat.le_of_ble_eq_true rfl⟩) ⟨HW.fb, fun U hU hW => ⟨rfl, HW.call hP hK hnd hE hS U hU hW⟩⟩ rfl rfl hl.1 rfl (lv_room (Nat.le_of_ble_eq_true rfl)) dX8_take_43 ⟨Nat.le_refl 0, Nat.le_refl 0⟩
        ·
          refine lv_goto (tgt := 51) hx hb dX8_take_46 (by decide) ?_
          exact K_51 (h_X8_elementCause_n p0 p2 S) _ _ hP hS ls (lv_sub hl [1, 3, 4, 5] rfl) hok (((hK_27).trans ((if_neg c_32).trans (oq_none er_41.symm))))
      ·
        have hok := (hok).2 _ er_41.symm
        refine lv_iload_n hx hb dX8_take_42 rfl (lv_at hl 4 rfl) ?_
        obtain ⟨h_43, hok⟩ := hok
        refine hm_callIr (G := G) (S1 := S) (a := ([.int p0, .ref a_41, .int p2] : List Value).toArray) (rest := [.ref x]) (h_X8_elementCause_s p0 a_41 p2 S) ?_ hS (fun H locs hP hS => ?_)
        ·
          exact va_runS (As := [.int p0, .ref a_41, .int p2]) (rest := [.ref x]) ⟨hx, hb, hml, hown, hts⟩ (hm_X8_elementCause_s l G L S p0 a_41 p2 h_43) (va_cwS 3 hts gX8_take_X8_elementCause rfl rfl rfl hd_X8_elementCause ⟨Nat.le_of_ble_eq_true rfl, Nat.le_of_ble_eq_true rfl⟩) ⟨HW.fb, fun U hU hW => ⟨rfl, HW.call hP hK hnd hE hS U hU hW⟩⟩ rfl rfl hl.1 rfl (lv_room (Nat.le_of_ble_eq_true rfl)) dX8_take_43 ⟨Nat.le_refl 0, Nat.le_refl 0⟩
        ·
          refine lv_goto (tgt := 51) hx hb dX8_take_46 (by decide) ?_
          exact K_51 (h_X8_elementCause_s p0 a_41 p2 S) _ _ hP hS ls (lv_sub hl [1, 3, 4, 5] rfl) hok (((hK_27).trans ((if_neg c_32).trans (oq_some er_41.symm))))
  refine lv_if_eq (tgt := 26) hx hb dX8_take_4 (by decide) (fun c_4 => ?_) (fun c_4 => ?_)
  ·
    have hok := (hok).1 c_4
    refine lv_iconst (v := 0) hx hb dX8_take_26 (by decide) ?_
    exact K_27 0 _ _ hP hS ls (lv_sub hl [0, 1, 2, 3, 4] rfl) hok ((if_pos c_4))
  ·
    have hok := (hok).2 c_4
    refine lv_iload_n hx hb dX8_take_7 rfl (lv_at hl 2 rfl) ?_
    refine pm_callI (va_runS (As := [.int p1]) (rest := []) ⟨hx, hb, hml, hown, hts⟩ (pm_X8_isCell l p1) (va_cwS 1 hts gX8_take_X8_isCell rfl rfl rfl hd_X8_isCell ⟨Nat.le_of_ble_eq_true rfl, Nat.le_of_ble_eq_true rfl⟩) ⟨pm_fbT, fun U hU hW => ⟨rfl, trivial⟩⟩ rfl rfl hl.1 rfl (lv_room (Nat.le_of_ble_eq_true rfl)) dX8_take_8 ⟨Nat.le_refl 0, Nat.le_refl 0⟩) hS (fun H locs _ hk9 hS => ?_)
    replace hP := P_keep hP hk9
    refine lv_if_eq (tgt := 26) hx hb dX8_take_11 (by decide) (fun c_11 => ?_) (fun c_11 => ?_)
    ·
      have hok := (hok).1 c_11
      refine lv_iconst (v := 0) hx hb dX8_take_26 (by decide) ?_
      exact K_27 0 _ _ hP hS ls (lv_sub hl [0, 1, 2, 3, 4] rfl) hok (((if_neg c_4).trans (if_pos c_11)))
    ·
      have hok := (hok).2 c_11
      refine lv_iload hx hb dX8_take_14 (lv_at hl 4 rfl) ?_
      refine pm_callI (va_runS (As := [.int p3]) (rest := []) ⟨hx, hb, hml, hown, hts⟩ (pm_X8_isCell l p3) (va_cwS 1 hts gX8_take_X8_isCell rfl rfl rfl hd_X8_isCell ⟨Nat.le_of_ble_eq_true rfl, Nat.le_of_ble_eq_true rfl⟩) ⟨pm_fbT, fun U hU hW => ⟨rfl, trivial⟩⟩ rfl rfl hl.1 rfl (lv_room (Nat.le_of_ble_eq_true rfl)) dX8_take_16 ⟨Nat.le_refl 0, Nat.le_refl 0⟩) hS (fun H locs _ hk9 hS => ?_)
      replace hP := P_keep hP hk9
      refine lv_if_eq (tgt := 26) hx hb dX8_take_19 (by decide) (fun c_19 => ?_) (fun c_19 => ?_)
      ·
        have hok := (hok).1 c_19
        refine lv_iconst (v := 0) hx hb dX8_take_26 (by decide) ?_
        exact K_27 0 _ _ hP hS ls (lv_sub hl [0, 1, 2, 3, 4] rfl) hok (((if_neg c_4).trans ((if_neg c_11).trans (if_pos c_19))))
      ·
        have hok := (hok).2 c_19
        refine lv_iconst (v := 1) hx hb dX8_take_22 (by decide) ?_
        refine lv_goto (tgt := 27) hx hb dX8_take_23 (by decide) ?_
        exact K_27 1 _ _ hP hS ls (lv_sub hl [0, 1, 2, 3, 4] rfl) hok (((if_neg c_4).trans ((if_neg c_11).trans (if_neg c_19))))
theorem hdv_X8_cross : yX8_cross.cls = RX8 ∧ yX8_cross.cls ≠ "java/lang/invoke/MethodHandle" ∧ yX8_cross.cls ≠ "java/lang/invoke/VarHandle" ∧ (parseMethodDescriptor yX8_cross.desc).map (fun d => d.parameters.length) = some 3 := by decide +kernel
theorem iw_X8_cross_X8 : ∀ w ∈ u_ws RX8 TX8 4, w ∈ wsX8_cross := by decide +kernel
def h_X8_cross_j24 (x : Nat) (p0 : Int32) (p1 : Int32) (p2 : Int32) (z_24_0 : Int32) (S : HS) : Int32 × HS :=
  if ((h_X8_stops x z_24_0 S).1) = 0 then oq (hsR ((h_X8_stops x z_24_0 S).2) ((hsQ ((h_X8_stops x z_24_0 S).2) x 0).getD 0) p0.toNatClampNeg) (oq (h_X8_elementAt_n p1 ((h_X8_stops x z_24_0 S).2)) (((h_X8_numberAt_n p2 ((h_X8_stops x z_24_0 S).2)).toInt32, (h_X8_stops x z_24_0 S).2))
    (fun (a_39 : Nat) => ((h_X8_numberAt_s a_39 p2 ((h_X8_stops x z_24_0 S).2)).toInt32, (h_X8_stops x z_24_0 S).2)))
   (fun (a_37 : Nat) => oq (h_X8_elementAt_s a_37 p1 ((h_X8_stops x z_24_0 S).2)) (((h_X8_numberAt_n p2 ((h_X8_stops x z_24_0 S).2)).toInt32, (h_X8_stops x z_24_0 S).2))
    (fun (a_39 : Nat) => ((h_X8_numberAt_s a_39 p2 ((h_X8_stops x z_24_0 S).2)).toInt32, (h_X8_stops x z_24_0 S).2)))
  else (0, (h_X8_stops x z_24_0 S).2)
def ok_X8_cross_j24 (L : List Nat) (x : Nat) (p0 : Int32) (p1 : Int32) (p2 : Int32) (z_24_0 : Int32) (S : HS) : Prop :=
  (x ∈ L ∧ hsK S x = 6) ∧ ((ok_X8_stops L x z_24_0 S) ∧ (((((h_X8_stops x z_24_0 S).1) = 0) → ((x ∈ L ∧ hsK ((h_X8_stops x z_24_0 S).2) x = 6 ∧ hsQ ((h_X8_stops x z_24_0 S).2) x 0 ≠ none) ∧ ((((hsQ ((h_X8_stops x z_24_0 S).2) x 0).getD 0) ∈ L ∧ hsK ((h_X8_stops x z_24_0 S).2) ((hsQ ((h_X8_stops x z_24_0 S).2) x 0).getD 0) = 10 ∧ vp_in p0 (hsN ((h_X8_stops x z_24_0 S).2) ((hsQ ((h_X8_stops x z_24_0 S).2) x 0).getD 0))) ∧ (((hsR ((h_X8_stops x z_24_0 S).2) ((hsQ ((h_X8_stops x z_24_0 S).2) x 0).getD 0) p0.toNatClampNeg) = none → ((ok_X8_elementAt_n L p1 ((h_X8_stops x z_24_0 S).2)) ∧ (((h_X8_elementAt_n p1 ((h_X8_stops x z_24_0 S).2)) = none → ((ok_X8_numberAt_n L p2 ((h_X8_stops x z_24_0 S).2)) ∧ (True))) ∧
    (∀ a_39 : Nat, (h_X8_elementAt_n p1 ((h_X8_stops x z_24_0 S).2)) = some a_39 → ((ok_X8_numberAt_s L a_39 p2 ((h_X8_stops x z_24_0 S).2)) ∧ (True)))))) ∧
   (∀ a_37 : Nat, (hsR ((h_X8_stops x z_24_0 S).2) ((hsQ ((h_X8_stops x z_24_0 S).2) x 0).getD 0) p0.toNatClampNeg) = some a_37 → ((ok_X8_elementAt_s L a_37 p1 ((h_X8_stops x z_24_0 S).2)) ∧ (((h_X8_elementAt_s a_37 p1 ((h_X8_stops x z_24_0 S).2)) = none → ((ok_X8_numberAt_n L p2 ((h_X8_stops x z_24_0 S).2)) ∧ (True))) ∧
    (∀ a_39 : Nat, (h_X8_elementAt_s a_37 p1 ((h_X8_stops x z_24_0 S).2)) = some a_39 → ((ok_X8_numberAt_s L a_39 p2 ((h_X8_stops x z_24_0 S).2)) ∧ (True)))))))))) ∧
  (¬ (((h_X8_stops x z_24_0 S).1) = 0) → (True))))
def h_X8_cross (x : Nat) (p0 : Int32) (p1 : Int32) (p2 : Int32) (S : HS) : Int32 × HS :=
  if (s_X8_isCell p0) = 0 then h_X8_cross_j24 x p0 p1 p2 8 S
  else oq (hsR S ((hsQ S x 0).getD 0) p0.toNatClampNeg) (h_X8_cross_j24 x p0 p1 p2 (h_X8_crossCause_n p1 p2 S) S)
   (fun (a_13 : Nat) => h_X8_cross_j24 x p0 p1 p2 (h_X8_crossCause_s a_13 p1 p2 S) S)
def ok_X8_cross (L : List Nat) (x : Nat) (p0 : Int32) (p1 : Int32) (p2 : Int32) (S : HS) : Prop :=
  (((s_X8_isCell p0) = 0) → (ok_X8_cross_j24 L x p0 p1 p2 8 S)) ∧
  (¬ ((s_X8_isCell p0) = 0) → ((x ∈ L ∧ hsK S x = 6 ∧ hsQ S x 0 ≠ none) ∧ ((((hsQ S x 0).getD 0) ∈ L ∧ hsK S ((hsQ S x 0).getD 0) = 10 ∧ vp_in p0 (hsN S ((hsQ S x 0).getD 0))) ∧ (((hsR S ((hsQ S x 0).getD 0) p0.toNatClampNeg) = none → ((ok_X8_crossCause_n L p1 p2 S) ∧ (ok_X8_cross_j24 L x p0 p1 p2 (h_X8_crossCause_n p1 p2 S) S))) ∧
   (∀ a_13 : Nat, (hsR S ((hsQ S x 0).getD 0) p0.toNatClampNeg) = some a_13 → ((ok_X8_crossCause_s L a_13 p1 p2 S) ∧ (ok_X8_cross_j24 L x p0 p1 p2 (h_X8_crossCause_s a_13 p1 p2 S) S)))))))
set_option maxHeartbeats 4000000 in
set_option maxRecDepth 100000 in
theorem hm_X8_cross (l : Launch) (G : GE) (L : List Nat) (S : HS) (x : Nat) (p0 : Int32) (p1 : Int32) (p2 : Int32) (hok : ok_X8_cross L x p0 p1 p2 S) : HmI l G yX8_cross wsX8_cross 5 109 [.ref x, .int p0, .int p1, .int p2] L S (h_X8_cross x p0 p1 p2 S) := by
  refine Met.ofW (cc := cX8_cross) (maxL := 4) (ret := (some .int)) (by decide) rfl ?_
  intro p e s m args below meth c s₁ B hml hv
  obtain ⟨rfl, hP, hK, hnd, hE⟩ := hv
  have hx := B.exec
  have hb := B.bytes
  have hr := B.returns
  have hts := atoms_spec (ws := wsX8_cross) B.pre
  have hown : s.vm.findClass RX8 = some m.cls := findClass_of_methodNamed B.named
  have hlocks := B.notSynchronized
  have hD := nd_D hnd
  have hS : va_S (AL L) s.heap s.heap [] := va_S.rf
  have hl := lv_entry ([.ref x, .int p0, .int p1, .int p2]) (n := 4) (Nat.le_of_ble_eq_true rfl)
  rw [lg_entry_eq]
  generalize (lg_sl ([.ref x, .int p0, .int p1, .int p2]) ++ List.replicate (4 - (lg_sl ([.ref x, .int p0, .int p1, .int p2])).length) Slot.unset).toArray = ls at hl ⊢
  have hl : lv_has ls 4 [(0, .ref x), (1, .int p0), (2, .int p1), (3, .int p2)] := hl
  obtain ⟨Z, hZ⟩ : ∃ z, z = MQ below (hm_QI G L (h_X8_cross x p0 p1 p2 S)) ([.ref x, .int p0, .int p1, .int p2] : List Value).toArray s 0 0 (AL L) := ⟨_, rfl⟩
  rw [← hZ]
  refine lv_aload_n hx hb dX8_cross_0 rfl (lv_at hl 0 rfl) ?_
  refine lv_iload_n hx hb dX8_cross_1 rfl (lv_at hl 1 rfl) ?_
  refine pm_callI (va_runS (As := [.int p0]) (rest := [.ref x]) ⟨hx, hb, hml, hown, hts⟩ (pm_X8_isCell l p0) (va_cwS 1 hts gX8_cross_X8_isCell rfl rfl rfl hd_X8_isCell ⟨Nat.le_of_ble_eq_true rfl, Nat.le_of_ble_eq_true rfl⟩) ⟨pm_fbT, fun U hU hW => ⟨rfl, trivial⟩⟩ rfl rfl hl.1 rfl (lv_room (Nat.le_of_ble_eq_true rfl)) dX8_cross_2 ⟨Nat.le_refl 0, Nat.le_refl 0⟩) hS (fun H locs _ hk9 hS => ?_)
  replace hP := P_keep hP hk9
  have K_24 : ∀ (z_24_0 : Int32) (H : Heap) (locs : List Loc), va_P (gD G) vwCl (va_pl L (PF G S)) H → va_S (AL L) s.heap H locs → ∀ (ls : Array Slot), lv_has ls 4 [(0, .ref x), (1, .int p0), (2, .int p1), (3, .int p2)] → ok_X8_cross_j24 L x p0 p1 p2 z_24_0 S → h_X8_cross x p0 p1 p2 S = h_X8_cross_j24 x p0 p1 p2 z_24_0 S → W p l e (pm_R 5 109) s m ([.ref x, .int p0, .int p1, .int p2] : List Value).toArray below meth c H locs 0 0 Z (F0 m 24 ls [.int z_24_0, .ref x]) := by
    intro z_24_0 H locs hP hS ls hl hok hK_24
    obtain ⟨h_24k, hok⟩ := hok
    obtain ⟨h_24, hok⟩ := hok
    refine hm_callI (G := G) (a := ([.ref x, .int z_24_0] : List Value).toArray) (pr := (h_X8_stops x z_24_0 S)) (rest := []) ?_ hS (fun H locs hP hS => ?_)
    ·
      exact va_runV (As := [.int z_24_0]) (rest := []) ⟨hx, hb, hml, hown, hts⟩ (hm_X8_stops l G L S x z_24_0 h_24) (cwV 1 hts gX8_cross_X8_stops rfl rfl rfl hdv_X8_stops ⟨Nat.le_of_ble_eq_true rfl, Nat.le_of_ble_eq_true rfl⟩) ⟨HW.fb, hp_recv hK hP h_24k.1 (PF_6 h_24k.2) rfl, fun U hU hW => ⟨rfl, HW.call hP hK hnd hE hS U hU hW⟩⟩ rfl rfl hl.1 rfl (lv_room (Nat.le_of_ble_eq_true rfl)) dX8_cross_24 ⟨Nat.le_refl 0, Nat.le_refl 0⟩
    ·
      refine lv_if_eq (tgt := 32) hx hb dX8_cross_27 (by decide) (fun c_27 => ?_) (fun c_27 => ?_)
      ·
        have hok := (hok).1 c_27
        refine lv_aload_n hx hb dX8_cross_32 rfl (lv_at hl 0 rfl) ?_
        obtain ⟨h_33, hok⟩ := hok
        refine hp_getR (ci := 6) (C := RX8) (T := TX8) (N := 4) hx hb hts iw_X8_cross_X8 hown hK hP h_33.1 (PF_6 h_33.2.1) rfl 0 (by decide) (hts _ (List.mem_of_getElem? (i := 1) rfl)) (fun _ h9 => h9) rfl h_33.2.2 dX8_cross_33 ?_
        refine lv_iload_n hx hb dX8_cross_36 rfl (lv_at hl 1 rfl) ?_
        obtain ⟨h_37, hok⟩ := hok
        refine hp_aald hx hb hK hP h_37.1 2 (PF_10 h_37.2.1) rfl h_37.2.2 dX8_cross_37 ?_
        refine lv_topq (fun r_37 er_37 => ?_)
        rcases r_37 with _ | a_37
        ·
          have hok := (hok).1 er_37.symm
          refine lv_iload_n hx hb dX8_cross_38 rfl (lv_at hl 2 rfl) ?_
          obtain ⟨h_39, hok⟩ := hok
          refine hm_callQr (G := G) (S1 := (h_X8_stops x z_24_0 S).2) (a := ([.null, .int p1] : List Value).toArray) (rest := []) (h_X8_elementAt_n p1 ((h_X8_stops x z_24_0 S).2)) ?_ hS (fun H locs hP hS => ?_)
          ·
            exact va_runS (As := [.null, .int p1]) (rest := []) ⟨hx, hb, hml, hown, hts⟩ (hm_X8_elementAt_n l G L ((h_X8_stops x z_24_0 S).2) p1 h_39) (va_cwS 2 hts gX8_cross_X8_elementAt rfl rfl rfl hd_X8_elementAt ⟨Nat.le_of_ble_eq_true rfl, Nat.le_of_ble_eq_true rfl⟩) ⟨HW.fb, fun U hU hW => ⟨rfl, HW.call hP hK hnd hE hS U hU hW⟩⟩ rfl rfl hl.1 rfl (lv_room (Nat.le_of_ble_eq_true rfl)) dX8_cross_39 ⟨Nat.le_refl 0, Nat.le_refl 0⟩
          ·
            refine lv_topq (fun r_39 er_39 => ?_)
            rcases r_39 with _ | a_39
            ·
              have hok := (hok).1 er_39.symm
              refine lv_iload_n hx hb dX8_cross_42 rfl (lv_at hl 3 rfl) ?_
              obtain ⟨h_43, hok⟩ := hok
              refine hm_callLr (G := G) (S1 := (h_X8_stops x z_24_0 S).2) (a := ([.null, .int p2] : List Value).toArray) (rest := []) (h_X8_numberAt_n p2 ((h_X8_stops x z_24_0 S).2)) ?_ hS (fun H locs hP hS => ?_)
              ·
                exact va_runS (As := [.null, .int p2]) (rest := []) ⟨hx, hb, hml, hown, hts⟩ (hm_X8_numberAt_n l G L ((h_X8_stops x z_24_0 S).2) p2 h_43) (va_cwS 2 hts gX8_cross_X8_numberAt rfl rfl rfl hd_X8_numberAt ⟨Nat.le_of_ble_eq_true rfl, Nat.le_of_ble_eq_true rfl⟩) ⟨HW.fb, fun U hU hW => ⟨rfl, HW.call hP hK hnd hE hS U hU hW⟩⟩ rfl rfl hl.1 rfl (lv_room (Nat.le_of_ble_eq_true rfl)) dX8_cross_43 ⟨Nat.le_refl 0, Nat.le_refl 0⟩
              ·
                refine lv_l2i (v := (h_X8_numberAt_n p2 ((h_X8_stops x z_24_0 S).2)).toInt32) hx hb dX8_cross_46 rfl ?_
                rw [hZ]
                exact hm_iret hx hb hr hlocks hS hP hK hnd hE (((hK_24).trans ((if_pos c_27).trans ((oq_none er_37.symm).trans (oq_none er_39.symm))))) dX8_cross_47
            ·
              have hok := (hok).2 _ er_39.symm
              refine lv_iload_n hx hb dX8_cross_42 rfl (lv_at hl 3 rfl) ?_
              obtain ⟨h_43, hok⟩ := hok
              refine hm_callLr (G := G) (S1 := (h_X8_stops x z_24_0 S).2) (a := ([.ref a_39, .int p2] : List Value).toArray) (rest := []) (h_X8_numberAt_s a_39 p2 ((h_X8_stops x z_24_0 S).2)) ?_ hS (fun H locs hP hS => ?_)
              ·
                exact va_runS (As := [.ref a_39, .int p2]) (rest := []) ⟨hx, hb, hml, hown, hts⟩ (hm_X8_numberAt_s l G L ((h_X8_stops x z_24_0 S).2) a_39 p2 h_43) (va_cwS 2 hts gX8_cross_X8_numberAt rfl rfl rfl hd_X8_numberAt ⟨Nat.le_of_ble_eq_true rfl, Nat.le_of_ble_eq_true rfl⟩) ⟨HW.fb, fun U hU hW => ⟨rfl, HW.call hP hK hnd hE hS U hU hW⟩⟩ rfl rfl hl.1 rfl (lv_room (Nat.le_of_ble_eq_true rfl)) dX8_cross_43 ⟨Nat.le_refl 0, Nat.le_refl 0⟩
              ·
                refine lv_l2i (v := (h_X8_numberAt_s a_39 p2 ((h_X8_stops x z_24_0 S).2)).toInt32) hx hb dX8_cross_46 rfl ?_
                rw [hZ]
                exact hm_iret hx hb hr hlocks hS hP hK hnd hE (((hK_24).trans ((if_pos c_27).trans ((oq_none er_37.symm).trans (oq_some er_39.symm))))) dX8_cross_47
        ·
          have hok := (hok).2 _ er_37.symm
          refine lv_iload_n hx hb dX8_cross_38 rfl (lv_at hl 2 rfl) ?_
          obtain ⟨h_39, hok⟩ := hok
          refine hm_callQr (G := G) (S1 := (h_X8_stops x z_24_0 S).2) (a := ([.ref a_37, .int p1] : List Value).toArray) (rest := []) (h_X8_elementAt_s a_37 p1 ((h_X8_stops x z_24_0 S).2)) ?_ hS (fun H locs hP hS => ?_)
          ·
            exact va_runS (As := [.ref a_37, .int p1]) (rest := []) ⟨hx, hb, hml, hown, hts⟩ (hm_X8_elementAt_s l G L ((h_X8_stops x z_24_0 S).2) a_37 p1 h_39) (va_cwS 2 hts gX8_cross_X8_elementAt rfl rfl rfl hd_X8_elementAt ⟨Nat.le_of_ble_eq_true rfl, Nat.le_of_ble_eq_true rfl⟩) ⟨HW.fb, fun U hU hW => ⟨rfl, HW.call hP hK hnd hE hS U hU hW⟩⟩ rfl rfl hl.1 rfl (lv_room (Nat.le_of_ble_eq_true rfl)) dX8_cross_39 ⟨Nat.le_refl 0, Nat.le_refl 0⟩
          ·
            refine lv_topq (fun r_39 er_39 => ?_)
            rcases r_39 with _ | a_39
            ·
              have hok := (hok).1 er_39.symm
              refine lv_iload_n hx hb dX8_cross_42 rfl (lv_at hl 3 rfl) ?_
              obtain ⟨h_43, hok⟩ := hok
              refine hm_callLr (G := G) (S1 := (h_X8_stops x z_24_0 S).2) (a := ([.null, .int p2] : List Value).toArray) (rest := []) (h_X8_numberAt_n p2 ((h_X8_stops x z_24_0 S).2)) ?_ hS (fun H locs hP hS => ?_)
              ·
                exact va_runS (As := [.null, .int p2]) (rest := []) ⟨hx, hb, hml, hown, hts⟩ (hm_X8_numberAt_n l G L ((h_X8_stops x z_24_0 S).2) p2 h_43) (va_cwS 2 hts gX8_cross_X8_numberAt rfl rfl rfl hd_X8_numberAt ⟨Nat.le_of_ble_eq_true rfl, Nat.le_of_ble_eq_true rfl⟩) ⟨HW.fb, fun U hU hW => ⟨rfl, HW.call hP hK hnd hE hS U hU hW⟩⟩ rfl rfl hl.1 rfl (lv_room (Nat.le_of_ble_eq_true rfl)) dX8_cross_43 ⟨Nat.le_refl 0, Nat.le_refl 0⟩
              ·
                refine lv_l2i (v := (h_X8_numberAt_n p2 ((h_X8_stops x z_24_0 S).2)).toInt32) hx hb dX8_cross_46 rfl ?_
                rw [hZ]
                exact hm_iret hx hb hr hlocks hS hP hK hnd hE (((hK_24).trans ((if_pos c_27).trans ((oq_some er_37.symm).trans (oq_none er_39.symm))))) dX8_cross_47
            ·
              have hok := (hok).2 _ er_39.symm
              refine lv_iload_n hx hb dX8_cross_42 rfl (lv_at hl 3 rfl) ?_
              obtain ⟨h_43, hok⟩ := hok
              refine hm_callLr (G := G) (S1 := (h_X8_stops x z_24_0 S).2) (a := ([.ref a_39, .int p2] : List Value).toArray) (rest := []) (h_X8_numberAt_s a_39 p2 ((h_X8_stops x z_24_0 S).2)) ?_ hS (fun H locs hP hS => ?_)
              ·
                exact va_runS (As := [.ref a_39, .int p2]) (rest := []) ⟨hx, hb, hml, hown, hts⟩ (hm_X8_numberAt_s l G L ((h_X8_stops x z_24_0 S).2) a_39 p2 h_43) (va_cwS 2 hts gX8_cross_X8_numberAt rfl rfl rfl hd_X8_numberAt ⟨Nat.le_of_ble_eq_true rfl, Nat.le_of_ble_eq_true rfl⟩) ⟨HW.fb, fun U hU hW => ⟨rfl, HW.call hP hK hnd hE hS U hU hW⟩⟩ rfl rfl hl.1 rfl (lv_room (Nat.le_of_ble_eq_true rfl)) dX8_cross_43 ⟨Nat.le_refl 0, Nat.le_refl 0⟩
              ·
                refine lv_l2i (v := (h_X8_numberAt_s a_39 p2 ((h_X8_stops x z_24_0 S).2)).toInt32) hx hb dX8_cross_46 rfl ?_
                rw [hZ]
                exact hm_iret hx hb hr hlocks hS hP hK hnd hE (((hK_24).trans ((if_pos c_27).trans ((oq_some er_37.symm).trans (oq_some er_39.symm))))) dX8_cross_47
      ·
        have hok := (hok).2 c_27
        refine lv_iconst (v := 0) hx hb dX8_cross_30 (by decide) ?_
        rw [hZ]
        exact hm_iret hx hb hr hlocks hS hP hK hnd hE (((hK_24).trans (if_neg c_27))) dX8_cross_31
  refine lv_if_eq (tgt := 22) hx hb dX8_cross_5 (by decide) (fun c_5 => ?_) (fun c_5 => ?_)
  ·
    have hok := (hok).1 c_5
    refine lv_bipush (v := 8) hx hb dX8_cross_22 (by decide) ?_
    exact K_24 8 _ _ hP hS ls (lv_sub hl [0, 1, 2, 3] rfl) hok ((if_pos c_5))
  ·
    have hok := (hok).2 c_5
    refine lv_aload_n hx hb dX8_cross_8 rfl (lv_at hl 0 rfl) ?_
    obtain ⟨h_9, hok⟩ := hok
    refine hp_getR (ci := 6) (C := RX8) (T := TX8) (N := 4) hx hb hts iw_X8_cross_X8 hown hK hP h_9.1 (PF_6 h_9.2.1) rfl 0 (by decide) (hts _ (List.mem_of_getElem? (i := 1) rfl)) (fun _ h9 => h9) rfl h_9.2.2 dX8_cross_9 ?_
    refine lv_iload_n hx hb dX8_cross_12 rfl (lv_at hl 1 rfl) ?_
    obtain ⟨h_13, hok⟩ := hok
    refine hp_aald hx hb hK hP h_13.1 2 (PF_10 h_13.2.1) rfl h_13.2.2 dX8_cross_13 ?_
    refine lv_topq (fun r_13 er_13 => ?_)
    rcases r_13 with _ | a_13
    ·
      have hok := (hok).1 er_13.symm
      refine lv_iload_n hx hb dX8_cross_14 rfl (lv_at hl 2 rfl) ?_
      refine lv_iload_n hx hb dX8_cross_15 rfl (lv_at hl 3 rfl) ?_
      obtain ⟨h_16, hok⟩ := hok
      refine hm_callIr (G := G) (S1 := S) (a := ([.null, .int p1, .int p2] : List Value).toArray) (rest := [.ref x]) (h_X8_crossCause_n p1 p2 S) ?_ hS (fun H locs hP hS => ?_)
      ·
        exact va_runS (As := [.null, .int p1, .int p2]) (rest := [.ref x]) ⟨hx, hb, hml, hown, hts⟩ (hm_X8_crossCause_n l G L S p1 p2 h_16) (va_cwS 3 hts gX8_cross_X8_crossCause rfl rfl rfl hd_X8_crossCause ⟨Nat.le_of_ble_eq_true rfl, Nat.le_of_ble_eq_true rfl⟩) ⟨HW.fb, fun U hU hW => ⟨rfl, HW.call hP hK hnd hE hS U hU hW⟩⟩ rfl rfl hl.1 rfl (lv_room (Nat.le_of_ble_eq_true rfl)) dX8_cross_16 ⟨Nat.le_refl 0, Nat.le_refl 0⟩
      ·
        refine lv_goto (tgt := 24) hx hb dX8_cross_19 (by decide) ?_
        exact K_24 (h_X8_crossCause_n p1 p2 S) _ _ hP hS ls (lv_sub hl [0, 1, 2, 3] rfl) hok (((if_neg c_5).trans (oq_none er_13.symm)))
    ·
      have hok := (hok).2 _ er_13.symm
      refine lv_iload_n hx hb dX8_cross_14 rfl (lv_at hl 2 rfl) ?_
      refine lv_iload_n hx hb dX8_cross_15 rfl (lv_at hl 3 rfl) ?_
      obtain ⟨h_16, hok⟩ := hok
      refine hm_callIr (G := G) (S1 := S) (a := ([.ref a_13, .int p1, .int p2] : List Value).toArray) (rest := [.ref x]) (h_X8_crossCause_s a_13 p1 p2 S) ?_ hS (fun H locs hP hS => ?_)
      ·
        exact va_runS (As := [.ref a_13, .int p1, .int p2]) (rest := [.ref x]) ⟨hx, hb, hml, hown, hts⟩ (hm_X8_crossCause_s l G L S a_13 p1 p2 h_16) (va_cwS 3 hts gX8_cross_X8_crossCause rfl rfl rfl hd_X8_crossCause ⟨Nat.le_of_ble_eq_true rfl, Nat.le_of_ble_eq_true rfl⟩) ⟨HW.fb, fun U hU hW => ⟨rfl, HW.call hP hK hnd hE hS U hU hW⟩⟩ rfl rfl hl.1 rfl (lv_room (Nat.le_of_ble_eq_true rfl)) dX8_cross_16 ⟨Nat.le_refl 0, Nat.le_refl 0⟩
      ·
        refine lv_goto (tgt := 24) hx hb dX8_cross_19 (by decide) ?_
        exact K_24 (h_X8_crossCause_s a_13 p1 p2 S) _ _ hP hS ls (lv_sub hl [0, 1, 2, 3] rfl) hok (((if_neg c_5).trans (oq_some er_13.symm)))
theorem hdv_X8_field : yX8_field.cls = RX8 ∧ yX8_field.cls ≠ "java/lang/invoke/MethodHandle" ∧ yX8_field.cls ≠ "java/lang/invoke/VarHandle" ∧ (parseMethodDescriptor yX8_field.desc).map (fun d => d.parameters.length) = some 2 := by decide +kernel
theorem iw_X8_field_X8 : ∀ w ∈ u_ws RX8 TX8 4, w ∈ wsX8_field := by decide +kernel
theorem iw_X8_field_X2 : ∀ w ∈ u_ws RX2 TX2 3, w ∈ wsX8_field := by decide +kernel
theorem iw_X8_field_X4 : ∀ w ∈ u_ws RX4 TX4 3, w ∈ wsX8_field := by decide +kernel
theorem iw_X8_field_X5 : ∀ w ∈ u_ws RX5 TX5 3, w ∈ wsX8_field := by decide +kernel
def h_X8_field_j40 (x : Nat) (p0 : Int32) (p1 : Int32) (z_40_0 : Int32) (S : HS) : Int32 × HS :=
  if ((h_X8_stops x z_40_0 S).1) = 0 then oq (hsR ((h_X8_stops x z_40_0 S).2) ((hsQ ((h_X8_stops x z_40_0 S).2) x 0).getD 0) p1.toNatClampNeg) ((0, (h_X8_stops x z_40_0 S).2))
   (fun (a_53 : Nat) => if 2 ≤ hsK ((h_X8_stops x z_40_0 S).2) a_53 ∧ hsK ((h_X8_stops x z_40_0 S).2) a_53 ≤ 4 then (hsI ((h_X8_stops x z_40_0 S).2) a_53 2, (h_X8_stops x z_40_0 S).2)
    else (0, (h_X8_stops x z_40_0 S).2))
  else (0, (h_X8_stops x z_40_0 S).2)
def ok_X8_field_j40 (L : List Nat) (x : Nat) (p0 : Int32) (p1 : Int32) (z_40_0 : Int32) (S : HS) : Prop :=
  (x ∈ L ∧ hsK S x = 6) ∧ ((ok_X8_stops L x z_40_0 S) ∧ (((((h_X8_stops x z_40_0 S).1) = 0) → ((x ∈ L ∧ hsK ((h_X8_stops x z_40_0 S).2) x = 6 ∧ hsQ ((h_X8_stops x z_40_0 S).2) x 0 ≠ none) ∧ ((((hsQ ((h_X8_stops x z_40_0 S).2) x 0).getD 0) ∈ L ∧ hsK ((h_X8_stops x z_40_0 S).2) ((hsQ ((h_X8_stops x z_40_0 S).2) x 0).getD 0) = 10 ∧ vp_in p1 (hsN ((h_X8_stops x z_40_0 S).2) ((hsQ ((h_X8_stops x z_40_0 S).2) x 0).getD 0))) ∧ (((hsR ((h_X8_stops x z_40_0 S).2) ((hsQ ((h_X8_stops x z_40_0 S).2) x 0).getD 0) p1.toNatClampNeg) = none → (True)) ∧
   (∀ a_53 : Nat, (hsR ((h_X8_stops x z_40_0 S).2) ((hsQ ((h_X8_stops x z_40_0 S).2) x 0).getD 0) p1.toNatClampNeg) = some a_53 → ((a_53 ∈ L ∧ 1 ≤ hsK ((h_X8_stops x z_40_0 S).2) a_53 ∧ hsK ((h_X8_stops x z_40_0 S).2) a_53 ≤ 5) ∧ (((2 ≤ hsK ((h_X8_stops x z_40_0 S).2) a_53 ∧ hsK ((h_X8_stops x z_40_0 S).2) a_53 ≤ 4) → ((a_53 ∈ L ∧ 2 ≤ hsK ((h_X8_stops x z_40_0 S).2) a_53 ∧ hsK ((h_X8_stops x z_40_0 S).2) a_53 ≤ 4) ∧ ((a_53 ∈ L ∧ 2 ≤ hsK ((h_X8_stops x z_40_0 S).2) a_53 ∧ hsK ((h_X8_stops x z_40_0 S).2) a_53 ≤ 4) ∧ (True)))) ∧
    (¬ (2 ≤ hsK ((h_X8_stops x z_40_0 S).2) a_53 ∧ hsK ((h_X8_stops x z_40_0 S).2) a_53 ≤ 4) → (True))))))))) ∧
  (¬ (((h_X8_stops x z_40_0 S).1) = 0) → (True))))
def h_X8_field_j19 (x : Nat) (p0 : Int32) (p1 : Int32) (z_19_0 : Int32) (S : HS) : Int32 × HS :=
  if z_19_0 = 0 then h_X8_field_j40 x p0 p1 8 S
  else oq (hsR S ((hsQ S x 0).getD 0) p1.toNatClampNeg) (h_X8_field_j40 x p0 p1 (h_X8_castCause_n p0 S) S)
   (fun (a_31 : Nat) => h_X8_field_j40 x p0 p1 (h_X8_castCause_s p0 a_31 S) S)
def ok_X8_field_j19 (L : List Nat) (x : Nat) (p0 : Int32) (p1 : Int32) (z_19_0 : Int32) (S : HS) : Prop :=
  ((z_19_0 = 0) → (ok_X8_field_j40 L x p0 p1 8 S)) ∧
  (¬ (z_19_0 = 0) → ((x ∈ L ∧ hsK S x = 6 ∧ hsQ S x 0 ≠ none) ∧ ((((hsQ S x 0).getD 0) ∈ L ∧ hsK S ((hsQ S x 0).getD 0) = 10 ∧ vp_in p1 (hsN S ((hsQ S x 0).getD 0))) ∧ (((hsR S ((hsQ S x 0).getD 0) p1.toNatClampNeg) = none → ((ok_X8_castCause_n L p0 S) ∧ (ok_X8_field_j40 L x p0 p1 (h_X8_castCause_n p0 S) S))) ∧
   (∀ a_31 : Nat, (hsR S ((hsQ S x 0).getD 0) p1.toNatClampNeg) = some a_31 → ((ok_X8_castCause_s L p0 a_31 S) ∧ (ok_X8_field_j40 L x p0 p1 (h_X8_castCause_s p0 a_31 S) S)))))))
def h_X8_field (x : Nat) (p0 : Int32) (p1 : Int32) (S : HS) : Int32 × HS :=
  if (s_X8_isOwnType p0) = 0 then h_X8_field_j19 x p0 p1 0 S
  else if (s_X8_isCell p1) = 0 then h_X8_field_j19 x p0 p1 0 S
   else h_X8_field_j19 x p0 p1 1 S
def ok_X8_field (L : List Nat) (x : Nat) (p0 : Int32) (p1 : Int32) (S : HS) : Prop :=
  (((s_X8_isOwnType p0) = 0) → (ok_X8_field_j19 L x p0 p1 0 S)) ∧
  (¬ ((s_X8_isOwnType p0) = 0) → ((((s_X8_isCell p1) = 0) → (ok_X8_field_j19 L x p0 p1 0 S)) ∧
   (¬ ((s_X8_isCell p1) = 0) → (ok_X8_field_j19 L x p0 p1 1 S))))
set_option maxHeartbeats 4000000 in
set_option maxRecDepth 100000 in
theorem hm_X8_field (l : Launch) (G : GE) (L : List Nat) (S : HS) (x : Nat) (p0 : Int32) (p1 : Int32) (hok : ok_X8_field L x p0 p1 S) : HmI l G yX8_field wsX8_field 3 63 [.ref x, .int p0, .int p1] L S (h_X8_field x p0 p1 S) := by
  refine Met.ofW (cc := cX8_field) (maxL := 6) (ret := (some .int)) (by decide) rfl ?_
  intro p e s m args below meth c s₁ B hml hv
  obtain ⟨rfl, hP, hK, hnd, hE⟩ := hv
  have hx := B.exec
  have hb := B.bytes
  have hr := B.returns
  have hts := atoms_spec (ws := wsX8_field) B.pre
  have hown : s.vm.findClass RX8 = some m.cls := findClass_of_methodNamed B.named
  have hlocks := B.notSynchronized
  have hD := nd_D hnd
  have hS : va_S (AL L) s.heap s.heap [] := va_S.rf
  have hl := lv_entry ([.ref x, .int p0, .int p1]) (n := 6) (Nat.le_of_ble_eq_true rfl)
  rw [lg_entry_eq]
  generalize (lg_sl ([.ref x, .int p0, .int p1]) ++ List.replicate (6 - (lg_sl ([.ref x, .int p0, .int p1])).length) Slot.unset).toArray = ls at hl ⊢
  have hl : lv_has ls 6 [(0, .ref x), (1, .int p0), (2, .int p1)] := hl
  obtain ⟨Z, hZ⟩ : ∃ z, z = MQ below (hm_QI G L (h_X8_field x p0 p1 S)) ([.ref x, .int p0, .int p1] : List Value).toArray s 0 0 (AL L) := ⟨_, rfl⟩
  rw [← hZ]
  refine lv_iload_n hx hb dX8_field_0 rfl (lv_at hl 1 rfl) ?_
  refine pm_callI (va_runS (As := [.int p0]) (rest := []) ⟨hx, hb, hml, hown, hts⟩ (pm_X8_isOwnType l p0) (va_cwS 1 hts gX8_field_X8_isOwnType rfl rfl rfl hd_X8_isOwnType ⟨Nat.le_of_ble_eq_true rfl, Nat.le_of_ble_eq_true rfl⟩) ⟨pm_fbT, fun U hU hW => ⟨rfl, trivial⟩⟩ rfl rfl hl.1 rfl (lv_room (Nat.le_of_ble_eq_true rfl)) dX8_field_1 ⟨Nat.le_refl 0, Nat.le_refl 0⟩) hS (fun H locs _ hk9 hS => ?_)
  replace hP := P_keep hP hk9
  have K_19 : ∀ (z_19_0 : Int32) (H : Heap) (locs : List Loc), va_P (gD G) vwCl (va_pl L (PF G S)) H → va_S (AL L) s.heap H locs → ∀ (ls : Array Slot), lv_has ls 6 [(0, .ref x), (1, .int p0), (2, .int p1)] → ok_X8_field_j19 L x p0 p1 z_19_0 S → h_X8_field x p0 p1 S = h_X8_field_j19 x p0 p1 z_19_0 S → W p l e (pm_R 3 63) s m ([.ref x, .int p0, .int p1] : List Value).toArray below meth c H locs 0 0 Z (F0 m 19 ls [.int z_19_0]) := by
    intro z_19_0 H locs hP hS ls hl hok hK_19
    refine lv_istore_n (lv' := [(3, .int z_19_0), (0, .ref x), (1, .int p0), (2, .int p1)]) hx hb dX8_field_19 rfl hl (by decide) rfl (fun ls hl => ?_)
    refine lv_aload_n hx hb dX8_field_20 rfl (lv_at hl 1 rfl) ?_
    refine lv_iload_n hx hb dX8_field_21 rfl (lv_at hl 0 rfl) ?_
    have K_40 : ∀ (z_40_0 : Int32) (H : Heap) (locs : List Loc), va_P (gD G) vwCl (va_pl L (PF G S)) H → va_S (AL L) s.heap H locs → ∀ (ls : Array Slot), lv_has ls 6 [(0, .ref x), (2, .int p1)] → ok_X8_field_j40 L x p0 p1 z_40_0 S → h_X8_field x p0 p1 S = h_X8_field_j40 x p0 p1 z_40_0 S → W p l e (pm_R 3 63) s m ([.ref x, .int p0, .int p1] : List Value).toArray below meth c H locs 0 0 Z (F0 m 40 ls [.int z_40_0, .ref x]) := by
      intro z_40_0 H locs hP hS ls hl hok hK_40
      obtain ⟨h_40k, hok⟩ := hok
      obtain ⟨h_40, hok⟩ := hok
      refine hm_callI (G := G) (a := ([.ref x, .int z_40_0] : List Value).toArray) (pr := (h_X8_stops x z_40_0 S)) (rest := []) ?_ hS (fun H locs hP hS => ?_)
      ·
        exact va_runV (As := [.int z_40_0]) (rest := []) ⟨hx, hb, hml, hown, hts⟩ (hm_X8_stops l G L S x z_40_0 h_40) (cwV 1 hts gX8_field_X8_stops rfl rfl rfl hdv_X8_stops ⟨Nat.le_of_ble_eq_true rfl, Nat.le_of_ble_eq_true rfl⟩) ⟨HW.fb, hp_recv hK hP h_40k.1 (PF_6 h_40k.2) rfl, fun U hU hW => ⟨rfl, HW.call hP hK hnd hE hS U hU hW⟩⟩ rfl rfl hl.1 rfl (lv_room (Nat.le_of_ble_eq_true rfl)) dX8_field_40 ⟨Nat.le_refl 0, Nat.le_refl 0⟩
      ·
        refine lv_if_eq (tgt := 48) hx hb dX8_field_43 (by decide) (fun c_43 => ?_) (fun c_43 => ?_)
        ·
          have hok := (hok).1 c_43
          refine lv_aload_n hx hb dX8_field_48 rfl (lv_at hl 0 rfl) ?_
          obtain ⟨h_49, hok⟩ := hok
          refine hp_getR (ci := 6) (C := RX8) (T := TX8) (N := 4) hx hb hts iw_X8_field_X8 hown hK hP h_49.1 (PF_6 h_49.2.1) rfl 0 (by decide) (hts _ (List.mem_of_getElem? (i := 1) rfl)) (fun _ h9 => h9) rfl h_49.2.2 dX8_field_49 ?_
          refine lv_iload_n hx hb dX8_field_52 rfl (lv_at hl 1 rfl) ?_
          obtain ⟨h_53, hok⟩ := hok
          refine hp_aald hx hb hK hP h_53.1 2 (PF_10 h_53.2.1) rfl h_53.2.2 dX8_field_53 ?_
          refine lv_topq (fun r_53 er_53 => ?_)
          rcases r_53 with _ | a_53
          ·
            have hok := (hok).1 er_53.symm
            refine lv_astoreN (lv' := [(5, .null), (0, .ref x), (2, .int p1)]) hx hb dX8_field_54 hl (by decide) rfl (fun ls hl => ?_)
            refine lv_aloadN hx hb dX8_field_56 (lv_at hl 0 rfl) ?_
            refine lv_instN hx hb dX8_field_58 ?_
            refine lv_if_eq (tgt := 77) hx hb dX8_field_61 (by decide) (fun _ => ?_) (fun z9 => absurd z9 (by decide))
            refine lv_iconst (v := 0) hx hb dX8_field_77 (by decide) ?_
            rw [hZ]
            exact hm_iret hx hb hr hlocks hS hP hK hnd hE (((hK_40).trans ((if_pos c_43).trans (oq_none er_53.symm)))) dX8_field_78
          ·
            have hok := (hok).2 _ er_53.symm
            refine lv_astore (lv' := [(5, .ref a_53), (0, .ref x), (2, .int p1)]) hx hb dX8_field_54 hl (by decide) rfl (fun ls hl => ?_)
            refine lv_aload hx hb dX8_field_56 (lv_at hl 0 rfl) ?_
            obtain ⟨h_58, hok⟩ := hok
            refine hp_inst2 hx hb hE.2 hown (hts _ (List.mem_of_getElem? (i := 2) rfl)) hK hP h_58 dX8_field_58 (fun c_58 => ?_) (fun c_58 => ?_)
            ·
              have hok := (hok).1 c_58
              refine lv_if_eq (tgt := 77) hx hb dX8_field_61 (by decide) (fun z9 => absurd z9 (by decide)) (fun _ => ?_)
              refine lv_aload hx hb dX8_field_64 (lv_at hl 0 rfl) ?_
              obtain ⟨h_66, hok⟩ := hok
              refine hp_cast2 hx hb hE.2 hown (hts _ (List.mem_of_getElem? (i := 2) rfl)) hK hP h_66 dX8_field_66 ?_
              refine lv_astore (lv' := [(4, .ref a_53), (5, .ref a_53), (0, .ref x), (2, .int p1)]) hx hb dX8_field_69 hl (by decide) rfl (fun ls hl => ?_)
              refine lv_aload hx hb dX8_field_71 (lv_at hl 0 rfl) ?_
              obtain ⟨h_73, hok⟩ := hok
              refine hp_value hx hb hts iw_X8_field_X2 iw_X8_field_X4 iw_X8_field_X5 hown hK hP h_73 (hts _ (List.mem_of_getElem? (i := 3) rfl)) (fun _ h9 => h9) dX8_field_73 ?_
              rw [hZ]
              exact hm_iret hx hb hr hlocks hS hP hK hnd hE (((hK_40).trans ((if_pos c_43).trans ((oq_some er_53.symm).trans (if_pos c_58))))) dX8_field_76
            ·
              have hok := (hok).2 c_58
              refine lv_if_eq (tgt := 77) hx hb dX8_field_61 (by decide) (fun _ => ?_) (fun z9 => absurd z9 (by decide))
              refine lv_iconst (v := 0) hx hb dX8_field_77 (by decide) ?_
              rw [hZ]
              exact hm_iret hx hb hr hlocks hS hP hK hnd hE (((hK_40).trans ((if_pos c_43).trans ((oq_some er_53.symm).trans (if_neg c_58))))) dX8_field_78
        ·
          have hok := (hok).2 c_43
          refine lv_iconst (v := 0) hx hb dX8_field_46 (by decide) ?_
          rw [hZ]
          exact hm_iret hx hb hr hlocks hS hP hK hnd hE (((hK_40).trans (if_neg c_43))) dX8_field_47
    refine lv_if_eq (tgt := 38) hx hb dX8_field_22 (by decide) (fun c_22 => ?_) (fun c_22 => ?_)
    ·
      have hok := (hok).1 c_22
      refine lv_bipush (v := 8) hx hb dX8_field_38 (by decide) ?_
      exact K_40 8 _ _ hP hS ls (lv_sub hl [1, 3] rfl) hok (((hK_19).trans (if_pos c_22)))
    ·
      have hok := (hok).2 c_22
      refine lv_iload_n hx hb dX8_field_25 rfl (lv_at hl 2 rfl) ?_
      refine lv_aload_n hx hb dX8_field_26 rfl (lv_at hl 1 rfl) ?_
      obtain ⟨h_27, hok⟩ := hok
      refine hp_getR (ci := 6) (C := RX8) (T := TX8) (N := 4) hx hb hts iw_X8_field_X8 hown hK hP h_27.1 (PF_6 h_27.2.1) rfl 0 (by decide) (hts _ (List.mem_of_getElem? (i := 1) rfl)) (fun _ h9 => h9) rfl h_27.2.2 dX8_field_27 ?_
      refine lv_iload_n hx hb dX8_field_30 rfl (lv_at hl 3 rfl) ?_
      obtain ⟨h_31, hok⟩ := hok
      refine hp_aald hx hb hK hP h_31.1 2 (PF_10 h_31.2.1) rfl h_31.2.2 dX8_field_31 ?_
      refine lv_topq (fun r_31 er_31 => ?_)
      rcases r_31 with _ | a_31
      ·
        have hok := (hok).1 er_31.symm
        obtain ⟨h_32, hok⟩ := hok
        refine hm_callIr (G := G) (S1 := S) (a := ([.int p0, .null] : List Value).toArray) (rest := [.ref x]) (h_X8_castCause_n p0 S) ?_ hS (fun H locs hP hS => ?_)
        ·
          exact va_runS (As := [.int p0, .null]) (rest := [.ref x]) ⟨hx, hb, hml, hown, hts⟩ (hm_X8_castCause_n l G L S p0 h_32) (va_cwS 2 hts gX8_field_X8_castCause rfl rfl rfl hd_X8_castCause ⟨Nat.le_of_ble_eq_true rfl, Nat.le_of_ble_eq_true rfl⟩) ⟨HW.fb, fun U hU hW => ⟨rfl, HW.call hP hK hnd hE hS U hU hW⟩⟩ rfl rfl hl.1 rfl (lv_room (Nat.le_of_ble_eq_true rfl)) dX8_field_32 ⟨Nat.le_refl 0, Nat.le_refl 0⟩
        ·
          refine lv_goto (tgt := 40) hx hb dX8_field_35 (by decide) ?_
          exact K_40 (h_X8_castCause_n p0 S) _ _ hP hS ls (lv_sub hl [1, 3] rfl) hok (((hK_19).trans ((if_neg c_22).trans (oq_none er_31.symm))))
      ·
        have hok := (hok).2 _ er_31.symm
        obtain ⟨h_32, hok⟩ := hok
        refine hm_callIr (G := G) (S1 := S) (a := ([.int p0, .ref a_31] : List Value).toArray) (rest := [.ref x]) (h_X8_castCause_s p0 a_31 S) ?_ hS (fun H locs hP hS => ?_)
        ·
          exact va_runS (As := [.int p0, .ref a_31]) (rest := [.ref x]) ⟨hx, hb, hml, hown, hts⟩ (hm_X8_castCause_s l G L S p0 a_31 h_32) (va_cwS 2 hts gX8_field_X8_castCause rfl rfl rfl hd_X8_castCause ⟨Nat.le_of_ble_eq_true rfl, Nat.le_of_ble_eq_true rfl⟩) ⟨HW.fb, fun U hU hW => ⟨rfl, HW.call hP hK hnd hE hS U hU hW⟩⟩ rfl rfl hl.1 rfl (lv_room (Nat.le_of_ble_eq_true rfl)) dX8_field_32 ⟨Nat.le_refl 0, Nat.le_refl 0⟩
        ·
          refine lv_goto (tgt := 40) hx hb dX8_field_35 (by decide) ?_
          exact K_40 (h_X8_castCause_s p0 a_31 S) _ _ hP hS ls (lv_sub hl [1, 3] rfl) hok (((hK_19).trans ((if_neg c_22).trans (oq_some er_31.symm))))
  refine lv_if_eq (tgt := 18) hx hb dX8_field_4 (by decide) (fun c_4 => ?_) (fun c_4 => ?_)
  ·
    have hok := (hok).1 c_4
    refine lv_iconst (v := 0) hx hb dX8_field_18 (by decide) ?_
    exact K_19 0 _ _ hP hS ls (lv_sub hl [0, 1, 2] rfl) hok ((if_pos c_4))
  ·
    have hok := (hok).2 c_4
    refine lv_iload_n hx hb dX8_field_7 rfl (lv_at hl 2 rfl) ?_
    refine pm_callI (va_runS (As := [.int p1]) (rest := []) ⟨hx, hb, hml, hown, hts⟩ (pm_X8_isCell l p1) (va_cwS 1 hts gX8_field_X8_isCell rfl rfl rfl hd_X8_isCell ⟨Nat.le_of_ble_eq_true rfl, Nat.le_of_ble_eq_true rfl⟩) ⟨pm_fbT, fun U hU hW => ⟨rfl, trivial⟩⟩ rfl rfl hl.1 rfl (lv_room (Nat.le_of_ble_eq_true rfl)) dX8_field_8 ⟨Nat.le_refl 0, Nat.le_refl 0⟩) hS (fun H locs _ hk9 hS => ?_)
    replace hP := P_keep hP hk9
    refine lv_if_eq (tgt := 18) hx hb dX8_field_11 (by decide) (fun c_11 => ?_) (fun c_11 => ?_)
    ·
      have hok := (hok).1 c_11
      refine lv_iconst (v := 0) hx hb dX8_field_18 (by decide) ?_
      exact K_19 0 _ _ hP hS ls (lv_sub hl [0, 1, 2] rfl) hok (((if_neg c_4).trans (if_pos c_11)))
    ·
      have hok := (hok).2 c_11
      refine lv_iconst (v := 1) hx hb dX8_field_14 (by decide) ?_
      refine lv_goto (tgt := 19) hx hb dX8_field_15 (by decide) ?_
      exact K_19 1 _ _ hP hS ls (lv_sub hl [0, 1, 2] rfl) hok (((if_neg c_4).trans (if_neg c_11)))
theorem hdv_X8_call : yX8_call.cls = RX8 ∧ yX8_call.cls ≠ "java/lang/invoke/MethodHandle" ∧ yX8_call.cls ≠ "java/lang/invoke/VarHandle" ∧ (parseMethodDescriptor yX8_call.desc).map (fun d => d.parameters.length) = some 2 := by decide +kernel
theorem iw_X8_call_X8 : ∀ w ∈ u_ws RX8 TX8 4, w ∈ wsX8_call := by decide +kernel
def h_X8_call_j43 (x : Nat) (p0 : Int32) (p1 : Int32) (z_43_0 : Int32) (S : HS) : Int32 × HS :=
  if ((h_X8_stops x z_43_0 S).1) = 0 then oq (hsR ((h_X8_stops x z_43_0 S).2) ((hsQ ((h_X8_stops x z_43_0 S).2) x 0).getD 0) p0.toNatClampNeg) ((0, (h_X8_stops x z_43_0 S).2))
   (fun (a_56 : Nat) => if 2 ≤ hsK ((h_X8_stops x z_43_0 S).2) a_56 ∧ hsK ((h_X8_stops x z_43_0 S).2) a_56 ≤ 4 then (h_X8_callAnswer a_56 p1 ((h_X8_stops x z_43_0 S).2), (h_X8_stops x z_43_0 S).2)
    else (0, (h_X8_stops x z_43_0 S).2))
  else (0, (h_X8_stops x z_43_0 S).2)
def ok_X8_call_j43 (L : List Nat) (x : Nat) (p0 : Int32) (p1 : Int32) (z_43_0 : Int32) (S : HS) : Prop :=
  (x ∈ L ∧ hsK S x = 6) ∧ ((ok_X8_stops L x z_43_0 S) ∧ (((((h_X8_stops x z_43_0 S).1) = 0) → ((x ∈ L ∧ hsK ((h_X8_stops x z_43_0 S).2) x = 6 ∧ hsQ ((h_X8_stops x z_43_0 S).2) x 0 ≠ none) ∧ ((((hsQ ((h_X8_stops x z_43_0 S).2) x 0).getD 0) ∈ L ∧ hsK ((h_X8_stops x z_43_0 S).2) ((hsQ ((h_X8_stops x z_43_0 S).2) x 0).getD 0) = 10 ∧ vp_in p0 (hsN ((h_X8_stops x z_43_0 S).2) ((hsQ ((h_X8_stops x z_43_0 S).2) x 0).getD 0))) ∧ (((hsR ((h_X8_stops x z_43_0 S).2) ((hsQ ((h_X8_stops x z_43_0 S).2) x 0).getD 0) p0.toNatClampNeg) = none → (True)) ∧
   (∀ a_56 : Nat, (hsR ((h_X8_stops x z_43_0 S).2) ((hsQ ((h_X8_stops x z_43_0 S).2) x 0).getD 0) p0.toNatClampNeg) = some a_56 → ((a_56 ∈ L ∧ 1 ≤ hsK ((h_X8_stops x z_43_0 S).2) a_56 ∧ hsK ((h_X8_stops x z_43_0 S).2) a_56 ≤ 5) ∧ (((2 ≤ hsK ((h_X8_stops x z_43_0 S).2) a_56 ∧ hsK ((h_X8_stops x z_43_0 S).2) a_56 ≤ 4) → ((a_56 ∈ L ∧ 2 ≤ hsK ((h_X8_stops x z_43_0 S).2) a_56 ∧ hsK ((h_X8_stops x z_43_0 S).2) a_56 ≤ 4) ∧ ((ok_X8_callAnswer L a_56 p1 ((h_X8_stops x z_43_0 S).2)) ∧ (True)))) ∧
    (¬ (2 ≤ hsK ((h_X8_stops x z_43_0 S).2) a_56 ∧ hsK ((h_X8_stops x z_43_0 S).2) a_56 ≤ 4) → (True))))))))) ∧
  (¬ (((h_X8_stops x z_43_0 S).1) = 0) → (True))))
def h_X8_call_j22 (x : Nat) (p0 : Int32) (p1 : Int32) (z_22_0 : Int32) (S : HS) : Int32 × HS :=
  if z_22_0 = 0 then h_X8_call_j43 x p0 p1 8 S
  else oq (hsR S ((hsQ S x 0).getD 0) p0.toNatClampNeg) (h_X8_call_j43 x p0 p1 (h_X8_callCause_n p1 S) S)
   (fun (a_33 : Nat) => h_X8_call_j43 x p0 p1 (h_X8_callCause_s a_33 p1 S) S)
def ok_X8_call_j22 (L : List Nat) (x : Nat) (p0 : Int32) (p1 : Int32) (z_22_0 : Int32) (S : HS) : Prop :=
  ((z_22_0 = 0) → (ok_X8_call_j43 L x p0 p1 8 S)) ∧
  (¬ (z_22_0 = 0) → ((x ∈ L ∧ hsK S x = 6 ∧ hsQ S x 0 ≠ none) ∧ ((((hsQ S x 0).getD 0) ∈ L ∧ hsK S ((hsQ S x 0).getD 0) = 10 ∧ vp_in p0 (hsN S ((hsQ S x 0).getD 0))) ∧ (((hsR S ((hsQ S x 0).getD 0) p0.toNatClampNeg) = none → ((ok_X8_callCause_n L p1 S) ∧ (ok_X8_call_j43 L x p0 p1 (h_X8_callCause_n p1 S) S))) ∧
   (∀ a_33 : Nat, (hsR S ((hsQ S x 0).getD 0) p0.toNatClampNeg) = some a_33 → ((ok_X8_callCause_s L a_33 p1 S) ∧ (ok_X8_call_j43 L x p0 p1 (h_X8_callCause_s a_33 p1 S) S)))))))
def h_X8_call (x : Nat) (p0 : Int32) (p1 : Int32) (S : HS) : Int32 × HS :=
  if (s_X8_isCell p0) = 0 then h_X8_call_j22 x p0 p1 0 S
  else if p1 < 0 then h_X8_call_j22 x p0 p1 0 S
   else if 6 < p1 then h_X8_call_j22 x p0 p1 0 S
    else h_X8_call_j22 x p0 p1 1 S
def ok_X8_call (L : List Nat) (x : Nat) (p0 : Int32) (p1 : Int32) (S : HS) : Prop :=
  (((s_X8_isCell p0) = 0) → (ok_X8_call_j22 L x p0 p1 0 S)) ∧
  (¬ ((s_X8_isCell p0) = 0) → (((p1 < 0) → (ok_X8_call_j22 L x p0 p1 0 S)) ∧
   (¬ (p1 < 0) → (((6 < p1) → (ok_X8_call_j22 L x p0 p1 0 S)) ∧
    (¬ (6 < p1) → (ok_X8_call_j22 L x p0 p1 1 S))))))
set_option maxHeartbeats 4000000 in
set_option maxRecDepth 100000 in
theorem hm_X8_call (l : Launch) (G : GE) (L : List Nat) (S : HS) (x : Nat) (p0 : Int32) (p1 : Int32) (hok : ok_X8_call L x p0 p1 S) : HmI l G yX8_call wsX8_call 4 86 [.ref x, .int p0, .int p1] L S (h_X8_call x p0 p1 S) := by
  refine Met.ofW (cc := cX8_call) (maxL := 6) (ret := (some .int)) (by decide) rfl ?_
  intro p e s m args below meth c s₁ B hml hv
  obtain ⟨rfl, hP, hK, hnd, hE⟩ := hv
  have hx := B.exec
  have hb := B.bytes
  have hr := B.returns
  have hts := atoms_spec (ws := wsX8_call) B.pre
  have hown : s.vm.findClass RX8 = some m.cls := findClass_of_methodNamed B.named
  have hlocks := B.notSynchronized
  have hD := nd_D hnd
  have hS : va_S (AL L) s.heap s.heap [] := va_S.rf
  have hl := lv_entry ([.ref x, .int p0, .int p1]) (n := 6) (Nat.le_of_ble_eq_true rfl)
  rw [lg_entry_eq]
  generalize (lg_sl ([.ref x, .int p0, .int p1]) ++ List.replicate (6 - (lg_sl ([.ref x, .int p0, .int p1])).length) Slot.unset).toArray = ls at hl ⊢
  have hl : lv_has ls 6 [(0, .ref x), (1, .int p0), (2, .int p1)] := hl
  obtain ⟨Z, hZ⟩ : ∃ z, z = MQ below (hm_QI G L (h_X8_call x p0 p1 S)) ([.ref x, .int p0, .int p1] : List Value).toArray s 0 0 (AL L) := ⟨_, rfl⟩
  rw [← hZ]
  refine lv_iload_n hx hb dX8_call_0 rfl (lv_at hl 1 rfl) ?_
  refine pm_callI (va_runS (As := [.int p0]) (rest := []) ⟨hx, hb, hml, hown, hts⟩ (pm_X8_isCell l p0) (va_cwS 1 hts gX8_call_X8_isCell rfl rfl rfl hd_X8_isCell ⟨Nat.le_of_ble_eq_true rfl, Nat.le_of_ble_eq_true rfl⟩) ⟨pm_fbT, fun U hU hW => ⟨rfl, trivial⟩⟩ rfl rfl hl.1 rfl (lv_room (Nat.le_of_ble_eq_true rfl)) dX8_call_1 ⟨Nat.le_refl 0, Nat.le_refl 0⟩) hS (fun H locs _ hk9 hS => ?_)
  replace hP := P_keep hP hk9
  have K_22 : ∀ (z_22_0 : Int32) (H : Heap) (locs : List Loc), va_P (gD G) vwCl (va_pl L (PF G S)) H → va_S (AL L) s.heap H locs → ∀ (ls : Array Slot), lv_has ls 6 [(0, .ref x), (1, .int p0), (2, .int p1)] → ok_X8_call_j22 L x p0 p1 z_22_0 S → h_X8_call x p0 p1 S = h_X8_call_j22 x p0 p1 z_22_0 S → W p l e (pm_R 4 86) s m ([.ref x, .int p0, .int p1] : List Value).toArray below meth c H locs 0 0 Z (F0 m 22 ls [.int z_22_0]) := by
    intro z_22_0 H locs hP hS ls hl hok hK_22
    refine lv_istore_n (lv' := [(3, .int z_22_0), (0, .ref x), (1, .int p0), (2, .int p1)]) hx hb dX8_call_22 rfl hl (by decide) rfl (fun ls hl => ?_)
    refine lv_aload_n hx hb dX8_call_23 rfl (lv_at hl 1 rfl) ?_
    refine lv_iload_n hx hb dX8_call_24 rfl (lv_at hl 0 rfl) ?_
    have K_43 : ∀ (z_43_0 : Int32) (H : Heap) (locs : List Loc), va_P (gD G) vwCl (va_pl L (PF G S)) H → va_S (AL L) s.heap H locs → ∀ (ls : Array Slot), lv_has ls 6 [(0, .ref x), (1, .int p0), (2, .int p1)] → ok_X8_call_j43 L x p0 p1 z_43_0 S → h_X8_call x p0 p1 S = h_X8_call_j43 x p0 p1 z_43_0 S → W p l e (pm_R 4 86) s m ([.ref x, .int p0, .int p1] : List Value).toArray below meth c H locs 0 0 Z (F0 m 43 ls [.int z_43_0, .ref x]) := by
      intro z_43_0 H locs hP hS ls hl hok hK_43
      obtain ⟨h_43k, hok⟩ := hok
      obtain ⟨h_43, hok⟩ := hok
      refine hm_callI (G := G) (a := ([.ref x, .int z_43_0] : List Value).toArray) (pr := (h_X8_stops x z_43_0 S)) (rest := []) ?_ hS (fun H locs hP hS => ?_)
      ·
        exact va_runV (As := [.int z_43_0]) (rest := []) ⟨hx, hb, hml, hown, hts⟩ (hm_X8_stops l G L S x z_43_0 h_43) (cwV 1 hts gX8_call_X8_stops rfl rfl rfl hdv_X8_stops ⟨Nat.le_of_ble_eq_true rfl, Nat.le_of_ble_eq_true rfl⟩) ⟨HW.fb, hp_recv hK hP h_43k.1 (PF_6 h_43k.2) rfl, fun U hU hW => ⟨rfl, HW.call hP hK hnd hE hS U hU hW⟩⟩ rfl rfl hl.1 rfl (lv_room (Nat.le_of_ble_eq_true rfl)) dX8_call_43 ⟨Nat.le_refl 0, Nat.le_refl 0⟩
      ·
        refine lv_if_eq (tgt := 51) hx hb dX8_call_46 (by decide) (fun c_46 => ?_) (fun c_46 => ?_)
        ·
          have hok := (hok).1 c_46
          refine lv_aload_n hx hb dX8_call_51 rfl (lv_at hl 0 rfl) ?_
          obtain ⟨h_52, hok⟩ := hok
          refine hp_getR (ci := 6) (C := RX8) (T := TX8) (N := 4) hx hb hts iw_X8_call_X8 hown hK hP h_52.1 (PF_6 h_52.2.1) rfl 0 (by decide) (hts _ (List.mem_of_getElem? (i := 1) rfl)) (fun _ h9 => h9) rfl h_52.2.2 dX8_call_52 ?_
          refine lv_iload_n hx hb dX8_call_55 rfl (lv_at hl 1 rfl) ?_
          obtain ⟨h_56, hok⟩ := hok
          refine hp_aald hx hb hK hP h_56.1 2 (PF_10 h_56.2.1) rfl h_56.2.2 dX8_call_56 ?_
          refine lv_topq (fun r_56 er_56 => ?_)
          rcases r_56 with _ | a_56
          ·
            have hok := (hok).1 er_56.symm
            refine lv_astoreN (lv' := [(5, .null), (0, .ref x), (1, .int p0), (2, .int p1)]) hx hb dX8_call_57 hl (by decide) rfl (fun ls hl => ?_)
            refine lv_aloadN hx hb dX8_call_59 (lv_at hl 0 rfl) ?_
            refine lv_instN hx hb dX8_call_61 ?_
            refine lv_if_eq (tgt := 81) hx hb dX8_call_64 (by decide) (fun _ => ?_) (fun z9 => absurd z9 (by decide))
            refine lv_iconst (v := 0) hx hb dX8_call_81 (by decide) ?_
            rw [hZ]
            exact hm_iret hx hb hr hlocks hS hP hK hnd hE (((hK_43).trans ((if_pos c_46).trans (oq_none er_56.symm)))) dX8_call_82
          ·
            have hok := (hok).2 _ er_56.symm
            refine lv_astore (lv' := [(5, .ref a_56), (0, .ref x), (1, .int p0), (2, .int p1)]) hx hb dX8_call_57 hl (by decide) rfl (fun ls hl => ?_)
            refine lv_aload hx hb dX8_call_59 (lv_at hl 0 rfl) ?_
            obtain ⟨h_61, hok⟩ := hok
            refine hp_inst2 hx hb hE.2 hown (hts _ (List.mem_of_getElem? (i := 2) rfl)) hK hP h_61 dX8_call_61 (fun c_61 => ?_) (fun c_61 => ?_)
            ·
              have hok := (hok).1 c_61
              refine lv_if_eq (tgt := 81) hx hb dX8_call_64 (by decide) (fun z9 => absurd z9 (by decide)) (fun _ => ?_)
              refine lv_aload hx hb dX8_call_67 (lv_at hl 0 rfl) ?_
              obtain ⟨h_69, hok⟩ := hok
              refine hp_cast2 hx hb hE.2 hown (hts _ (List.mem_of_getElem? (i := 2) rfl)) hK hP h_69 dX8_call_69 ?_
              refine lv_astore (lv' := [(4, .ref a_56), (5, .ref a_56), (0, .ref x), (1, .int p0), (2, .int p1)]) hx hb dX8_call_72 hl (by decide) rfl (fun ls hl => ?_)
              refine lv_aload hx hb dX8_call_74 (lv_at hl 0 rfl) ?_
              refine lv_iload_n hx hb dX8_call_76 rfl (lv_at hl 4 rfl) ?_
              obtain ⟨h_77, hok⟩ := hok
              refine hm_callIr (G := G) (S1 := (h_X8_stops x z_43_0 S).2) (a := ([.ref a_56, .int p1] : List Value).toArray) (rest := []) (h_X8_callAnswer a_56 p1 ((h_X8_stops x z_43_0 S).2)) ?_ hS (fun H locs hP hS => ?_)
              ·
                exact va_runS (As := [.ref a_56, .int p1]) (rest := []) ⟨hx, hb, hml, hown, hts⟩ (hm_X8_callAnswer l G L ((h_X8_stops x z_43_0 S).2) a_56 p1 h_77) (va_cwS 2 hts gX8_call_X8_callAnswer rfl rfl rfl hd_X8_callAnswer ⟨Nat.le_of_ble_eq_true rfl, Nat.le_of_ble_eq_true rfl⟩) ⟨HW.fb, fun U hU hW => ⟨rfl, HW.call hP hK hnd hE hS U hU hW⟩⟩ rfl rfl hl.1 rfl (lv_room (Nat.le_of_ble_eq_true rfl)) dX8_call_77 ⟨Nat.le_refl 0, Nat.le_refl 0⟩
              ·
                rw [hZ]
                exact hm_iret hx hb hr hlocks hS hP hK hnd hE (((hK_43).trans ((if_pos c_46).trans ((oq_some er_56.symm).trans (if_pos c_61))))) dX8_call_80
            ·
              have hok := (hok).2 c_61
              refine lv_if_eq (tgt := 81) hx hb dX8_call_64 (by decide) (fun _ => ?_) (fun z9 => absurd z9 (by decide))
              refine lv_iconst (v := 0) hx hb dX8_call_81 (by decide) ?_
              rw [hZ]
              exact hm_iret hx hb hr hlocks hS hP hK hnd hE (((hK_43).trans ((if_pos c_46).trans ((oq_some er_56.symm).trans (if_neg c_61))))) dX8_call_82
        ·
          have hok := (hok).2 c_46
          refine lv_iconst (v := 0) hx hb dX8_call_49 (by decide) ?_
          rw [hZ]
          exact hm_iret hx hb hr hlocks hS hP hK hnd hE (((hK_43).trans (if_neg c_46))) dX8_call_50
    refine lv_if_eq (tgt := 41) hx hb dX8_call_25 (by decide) (fun c_25 => ?_) (fun c_25 => ?_)
    ·
      have hok := (hok).1 c_25
      refine lv_bipush (v := 8) hx hb dX8_call_41 (by decide) ?_
      exact K_43 8 _ _ hP hS ls (lv_sub hl [1, 2, 3] rfl) hok (((hK_22).trans (if_pos c_25)))
    ·
      have hok := (hok).2 c_25
      refine lv_aload_n hx hb dX8_call_28 rfl (lv_at hl 1 rfl) ?_
      obtain ⟨h_29, hok⟩ := hok
      refine hp_getR (ci := 6) (C := RX8) (T := TX8) (N := 4) hx hb hts iw_X8_call_X8 hown hK hP h_29.1 (PF_6 h_29.2.1) rfl 0 (by decide) (hts _ (List.mem_of_getElem? (i := 1) rfl)) (fun _ h9 => h9) rfl h_29.2.2 dX8_call_29 ?_
      refine lv_iload_n hx hb dX8_call_32 rfl (lv_at hl 2 rfl) ?_
      obtain ⟨h_33, hok⟩ := hok
      refine hp_aald hx hb hK hP h_33.1 2 (PF_10 h_33.2.1) rfl h_33.2.2 dX8_call_33 ?_
      refine lv_topq (fun r_33 er_33 => ?_)
      rcases r_33 with _ | a_33
      ·
        have hok := (hok).1 er_33.symm
        refine lv_iload_n hx hb dX8_call_34 rfl (lv_at hl 3 rfl) ?_
        obtain ⟨h_35, hok⟩ := hok
        refine hm_callIr (G := G) (S1 := S) (a := ([.null, .int p1] : List Value).toArray) (rest := [.ref x]) (h_X8_callCause_n p1 S) ?_ hS (fun H locs hP hS => ?_)
        ·
          exact va_runS (As := [.null, .int p1]) (rest := [.ref x]) ⟨hx, hb, hml, hown, hts⟩ (hm_X8_callCause_n l G L S p1 h_35) (va_cwS 2 hts gX8_call_X8_callCause rfl rfl rfl hd_X8_callCause ⟨Nat.le_of_ble_eq_true rfl, Nat.le_of_ble_eq_true rfl⟩) ⟨HW.fb, fun U hU hW => ⟨rfl, HW.call hP hK hnd hE hS U hU hW⟩⟩ rfl rfl hl.1 rfl (lv_room (Nat.le_of_ble_eq_true rfl)) dX8_call_35 ⟨Nat.le_refl 0, Nat.le_refl 0⟩
        ·
          refine lv_goto (tgt := 43) hx hb dX8_call_38 (by decide) ?_
          exact K_43 (h_X8_callCause_n p1 S) _ _ hP hS ls (lv_sub hl [1, 2, 3] rfl) hok (((hK_22).trans ((if_neg c_25).trans (oq_none er_33.symm))))
      ·
        have hok := (hok).2 _ er_33.symm
        refine lv_iload_n hx hb dX8_call_34 rfl (lv_at hl 3 rfl) ?_
        obtain ⟨h_35, hok⟩ := hok
        refine hm_callIr (G := G) (S1 := S) (a := ([.ref a_33, .int p1] : List Value).toArray) (rest := [.ref x]) (h_X8_callCause_s a_33 p1 S) ?_ hS (fun H locs hP hS => ?_)
        ·
          exact va_runS (As := [.ref a_33, .int p1]) (rest := [.ref x]) ⟨hx, hb, hml, hown, hts⟩ (hm_X8_callCause_s l G L S a_33 p1 h_35) (va_cwS 2 hts gX8_call_X8_callCause rfl rfl rfl hd_X8_callCause ⟨Nat.le_of_ble_eq_true rfl, Nat.le_of_ble_eq_true rfl⟩) ⟨HW.fb, fun U hU hW => ⟨rfl, HW.call hP hK hnd hE hS U hU hW⟩⟩ rfl rfl hl.1 rfl (lv_room (Nat.le_of_ble_eq_true rfl)) dX8_call_35 ⟨Nat.le_refl 0, Nat.le_refl 0⟩
        ·
          refine lv_goto (tgt := 43) hx hb dX8_call_38 (by decide) ?_
          exact K_43 (h_X8_callCause_s a_33 p1 S) _ _ hP hS ls (lv_sub hl [1, 2, 3] rfl) hok (((hK_22).trans ((if_neg c_25).trans (oq_some er_33.symm))))
  refine lv_if_eq (tgt := 21) hx hb dX8_call_4 (by decide) (fun c_4 => ?_) (fun c_4 => ?_)
  ·
    have hok := (hok).1 c_4
    refine lv_iconst (v := 0) hx hb dX8_call_21 (by decide) ?_
    exact K_22 0 _ _ hP hS ls (lv_sub hl [0, 1, 2] rfl) hok ((if_pos c_4))
  ·
    have hok := (hok).2 c_4
    refine lv_iload_n hx hb dX8_call_7 rfl (lv_at hl 2 rfl) ?_
    refine lv_if_lt (tgt := 21) hx hb dX8_call_8 (by decide) (fun c_8 => ?_) (fun c_8 => ?_)
    ·
      have hok := (hok).1 c_8
      refine lv_iconst (v := 0) hx hb dX8_call_21 (by decide) ?_
      exact K_22 0 _ _ hP hS ls (lv_sub hl [0, 1, 2] rfl) hok (((if_neg c_4).trans (if_pos c_8)))
    ·
      have hok := (hok).2 c_8
      refine lv_iload_n hx hb dX8_call_11 rfl (lv_at hl 2 rfl) ?_
      refine lv_bipush (v := 6) hx hb dX8_call_12 (by decide) ?_
      refine lv_icmp_gt (tgt := 21) hx hb dX8_call_14 (by decide) (fun c_14 => ?_) (fun c_14 => ?_)
      ·
        have hok := (hok).1 c_14
        refine lv_iconst (v := 0) hx hb dX8_call_21 (by decide) ?_
        exact K_22 0 _ _ hP hS ls (lv_sub hl [0, 1, 2] rfl) hok (((if_neg c_4).trans ((if_neg c_8).trans (if_pos c_14))))
      ·
        have hok := (hok).2 c_14
        refine lv_iconst (v := 1) hx hb dX8_call_17 (by decide) ?_
        refine lv_goto (tgt := 22) hx hb dX8_call_18 (by decide) ?_
        exact K_22 1 _ _ hP hS ls (lv_sub hl [0, 1, 2] rfl) hok (((if_neg c_4).trans ((if_neg c_8).trans (if_neg c_14))))
