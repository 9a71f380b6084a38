/-! ===== the model over its cells (laid by program) ===== -/
theorem hdv_X9_begin : yX9_begin.cls = RX9 ∧ yX9_begin.cls ≠ "java/lang/invoke/MethodHandle" ∧ yX9_begin.cls ≠ "java/lang/invoke/VarHandle" ∧ (parseMethodDescriptor yX9_begin.desc).map (fun d => d.parameters.length) = some 0 := by decide +kernel
theorem iw_X9_begin_X9 : ∀ w ∈ u_ws RX9 TX9 12, w ∈ wsX9_begin := by decide +kernel
def h_X9_begin (x : Nat) (S : HS) : HS :=
  (hwI S x 9 0)
def ok_X9_begin (L : List Nat) (x : Nat) (S : HS) : Prop :=
  (x ∈ L ∧ hsK S x = 7) ∧ (True)
set_option maxHeartbeats 4000000 in
set_option maxRecDepth 100000 in
theorem hm_X9_begin (l : Launch) (G : GE) (L : List Nat) (S : HS) (x : Nat) (hok : ok_X9_begin L x S) : HmV l G yX9_begin wsX9_begin 0 0 [.ref x] L S (h_X9_begin x S) := by
  refine Met.ofW (cc := cX9_begin) (maxL := 1) (ret := none) (by decide) rfl ?_
  intro p e s m args below meth c s₁ B hml hv
  obtain ⟨rfl, hP, hK, hnd, hE⟩ := hv
  have hx := B.exec
  have hb := B.bytes
  have hr := B.returns
  have hts := atoms_spec (ws := wsX9_begin) B.pre
  have hown : s.vm.findClass RX9 = some m.cls := findClass_of_methodNamed B.named
  have hlocks := B.notSynchronized
  have hD := nd_D hnd
  have hS : va_S (AL L) s.heap s.heap [] := va_S.rf
  have hl := lv_entry ([.ref x]) (n := 1) (Nat.le_of_ble_eq_true rfl)
  rw [lg_entry_eq]
  generalize (lg_sl ([.ref x]) ++ List.replicate (1 - (lg_sl ([.ref x])).length) Slot.unset).toArray = ls at hl ⊢
  have hl : lv_has ls 1 [(0, .ref x)] := hl
  obtain ⟨Z, hZ⟩ : ∃ z, z = MQ below (hm_QV G L (h_X9_begin x S)) ([.ref x] : List Value).toArray s 0 0 (AL L) := ⟨_, rfl⟩
  rw [← hZ]
  refine lv_aload_n hx hb dX9_begin_0 rfl (lv_at hl 0 rfl) ?_
  refine lv_iconst (v := 0) hx hb dX9_begin_1 (by decide) ?_
  obtain ⟨h_2, hok⟩ := hok
  refine hp_put (ci := 7) (C := RX9) (T := TX9) (N := 12) (ty := .int) (v := .int 0) (g := PF G (hwI S x 9 0)) hx hb hts iw_X9_begin_X9 tyX9 tyX9_ok nmX9 hown hK hP (hD _) hS h_2.1 (PF_7 h_2.2) rfl 9 (by decide) (hts _ (List.mem_of_getElem? (i := 1) rfl)) (fun _ h9 => h9) rfl (by decide +kernel) rfl rfl (Nat.le_of_ble_eq_true rfl) (PF_s7_9 h_2.2) (fun _ hb9 => PF_wI hb9) dX9_begin_2 (fun H locs hP hS => ?_)
  rw [hZ]
  exact hm_vret hx hb hr hlocks hS hP hK hnd hE (rfl) dX9_begin_5
theorem hdv_X9_fails : yX9_fails.cls = RX9 ∧ yX9_fails.cls ≠ "java/lang/invoke/MethodHandle" ∧ yX9_fails.cls ≠ "java/lang/invoke/VarHandle" ∧ (parseMethodDescriptor yX9_fails.desc).map (fun d => d.parameters.length) = some 1 := by decide +kernel
theorem iw_X9_fails_X9 : ∀ w ∈ u_ws RX9 TX9 12, w ∈ wsX9_fails := by decide +kernel
def h_X9_fails (x : Nat) (p0 : Int32) (S : HS) : Int32 × HS :=
  (0, (hwA (hwI S x 9 p0) ((hsQ (hwI S x 9 p0) x 10).getD 0) p0.toNatClampNeg ((hsA (hwI S x 9 p0) ((hsQ (hwI S x 9 p0) x 10).getD 0) p0.toNatClampNeg) + 1)))
def ok_X9_fails (L : List Nat) (x : Nat) (p0 : Int32) (S : HS) : Prop :=
  (x ∈ L ∧ hsK S x = 7) ∧ ((x ∈ L ∧ hsK (hwI S x 9 p0) x = 7 ∧ hsQ (hwI S x 9 p0) x 10 ≠ none) ∧ ((((hsQ (hwI S x 9 p0) x 10).getD 0) ∈ L ∧ hsK (hwI S x 9 p0) ((hsQ (hwI S x 9 p0) x 10).getD 0) = 8 ∧ vp_in p0 (hsN (hwI S x 9 p0) ((hsQ (hwI S x 9 p0) x 10).getD 0))) ∧ ((((hsQ (hwI S x 9 p0) x 10).getD 0) ∈ L ∧ hsK (hwI S x 9 p0) ((hsQ (hwI S x 9 p0) x 10).getD 0) = 8 ∧ vp_in p0 (hsN (hwI S x 9 p0) ((hsQ (hwI S x 9 p0) x 10).getD 0))) ∧ (True))))
set_option maxHeartbeats 4000000 in
set_option maxRecDepth 100000 in
theorem hm_X9_fails (l : Launch) (G : GE) (L : List Nat) (S : HS) (x : Nat) (p0 : Int32) (hok : ok_X9_fails L x p0 S) : HmI l G yX9_fails wsX9_fails 0 0 [.ref x, .int p0] L S (h_X9_fails x p0 S) := by
  refine Met.ofW (cc := cX9_fails) (maxL := 2) (ret := (some .int)) (by decide) rfl ?_
  intro p e s m args below meth c s₁ B hml hv
  obtain ⟨rfl, hP, hK, hnd, hE⟩ := hv
  have hx := B.exec
  have hb := B.bytes
  have hr := B.returns
  have hts := atoms_spec (ws := wsX9_fails) B.pre
  have hown : s.vm.findClass RX9 = some m.cls := findClass_of_methodNamed B.named
  have hlocks := B.notSynchronized
  have hD := nd_D hnd
  have hS : va_S (AL L) s.heap s.heap [] := va_S.rf
  have hl := lv_entry ([.ref x, .int p0]) (n := 2) (Nat.le_of_ble_eq_true rfl)
  rw [lg_entry_eq]
  generalize (lg_sl ([.ref x, .int p0]) ++ List.replicate (2 - (lg_sl ([.ref x, .int p0])).length) Slot.unset).toArray = ls at hl ⊢
  have hl : lv_has ls 2 [(0, .ref x), (1, .int p0)] := hl
  obtain ⟨Z, hZ⟩ : ∃ z, z = MQ below (hm_QI G L (h_X9_fails x p0 S)) ([.ref x, .int p0] : List Value).toArray s 0 0 (AL L) := ⟨_, rfl⟩
  rw [← hZ]
  refine lv_aload_n hx hb dX9_fails_0 rfl (lv_at hl 0 rfl) ?_
  refine lv_iload_n hx hb dX9_fails_1 rfl (lv_at hl 1 rfl) ?_
  obtain ⟨h_2, hok⟩ := hok
  refine hp_put (ci := 7) (C := RX9) (T := TX9) (N := 12) (ty := .int) (v := .int p0) (g := PF G (hwI S x 9 p0)) hx hb hts iw_X9_fails_X9 tyX9 tyX9_ok nmX9 hown hK hP (hD _) hS h_2.1 (PF_7 h_2.2) rfl 9 (by decide) (hts _ (List.mem_of_getElem? (i := 1) rfl)) (fun _ h9 => h9) rfl (by decide +kernel) rfl rfl (Nat.le_of_ble_eq_true rfl) (PF_s7_9 h_2.2) (fun _ hb9 => PF_wI hb9) dX9_fails_2 (fun H locs hP hS => ?_)
  refine lv_aload_n hx hb dX9_fails_5 rfl (lv_at hl 0 rfl) ?_
  obtain ⟨h_6, hok⟩ := hok
  refine hp_getR (ci := 7) (C := RX9) (T := TX9) (N := 12) hx hb hts iw_X9_fails_X9 hown hK hP h_6.1 (PF_7 h_6.2.1) rfl 10 (by decide) (hts _ (List.mem_of_getElem? (i := 2) rfl)) (fun _ h9 => h9) rfl h_6.2.2 dX9_fails_6 ?_
  refine lv_iload_n hx hb dX9_fails_9 rfl (lv_at hl 1 rfl) ?_
  refine lv_dup2_11 hx hb dX9_fails_10 rfl rfl ?_
  obtain ⟨h_11, hok⟩ := hok
  refine hp_iald hx hb hK hP h_11.1 0 (PF_8 h_11.2.1) rfl h_11.2.2 dX9_fails_11 ?_
  refine lv_iconst (v := 1) hx hb dX9_fails_12 (by decide) ?_
  refine lv_iadd hx hb dX9_fails_13 ?_
  obtain ⟨h_14, hok⟩ := hok
  refine hp_iast (g2 := PF G (hwA (hwI S x 9 p0) ((hsQ (hwI S x 9 p0) x 10).getD 0) p0.toNatClampNeg ((hsA (hwI S x 9 p0) ((hsQ (hwI S x 9 p0) x 10).getD 0) p0.toNatClampNeg) + 1))) hx hb hK hP (hD _) hS h_14.1 0 (PF_8 h_14.2.1) rfl h_14.2.2 (PF_sA h_14.2.1) (fun _ hb9 => PF_wA hb9) dX9_fails_14 (fun H locs hP hS => ?_)
  refine lv_iconst (v := 0) hx hb dX9_fails_15 (by decide) ?_
  rw [hZ]
  exact hm_iret hx hb hr hlocks hS hP hK hnd hE (rfl) dX9_fails_16
theorem hdv_X9_passes : yX9_passes.cls = RX9 ∧ yX9_passes.cls ≠ "java/lang/invoke/MethodHandle" ∧ yX9_passes.cls ≠ "java/lang/invoke/VarHandle" ∧ (parseMethodDescriptor yX9_passes.desc).map (fun d => d.parameters.length) = some 2 := by decide +kernel
theorem iw_X9_passes_X9 : ∀ w ∈ u_ws RX9 TX9 12, w ∈ wsX9_passes := by decide +kernel
def h_X9_passes (x : Nat) (p0 : Int32) (p1 : Int32) (S : HS) : Int32 :=
  if p0 = 0 then 1
  else if (s_X9_isKindOf (hsA S ((hsQ S x 0).getD 0) p0.toNatClampNeg) p1) = 0 then 0
   else 1
def ok_X9_passes (L : List Nat) (x : Nat) (p0 : Int32) (p1 : Int32) (S : HS) : Prop :=
  ((p0 = 0) → (True)) ∧
  (¬ (p0 = 0) → ((x ∈ L ∧ hsK S x = 7 ∧ hsQ S x 0 ≠ none) ∧ ((((hsQ S x 0).getD 0) ∈ L ∧ hsK S ((hsQ S x 0).getD 0) = 8 ∧ vp_in p0 (hsN S ((hsQ S x 0).getD 0))) ∧ ((((s_X9_isKindOf (hsA S ((hsQ S x 0).getD 0) p0.toNatClampNeg) p1) = 0) → (True)) ∧
   (¬ ((s_X9_isKindOf (hsA S ((hsQ S x 0).getD 0) p0.toNatClampNeg) p1) = 0) → (True))))))
set_option maxHeartbeats 4000000 in
set_option maxRecDepth 100000 in
theorem hm_X9_passes (l : Launch) (G : GE) (L : List Nat) (S : HS) (x : Nat) (p0 : Int32) (p1 : Int32) (hok : ok_X9_passes L x p0 p1 S) : HmI l G yX9_passes wsX9_passes 1 21 [.ref x, .int p0, .int p1] L S ((h_X9_passes x p0 p1 S, S)) := by
  refine Met.ofW (cc := cX9_passes) (maxL := 3) (ret := (some .boolean)) (by decide) rfl ?_
  intro p e s m args below meth c s₁ B hml hv
  obtain ⟨rfl, hP, hK, hnd, hE⟩ := hv
  have hx := B.exec
  have hb := B.bytes
  have hr := B.returns
  have hts := atoms_spec (ws := wsX9_passes) B.pre
  have hown : s.vm.findClass RX9 = some m.cls := findClass_of_methodNamed B.named
  have hlocks := B.notSynchronized
  have hD := nd_D hnd
  have hS : va_S (AL L) s.heap s.heap [] := va_S.rf
  have hl := lv_entry ([.ref x, .int p0, .int p1]) (n := 3) (Nat.le_of_ble_eq_true rfl)
  rw [lg_entry_eq]
  generalize (lg_sl ([.ref x, .int p0, .int p1]) ++ List.replicate (3 - (lg_sl ([.ref x, .int p0, .int p1])).length) Slot.unset).toArray = ls at hl ⊢
  have hl : lv_has ls 3 [(0, .ref x), (1, .int p0), (2, .int p1)] := hl
  obtain ⟨Z, hZ⟩ : ∃ z, z = MQ below (hm_QI G L ((h_X9_passes x p0 p1 S, S))) ([.ref x, .int p0, .int p1] : List Value).toArray s 0 0 (AL L) := ⟨_, rfl⟩
  rw [← hZ]
  refine lv_iload_n hx hb dX9_passes_0 rfl (lv_at hl 1 rfl) ?_
  refine lv_if_eq (tgt := 17) hx hb dX9_passes_1 (by decide) (fun c_1 => ?_) (fun c_1 => ?_)
  ·
    have hok := (hok).1 c_1
    refine lv_iconst (v := 1) hx hb dX9_passes_17 (by decide) ?_
    refine lv_goto (tgt := 22) hx hb dX9_passes_18 (by decide) ?_
    rw [hZ]
    exact hm_zret hx hb hr hlocks hS (nz_1) hP hK hnd hE (congrArg (fun z => (z, S)) ((if_pos c_1))) dX9_passes_22
  ·
    have hok := (hok).2 c_1
    refine lv_aload_n hx hb dX9_passes_4 rfl (lv_at hl 0 rfl) ?_
    obtain ⟨h_5, hok⟩ := hok
    refine hp_getR (ci := 7) (C := RX9) (T := TX9) (N := 12) hx hb hts iw_X9_passes_X9 hown hK hP h_5.1 (PF_7 h_5.2.1) rfl 0 (by decide) (hts _ (List.mem_of_getElem? (i := 1) rfl)) (fun _ h9 => h9) rfl h_5.2.2 dX9_passes_5 ?_
    refine lv_iload_n hx hb dX9_passes_8 rfl (lv_at hl 1 rfl) ?_
    obtain ⟨h_9, hok⟩ := hok
    refine hp_iald hx hb hK hP h_9.1 0 (PF_8 h_9.2.1) rfl h_9.2.2 dX9_passes_9 ?_
    refine lv_iload_n hx hb dX9_passes_10 rfl (lv_at hl 2 rfl) ?_
    refine pm_callI (va_runS (As := [.int (hsA S ((hsQ S x 0).getD 0) p0.toNatClampNeg), .int p1]) (rest := []) ⟨hx, hb, hml, hown, hts⟩ (pm_X9_isKindOf l (hsA S ((hsQ S x 0).getD 0) p0.toNatClampNeg) p1) (va_cwS 2 hts gX9_passes_X9_isKindOf rfl rfl rfl hd_X9_isKindOf ⟨Nat.le_of_ble_eq_true rfl, Nat.le_of_ble_eq_true rfl⟩) ⟨pm_fbT, fun U hU hW => ⟨rfl, trivial⟩⟩ rfl rfl hl.1 rfl (lv_room (Nat.le_of_ble_eq_true rfl)) dX9_passes_11 ⟨Nat.le_refl 0, Nat.le_refl 0⟩) hS (fun H locs _ hk9 hS => ?_)
    replace hP := P_keep hP hk9
    refine lv_if_eq (tgt := 21) hx hb dX9_passes_14 (by decide) (fun c_14 => ?_) (fun c_14 => ?_)
    ·
      have hok := (hok).1 c_14
      refine lv_iconst (v := 0) hx hb dX9_passes_21 (by decide) ?_
      rw [hZ]
      exact hm_zret hx hb hr hlocks hS (nz_0) hP hK hnd hE (congrArg (fun z => (z, S)) (((if_neg c_1).trans (if_pos c_14)))) dX9_passes_22
    ·
      have hok := (hok).2 c_14
      refine lv_iconst (v := 1) hx hb dX9_passes_17 (by decide) ?_
      refine lv_goto (tgt := 22) hx hb dX9_passes_18 (by decide) ?_
      rw [hZ]
      exact hm_zret hx hb hr hlocks hS (nz_1) hP hK hnd hE (congrArg (fun z => (z, S)) (((if_neg c_1).trans (if_neg c_14)))) dX9_passes_22
theorem hdv_X9_against : yX9_against.cls = RX9 ∧ yX9_against.cls ≠ "java/lang/invoke/MethodHandle" ∧ yX9_against.cls ≠ "java/lang/invoke/VarHandle" ∧ (parseMethodDescriptor yX9_against.desc).map (fun d => d.parameters.length) = some 3 := by decide +kernel
theorem iw_X9_against_X9 : ∀ w ∈ u_ws RX9 TX9 12, w ∈ wsX9_against := by decide +kernel
def h_X9_against (x : Nat) (p0 : Int32) (p1 : Int32) (p2 : Int32) (S : HS) : Int32 :=
  if (h_X9_passes x p1 p0 S) = 0 then 4
  else if p1 = 0 then 1
   else if (s_X9_in p2 0 ((hsA S ((hsQ S x 1).getD 0) p1.toNatClampNeg) - 1)) = 0 then 2
    else 0
def ok_X9_against (L : List Nat) (x : Nat) (p0 : Int32) (p1 : Int32) (p2 : Int32) (S : HS) : Prop :=
  (x ∈ L ∧ hsK S x = 7) ∧ ((ok_X9_passes L x p1 p0 S) ∧ ((((h_X9_passes x p1 p0 S) = 0) → (True)) ∧
  (¬ ((h_X9_passes x p1 p0 S) = 0) → (((p1 = 0) → (True)) ∧
   (¬ (p1 = 0) → ((x ∈ L ∧ hsK S x = 7 ∧ hsQ S x 1 ≠ none) ∧ ((((hsQ S x 1).getD 0) ∈ L ∧ hsK S ((hsQ S x 1).getD 0) = 8 ∧ vp_in p1 (hsN S ((hsQ S x 1).getD 0))) ∧ ((((s_X9_in p2 0 ((hsA S ((hsQ S x 1).getD 0) p1.toNatClampNeg) - 1)) = 0) → (True)) ∧
    (¬ ((s_X9_in p2 0 ((hsA S ((hsQ S x 1).getD 0) p1.toNatClampNeg) - 1)) = 0) → (True))))))))))
set_option maxHeartbeats 4000000 in
set_option maxRecDepth 100000 in
theorem hm_X9_against (l : Launch) (G : GE) (L : List Nat) (S : HS) (x : Nat) (p0 : Int32) (p1 : Int32) (p2 : Int32) (hok : ok_X9_against L x p0 p1 p2 S) : HmI l G yX9_against wsX9_against 2 43 [.ref x, .int p0, .int p1, .int p2] L S ((h_X9_against x p0 p1 p2 S, S)) := by
  refine Met.ofW (cc := cX9_against) (maxL := 4) (ret := (some .int)) (by decide) rfl ?_
  intro p e s m args below meth c s₁ B hml hv
  obtain ⟨rfl, hP, hK, hnd, hE⟩ := hv
  have hx := B.exec
  have hb := B.bytes
  have hr := B.returns
  have hts := atoms_spec (ws := wsX9_against) B.pre
  have hown : s.vm.findClass RX9 = some m.cls := findClass_of_methodNamed B.named
  have hlocks := B.notSynchronized
  have hD := nd_D hnd
  have hS : va_S (AL L) s.heap s.heap [] := va_S.rf
  have hl := lv_entry ([.ref x, .int p0, .int p1, .int p2]) (n := 4) (Nat.le_of_ble_eq_true rfl)
  rw [lg_entry_eq]
  generalize (lg_sl ([.ref x, .int p0, .int p1, .int p2]) ++ List.replicate (4 - (lg_sl ([.ref x, .int p0, .int p1, .int p2])).length) Slot.unset).toArray = ls at hl ⊢
  have hl : lv_has ls 4 [(0, .ref x), (1, .int p0), (2, .int p1), (3, .int p2)] := hl
  obtain ⟨Z, hZ⟩ : ∃ z, z = MQ below (hm_QI G L ((h_X9_against x p0 p1 p2 S, S))) ([.ref x, .int p0, .int p1, .int p2] : List Value).toArray s 0 0 (AL L) := ⟨_, rfl⟩
  rw [← hZ]
  refine lv_aload_n hx hb dX9_against_0 rfl (lv_at hl 0 rfl) ?_
  refine lv_iload_n hx hb dX9_against_1 rfl (lv_at hl 2 rfl) ?_
  refine lv_iload_n hx hb dX9_against_2 rfl (lv_at hl 1 rfl) ?_
  obtain ⟨h_3k, hok⟩ := hok
  obtain ⟨h_3, hok⟩ := hok
  refine hm_callIr (G := G) (S1 := S) (a := ([.ref x, .int p1, .int p0] : List Value).toArray) (rest := []) (h_X9_passes x p1 p0 S) ?_ hS (fun H locs hP hS => ?_)
  ·
    exact va_runV (As := [.int p1, .int p0]) (rest := []) ⟨hx, hb, hml, hown, hts⟩ (hm_X9_passes l G L S x p1 p0 h_3) (cwV 2 hts gX9_against_X9_passes rfl rfl rfl hdv_X9_passes ⟨Nat.le_of_ble_eq_true rfl, Nat.le_of_ble_eq_true rfl⟩) ⟨HW.fb, hp_recv hK hP h_3k.1 (PF_7 h_3k.2) rfl, fun U hU hW => ⟨rfl, HW.call hP hK hnd hE hS U hU hW⟩⟩ rfl rfl hl.1 rfl (lv_room (Nat.le_of_ble_eq_true rfl)) dX9_against_3 ⟨Nat.le_refl 0, Nat.le_refl 0⟩
  ·
    refine lv_if_ne (tgt := 13) hx hb dX9_against_6 (by decide) (fun c_6 => ?_) (fun c_6 => ?_)
    ·
      have hok := (hok).2 c_6
      refine lv_iload_n hx hb dX9_against_13 rfl (lv_at hl 2 rfl) ?_
      refine lv_if_ne (tgt := 21) hx hb dX9_against_14 (by decide) (fun c_14 => ?_) (fun c_14 => ?_)
      ·
        have hok := (hok).2 c_14
        refine lv_iload_n hx hb dX9_against_21 rfl (lv_at hl 3 rfl) ?_
        refine lv_iconst (v := 0) hx hb dX9_against_22 (by decide) ?_
        refine lv_aload_n hx hb dX9_against_23 rfl (lv_at hl 0 rfl) ?_
        obtain ⟨h_24, hok⟩ := hok
        refine hp_getR (ci := 7) (C := RX9) (T := TX9) (N := 12) hx hb hts iw_X9_against_X9 hown hK hP h_24.1 (PF_7 h_24.2.1) rfl 1 (by decide) (hts _ (List.mem_of_getElem? (i := 1) rfl)) (fun _ h9 => h9) rfl h_24.2.2 dX9_against_24 ?_
        refine lv_iload_n hx hb dX9_against_27 rfl (lv_at hl 2 rfl) ?_
        obtain ⟨h_28, hok⟩ := hok
        refine hp_iald hx hb hK hP h_28.1 0 (PF_8 h_28.2.1) rfl h_28.2.2 dX9_against_28 ?_
        refine lv_iconst (v := 1) hx hb dX9_against_29 (by decide) ?_
        refine lv_isub hx hb dX9_against_30 ?_
        refine pm_callI (va_runS (As := [.int p2, .int 0, .int ((hsA S ((hsQ S x 1).getD 0) p1.toNatClampNeg) - 1)]) (rest := []) ⟨hx, hb, hml, hown, hts⟩ (pm_X9_in l p2 0 ((hsA S ((hsQ S x 1).getD 0) p1.toNatClampNeg) - 1)) (va_cwS 3 hts gX9_against_X9_in rfl rfl rfl hd_X9_in ⟨Nat.le_of_ble_eq_true rfl, Nat.le_of_ble_eq_true rfl⟩) ⟨pm_fbT, fun U hU hW => ⟨rfl, trivial⟩⟩ rfl rfl hl.1 rfl (lv_room (Nat.le_of_ble_eq_true rfl)) dX9_against_31 ⟨Nat.le_refl 0, Nat.le_refl 0⟩) hS (fun H locs _ hk9 hS => ?_)
        replace hP := P_keep hP hk9
        refine lv_if_ne (tgt := 41) hx hb dX9_against_34 (by decide) (fun c_34 => ?_) (fun c_34 => ?_)
        ·
          have hok := (hok).2 c_34
          refine lv_iconst (v := 0) hx hb dX9_against_41 (by decide) ?_
          rw [hZ]
          exact hm_iret hx hb hr hlocks hS hP hK hnd hE (congrArg (fun z => (z, S)) (((if_neg c_6).trans ((if_neg c_14).trans (if_neg c_34))))) dX9_against_42
        ·
          have hok := (hok).1 c_34
          refine lv_iconst (v := 2) hx hb dX9_against_37 (by decide) ?_
          refine lv_goto (tgt := 42) hx hb dX9_against_38 (by decide) ?_
          rw [hZ]
          exact hm_iret hx hb hr hlocks hS hP hK hnd hE (congrArg (fun z => (z, S)) (((if_neg c_6).trans ((if_neg c_14).trans (if_pos c_34))))) dX9_against_42
      ·
        have hok := (hok).1 c_14
        refine lv_iconst (v := 1) hx hb dX9_against_17 (by decide) ?_
        refine lv_goto (tgt := 42) hx hb dX9_against_18 (by decide) ?_
        rw [hZ]
        exact hm_iret hx hb hr hlocks hS hP hK hnd hE (congrArg (fun z => (z, S)) (((if_neg c_6).trans (if_pos c_14)))) dX9_against_42
    ·
      have hok := (hok).1 c_6
      refine lv_iconst (v := 4) hx hb dX9_against_9 (by decide) ?_
      refine lv_goto (tgt := 42) hx hb dX9_against_10 (by decide) ?_
      rw [hZ]
      exact hm_iret hx hb hr hlocks hS hP hK hnd hE (congrArg (fun z => (z, S)) ((if_pos c_6))) dX9_against_42
theorem hdv_X9_element : yX9_element.cls = RX9 ∧ yX9_element.cls ≠ "java/lang/invoke/MethodHandle" ∧ yX9_element.cls ≠ "java/lang/invoke/VarHandle" ∧ (parseMethodDescriptor yX9_element.desc).map (fun d => d.parameters.length) = some 2 := by decide +kernel
theorem iw_X9_element_X9 : ∀ w ∈ u_ws RX9 TX9 12, w ∈ wsX9_element := by decide +kernel
def h_X9_element (x : Nat) (p0 : Int32) (p1 : Int32) (S : HS) : Int64 :=
  if (hsA S ((hsQ S x 0).getD 0) p0.toNatClampNeg) = 0 then (hsA S ((hsQ S x 4).getD 0) ((hsA S ((hsQ S x 2).getD 0) p0.toNatClampNeg) + p1).toNatClampNeg).toInt64
  else hsJ S ((hsQ S x 6).getD 0) ((hsA S ((hsQ S x 2).getD 0) p0.toNatClampNeg) + p1).toNatClampNeg
def ok_X9_element (L : List Nat) (x : Nat) (p0 : Int32) (p1 : Int32) (S : HS) : Prop :=
  (x ∈ L ∧ hsK S x = 7 ∧ hsQ S x 0 ≠ none) ∧ ((((hsQ S x 0).getD 0) ∈ L ∧ hsK S ((hsQ S x 0).getD 0) = 8 ∧ vp_in p0 (hsN S ((hsQ S x 0).getD 0))) ∧ ((((hsA S ((hsQ S x 0).getD 0) p0.toNatClampNeg) = 0) → ((x ∈ L ∧ hsK S x = 7 ∧ hsQ S x 4 ≠ none) ∧ ((x ∈ L ∧ hsK S x = 7 ∧ hsQ S x 2 ≠ none) ∧ ((((hsQ S x 2).getD 0) ∈ L ∧ hsK S ((hsQ S x 2).getD 0) = 8 ∧ vp_in p0 (hsN S ((hsQ S x 2).getD 0))) ∧ ((((hsQ S x 4).getD 0) ∈ L ∧ hsK S ((hsQ S x 4).getD 0) = 8 ∧ vp_in ((hsA S ((hsQ S x 2).getD 0) p0.toNatClampNeg) + p1) (hsN S ((hsQ S x 4).getD 0))) ∧ (True)))))) ∧
  (¬ ((hsA S ((hsQ S x 0).getD 0) p0.toNatClampNeg) = 0) → ((x ∈ L ∧ hsK S x = 7 ∧ hsQ S x 6 ≠ none) ∧ ((x ∈ L ∧ hsK S x = 7 ∧ hsQ S x 2 ≠ none) ∧ ((((hsQ S x 2).getD 0) ∈ L ∧ hsK S ((hsQ S x 2).getD 0) = 8 ∧ vp_in p0 (hsN S ((hsQ S x 2).getD 0))) ∧ ((((hsQ S x 6).getD 0) ∈ L ∧ hsK S ((hsQ S x 6).getD 0) = 9 ∧ vp_in ((hsA S ((hsQ S x 2).getD 0) p0.toNatClampNeg) + p1) (hsN S ((hsQ S x 6).getD 0))) ∧ (True))))))))
set_option maxHeartbeats 4000000 in
set_option maxRecDepth 100000 in
theorem hm_X9_element (l : Launch) (G : GE) (L : List Nat) (S : HS) (x : Nat) (p0 : Int32) (p1 : Int32) (hok : ok_X9_element L x p0 p1 S) : HmL l G yX9_element wsX9_element 0 0 [.ref x, .int p0, .int p1] L S ((h_X9_element x p0 p1 S, S)) := by
  refine Met.ofW (cc := cX9_element) (maxL := 3) (ret := (some .long)) (by decide) rfl ?_
  intro p e s m args below meth c s₁ B hml hv
  obtain ⟨rfl, hP, hK, hnd, hE⟩ := hv
  have hx := B.exec
  have hb := B.bytes
  have hr := B.returns
  have hts := atoms_spec (ws := wsX9_element) B.pre
  have hown : s.vm.findClass RX9 = some m.cls := findClass_of_methodNamed B.named
  have hlocks := B.notSynchronized
  have hD := nd_D hnd
  have hS : va_S (AL L) s.heap s.heap [] := va_S.rf
  have hl := lv_entry ([.ref x, .int p0, .int p1]) (n := 3) (Nat.le_of_ble_eq_true rfl)
  rw [lg_entry_eq]
  generalize (lg_sl ([.ref x, .int p0, .int p1]) ++ List.replicate (3 - (lg_sl ([.ref x, .int p0, .int p1])).length) Slot.unset).toArray = ls at hl ⊢
  have hl : lv_has ls 3 [(0, .ref x), (1, .int p0), (2, .int p1)] := hl
  obtain ⟨Z, hZ⟩ : ∃ z, z = MQ below (hm_QL G L ((h_X9_element x p0 p1 S, S))) ([.ref x, .int p0, .int p1] : List Value).toArray s 0 0 (AL L) := ⟨_, rfl⟩
  rw [← hZ]
  refine lv_aload_n hx hb dX9_element_0 rfl (lv_at hl 0 rfl) ?_
  obtain ⟨h_1, hok⟩ := hok
  refine hp_getR (ci := 7) (C := RX9) (T := TX9) (N := 12) hx hb hts iw_X9_element_X9 hown hK hP h_1.1 (PF_7 h_1.2.1) rfl 0 (by decide) (hts _ (List.mem_of_getElem? (i := 1) rfl)) (fun _ h9 => h9) rfl h_1.2.2 dX9_element_1 ?_
  refine lv_iload_n hx hb dX9_element_4 rfl (lv_at hl 1 rfl) ?_
  obtain ⟨h_5, hok⟩ := hok
  refine hp_iald hx hb hK hP h_5.1 0 (PF_8 h_5.2.1) rfl h_5.2.2 dX9_element_5 ?_
  refine lv_if_ne (tgt := 26) hx hb dX9_element_6 (by decide) (fun c_6 => ?_) (fun c_6 => ?_)
  ·
    have hok := (hok).2 c_6
    refine lv_aload_n hx hb dX9_element_26 rfl (lv_at hl 0 rfl) ?_
    obtain ⟨h_27, hok⟩ := hok
    refine hp_getR (ci := 7) (C := RX9) (T := TX9) (N := 12) hx hb hts iw_X9_element_X9 hown hK hP h_27.1 (PF_7 h_27.2.1) rfl 6 (by decide) (hts _ (List.mem_of_getElem? (i := 4) rfl)) (fun _ h9 => h9) rfl h_27.2.2 dX9_element_27 ?_
    refine lv_aload_n hx hb dX9_element_30 rfl (lv_at hl 0 rfl) ?_
    obtain ⟨h_31, hok⟩ := hok
    refine hp_getR (ci := 7) (C := RX9) (T := TX9) (N := 12) hx hb hts iw_X9_element_X9 hown hK hP h_31.1 (PF_7 h_31.2.1) rfl 2 (by decide) (hts _ (List.mem_of_getElem? (i := 3) rfl)) (fun _ h9 => h9) rfl h_31.2.2 dX9_element_31 ?_
    refine lv_iload_n hx hb dX9_element_34 rfl (lv_at hl 1 rfl) ?_
    obtain ⟨h_35, hok⟩ := hok
    refine hp_iald hx hb hK hP h_35.1 0 (PF_8 h_35.2.1) rfl h_35.2.2 dX9_element_35 ?_
    refine lv_iload_n hx hb dX9_element_36 rfl (lv_at hl 2 rfl) ?_
    refine lv_iadd hx hb dX9_element_37 ?_
    obtain ⟨h_38, hok⟩ := hok
    refine hp_lald hx hb hK hP h_38.1 1 (PF_9 h_38.2.1) rfl h_38.2.2 dX9_element_38 ?_
    rw [hZ]
    exact hm_lret hx hb hr hlocks hS hP hK hnd hE (congrArg (fun z => (z, S)) ((if_neg c_6))) dX9_element_39
  ·
    have hok := (hok).1 c_6
    refine lv_aload_n hx hb dX9_element_9 rfl (lv_at hl 0 rfl) ?_
    obtain ⟨h_10, hok⟩ := hok
    refine hp_getR (ci := 7) (C := RX9) (T := TX9) (N := 12) hx hb hts iw_X9_element_X9 hown hK hP h_10.1 (PF_7 h_10.2.1) rfl 4 (by decide) (hts _ (List.mem_of_getElem? (i := 2) rfl)) (fun _ h9 => h9) rfl h_10.2.2 dX9_element_10 ?_
    refine lv_aload_n hx hb dX9_element_13 rfl (lv_at hl 0 rfl) ?_
    obtain ⟨h_14, hok⟩ := hok
    refine hp_getR (ci := 7) (C := RX9) (T := TX9) (N := 12) hx hb hts iw_X9_element_X9 hown hK hP h_14.1 (PF_7 h_14.2.1) rfl 2 (by decide) (hts _ (List.mem_of_getElem? (i := 3) rfl)) (fun _ h9 => h9) rfl h_14.2.2 dX9_element_14 ?_
    refine lv_iload_n hx hb dX9_element_17 rfl (lv_at hl 1 rfl) ?_
    obtain ⟨h_18, hok⟩ := hok
    refine hp_iald hx hb hK hP h_18.1 0 (PF_8 h_18.2.1) rfl h_18.2.2 dX9_element_18 ?_
    refine lv_iload_n hx hb dX9_element_19 rfl (lv_at hl 2 rfl) ?_
    refine lv_iadd hx hb dX9_element_20 ?_
    obtain ⟨h_21, hok⟩ := hok
    refine hp_iald hx hb hK hP h_21.1 0 (PF_8 h_21.2.1) rfl h_21.2.2 dX9_element_21 ?_
    refine lv_i2l (v := (hsA S ((hsQ S x 4).getD 0) ((hsA S ((hsQ S x 2).getD 0) p0.toNatClampNeg) + p1).toNatClampNeg).toInt64) hx hb dX9_element_22 rfl ?_
    refine lv_goto (tgt := 39) hx hb dX9_element_23 (by decide) ?_
    rw [hZ]
    exact hm_lret hx hb hr hlocks hS hP hK hnd hE (congrArg (fun z => (z, S)) ((if_pos c_6))) dX9_element_39
theorem hdv_X9_isBeyond : yX9_isBeyond.cls = RX9 ∧ yX9_isBeyond.cls ≠ "java/lang/invoke/MethodHandle" ∧ yX9_isBeyond.cls ≠ "java/lang/invoke/VarHandle" ∧ (parseMethodDescriptor yX9_isBeyond.desc).map (fun d => d.parameters.length) = some 3 := by decide +kernel
theorem iw_X9_isBeyond_X9 : ∀ w ∈ u_ws RX9 TX9 12, w ∈ wsX9_isBeyond := by decide +kernel
def h_X9_isBeyond (x : Nat) (p0 : Int32) (p1 : Int32) (p2 : Int32) (S : HS) : Int32 :=
  if p1 < 0 then 1
  else if p2 < 0 then 1
   else if (p1.toInt64 + p2.toInt64) ≤ ((hsA S ((hsQ S x 1).getD 0) p0.toNatClampNeg).toInt64) then 0
    else 1
def ok_X9_isBeyond (L : List Nat) (x : Nat) (p0 : Int32) (p1 : Int32) (p2 : Int32) (S : HS) : Prop :=
  ((p1 < 0) → (True)) ∧
  (¬ (p1 < 0) → (((p2 < 0) → (True)) ∧
   (¬ (p2 < 0) → ((x ∈ L ∧ hsK S x = 7 ∧ hsQ S x 1 ≠ none) ∧ ((((hsQ S x 1).getD 0) ∈ L ∧ hsK S ((hsQ S x 1).getD 0) = 8 ∧ vp_in p0 (hsN S ((hsQ S x 1).getD 0))) ∧ ((((p1.toInt64 + p2.toInt64) ≤ ((hsA S ((hsQ S x 1).getD 0) p0.toNatClampNeg).toInt64)) → (True)) ∧
    (¬ ((p1.toInt64 + p2.toInt64) ≤ ((hsA S ((hsQ S x 1).getD 0) p0.toNatClampNeg).toInt64)) → (True))))))))
set_option maxHeartbeats 4000000 in
set_option maxRecDepth 100000 in
theorem hm_X9_isBeyond (l : Launch) (G : GE) (L : List Nat) (S : HS) (x : Nat) (p0 : Int32) (p1 : Int32) (p2 : Int32) (hok : ok_X9_isBeyond L x p0 p1 p2 S) : HmI l G yX9_isBeyond wsX9_isBeyond 0 0 [.ref x, .int p0, .int p1, .int p2] L S ((h_X9_isBeyond x p0 p1 p2 S, S)) := by
  refine Met.ofW (cc := cX9_isBeyond) (maxL := 4) (ret := (some .boolean)) (by decide) rfl ?_
  intro p e s m args below meth c s₁ B hml hv
  obtain ⟨rfl, hP, hK, hnd, hE⟩ := hv
  have hx := B.exec
  have hb := B.bytes
  have hr := B.returns
  have hts := atoms_spec (ws := wsX9_isBeyond) B.pre
  have hown : s.vm.findClass RX9 = some m.cls := findClass_of_methodNamed B.named
  have hlocks := B.notSynchronized
  have hD := nd_D hnd
  have hS : va_S (AL L) s.heap s.heap [] := va_S.rf
  have hl := lv_entry ([.ref x, .int p0, .int p1, .int p2]) (n := 4) (Nat.le_of_ble_eq_true rfl)
  rw [lg_entry_eq]
  generalize (lg_sl ([.ref x, .int p0, .int p1, .int p2]) ++ List.replicate (4 - (lg_sl ([.ref x, .int p0, .int p1, .int p2])).length) Slot.unset).toArray = ls at hl ⊢
  have hl : lv_has ls 4 [(0, .ref x), (1, .int p0), (2, .int p1), (3, .int p2)] := hl
  obtain ⟨Z, hZ⟩ : ∃ z, z = MQ below (hm_QI G L ((h_X9_isBeyond x p0 p1 p2 S, S))) ([.ref x, .int p0, .int p1, .int p2] : List Value).toArray s 0 0 (AL L) := ⟨_, rfl⟩
  rw [← hZ]
  refine lv_iload_n hx hb dX9_isBeyond_0 rfl (lv_at hl 2 rfl) ?_
  refine lv_if_lt (tgt := 24) hx hb dX9_isBeyond_1 (by decide) (fun c_1 => ?_) (fun c_1 => ?_)
  ·
    have hok := (hok).1 c_1
    refine lv_iconst (v := 1) hx hb dX9_isBeyond_24 (by decide) ?_
    refine lv_goto (tgt := 29) hx hb dX9_isBeyond_25 (by decide) ?_
    rw [hZ]
    exact hm_zret hx hb hr hlocks hS (nz_1) hP hK hnd hE (congrArg (fun z => (z, S)) ((if_pos c_1))) dX9_isBeyond_29
  ·
    have hok := (hok).2 c_1
    refine lv_iload_n hx hb dX9_isBeyond_4 rfl (lv_at hl 3 rfl) ?_
    refine lv_if_lt (tgt := 24) hx hb dX9_isBeyond_5 (by decide) (fun c_5 => ?_) (fun c_5 => ?_)
    ·
      have hok := (hok).1 c_5
      refine lv_iconst (v := 1) hx hb dX9_isBeyond_24 (by decide) ?_
      refine lv_goto (tgt := 29) hx hb dX9_isBeyond_25 (by decide) ?_
      rw [hZ]
      exact hm_zret hx hb hr hlocks hS (nz_1) hP hK hnd hE (congrArg (fun z => (z, S)) (((if_neg c_1).trans (if_pos c_5)))) dX9_isBeyond_29
    ·
      have hok := (hok).2 c_5
      refine lv_iload_n hx hb dX9_isBeyond_8 rfl (lv_at hl 2 rfl) ?_
      refine lv_i2l (v := p1.toInt64) hx hb dX9_isBeyond_9 rfl ?_
      refine lv_iload_n hx hb dX9_isBeyond_10 rfl (lv_at hl 3 rfl) ?_
      refine lv_i2l (v := p2.toInt64) hx hb dX9_isBeyond_11 rfl ?_
      refine lv_ladd hx hb dX9_isBeyond_12 ?_
      refine lv_aload_n hx hb dX9_isBeyond_13 rfl (lv_at hl 0 rfl) ?_
      obtain ⟨h_14, hok⟩ := hok
      refine hp_getR (ci := 7) (C := RX9) (T := TX9) (N := 12) hx hb hts iw_X9_isBeyond_X9 hown hK hP h_14.1 (PF_7 h_14.2.1) rfl 1 (by decide) (hts _ (List.mem_of_getElem? (i := 1) rfl)) (fun _ h9 => h9) rfl h_14.2.2 dX9_isBeyond_14 ?_
      refine lv_iload_n hx hb dX9_isBeyond_17 rfl (lv_at hl 1 rfl) ?_
      obtain ⟨h_18, hok⟩ := hok
      refine hp_iald hx hb hK hP h_18.1 0 (PF_8 h_18.2.1) rfl h_18.2.2 dX9_isBeyond_18 ?_
      refine lv_i2l (v := (hsA S ((hsQ S x 1).getD 0) p0.toNatClampNeg).toInt64) hx hb dX9_isBeyond_19 rfl ?_
      refine lp_le (tgt := 28) hx hb dX9_isBeyond_20 dX9_isBeyond_21 (by decide) (fun c_20 => ?_) (fun c_20 => ?_)
      ·
        have hok := (hok).1 c_20
        refine lv_iconst (v := 0) hx hb dX9_isBeyond_28 (by decide) ?_
        rw [hZ]
        exact hm_zret hx hb hr hlocks hS (nz_0) hP hK hnd hE (congrArg (fun z => (z, S)) (((if_neg c_1).trans ((if_neg c_5).trans (if_pos c_20))))) dX9_isBeyond_29
      ·
        have hok := (hok).2 c_20
        refine lv_iconst (v := 1) hx hb dX9_isBeyond_24 (by decide) ?_
        refine lv_goto (tgt := 29) hx hb dX9_isBeyond_25 (by decide) ?_
        rw [hZ]
        exact hm_zret hx hb hr hlocks hS (nz_1) hP hK hnd hE (congrArg (fun z => (z, S)) (((if_neg c_1).trans ((if_neg c_5).trans (if_neg c_20))))) dX9_isBeyond_29
theorem hdv_X9_thing : yX9_thing.cls = RX9 ∧ yX9_thing.cls ≠ "java/lang/invoke/MethodHandle" ∧ yX9_thing.cls ≠ "java/lang/invoke/VarHandle" ∧ (parseMethodDescriptor yX9_thing.desc).map (fun d => d.parameters.length) = some 2 := by decide +kernel
theorem iw_X9_thing_X9 : ∀ w ∈ u_ws RX9 TX9 12, w ∈ wsX9_thing := by decide +kernel
def h_X9_thing (x : Nat) (p0 : Int32) (p1 : Int32) (S : HS) : Int32 × HS :=
  if p0 = 0 then (hsI (hwI (hwA (hwA (hwA (hwI S x 3 ((hsI S x 3) + 1)) ((hsQ (hwI S x 3 ((hsI S x 3) + 1)) x 0).getD 0) (hsI (hwI S x 3 ((hsI S x 3) + 1)) x 3).toNatClampNeg p0) ((hsQ (hwA (hwI S x 3 ((hsI S x 3) + 1)) ((hsQ (hwI S x 3 ((hsI S x 3) + 1)) x 0).getD 0) (hsI (hwI S x 3 ((hsI S x 3) + 1)) x 3).toNatClampNeg p0) x 1).getD 0) (hsI (hwA (hwI S x 3 ((hsI S x 3) + 1)) ((hsQ (hwI S x 3 ((hsI S x 3) + 1)) x 0).getD 0) (hsI (hwI S x 3 ((hsI S x 3) + 1)) x 3).toNatClampNeg p0) x 3).toNatClampNeg p1) ((hsQ (hwA (hwA (hwI S x 3 ((hsI S x 3) + 1)) ((hsQ (hwI S x 3 ((hsI S x 3) + 1)) x 0).getD 0) (hsI (hwI S x 3 ((hsI S x 3) + 1)) x 3).toNatClampNeg p0) ((hsQ (hwA (hwI S x 3 ((hsI S x 3) + 1)) ((hsQ (hwI S x 3 ((hsI S x 3) + 1)) x 0).getD 0) (hsI (hwI S x 3 ((hsI S x 3) + 1)) x 3).toNatClampNeg p0) x 1).getD 0) (hsI (hwA (hwI S x 3 ((hsI S x 3) + 1)) ((hsQ (hwI S x 3 ((hsI S x 3) + 1)) x 0).getD 0) (hsI (hwI S x 3 ((hsI S x 3) + 1)) x 3).toNatClampNeg p0) x 3).toNatClampNeg p1) x 2).getD 0) (hsI (hwA (hwA (hwI S x 3 ((hsI S x 3) + 1)) ((hsQ (hwI S x 3 ((hsI S x 3) + 1)) x 0).getD 0) (hsI (hwI S x 3 ((hsI S x 3) + 1)) x 3).toNatClampNeg p0) ((hsQ (hwA (hwI S x 3 ((hsI S x 3) + 1)) ((hsQ (hwI S x 3 ((hsI S x 3) + 1)) x 0).getD 0) (hsI (hwI S x 3 ((hsI S x 3) + 1)) x 3).toNatClampNeg p0) x 1).getD 0) (hsI (hwA (hwI S x 3 ((hsI S x 3) + 1)) ((hsQ (hwI S x 3 ((hsI S x 3) + 1)) x 0).getD 0) (hsI (hwI S x 3 ((hsI S x 3) + 1)) x 3).toNatClampNeg p0) x 3).toNatClampNeg p1) x 3).toNatClampNeg (hsI (hwA (hwA (hwI S x 3 ((hsI S x 3) + 1)) ((hsQ (hwI S x 3 ((hsI S x 3) + 1)) x 0).getD 0) (hsI (hwI S x 3 ((hsI S x 3) + 1)) x 3).toNatClampNeg p0) ((hsQ (hwA (hwI S x 3 ((hsI S x 3) + 1)) ((hsQ (hwI S x 3 ((hsI S x 3) + 1)) x 0).getD 0) (hsI (hwI S x 3 ((hsI S x 3) + 1)) x 3).toNatClampNeg p0) x 1).getD 0) (hsI (hwA (hwI S x 3 ((hsI S x 3) + 1)) ((hsQ (hwI S x 3 ((hsI S x 3) + 1)) x 0).getD 0) (hsI (hwI S x 3 ((hsI S x 3) + 1)) x 3).toNatClampNeg p0) x 3).toNatClampNeg p1) x 5)) x 5 ((hsI (hwA (hwA (hwA (hwI S x 3 ((hsI S x 3) + 1)) ((hsQ (hwI S x 3 ((hsI S x 3) + 1)) x 0).getD 0) (hsI (hwI S x 3 ((hsI S x 3) + 1)) x 3).toNatClampNeg p0) ((hsQ (hwA (hwI S x 3 ((hsI S x 3) + 1)) ((hsQ (hwI S x 3 ((hsI S x 3) + 1)) x 0).getD 0) (hsI (hwI S x 3 ((hsI S x 3) + 1)) x 3).toNatClampNeg p0) x 1).getD 0) (hsI (hwA (hwI S x 3 ((hsI S x 3) + 1)) ((hsQ (hwI S x 3 ((hsI S x 3) + 1)) x 0).getD 0) (hsI (hwI S x 3 ((hsI S x 3) + 1)) x 3).toNatClampNeg p0) x 3).toNatClampNeg p1) ((hsQ (hwA (hwA (hwI S x 3 ((hsI S x 3) + 1)) ((hsQ (hwI S x 3 ((hsI S x 3) + 1)) x 0).getD 0) (hsI (hwI S x 3 ((hsI S x 3) + 1)) x 3).toNatClampNeg p0) ((hsQ (hwA (hwI S x 3 ((hsI S x 3) + 1)) ((hsQ (hwI S x 3 ((hsI S x 3) + 1)) x 0).getD 0) (hsI (hwI S x 3 ((hsI S x 3) + 1)) x 3).toNatClampNeg p0) x 1).getD 0) (hsI (hwA (hwI S x 3 ((hsI S x 3) + 1)) ((hsQ (hwI S x 3 ((hsI S x 3) + 1)) x 0).getD 0) (hsI (hwI S x 3 ((hsI S x 3) + 1)) x 3).toNatClampNeg p0) x 3).toNatClampNeg p1) x 2).getD 0) (hsI (hwA (hwA (hwI S x 3 ((hsI S x 3) + 1)) ((hsQ (hwI S x 3 ((hsI S x 3) + 1)) x 0).getD 0) (hsI (hwI S x 3 ((hsI S x 3) + 1)) x 3).toNatClampNeg p0) ((hsQ (hwA (hwI S x 3 ((hsI S x 3) + 1)) ((hsQ (hwI S x 3 ((hsI S x 3) + 1)) x 0).getD 0) (hsI (hwI S x 3 ((hsI S x 3) + 1)) x 3).toNatClampNeg p0) x 1).getD 0) (hsI (hwA (hwI S x 3 ((hsI S x 3) + 1)) ((hsQ (hwI S x 3 ((hsI S x 3) + 1)) x 0).getD 0) (hsI (hwI S x 3 ((hsI S x 3) + 1)) x 3).toNatClampNeg p0) x 3).toNatClampNeg p1) x 3).toNatClampNeg (hsI (hwA (hwA (hwI S x 3 ((hsI S x 3) + 1)) ((hsQ (hwI S x 3 ((hsI S x 3) + 1)) x 0).getD 0) (hsI (hwI S x 3 ((hsI S x 3) + 1)) x 3).toNatClampNeg p0) ((hsQ (hwA (hwI S x 3 ((hsI S x 3) + 1)) ((hsQ (hwI S x 3 ((hsI S x 3) + 1)) x 0).getD 0) (hsI (hwI S x 3 ((hsI S x 3) + 1)) x 3).toNatClampNeg p0) x 1).getD 0) (hsI (hwA (hwI S x 3 ((hsI S x 3) + 1)) ((hsQ (hwI S x 3 ((hsI S x 3) + 1)) x 0).getD 0) (hsI (hwI S x 3 ((hsI S x 3) + 1)) x 3).toNatClampNeg p0) x 3).toNatClampNeg p1) x 5)) x 5) + p1)) x 3, (hwI (hwA (hwA (hwA (hwI S x 3 ((hsI S x 3) + 1)) ((hsQ (hwI S x 3 ((hsI S x 3) + 1)) x 0).getD 0) (hsI (hwI S x 3 ((hsI S x 3) + 1)) x 3).toNatClampNeg p0) ((hsQ (hwA (hwI S x 3 ((hsI S x 3) + 1)) ((hsQ (hwI S x 3 ((hsI S x 3) + 1)) x 0).getD 0) (hsI (hwI S x 3 ((hsI S x 3) + 1)) x 3).toNatClampNeg p0) x 1).getD 0) (hsI (hwA (hwI S x 3 ((hsI S x 3) + 1)) ((hsQ (hwI S x 3 ((hsI S x 3) + 1)) x 0).getD 0) (hsI (hwI S x 3 ((hsI S x 3) + 1)) x 3).toNatClampNeg p0) x 3).toNatClampNeg p1) ((hsQ (hwA (hwA (hwI S x 3 ((hsI S x 3) + 1)) ((hsQ (hwI S x 3 ((hsI S x 3) + 1)) x 0).getD 0) (hsI (hwI S x 3 ((hsI S x 3) + 1)) x 3).toNatClampNeg p0) ((hsQ (hwA (hwI S x 3 ((hsI S x 3) + 1)) ((hsQ (hwI S x 3 ((hsI S x 3) + 1)) x 0).getD 0) (hsI (hwI S x 3 ((hsI S x 3) + 1)) x 3).toNatClampNeg p0) x 1).getD 0) (hsI (hwA (hwI S x 3 ((hsI S x 3) + 1)) ((hsQ (hwI S x 3 ((hsI S x 3) + 1)) x 0).getD 0) (hsI (hwI S x 3 ((hsI S x 3) + 1)) x 3).toNatClampNeg p0) x 3).toNatClampNeg p1) x 2).getD 0) (hsI (hwA (hwA (hwI S x 3 ((hsI S x 3) + 1)) ((hsQ (hwI S x 3 ((hsI S x 3) + 1)) x 0).getD 0) (hsI (hwI S x 3 ((hsI S x 3) + 1)) x 3).toNatClampNeg p0) ((hsQ (hwA (hwI S x 3 ((hsI S x 3) + 1)) ((hsQ (hwI S x 3 ((hsI S x 3) + 1)) x 0).getD 0) (hsI (hwI S x 3 ((hsI S x 3) + 1)) x 3).toNatClampNeg p0) x 1).getD 0) (hsI (hwA (hwI S x 3 ((hsI S x 3) + 1)) ((hsQ (hwI S x 3 ((hsI S x 3) + 1)) x 0).getD 0) (hsI (hwI S x 3 ((hsI S x 3) + 1)) x 3).toNatClampNeg p0) x 3).toNatClampNeg p1) x 3).toNatClampNeg (hsI (hwA (hwA (hwI S x 3 ((hsI S x 3) + 1)) ((hsQ (hwI S x 3 ((hsI S x 3) + 1)) x 0).getD 0) (hsI (hwI S x 3 ((hsI S x 3) + 1)) x 3).toNatClampNeg p0) ((hsQ (hwA (hwI S x 3 ((hsI S x 3) + 1)) ((hsQ (hwI S x 3 ((hsI S x 3) + 1)) x 0).getD 0) (hsI (hwI S x 3 ((hsI S x 3) + 1)) x 3).toNatClampNeg p0) x 1).getD 0) (hsI (hwA (hwI S x 3 ((hsI S x 3) + 1)) ((hsQ (hwI S x 3 ((hsI S x 3) + 1)) x 0).getD 0) (hsI (hwI S x 3 ((hsI S x 3) + 1)) x 3).toNatClampNeg p0) x 3).toNatClampNeg p1) x 5)) x 5 ((hsI (hwA (hwA (hwA (hwI S x 3 ((hsI S x 3) + 1)) ((hsQ (hwI S x 3 ((hsI S x 3) + 1)) x 0).getD 0) (hsI (hwI S x 3 ((hsI S x 3) + 1)) x 3).toNatClampNeg p0) ((hsQ (hwA (hwI S x 3 ((hsI S x 3) + 1)) ((hsQ (hwI S x 3 ((hsI S x 3) + 1)) x 0).getD 0) (hsI (hwI S x 3 ((hsI S x 3) + 1)) x 3).toNatClampNeg p0) x 1).getD 0) (hsI (hwA (hwI S x 3 ((hsI S x 3) + 1)) ((hsQ (hwI S x 3 ((hsI S x 3) + 1)) x 0).getD 0) (hsI (hwI S x 3 ((hsI S x 3) + 1)) x 3).toNatClampNeg p0) x 3).toNatClampNeg p1) ((hsQ (hwA (hwA (hwI S x 3 ((hsI S x 3) + 1)) ((hsQ (hwI S x 3 ((hsI S x 3) + 1)) x 0).getD 0) (hsI (hwI S x 3 ((hsI S x 3) + 1)) x 3).toNatClampNeg p0) ((hsQ (hwA (hwI S x 3 ((hsI S x 3) + 1)) ((hsQ (hwI S x 3 ((hsI S x 3) + 1)) x 0).getD 0) (hsI (hwI S x 3 ((hsI S x 3) + 1)) x 3).toNatClampNeg p0) x 1).getD 0) (hsI (hwA (hwI S x 3 ((hsI S x 3) + 1)) ((hsQ (hwI S x 3 ((hsI S x 3) + 1)) x 0).getD 0) (hsI (hwI S x 3 ((hsI S x 3) + 1)) x 3).toNatClampNeg p0) x 3).toNatClampNeg p1) x 2).getD 0) (hsI (hwA (hwA (hwI S x 3 ((hsI S x 3) + 1)) ((hsQ (hwI S x 3 ((hsI S x 3) + 1)) x 0).getD 0) (hsI (hwI S x 3 ((hsI S x 3) + 1)) x 3).toNatClampNeg p0) ((hsQ (hwA (hwI S x 3 ((hsI S x 3) + 1)) ((hsQ (hwI S x 3 ((hsI S x 3) + 1)) x 0).getD 0) (hsI (hwI S x 3 ((hsI S x 3) + 1)) x 3).toNatClampNeg p0) x 1).getD 0) (hsI (hwA (hwI S x 3 ((hsI S x 3) + 1)) ((hsQ (hwI S x 3 ((hsI S x 3) + 1)) x 0).getD 0) (hsI (hwI S x 3 ((hsI S x 3) + 1)) x 3).toNatClampNeg p0) x 3).toNatClampNeg p1) x 3).toNatClampNeg (hsI (hwA (hwA (hwI S x 3 ((hsI S x 3) + 1)) ((hsQ (hwI S x 3 ((hsI S x 3) + 1)) x 0).getD 0) (hsI (hwI S x 3 ((hsI S x 3) + 1)) x 3).toNatClampNeg p0) ((hsQ (hwA (hwI S x 3 ((hsI S x 3) + 1)) ((hsQ (hwI S x 3 ((hsI S x 3) + 1)) x 0).getD 0) (hsI (hwI S x 3 ((hsI S x 3) + 1)) x 3).toNatClampNeg p0) x 1).getD 0) (hsI (hwA (hwI S x 3 ((hsI S x 3) + 1)) ((hsQ (hwI S x 3 ((hsI S x 3) + 1)) x 0).getD 0) (hsI (hwI S x 3 ((hsI S x 3) + 1)) x 3).toNatClampNeg p0) x 3).toNatClampNeg p1) x 5)) x 5) + p1)))
  else if 10 ≤ p0 then (hsI (hwA (hwA (hwI S x 3 ((hsI S x 3) + 1)) ((hsQ (hwI S x 3 ((hsI S x 3) + 1)) x 0).getD 0) (hsI (hwI S x 3 ((hsI S x 3) + 1)) x 3).toNatClampNeg p0) ((hsQ (hwA (hwI S x 3 ((hsI S x 3) + 1)) ((hsQ (hwI S x 3 ((hsI S x 3) + 1)) x 0).getD 0) (hsI (hwI S x 3 ((hsI S x 3) + 1)) x 3).toNatClampNeg p0) x 1).getD 0) (hsI (hwA (hwI S x 3 ((hsI S x 3) + 1)) ((hsQ (hwI S x 3 ((hsI S x 3) + 1)) x 0).getD 0) (hsI (hwI S x 3 ((hsI S x 3) + 1)) x 3).toNatClampNeg p0) x 3).toNatClampNeg p1) x 3, (hwA (hwA (hwI S x 3 ((hsI S x 3) + 1)) ((hsQ (hwI S x 3 ((hsI S x 3) + 1)) x 0).getD 0) (hsI (hwI S x 3 ((hsI S x 3) + 1)) x 3).toNatClampNeg p0) ((hsQ (hwA (hwI S x 3 ((hsI S x 3) + 1)) ((hsQ (hwI S x 3 ((hsI S x 3) + 1)) x 0).getD 0) (hsI (hwI S x 3 ((hsI S x 3) + 1)) x 3).toNatClampNeg p0) x 1).getD 0) (hsI (hwA (hwI S x 3 ((hsI S x 3) + 1)) ((hsQ (hwI S x 3 ((hsI S x 3) + 1)) x 0).getD 0) (hsI (hwI S x 3 ((hsI S x 3) + 1)) x 3).toNatClampNeg p0) x 3).toNatClampNeg p1))
   else (hsI (hwI (hwA (hwA (hwA (hwI S x 3 ((hsI S x 3) + 1)) ((hsQ (hwI S x 3 ((hsI S x 3) + 1)) x 0).getD 0) (hsI (hwI S x 3 ((hsI S x 3) + 1)) x 3).toNatClampNeg p0) ((hsQ (hwA (hwI S x 3 ((hsI S x 3) + 1)) ((hsQ (hwI S x 3 ((hsI S x 3) + 1)) x 0).getD 0) (hsI (hwI S x 3 ((hsI S x 3) + 1)) x 3).toNatClampNeg p0) x 1).getD 0) (hsI (hwA (hwI S x 3 ((hsI S x 3) + 1)) ((hsQ (hwI S x 3 ((hsI S x 3) + 1)) x 0).getD 0) (hsI (hwI S x 3 ((hsI S x 3) + 1)) x 3).toNatClampNeg p0) x 3).toNatClampNeg p1) ((hsQ (hwA (hwA (hwI S x 3 ((hsI S x 3) + 1)) ((hsQ (hwI S x 3 ((hsI S x 3) + 1)) x 0).getD 0) (hsI (hwI S x 3 ((hsI S x 3) + 1)) x 3).toNatClampNeg p0) ((hsQ (hwA (hwI S x 3 ((hsI S x 3) + 1)) ((hsQ (hwI S x 3 ((hsI S x 3) + 1)) x 0).getD 0) (hsI (hwI S x 3 ((hsI S x 3) + 1)) x 3).toNatClampNeg p0) x 1).getD 0) (hsI (hwA (hwI S x 3 ((hsI S x 3) + 1)) ((hsQ (hwI S x 3 ((hsI S x 3) + 1)) x 0).getD 0) (hsI (hwI S x 3 ((hsI S x 3) + 1)) x 3).toNatClampNeg p0) x 3).toNatClampNeg p1) x 2).getD 0) (hsI (hwA (hwA (hwI S x 3 ((hsI S x 3) + 1)) ((hsQ (hwI S x 3 ((hsI S x 3) + 1)) x 0).getD 0) (hsI (hwI S x 3 ((hsI S x 3) + 1)) x 3).toNatClampNeg p0) ((hsQ (hwA (hwI S x 3 ((hsI S x 3) + 1)) ((hsQ (hwI S x 3 ((hsI S x 3) + 1)) x 0).getD 0) (hsI (hwI S x 3 ((hsI S x 3) + 1)) x 3).toNatClampNeg p0) x 1).getD 0) (hsI (hwA (hwI S x 3 ((hsI S x 3) + 1)) ((hsQ (hwI S x 3 ((hsI S x 3) + 1)) x 0).getD 0) (hsI (hwI S x 3 ((hsI S x 3) + 1)) x 3).toNatClampNeg p0) x 3).toNatClampNeg p1) x 3).toNatClampNeg (hsI (hwA (hwA (hwI S x 3 ((hsI S x 3) + 1)) ((hsQ (hwI S x 3 ((hsI S x 3) + 1)) x 0).getD 0) (hsI (hwI S x 3 ((hsI S x 3) + 1)) x 3).toNatClampNeg p0) ((hsQ (hwA (hwI S x 3 ((hsI S x 3) + 1)) ((hsQ (hwI S x 3 ((hsI S x 3) + 1)) x 0).getD 0) (hsI (hwI S x 3 ((hsI S x 3) + 1)) x 3).toNatClampNeg p0) x 1).getD 0) (hsI (hwA (hwI S x 3 ((hsI S x 3) + 1)) ((hsQ (hwI S x 3 ((hsI S x 3) + 1)) x 0).getD 0) (hsI (hwI S x 3 ((hsI S x 3) + 1)) x 3).toNatClampNeg p0) x 3).toNatClampNeg p1) x 7)) x 7 ((hsI (hwA (hwA (hwA (hwI S x 3 ((hsI S x 3) + 1)) ((hsQ (hwI S x 3 ((hsI S x 3) + 1)) x 0).getD 0) (hsI (hwI S x 3 ((hsI S x 3) + 1)) x 3).toNatClampNeg p0) ((hsQ (hwA (hwI S x 3 ((hsI S x 3) + 1)) ((hsQ (hwI S x 3 ((hsI S x 3) + 1)) x 0).getD 0) (hsI (hwI S x 3 ((hsI S x 3) + 1)) x 3).toNatClampNeg p0) x 1).getD 0) (hsI (hwA (hwI S x 3 ((hsI S x 3) + 1)) ((hsQ (hwI S x 3 ((hsI S x 3) + 1)) x 0).getD 0) (hsI (hwI S x 3 ((hsI S x 3) + 1)) x 3).toNatClampNeg p0) x 3).toNatClampNeg p1) ((hsQ (hwA (hwA (hwI S x 3 ((hsI S x 3) + 1)) ((hsQ (hwI S x 3 ((hsI S x 3) + 1)) x 0).getD 0) (hsI (hwI S x 3 ((hsI S x 3) + 1)) x 3).toNatClampNeg p0) ((hsQ (hwA (hwI S x 3 ((hsI S x 3) + 1)) ((hsQ (hwI S x 3 ((hsI S x 3) + 1)) x 0).getD 0) (hsI (hwI S x 3 ((hsI S x 3) + 1)) x 3).toNatClampNeg p0) x 1).getD 0) (hsI (hwA (hwI S x 3 ((hsI S x 3) + 1)) ((hsQ (hwI S x 3 ((hsI S x 3) + 1)) x 0).getD 0) (hsI (hwI S x 3 ((hsI S x 3) + 1)) x 3).toNatClampNeg p0) x 3).toNatClampNeg p1) x 2).getD 0) (hsI (hwA (hwA (hwI S x 3 ((hsI S x 3) + 1)) ((hsQ (hwI S x 3 ((hsI S x 3) + 1)) x 0).getD 0) (hsI (hwI S x 3 ((hsI S x 3) + 1)) x 3).toNatClampNeg p0) ((hsQ (hwA (hwI S x 3 ((hsI S x 3) + 1)) ((hsQ (hwI S x 3 ((hsI S x 3) + 1)) x 0).getD 0) (hsI (hwI S x 3 ((hsI S x 3) + 1)) x 3).toNatClampNeg p0) x 1).getD 0) (hsI (hwA (hwI S x 3 ((hsI S x 3) + 1)) ((hsQ (hwI S x 3 ((hsI S x 3) + 1)) x 0).getD 0) (hsI (hwI S x 3 ((hsI S x 3) + 1)) x 3).toNatClampNeg p0) x 3).toNatClampNeg p1) x 3).toNatClampNeg (hsI (hwA (hwA (hwI S x 3 ((hsI S x 3) + 1)) ((hsQ (hwI S x 3 ((hsI S x 3) + 1)) x 0).getD 0) (hsI (hwI S x 3 ((hsI S x 3) + 1)) x 3).toNatClampNeg p0) ((hsQ (hwA (hwI S x 3 ((hsI S x 3) + 1)) ((hsQ (hwI S x 3 ((hsI S x 3) + 1)) x 0).getD 0) (hsI (hwI S x 3 ((hsI S x 3) + 1)) x 3).toNatClampNeg p0) x 1).getD 0) (hsI (hwA (hwI S x 3 ((hsI S x 3) + 1)) ((hsQ (hwI S x 3 ((hsI S x 3) + 1)) x 0).getD 0) (hsI (hwI S x 3 ((hsI S x 3) + 1)) x 3).toNatClampNeg p0) x 3).toNatClampNeg p1) x 7)) x 7) + p1)) x 3, (hwI (hwA (hwA (hwA (hwI S x 3 ((hsI S x 3) + 1)) ((hsQ (hwI S x 3 ((hsI S x 3) + 1)) x 0).getD 0) (hsI (hwI S x 3 ((hsI S x 3) + 1)) x 3).toNatClampNeg p0) ((hsQ (hwA (hwI S x 3 ((hsI S x 3) + 1)) ((hsQ (hwI S x 3 ((hsI S x 3) + 1)) x 0).getD 0) (hsI (hwI S x 3 ((hsI S x 3) + 1)) x 3).toNatClampNeg p0) x 1).getD 0) (hsI (hwA (hwI S x 3 ((hsI S x 3) + 1)) ((hsQ (hwI S x 3 ((hsI S x 3) + 1)) x 0).getD 0) (hsI (hwI S x 3 ((hsI S x 3) + 1)) x 3).toNatClampNeg p0) x 3).toNatClampNeg p1) ((hsQ (hwA (hwA (hwI S x 3 ((hsI S x 3) + 1)) ((hsQ (hwI S x 3 ((hsI S x 3) + 1)) x 0).getD 0) (hsI (hwI S x 3 ((hsI S x 3) + 1)) x 3).toNatClampNeg p0) ((hsQ (hwA (hwI S x 3 ((hsI S x 3) + 1)) ((hsQ (hwI S x 3 ((hsI S x 3) + 1)) x 0).getD 0) (hsI (hwI S x 3 ((hsI S x 3) + 1)) x 3).toNatClampNeg p0) x 1).getD 0) (hsI (hwA (hwI S x 3 ((hsI S x 3) + 1)) ((hsQ (hwI S x 3 ((hsI S x 3) + 1)) x 0).getD 0) (hsI (hwI S x 3 ((hsI S x 3) + 1)) x 3).toNatClampNeg p0) x 3).toNatClampNeg p1) x 2).getD 0) (hsI (hwA (hwA (hwI S x 3 ((hsI S x 3) + 1)) ((hsQ (hwI S x 3 ((hsI S x 3) + 1)) x 0).getD 0) (hsI (hwI S x 3 ((hsI S x 3) + 1)) x 3).toNatClampNeg p0) ((hsQ (hwA (hwI S x 3 ((hsI S x 3) + 1)) ((hsQ (hwI S x 3 ((hsI S x 3) + 1)) x 0).getD 0) (hsI (hwI S x 3 ((hsI S x 3) + 1)) x 3).toNatClampNeg p0) x 1).getD 0) (hsI (hwA (hwI S x 3 ((hsI S x 3) + 1)) ((hsQ (hwI S x 3 ((hsI S x 3) + 1)) x 0).getD 0) (hsI (hwI S x 3 ((hsI S x 3) + 1)) x 3).toNatClampNeg p0) x 3).toNatClampNeg p1) x 3).toNatClampNeg (hsI (hwA (hwA (hwI S x 3 ((hsI S x 3) + 1)) ((hsQ (hwI S x 3 ((hsI S x 3) + 1)) x 0).getD 0) (hsI (hwI S x 3 ((hsI S x 3) + 1)) x 3).toNatClampNeg p0) ((hsQ (hwA (hwI S x 3 ((hsI S x 3) + 1)) ((hsQ (hwI S x 3 ((hsI S x 3) + 1)) x 0).getD 0) (hsI (hwI S x 3 ((hsI S x 3) + 1)) x 3).toNatClampNeg p0) x 1).getD 0) (hsI (hwA (hwI S x 3 ((hsI S x 3) + 1)) ((hsQ (hwI S x 3 ((hsI S x 3) + 1)) x 0).getD 0) (hsI (hwI S x 3 ((hsI S x 3) + 1)) x 3).toNatClampNeg p0) x 3).toNatClampNeg p1) x 7)) x 7 ((hsI (hwA (hwA (hwA (hwI S x 3 ((hsI S x 3) + 1)) ((hsQ (hwI S x 3 ((hsI S x 3) + 1)) x 0).getD 0) (hsI (hwI S x 3 ((hsI S x 3) + 1)) x 3).toNatClampNeg p0) ((hsQ (hwA (hwI S x 3 ((hsI S x 3) + 1)) ((hsQ (hwI S x 3 ((hsI S x 3) + 1)) x 0).getD 0) (hsI (hwI S x 3 ((hsI S x 3) + 1)) x 3).toNatClampNeg p0) x 1).getD 0) (hsI (hwA (hwI S x 3 ((hsI S x 3) + 1)) ((hsQ (hwI S x 3 ((hsI S x 3) + 1)) x 0).getD 0) (hsI (hwI S x 3 ((hsI S x 3) + 1)) x 3).toNatClampNeg p0) x 3).toNatClampNeg p1) ((hsQ (hwA (hwA (hwI S x 3 ((hsI S x 3) + 1)) ((hsQ (hwI S x 3 ((hsI S x 3) + 1)) x 0).getD 0) (hsI (hwI S x 3 ((hsI S x 3) + 1)) x 3).toNatClampNeg p0) ((hsQ (hwA (hwI S x 3 ((hsI S x 3) + 1)) ((hsQ (hwI S x 3 ((hsI S x 3) + 1)) x 0).getD 0) (hsI (hwI S x 3 ((hsI S x 3) + 1)) x 3).toNatClampNeg p0) x 1).getD 0) (hsI (hwA (hwI S x 3 ((hsI S x 3) + 1)) ((hsQ (hwI S x 3 ((hsI S x 3) + 1)) x 0).getD 0) (hsI (hwI S x 3 ((hsI S x 3) + 1)) x 3).toNatClampNeg p0) x 3).toNatClampNeg p1) x 2).getD 0) (hsI (hwA (hwA (hwI S x 3 ((hsI S x 3) + 1)) ((hsQ (hwI S x 3 ((hsI S x 3) + 1)) x 0).getD 0) (hsI (hwI S x 3 ((hsI S x 3) + 1)) x 3).toNatClampNeg p0) ((hsQ (hwA (hwI S x 3 ((hsI S x 3) + 1)) ((hsQ (hwI S x 3 ((hsI S x 3) + 1)) x 0).getD 0) (hsI (hwI S x 3 ((hsI S x 3) + 1)) x 3).toNatClampNeg p0) x 1).getD 0) (hsI (hwA (hwI S x 3 ((hsI S x 3) + 1)) ((hsQ (hwI S x 3 ((hsI S x 3) + 1)) x 0).getD 0) (hsI (hwI S x 3 ((hsI S x 3) + 1)) x 3).toNatClampNeg p0) x 3).toNatClampNeg p1) x 3).toNatClampNeg (hsI (hwA (hwA (hwI S x 3 ((hsI S x 3) + 1)) ((hsQ (hwI S x 3 ((hsI S x 3) + 1)) x 0).getD 0) (hsI (hwI S x 3 ((hsI S x 3) + 1)) x 3).toNatClampNeg p0) ((hsQ (hwA (hwI S x 3 ((hsI S x 3) + 1)) ((hsQ (hwI S x 3 ((hsI S x 3) + 1)) x 0).getD 0) (hsI (hwI S x 3 ((hsI S x 3) + 1)) x 3).toNatClampNeg p0) x 1).getD 0) (hsI (hwA (hwI S x 3 ((hsI S x 3) + 1)) ((hsQ (hwI S x 3 ((hsI S x 3) + 1)) x 0).getD 0) (hsI (hwI S x 3 ((hsI S x 3) + 1)) x 3).toNatClampNeg p0) x 3).toNatClampNeg p1) x 7)) x 7) + p1)))
def ok_X9_thing (L : List Nat) (x : Nat) (p0 : Int32) (p1 : Int32) (S : HS) : Prop :=
  (x ∈ L ∧ hsK S x = 7) ∧ ((x ∈ L ∧ hsK S x = 7) ∧ ((x ∈ L ∧ hsK (hwI S x 3 ((hsI S x 3) + 1)) x = 7 ∧ hsQ (hwI S x 3 ((hsI S x 3) + 1)) x 0 ≠ none) ∧ ((x ∈ L ∧ hsK (hwI S x 3 ((hsI S x 3) + 1)) x = 7) ∧ ((((hsQ (hwI S x 3 ((hsI S x 3) + 1)) x 0).getD 0) ∈ L ∧ hsK (hwI S x 3 ((hsI S x 3) + 1)) ((hsQ (hwI S x 3 ((hsI S x 3) + 1)) x 0).getD 0) = 8 ∧ vp_in (hsI (hwI S x 3 ((hsI S x 3) + 1)) x 3) (hsN (hwI S x 3 ((hsI S x 3) + 1)) ((hsQ (hwI S x 3 ((hsI S x 3) + 1)) x 0).getD 0))) ∧ ((x ∈ L ∧ hsK (hwA (hwI S x 3 ((hsI S x 3) + 1)) ((hsQ (hwI S x 3 ((hsI S x 3) + 1)) x 0).getD 0) (hsI (hwI S x 3 ((hsI S x 3) + 1)) x 3).toNatClampNeg p0) x = 7 ∧ hsQ (hwA (hwI S x 3 ((hsI S x 3) + 1)) ((hsQ (hwI S x 3 ((hsI S x 3) + 1)) x 0).getD 0) (hsI (hwI S x 3 ((hsI S x 3) + 1)) x 3).toNatClampNeg p0) x 1 ≠ none) ∧ ((x ∈ L ∧ hsK (hwA (hwI S x 3 ((hsI S x 3) + 1)) ((hsQ (hwI S x 3 ((hsI S x 3) + 1)) x 0).getD 0) (hsI (hwI S x 3 ((hsI S x 3) + 1)) x 3).toNatClampNeg p0) x = 7) ∧ ((((hsQ (hwA (hwI S x 3 ((hsI S x 3) + 1)) ((hsQ (hwI S x 3 ((hsI S x 3) + 1)) x 0).getD 0) (hsI (hwI S x 3 ((hsI S x 3) + 1)) x 3).toNatClampNeg p0) x 1).getD 0) ∈ L ∧ hsK (hwA (hwI S x 3 ((hsI S x 3) + 1)) ((hsQ (hwI S x 3 ((hsI S x 3) + 1)) x 0).getD 0) (hsI (hwI S x 3 ((hsI S x 3) + 1)) x 3).toNatClampNeg p0) ((hsQ (hwA (hwI S x 3 ((hsI S x 3) + 1)) ((hsQ (hwI S x 3 ((hsI S x 3) + 1)) x 0).getD 0) (hsI (hwI S x 3 ((hsI S x 3) + 1)) x 3).toNatClampNeg p0) x 1).getD 0) = 8 ∧ vp_in (hsI (hwA (hwI S x 3 ((hsI S x 3) + 1)) ((hsQ (hwI S x 3 ((hsI S x 3) + 1)) x 0).getD 0) (hsI (hwI S x 3 ((hsI S x 3) + 1)) x 3).toNatClampNeg p0) x 3) (hsN (hwA (hwI S x 3 ((hsI S x 3) + 1)) ((hsQ (hwI S x 3 ((hsI S x 3) + 1)) x 0).getD 0) (hsI (hwI S x 3 ((hsI S x 3) + 1)) x 3).toNatClampNeg p0) ((hsQ (hwA (hwI S x 3 ((hsI S x 3) + 1)) ((hsQ (hwI S x 3 ((hsI S x 3) + 1)) x 0).getD 0) (hsI (hwI S x 3 ((hsI S x 3) + 1)) x 3).toNatClampNeg p0) x 1).getD 0))) ∧ (((p0 = 0) → ((x ∈ L ∧ hsK (hwA (hwA (hwI S x 3 ((hsI S x 3) + 1)) ((hsQ (hwI S x 3 ((hsI S x 3) + 1)) x 0).getD 0) (hsI (hwI S x 3 ((hsI S x 3) + 1)) x 3).toNatClampNeg p0) ((hsQ (hwA (hwI S x 3 ((hsI S x 3) + 1)) ((hsQ (hwI S x 3 ((hsI S x 3) + 1)) x 0).getD 0) (hsI (hwI S x 3 ((hsI S x 3) + 1)) x 3).toNatClampNeg p0) x 1).getD 0) (hsI (hwA (hwI S x 3 ((hsI S x 3) + 1)) ((hsQ (hwI S x 3 ((hsI S x 3) + 1)) x 0).getD 0) (hsI (hwI S x 3 ((hsI S x 3) + 1)) x 3).toNatClampNeg p0) x 3).toNatClampNeg p1) x = 7 ∧ hsQ (hwA (hwA (hwI S x 3 ((hsI S x 3) + 1)) ((hsQ (hwI S x 3 ((hsI S x 3) + 1)) x 0).getD 0) (hsI (hwI S x 3 ((hsI S x 3) + 1)) x 3).toNatClampNeg p0) ((hsQ (hwA (hwI S x 3 ((hsI S x 3) + 1)) ((hsQ (hwI S x 3 ((hsI S x 3) + 1)) x 0).getD 0) (hsI (hwI S x 3 ((hsI S x 3) + 1)) x 3).toNatClampNeg p0) x 1).getD 0) (hsI (hwA (hwI S x 3 ((hsI S x 3) + 1)) ((hsQ (hwI S x 3 ((hsI S x 3) + 1)) x 0).getD 0) (hsI (hwI S x 3 ((hsI S x 3) + 1)) x 3).toNatClampNeg p0) x 3).toNatClampNeg p1) x 2 ≠ none) ∧ ((x ∈ L ∧ hsK (hwA (hwA (hwI S x 3 ((hsI S x 3) + 1)) ((hsQ (hwI S x 3 ((hsI S x 3) + 1)) x 0).getD 0) (hsI (hwI S x 3 ((hsI S x 3) + 1)) x 3).toNatClampNeg p0) ((hsQ (hwA (hwI S x 3 ((hsI S x 3) + 1)) ((hsQ (hwI S x 3 ((hsI S x 3) + 1)) x 0).getD 0) (hsI (hwI S x 3 ((hsI S x 3) + 1)) x 3).toNatClampNeg p0) x 1).getD 0) (hsI (hwA (hwI S x 3 ((hsI S x 3) + 1)) ((hsQ (hwI S x 3 ((hsI S x 3) + 1)) x 0).getD 0) (hsI (hwI S x 3 ((hsI S x 3) + 1)) x 3).toNatClampNeg p0) x 3).toNatClampNeg p1) x = 7) ∧ ((x ∈ L ∧ hsK (hwA (hwA (hwI S x 3 ((hsI S x 3) + 1)) ((hsQ (hwI S x 3 ((hsI S x 3) + 1)) x 0).getD 0) (hsI (hwI S x 3 ((hsI S x 3) + 1)) x 3).toNatClampNeg p0) ((hsQ (hwA (hwI S x 3 ((hsI S x 3) + 1)) ((hsQ (hwI S x 3 ((hsI S x 3) + 1)) x 0).getD 0) (hsI (hwI S x 3 ((hsI S x 3) + 1)) x 3).toNatClampNeg p0) x 1).getD 0) (hsI (hwA (hwI S x 3 ((hsI S x 3) + 1)) ((hsQ (hwI S x 3 ((hsI S x 3) + 1)) x 0).getD 0) (hsI (hwI S x 3 ((hsI S x 3) + 1)) x 3).toNatClampNeg p0) x 3).toNatClampNeg p1) x = 7) ∧ ((((hsQ (hwA (hwA (hwI S x 3 ((hsI S x 3) + 1)) ((hsQ (hwI S x 3 ((hsI S x 3) + 1)) x 0).getD 0) (hsI (hwI S x 3 ((hsI S x 3) + 1)) x 3).toNatClampNeg p0) ((hsQ (hwA (hwI S x 3 ((hsI S x 3) + 1)) ((hsQ (hwI S x 3 ((hsI S x 3) + 1)) x 0).getD 0) (hsI (hwI S x 3 ((hsI S x 3) + 1)) x 3).toNatClampNeg p0) x 1).getD 0) (hsI (hwA (hwI S x 3 ((hsI S x 3) + 1)) ((hsQ (hwI S x 3 ((hsI S x 3) + 1)) x 0).getD 0) (hsI (hwI S x 3 ((hsI S x 3) + 1)) x 3).toNatClampNeg p0) x 3).toNatClampNeg p1) x 2).getD 0) ∈ L ∧ hsK (hwA (hwA (hwI S x 3 ((hsI S x 3) + 1)) ((hsQ (hwI S x 3 ((hsI S x 3) + 1)) x 0).getD 0) (hsI (hwI S x 3 ((hsI S x 3) + 1)) x 3).toNatClampNeg p0) ((hsQ (hwA (hwI S x 3 ((hsI S x 3) + 1)) ((hsQ (hwI S x 3 ((hsI S x 3) + 1)) x 0).getD 0) (hsI (hwI S x 3 ((hsI S x 3) + 1)) x 3).toNatClampNeg p0) x 1).getD 0) (hsI (hwA (hwI S x 3 ((hsI S x 3) + 1)) ((hsQ (hwI S x 3 ((hsI S x 3) + 1)) x 0).getD 0) (hsI (hwI S x 3 ((hsI S x 3) + 1)) x 3).toNatClampNeg p0) x 3).toNatClampNeg p1) ((hsQ (hwA (hwA (hwI S x 3 ((hsI S x 3) + 1)) ((hsQ (hwI S x 3 ((hsI S x 3) + 1)) x 0).getD 0) (hsI (hwI S x 3 ((hsI S x 3) + 1)) x 3).toNatClampNeg p0) ((hsQ (hwA (hwI S x 3 ((hsI S x 3) + 1)) ((hsQ (hwI S x 3 ((hsI S x 3) + 1)) x 0).getD 0) (hsI (hwI S x 3 ((hsI S x 3) + 1)) x 3).toNatClampNeg p0) x 1).getD 0) (hsI (hwA (hwI S x 3 ((hsI S x 3) + 1)) ((hsQ (hwI S x 3 ((hsI S x 3) + 1)) x 0).getD 0) (hsI (hwI S x 3 ((hsI S x 3) + 1)) x 3).toNatClampNeg p0) x 3).toNatClampNeg p1) x 2).getD 0) = 8 ∧ vp_in (hsI (hwA (hwA (hwI S x 3 ((hsI S x 3) + 1)) ((hsQ (hwI S x 3 ((hsI S x 3) + 1)) x 0).getD 0) (hsI (hwI S x 3 ((hsI S x 3) + 1)) x 3).toNatClampNeg p0) ((hsQ (hwA (hwI S x 3 ((hsI S x 3) + 1)) ((hsQ (hwI S x 3 ((hsI S x 3) + 1)) x 0).getD 0) (hsI (hwI S x 3 ((hsI S x 3) + 1)) x 3).toNatClampNeg p0) x 1).getD 0) (hsI (hwA (hwI S x 3 ((hsI S x 3) + 1)) ((hsQ (hwI S x 3 ((hsI S x 3) + 1)) x 0).getD 0) (hsI (hwI S x 3 ((hsI S x 3) + 1)) x 3).toNatClampNeg p0) x 3).toNatClampNeg p1) x 3) (hsN (hwA (hwA (hwI S x 3 ((hsI S x 3) + 1)) ((hsQ (hwI S x 3 ((hsI S x 3) + 1)) x 0).getD 0) (hsI (hwI S x 3 ((hsI S x 3) + 1)) x 3).toNatClampNeg p0) ((hsQ (hwA (hwI S x 3 ((hsI S x 3) + 1)) ((hsQ (hwI S x 3 ((hsI S x 3) + 1)) x 0).getD 0) (hsI (hwI S x 3 ((hsI S x 3) + 1)) x 3).toNatClampNeg p0) x 1).getD 0) (hsI (hwA (hwI S x 3 ((hsI S x 3) + 1)) ((hsQ (hwI S x 3 ((hsI S x 3) + 1)) x 0).getD 0) (hsI (hwI S x 3 ((hsI S x 3) + 1)) x 3).toNatClampNeg p0) x 3).toNatClampNeg p1) ((hsQ (hwA (hwA (hwI S x 3 ((hsI S x 3) + 1)) ((hsQ (hwI S x 3 ((hsI S x 3) + 1)) x 0).getD 0) (hsI (hwI S x 3 ((hsI S x 3) + 1)) x 3).toNatClampNeg p0) ((hsQ (hwA (hwI S x 3 ((hsI S x 3) + 1)) ((hsQ (hwI S x 3 ((hsI S x 3) + 1)) x 0).getD 0) (hsI (hwI S x 3 ((hsI S x 3) + 1)) x 3).toNatClampNeg p0) x 1).getD 0) (hsI (hwA (hwI S x 3 ((hsI S x 3) + 1)) ((hsQ (hwI S x 3 ((hsI S x 3) + 1)) x 0).getD 0) (hsI (hwI S x 3 ((hsI S x 3) + 1)) x 3).toNatClampNeg p0) x 3).toNatClampNeg p1) x 2).getD 0))) ∧ ((x ∈ L ∧ hsK (hwA (hwA (hwA (hwI S x 3 ((hsI S x 3) + 1)) ((hsQ (hwI S x 3 ((hsI S x 3) + 1)) x 0).getD 0) (hsI (hwI S x 3 ((hsI S x 3) + 1)) x 3).toNatClampNeg p0) ((hsQ (hwA (hwI S x 3 ((hsI S x 3) + 1)) ((hsQ (hwI S x 3 ((hsI S x 3) + 1)) x 0).getD 0) (hsI (hwI S x 3 ((hsI S x 3) + 1)) x 3).toNatClampNeg p0) x 1).getD 0) (hsI (hwA (hwI S x 3 ((hsI S x 3) + 1)) ((hsQ (hwI S x 3 ((hsI S x 3) + 1)) x 0).getD 0) (hsI (hwI S x 3 ((hsI S x 3) + 1)) x 3).toNatClampNeg p0) x 3).toNatClampNeg p1) ((hsQ (hwA (hwA (hwI S x 3 ((hsI S x 3) + 1)) ((hsQ (hwI S x 3 ((hsI S x 3) + 1)) x 0).getD 0) (hsI (hwI S x 3 ((hsI S x 3) + 1)) x 3).toNatClampNeg p0) ((hsQ (hwA (hwI S x 3 ((hsI S x 3) + 1)) ((hsQ (hwI S x 3 ((hsI S x 3) + 1)) x 0).getD 0) (hsI (hwI S x 3 ((hsI S x 3) + 1)) x 3).toNatClampNeg p0) x 1).getD 0) (hsI (hwA (hwI S x 3 ((hsI S x 3) + 1)) ((hsQ (hwI S x 3 ((hsI S x 3) + 1)) x 0).getD 0) (hsI (hwI S x 3 ((hsI S x 3) + 1)) x 3).toNatClampNeg p0) x 3).toNatClampNeg p1) x 2).getD 0) (hsI (hwA (hwA (hwI S x 3 ((hsI S x 3) + 1)) ((hsQ (hwI S x 3 ((hsI S x 3) + 1)) x 0).getD 0) (hsI (hwI S x 3 ((hsI S x 3) + 1)) x 3).toNatClampNeg p0) ((hsQ (hwA (hwI S x 3 ((hsI S x 3) + 1)) ((hsQ (hwI S x 3 ((hsI S x 3) + 1)) x 0).getD 0) (hsI (hwI S x 3 ((hsI S x 3) + 1)) x 3).toNatClampNeg p0) x 1).getD 0) (hsI (hwA (hwI S x 3 ((hsI S x 3) + 1)) ((hsQ (hwI S x 3 ((hsI S x 3) + 1)) x 0).getD 0) (hsI (hwI S x 3 ((hsI S x 3) + 1)) x 3).toNatClampNeg p0) x 3).toNatClampNeg p1) x 3).toNatClampNeg (hsI (hwA (hwA (hwI S x 3 ((hsI S x 3) + 1)) ((hsQ (hwI S x 3 ((hsI S x 3) + 1)) x 0).getD 0) (hsI (hwI S x 3 ((hsI S x 3) + 1)) x 3).toNatClampNeg p0) ((hsQ (hwA (hwI S x 3 ((hsI S x 3) + 1)) ((hsQ (hwI S x 3 ((hsI S x 3) + 1)) x 0).getD 0) (hsI (hwI S x 3 ((hsI S x 3) + 1)) x 3).toNatClampNeg p0) x 1).getD 0) (hsI (hwA (hwI S x 3 ((hsI S x 3) + 1)) ((hsQ (hwI S x 3 ((hsI S x 3) + 1)) x 0).getD 0) (hsI (hwI S x 3 ((hsI S x 3) + 1)) x 3).toNatClampNeg p0) x 3).toNatClampNeg p1) x 5)) x = 7) ∧ ((x ∈ L ∧ hsK (hwA (hwA (hwA (hwI S x 3 ((hsI S x 3) + 1)) ((hsQ (hwI S x 3 ((hsI S x 3) + 1)) x 0).getD 0) (hsI (hwI S x 3 ((hsI S x 3) + 1)) x 3).toNatClampNeg p0) ((hsQ (hwA (hwI S x 3 ((hsI S x 3) + 1)) ((hsQ (hwI S x 3 ((hsI S x 3) + 1)) x 0).getD 0) (hsI (hwI S x 3 ((hsI S x 3) + 1)) x 3).toNatClampNeg p0) x 1).getD 0) (hsI (hwA (hwI S x 3 ((hsI S x 3) + 1)) ((hsQ (hwI S x 3 ((hsI S x 3) + 1)) x 0).getD 0) (hsI (hwI S x 3 ((hsI S x 3) + 1)) x 3).toNatClampNeg p0) x 3).toNatClampNeg p1) ((hsQ (hwA (hwA (hwI S x 3 ((hsI S x 3) + 1)) ((hsQ (hwI S x 3 ((hsI S x 3) + 1)) x 0).getD 0) (hsI (hwI S x 3 ((hsI S x 3) + 1)) x 3).toNatClampNeg p0) ((hsQ (hwA (hwI S x 3 ((hsI S x 3) + 1)) ((hsQ (hwI S x 3 ((hsI S x 3) + 1)) x 0).getD 0) (hsI (hwI S x 3 ((hsI S x 3) + 1)) x 3).toNatClampNeg p0) x 1).getD 0) (hsI (hwA (hwI S x 3 ((hsI S x 3) + 1)) ((hsQ (hwI S x 3 ((hsI S x 3) + 1)) x 0).getD 0) (hsI (hwI S x 3 ((hsI S x 3) + 1)) x 3).toNatClampNeg p0) x 3).toNatClampNeg p1) x 2).getD 0) (hsI (hwA (hwA (hwI S x 3 ((hsI S x 3) + 1)) ((hsQ (hwI S x 3 ((hsI S x 3) + 1)) x 0).getD 0) (hsI (hwI S x 3 ((hsI S x 3) + 1)) x 3).toNatClampNeg p0) ((hsQ (hwA (hwI S x 3 ((hsI S x 3) + 1)) ((hsQ (hwI S x 3 ((hsI S x 3) + 1)) x 0).getD 0) (hsI (hwI S x 3 ((hsI S x 3) + 1)) x 3).toNatClampNeg p0) x 1).getD 0) (hsI (hwA (hwI S x 3 ((hsI S x 3) + 1)) ((hsQ (hwI S x 3 ((hsI S x 3) + 1)) x 0).getD 0) (hsI (hwI S x 3 ((hsI S x 3) + 1)) x 3).toNatClampNeg p0) x 3).toNatClampNeg p1) x 3).toNatClampNeg (hsI (hwA (hwA (hwI S x 3 ((hsI S x 3) + 1)) ((hsQ (hwI S x 3 ((hsI S x 3) + 1)) x 0).getD 0) (hsI (hwI S x 3 ((hsI S x 3) + 1)) x 3).toNatClampNeg p0) ((hsQ (hwA (hwI S x 3 ((hsI S x 3) + 1)) ((hsQ (hwI S x 3 ((hsI S x 3) + 1)) x 0).getD 0) (hsI (hwI S x 3 ((hsI S x 3) + 1)) x 3).toNatClampNeg p0) x 1).getD 0) (hsI (hwA (hwI S x 3 ((hsI S x 3) + 1)) ((hsQ (hwI S x 3 ((hsI S x 3) + 1)) x 0).getD 0) (hsI (hwI S x 3 ((hsI S x 3) + 1)) x 3).toNatClampNeg p0) x 3).toNatClampNeg p1) x 5)) x = 7) ∧ ((x ∈ L ∧ hsK (hwI (hwA (hwA (hwA (hwI S x 3 ((hsI S x 3) + 1)) ((hsQ (hwI S x 3 ((hsI S x 3) + 1)) x 0).getD 0) (hsI (hwI S x 3 ((hsI S x 3) + 1)) x 3).toNatClampNeg p0) ((hsQ (hwA (hwI S x 3 ((hsI S x 3) + 1)) ((hsQ (hwI S x 3 ((hsI S x 3) + 1)) x 0).getD 0) (hsI (hwI S x 3 ((hsI S x 3) + 1)) x 3).toNatClampNeg p0) x 1).getD 0) (hsI (hwA (hwI S x 3 ((hsI S x 3) + 1)) ((hsQ (hwI S x 3 ((hsI S x 3) + 1)) x 0).getD 0) (hsI (hwI S x 3 ((hsI S x 3) + 1)) x 3).toNatClampNeg p0) x 3).toNatClampNeg p1) ((hsQ (hwA (hwA (hwI S x 3 ((hsI S x 3) + 1)) ((hsQ (hwI S x 3 ((hsI S x 3) + 1)) x 0).getD 0) (hsI (hwI S x 3 ((hsI S x 3) + 1)) x 3).toNatClampNeg p0) ((hsQ (hwA (hwI S x 3 ((hsI S x 3) + 1)) ((hsQ (hwI S x 3 ((hsI S x 3) + 1)) x 0).getD 0) (hsI (hwI S x 3 ((hsI S x 3) + 1)) x 3).toNatClampNeg p0) x 1).getD 0) (hsI (hwA (hwI S x 3 ((hsI S x 3) + 1)) ((hsQ (hwI S x 3 ((hsI S x 3) + 1)) x 0).getD 0) (hsI (hwI S x 3 ((hsI S x 3) + 1)) x 3).toNatClampNeg p0) x 3).toNatClampNeg p1) x 2).getD 0) (hsI (hwA (hwA (hwI S x 3 ((hsI S x 3) + 1)) ((hsQ (hwI S x 3 ((hsI S x 3) + 1)) x 0).getD 0) (hsI (hwI S x 3 ((hsI S x 3) + 1)) x 3).toNatClampNeg p0) ((hsQ (hwA (hwI S x 3 ((hsI S x 3) + 1)) ((hsQ (hwI S x 3 ((hsI S x 3) + 1)) x 0).getD 0) (hsI (hwI S x 3 ((hsI S x 3) + 1)) x 3).toNatClampNeg p0) x 1).getD 0) (hsI (hwA (hwI S x 3 ((hsI S x 3) + 1)) ((hsQ (hwI S x 3 ((hsI S x 3) + 1)) x 0).getD 0) (hsI (hwI S x 3 ((hsI S x 3) + 1)) x 3).toNatClampNeg p0) x 3).toNatClampNeg p1) x 3).toNatClampNeg (hsI (hwA (hwA (hwI S x 3 ((hsI S x 3) + 1)) ((hsQ (hwI S x 3 ((hsI S x 3) + 1)) x 0).getD 0) (hsI (hwI S x 3 ((hsI S x 3) + 1)) x 3).toNatClampNeg p0) ((hsQ (hwA (hwI S x 3 ((hsI S x 3) + 1)) ((hsQ (hwI S x 3 ((hsI S x 3) + 1)) x 0).getD 0) (hsI (hwI S x 3 ((hsI S x 3) + 1)) x 3).toNatClampNeg p0) x 1).getD 0) (hsI (hwA (hwI S x 3 ((hsI S x 3) + 1)) ((hsQ (hwI S x 3 ((hsI S x 3) + 1)) x 0).getD 0) (hsI (hwI S x 3 ((hsI S x 3) + 1)) x 3).toNatClampNeg p0) x 3).toNatClampNeg p1) x 5)) x 5 ((hsI (hwA (hwA (hwA (hwI S x 3 ((hsI S x 3) + 1)) ((hsQ (hwI S x 3 ((hsI S x 3) + 1)) x 0).getD 0) (hsI (hwI S x 3 ((hsI S x 3) + 1)) x 3).toNatClampNeg p0) ((hsQ (hwA (hwI S x 3 ((hsI S x 3) + 1)) ((hsQ (hwI S x 3 ((hsI S x 3) + 1)) x 0).getD 0) (hsI (hwI S x 3 ((hsI S x 3) + 1)) x 3).toNatClampNeg p0) x 1).getD 0) (hsI (hwA (hwI S x 3 ((hsI S x 3) + 1)) ((hsQ (hwI S x 3 ((hsI S x 3) + 1)) x 0).getD 0) (hsI (hwI S x 3 ((hsI S x 3) + 1)) x 3).toNatClampNeg p0) x 3).toNatClampNeg p1) ((hsQ (hwA (hwA (hwI S x 3 ((hsI S x 3) + 1)) ((hsQ (hwI S x 3 ((hsI S x 3) + 1)) x 0).getD 0) (hsI (hwI S x 3 ((hsI S x 3) + 1)) x 3).toNatClampNeg p0) ((hsQ (hwA (hwI S x 3 ((hsI S x 3) + 1)) ((hsQ (hwI S x 3 ((hsI S x 3) + 1)) x 0).getD 0) (hsI (hwI S x 3 ((hsI S x 3) + 1)) x 3).toNatClampNeg p0) x 1).getD 0) (hsI (hwA (hwI S x 3 ((hsI S x 3) + 1)) ((hsQ (hwI S x 3 ((hsI S x 3) + 1)) x 0).getD 0) (hsI (hwI S x 3 ((hsI S x 3) + 1)) x 3).toNatClampNeg p0) x 3).toNatClampNeg p1) x 2).getD 0) (hsI (hwA (hwA (hwI S x 3 ((hsI S x 3) + 1)) ((hsQ (hwI S x 3 ((hsI S x 3) + 1)) x 0).getD 0) (hsI (hwI S x 3 ((hsI S x 3) + 1)) x 3).toNatClampNeg p0) ((hsQ (hwA (hwI S x 3 ((hsI S x 3) + 1)) ((hsQ (hwI S x 3 ((hsI S x 3) + 1)) x 0).getD 0) (hsI (hwI S x 3 ((hsI S x 3) + 1)) x 3).toNatClampNeg p0) x 1).getD 0) (hsI (hwA (hwI S x 3 ((hsI S x 3) + 1)) ((hsQ (hwI S x 3 ((hsI S x 3) + 1)) x 0).getD 0) (hsI (hwI S x 3 ((hsI S x 3) + 1)) x 3).toNatClampNeg p0) x 3).toNatClampNeg p1) x 3).toNatClampNeg (hsI (hwA (hwA (hwI S x 3 ((hsI S x 3) + 1)) ((hsQ (hwI S x 3 ((hsI S x 3) + 1)) x 0).getD 0) (hsI (hwI S x 3 ((hsI S x 3) + 1)) x 3).toNatClampNeg p0) ((hsQ (hwA (hwI S x 3 ((hsI S x 3) + 1)) ((hsQ (hwI S x 3 ((hsI S x 3) + 1)) x 0).getD 0) (hsI (hwI S x 3 ((hsI S x 3) + 1)) x 3).toNatClampNeg p0) x 1).getD 0) (hsI (hwA (hwI S x 3 ((hsI S x 3) + 1)) ((hsQ (hwI S x 3 ((hsI S x 3) + 1)) x 0).getD 0) (hsI (hwI S x 3 ((hsI S x 3) + 1)) x 3).toNatClampNeg p0) x 3).toNatClampNeg p1) x 5)) x 5) + p1)) x = 7) ∧ (True))))))))) ∧
  (¬ (p0 = 0) → (((10 ≤ p0) → ((x ∈ L ∧ hsK (hwA (hwA (hwI S x 3 ((hsI S x 3) + 1)) ((hsQ (hwI S x 3 ((hsI S x 3) + 1)) x 0).getD 0) (hsI (hwI S x 3 ((hsI S x 3) + 1)) x 3).toNatClampNeg p0) ((hsQ (hwA (hwI S x 3 ((hsI S x 3) + 1)) ((hsQ (hwI S x 3 ((hsI S x 3) + 1)) x 0).getD 0) (hsI (hwI S x 3 ((hsI S x 3) + 1)) x 3).toNatClampNeg p0) x 1).getD 0) (hsI (hwA (hwI S x 3 ((hsI S x 3) + 1)) ((hsQ (hwI S x 3 ((hsI S x 3) + 1)) x 0).getD 0) (hsI (hwI S x 3 ((hsI S x 3) + 1)) x 3).toNatClampNeg p0) x 3).toNatClampNeg p1) x = 7) ∧ (True))) ∧
   (¬ (10 ≤ p0) → ((x ∈ L ∧ hsK (hwA (hwA (hwI S x 3 ((hsI S x 3) + 1)) ((hsQ (hwI S x 3 ((hsI S x 3) + 1)) x 0).getD 0) (hsI (hwI S x 3 ((hsI S x 3) + 1)) x 3).toNatClampNeg p0) ((hsQ (hwA (hwI S x 3 ((hsI S x 3) + 1)) ((hsQ (hwI S x 3 ((hsI S x 3) + 1)) x 0).getD 0) (hsI (hwI S x 3 ((hsI S x 3) + 1)) x 3).toNatClampNeg p0) x 1).getD 0) (hsI (hwA (hwI S x 3 ((hsI S x 3) + 1)) ((hsQ (hwI S x 3 ((hsI S x 3) + 1)) x 0).getD 0) (hsI (hwI S x 3 ((hsI S x 3) + 1)) x 3).toNatClampNeg p0) x 3).toNatClampNeg p1) x = 7 ∧ hsQ (hwA (hwA (hwI S x 3 ((hsI S x 3) + 1)) ((hsQ (hwI S x 3 ((hsI S x 3) + 1)) x 0).getD 0) (hsI (hwI S x 3 ((hsI S x 3) + 1)) x 3).toNatClampNeg p0) ((hsQ (hwA (hwI S x 3 ((hsI S x 3) + 1)) ((hsQ (hwI S x 3 ((hsI S x 3) + 1)) x 0).getD 0) (hsI (hwI S x 3 ((hsI S x 3) + 1)) x 3).toNatClampNeg p0) x 1).getD 0) (hsI (hwA (hwI S x 3 ((hsI S x 3) + 1)) ((hsQ (hwI S x 3 ((hsI S x 3) + 1)) x 0).getD 0) (hsI (hwI S x 3 ((hsI S x 3) + 1)) x 3).toNatClampNeg p0) x 3).toNatClampNeg p1) x 2 ≠ none) ∧ ((x ∈ L ∧ hsK (hwA (hwA (hwI S x 3 ((hsI S x 3) + 1)) ((hsQ (hwI S x 3 ((hsI S x 3) + 1)) x 0).getD 0) (hsI (hwI S x 3 ((hsI S x 3) + 1)) x 3).toNatClampNeg p0) ((hsQ (hwA (hwI S x 3 ((hsI S x 3) + 1)) ((hsQ (hwI S x 3 ((hsI S x 3) + 1)) x 0).getD 0) (hsI (hwI S x 3 ((hsI S x 3) + 1)) x 3).toNatClampNeg p0) x 1).getD 0) (hsI (hwA (hwI S x 3 ((hsI S x 3) + 1)) ((hsQ (hwI S x 3 ((hsI S x 3) + 1)) x 0).getD 0) (hsI (hwI S x 3 ((hsI S x 3) + 1)) x 3).toNatClampNeg p0) x 3).toNatClampNeg p1) x = 7) ∧ ((x ∈ L ∧ hsK (hwA (hwA (hwI S x 3 ((hsI S x 3) + 1)) ((hsQ (hwI S x 3 ((hsI S x 3) + 1)) x 0).getD 0) (hsI (hwI S x 3 ((hsI S x 3) + 1)) x 3).toNatClampNeg p0) ((hsQ (hwA (hwI S x 3 ((hsI S x 3) + 1)) ((hsQ (hwI S x 3 ((hsI S x 3) + 1)) x 0).getD 0) (hsI (hwI S x 3 ((hsI S x 3) + 1)) x 3).toNatClampNeg p0) x 1).getD 0) (hsI (hwA (hwI S x 3 ((hsI S x 3) + 1)) ((hsQ (hwI S x 3 ((hsI S x 3) + 1)) x 0).getD 0) (hsI (hwI S x 3 ((hsI S x 3) + 1)) x 3).toNatClampNeg p0) x 3).toNatClampNeg p1) x = 7) ∧ ((((hsQ (hwA (hwA (hwI S x 3 ((hsI S x 3) + 1)) ((hsQ (hwI S x 3 ((hsI S x 3) + 1)) x 0).getD 0) (hsI (hwI S x 3 ((hsI S x 3) + 1)) x 3).toNatClampNeg p0) ((hsQ (hwA (hwI S x 3 ((hsI S x 3) + 1)) ((hsQ (hwI S x 3 ((hsI S x 3) + 1)) x 0).getD 0) (hsI (hwI S x 3 ((hsI S x 3) + 1)) x 3).toNatClampNeg p0) x 1).getD 0) (hsI (hwA (hwI S x 3 ((hsI S x 3) + 1)) ((hsQ (hwI S x 3 ((hsI S x 3) + 1)) x 0).getD 0) (hsI (hwI S x 3 ((hsI S x 3) + 1)) x 3).toNatClampNeg p0) x 3).toNatClampNeg p1) x 2).getD 0) ∈ L ∧ hsK (hwA (hwA (hwI S x 3 ((hsI S x 3) + 1)) ((hsQ (hwI S x 3 ((hsI S x 3) + 1)) x 0).getD 0) (hsI (hwI S x 3 ((hsI S x 3) + 1)) x 3).toNatClampNeg p0) ((hsQ (hwA (hwI S x 3 ((hsI S x 3) + 1)) ((hsQ (hwI S x 3 ((hsI S x 3) + 1)) x 0).getD 0) (hsI (hwI S x 3 ((hsI S x 3) + 1)) x 3).toNatClampNeg p0) x 1).getD 0) (hsI (hwA (hwI S x 3 ((hsI S x 3) + 1)) ((hsQ (hwI S x 3 ((hsI S x 3) + 1)) x 0).getD 0) (hsI (hwI S x 3 ((hsI S x 3) + 1)) x 3).toNatClampNeg p0) x 3).toNatClampNeg p1) ((hsQ (hwA (hwA (hwI S x 3 ((hsI S x 3) + 1)) ((hsQ (hwI S x 3 ((hsI S x 3) + 1)) x 0).getD 0) (hsI (hwI S x 3 ((hsI S x 3) + 1)) x 3).toNatClampNeg p0) ((hsQ (hwA (hwI S x 3 ((hsI S x 3) + 1)) ((hsQ (hwI S x 3 ((hsI S x 3) + 1)) x 0).getD 0) (hsI (hwI S x 3 ((hsI S x 3) + 1)) x 3).toNatClampNeg p0) x 1).getD 0) (hsI (hwA (hwI S x 3 ((hsI S x 3) + 1)) ((hsQ (hwI S x 3 ((hsI S x 3) + 1)) x 0).getD 0) (hsI (hwI S x 3 ((hsI S x 3) + 1)) x 3).toNatClampNeg p0) x 3).toNatClampNeg p1) x 2).getD 0) = 8 ∧ vp_in (hsI (hwA (hwA (hwI S x 3 ((hsI S x 3) + 1)) ((hsQ (hwI S x 3 ((hsI S x 3) + 1)) x 0).getD 0) (hsI (hwI S x 3 ((hsI S x 3) + 1)) x 3).toNatClampNeg p0) ((hsQ (hwA (hwI S x 3 ((hsI S x 3) + 1)) ((hsQ (hwI S x 3 ((hsI S x 3) + 1)) x 0).getD 0) (hsI (hwI S x 3 ((hsI S x 3) + 1)) x 3).toNatClampNeg p0) x 1).getD 0) (hsI (hwA (hwI S x 3 ((hsI S x 3) + 1)) ((hsQ (hwI S x 3 ((hsI S x 3) + 1)) x 0).getD 0) (hsI (hwI S x 3 ((hsI S x 3) + 1)) x 3).toNatClampNeg p0) x 3).toNatClampNeg p1) x 3) (hsN (hwA (hwA (hwI S x 3 ((hsI S x 3) + 1)) ((hsQ (hwI S x 3 ((hsI S x 3) + 1)) x 0).getD 0) (hsI (hwI S x 3 ((hsI S x 3) + 1)) x 3).toNatClampNeg p0) ((hsQ (hwA (hwI S x 3 ((hsI S x 3) + 1)) ((hsQ (hwI S x 3 ((hsI S x 3) + 1)) x 0).getD 0) (hsI (hwI S x 3 ((hsI S x 3) + 1)) x 3).toNatClampNeg p0) x 1).getD 0) (hsI (hwA (hwI S x 3 ((hsI S x 3) + 1)) ((hsQ (hwI S x 3 ((hsI S x 3) + 1)) x 0).getD 0) (hsI (hwI S x 3 ((hsI S x 3) + 1)) x 3).toNatClampNeg p0) x 3).toNatClampNeg p1) ((hsQ (hwA (hwA (hwI S x 3 ((hsI S x 3) + 1)) ((hsQ (hwI S x 3 ((hsI S x 3) + 1)) x 0).getD 0) (hsI (hwI S x 3 ((hsI S x 3) + 1)) x 3).toNatClampNeg p0) ((hsQ (hwA (hwI S x 3 ((hsI S x 3) + 1)) ((hsQ (hwI S x 3 ((hsI S x 3) + 1)) x 0).getD 0) (hsI (hwI S x 3 ((hsI S x 3) + 1)) x 3).toNatClampNeg p0) x 1).getD 0) (hsI (hwA (hwI S x 3 ((hsI S x 3) + 1)) ((hsQ (hwI S x 3 ((hsI S x 3) + 1)) x 0).getD 0) (hsI (hwI S x 3 ((hsI S x 3) + 1)) x 3).toNatClampNeg p0) x 3).toNatClampNeg p1) x 2).getD 0))) ∧ ((x ∈ L ∧ hsK (hwA (hwA (hwA (hwI S x 3 ((hsI S x 3) + 1)) ((hsQ (hwI S x 3 ((hsI S x 3) + 1)) x 0).getD 0) (hsI (hwI S x 3 ((hsI S x 3) + 1)) x 3).toNatClampNeg p0) ((hsQ (hwA (hwI S x 3 ((hsI S x 3) + 1)) ((hsQ (hwI S x 3 ((hsI S x 3) + 1)) x 0).getD 0) (hsI (hwI S x 3 ((hsI S x 3) + 1)) x 3).toNatClampNeg p0) x 1).getD 0) (hsI (hwA (hwI S x 3 ((hsI S x 3) + 1)) ((hsQ (hwI S x 3 ((hsI S x 3) + 1)) x 0).getD 0) (hsI (hwI S x 3 ((hsI S x 3) + 1)) x 3).toNatClampNeg p0) x 3).toNatClampNeg p1) ((hsQ (hwA (hwA (hwI S x 3 ((hsI S x 3) + 1)) ((hsQ (hwI S x 3 ((hsI S x 3) + 1)) x 0).getD 0) (hsI (hwI S x 3 ((hsI S x 3) + 1)) x 3).toNatClampNeg p0) ((hsQ (hwA (hwI S x 3 ((hsI S x 3) + 1)) ((hsQ (hwI S x 3 ((hsI S x 3) + 1)) x 0).getD 0) (hsI (hwI S x 3 ((hsI S x 3) + 1)) x 3).toNatClampNeg p0) x 1).getD 0) (hsI (hwA (hwI S x 3 ((hsI S x 3) + 1)) ((hsQ (hwI S x 3 ((hsI S x 3) + 1)) x 0).getD 0) (hsI (hwI S x 3 ((hsI S x 3) + 1)) x 3).toNatClampNeg p0) x 3).toNatClampNeg p1) x 2).getD 0) (hsI (hwA (hwA (hwI S x 3 ((hsI S x 3) + 1)) ((hsQ (hwI S x 3 ((hsI S x 3) + 1)) x 0).getD 0) (hsI (hwI S x 3 ((hsI S x 3) + 1)) x 3).toNatClampNeg p0) ((hsQ (hwA (hwI S x 3 ((hsI S x 3) + 1)) ((hsQ (hwI S x 3 ((hsI S x 3) + 1)) x 0).getD 0) (hsI (hwI S x 3 ((hsI S x 3) + 1)) x 3).toNatClampNeg p0) x 1).getD 0) (hsI (hwA (hwI S x 3 ((hsI S x 3) + 1)) ((hsQ (hwI S x 3 ((hsI S x 3) + 1)) x 0).getD 0) (hsI (hwI S x 3 ((hsI S x 3) + 1)) x 3).toNatClampNeg p0) x 3).toNatClampNeg p1) x 3).toNatClampNeg (hsI (hwA (hwA (hwI S x 3 ((hsI S x 3) + 1)) ((hsQ (hwI S x 3 ((hsI S x 3) + 1)) x 0).getD 0) (hsI (hwI S x 3 ((hsI S x 3) + 1)) x 3).toNatClampNeg p0) ((hsQ (hwA (hwI S x 3 ((hsI S x 3) + 1)) ((hsQ (hwI S x 3 ((hsI S x 3) + 1)) x 0).getD 0) (hsI (hwI S x 3 ((hsI S x 3) + 1)) x 3).toNatClampNeg p0) x 1).getD 0) (hsI (hwA (hwI S x 3 ((hsI S x 3) + 1)) ((hsQ (hwI S x 3 ((hsI S x 3) + 1)) x 0).getD 0) (hsI (hwI S x 3 ((hsI S x 3) + 1)) x 3).toNatClampNeg p0) x 3).toNatClampNeg p1) x 7)) x = 7) ∧ ((x ∈ L ∧ hsK (hwA (hwA (hwA (hwI S x 3 ((hsI S x 3) + 1)) ((hsQ (hwI S x 3 ((hsI S x 3) + 1)) x 0).getD 0) (hsI (hwI S x 3 ((hsI S x 3) + 1)) x 3).toNatClampNeg p0) ((hsQ (hwA (hwI S x 3 ((hsI S x 3) + 1)) ((hsQ (hwI S x 3 ((hsI S x 3) + 1)) x 0).getD 0) (hsI (hwI S x 3 ((hsI S x 3) + 1)) x 3).toNatClampNeg p0) x 1).getD 0) (hsI (hwA (hwI S x 3 ((hsI S x 3) + 1)) ((hsQ (hwI S x 3 ((hsI S x 3) + 1)) x 0).getD 0) (hsI (hwI S x 3 ((hsI S x 3) + 1)) x 3).toNatClampNeg p0) x 3).toNatClampNeg p1) ((hsQ (hwA (hwA (hwI S x 3 ((hsI S x 3) + 1)) ((hsQ (hwI S x 3 ((hsI S x 3) + 1)) x 0).getD 0) (hsI (hwI S x 3 ((hsI S x 3) + 1)) x 3).toNatClampNeg p0) ((hsQ (hwA (hwI S x 3 ((hsI S x 3) + 1)) ((hsQ (hwI S x 3 ((hsI S x 3) + 1)) x 0).getD 0) (hsI (hwI S x 3 ((hsI S x 3) + 1)) x 3).toNatClampNeg p0) x 1).getD 0) (hsI (hwA (hwI S x 3 ((hsI S x 3) + 1)) ((hsQ (hwI S x 3 ((hsI S x 3) + 1)) x 0).getD 0) (hsI (hwI S x 3 ((hsI S x 3) + 1)) x 3).toNatClampNeg p0) x 3).toNatClampNeg p1) x 2).getD 0) (hsI (hwA (hwA (hwI S x 3 ((hsI S x 3) + 1)) ((hsQ (hwI S x 3 ((hsI S x 3) + 1)) x 0).getD 0) (hsI (hwI S x 3 ((hsI S x 3) + 1)) x 3).toNatClampNeg p0) ((hsQ (hwA (hwI S x 3 ((hsI S x 3) + 1)) ((hsQ (hwI S x 3 ((hsI S x 3) + 1)) x 0).getD 0) (hsI (hwI S x 3 ((hsI S x 3) + 1)) x 3).toNatClampNeg p0) x 1).getD 0) (hsI (hwA (hwI S x 3 ((hsI S x 3) + 1)) ((hsQ (hwI S x 3 ((hsI S x 3) + 1)) x 0).getD 0) (hsI (hwI S x 3 ((hsI S x 3) + 1)) x 3).toNatClampNeg p0) x 3).toNatClampNeg p1) x 3).toNatClampNeg (hsI (hwA (hwA (hwI S x 3 ((hsI S x 3) + 1)) ((hsQ (hwI S x 3 ((hsI S x 3) + 1)) x 0).getD 0) (hsI (hwI S x 3 ((hsI S x 3) + 1)) x 3).toNatClampNeg p0) ((hsQ (hwA (hwI S x 3 ((hsI S x 3) + 1)) ((hsQ (hwI S x 3 ((hsI S x 3) + 1)) x 0).getD 0) (hsI (hwI S x 3 ((hsI S x 3) + 1)) x 3).toNatClampNeg p0) x 1).getD 0) (hsI (hwA (hwI S x 3 ((hsI S x 3) + 1)) ((hsQ (hwI S x 3 ((hsI S x 3) + 1)) x 0).getD 0) (hsI (hwI S x 3 ((hsI S x 3) + 1)) x 3).toNatClampNeg p0) x 3).toNatClampNeg p1) x 7)) x = 7) ∧ ((x ∈ L ∧ hsK (hwI (hwA (hwA (hwA (hwI S x 3 ((hsI S x 3) + 1)) ((hsQ (hwI S x 3 ((hsI S x 3) + 1)) x 0).getD 0) (hsI (hwI S x 3 ((hsI S x 3) + 1)) x 3).toNatClampNeg p0) ((hsQ (hwA (hwI S x 3 ((hsI S x 3) + 1)) ((hsQ (hwI S x 3 ((hsI S x 3) + 1)) x 0).getD 0) (hsI (hwI S x 3 ((hsI S x 3) + 1)) x 3).toNatClampNeg p0) x 1).getD 0) (hsI (hwA (hwI S x 3 ((hsI S x 3) + 1)) ((hsQ (hwI S x 3 ((hsI S x 3) + 1)) x 0).getD 0) (hsI (hwI S x 3 ((hsI S x 3) + 1)) x 3).toNatClampNeg p0) x 3).toNatClampNeg p1) ((hsQ (hwA (hwA (hwI S x 3 ((hsI S x 3) + 1)) ((hsQ (hwI S x 3 ((hsI S x 3) + 1)) x 0).getD 0) (hsI (hwI S x 3 ((hsI S x 3) + 1)) x 3).toNatClampNeg p0) ((hsQ (hwA (hwI S x 3 ((hsI S x 3) + 1)) ((hsQ (hwI S x 3 ((hsI S x 3) + 1)) x 0).getD 0) (hsI (hwI S x 3 ((hsI S x 3) + 1)) x 3).toNatClampNeg p0) x 1).getD 0) (hsI (hwA (hwI S x 3 ((hsI S x 3) + 1)) ((hsQ (hwI S x 3 ((hsI S x 3) + 1)) x 0).getD 0) (hsI (hwI S x 3 ((hsI S x 3) + 1)) x 3).toNatClampNeg p0) x 3).toNatClampNeg p1) x 2).getD 0) (hsI (hwA (hwA (hwI S x 3 ((hsI S x 3) + 1)) ((hsQ (hwI S x 3 ((hsI S x 3) + 1)) x 0).getD 0) (hsI (hwI S x 3 ((hsI S x 3) + 1)) x 3).toNatClampNeg p0) ((hsQ (hwA (hwI S x 3 ((hsI S x 3) + 1)) ((hsQ (hwI S x 3 ((hsI S x 3) + 1)) x 0).getD 0) (hsI (hwI S x 3 ((hsI S x 3) + 1)) x 3).toNatClampNeg p0) x 1).getD 0) (hsI (hwA (hwI S x 3 ((hsI S x 3) + 1)) ((hsQ (hwI S x 3 ((hsI S x 3) + 1)) x 0).getD 0) (hsI (hwI S x 3 ((hsI S x 3) + 1)) x 3).toNatClampNeg p0) x 3).toNatClampNeg p1) x 3).toNatClampNeg (hsI (hwA (hwA (hwI S x 3 ((hsI S x 3) + 1)) ((hsQ (hwI S x 3 ((hsI S x 3) + 1)) x 0).getD 0) (hsI (hwI S x 3 ((hsI S x 3) + 1)) x 3).toNatClampNeg p0) ((hsQ (hwA (hwI S x 3 ((hsI S x 3) + 1)) ((hsQ (hwI S x 3 ((hsI S x 3) + 1)) x 0).getD 0) (hsI (hwI S x 3 ((hsI S x 3) + 1)) x 3).toNatClampNeg p0) x 1).getD 0) (hsI (hwA (hwI S x 3 ((hsI S x 3) + 1)) ((hsQ (hwI S x 3 ((hsI S x 3) + 1)) x 0).getD 0) (hsI (hwI S x 3 ((hsI S x 3) + 1)) x 3).toNatClampNeg p0) x 3).toNatClampNeg p1) x 7)) x 7 ((hsI (hwA (hwA (hwA (hwI S x 3 ((hsI S x 3) + 1)) ((hsQ (hwI S x 3 ((hsI S x 3) + 1)) x 0).getD 0) (hsI (hwI S x 3 ((hsI S x 3) + 1)) x 3).toNatClampNeg p0) ((hsQ (hwA (hwI S x 3 ((hsI S x 3) + 1)) ((hsQ (hwI S x 3 ((hsI S x 3) + 1)) x 0).getD 0) (hsI (hwI S x 3 ((hsI S x 3) + 1)) x 3).toNatClampNeg p0) x 1).getD 0) (hsI (hwA (hwI S x 3 ((hsI S x 3) + 1)) ((hsQ (hwI S x 3 ((hsI S x 3) + 1)) x 0).getD 0) (hsI (hwI S x 3 ((hsI S x 3) + 1)) x 3).toNatClampNeg p0) x 3).toNatClampNeg p1) ((hsQ (hwA (hwA (hwI S x 3 ((hsI S x 3) + 1)) ((hsQ (hwI S x 3 ((hsI S x 3) + 1)) x 0).getD 0) (hsI (hwI S x 3 ((hsI S x 3) + 1)) x 3).toNatClampNeg p0) ((hsQ (hwA (hwI S x 3 ((hsI S x 3) + 1)) ((hsQ (hwI S x 3 ((hsI S x 3) + 1)) x 0).getD 0) (hsI (hwI S x 3 ((hsI S x 3) + 1)) x 3).toNatClampNeg p0) x 1).getD 0) (hsI (hwA (hwI S x 3 ((hsI S x 3) + 1)) ((hsQ (hwI S x 3 ((hsI S x 3) + 1)) x 0).getD 0) (hsI (hwI S x 3 ((hsI S x 3) + 1)) x 3).toNatClampNeg p0) x 3).toNatClampNeg p1) x 2).getD 0) (hsI (hwA (hwA (hwI S x 3 ((hsI S x 3) + 1)) ((hsQ (hwI S x 3 ((hsI S x 3) + 1)) x 0).getD 0) (hsI (hwI S x 3 ((hsI S x 3) + 1)) x 3).toNatClampNeg p0) ((hsQ (hwA (hwI S x 3 ((hsI S x 3) + 1)) ((hsQ (hwI S x 3 ((hsI S x 3) + 1)) x 0).getD 0) (hsI (hwI S x 3 ((hsI S x 3) + 1)) x 3).toNatClampNeg p0) x 1).getD 0) (hsI (hwA (hwI S x 3 ((hsI S x 3) + 1)) ((hsQ (hwI S x 3 ((hsI S x 3) + 1)) x 0).getD 0) (hsI (hwI S x 3 ((hsI S x 3) + 1)) x 3).toNatClampNeg p0) x 3).toNatClampNeg p1) x 3).toNatClampNeg (hsI (hwA (hwA (hwI S x 3 ((hsI S x 3) + 1)) ((hsQ (hwI S x 3 ((hsI S x 3) + 1)) x 0).getD 0) (hsI (hwI S x 3 ((hsI S x 3) + 1)) x 3).toNatClampNeg p0) ((hsQ (hwA (hwI S x 3 ((hsI S x 3) + 1)) ((hsQ (hwI S x 3 ((hsI S x 3) + 1)) x 0).getD 0) (hsI (hwI S x 3 ((hsI S x 3) + 1)) x 3).toNatClampNeg p0) x 1).getD 0) (hsI (hwA (hwI S x 3 ((hsI S x 3) + 1)) ((hsQ (hwI S x 3 ((hsI S x 3) + 1)) x 0).getD 0) (hsI (hwI S x 3 ((hsI S x 3) + 1)) x 3).toNatClampNeg p0) x 3).toNatClampNeg p1) x 7)) x 7) + p1)) x = 7) ∧ (True)))))))))))))))))))
set_option maxHeartbeats 4000000 in
set_option maxRecDepth 100000 in
theorem hm_X9_thing (l : Launch) (G : GE) (L : List Nat) (S : HS) (x : Nat) (p0 : Int32) (p1 : Int32) (hok : ok_X9_thing L x p0 p1 S) : HmI l G yX9_thing wsX9_thing 0 0 [.ref x, .int p0, .int p1] L S (h_X9_thing x p0 p1 S) := by
  refine Met.ofW (cc := cX9_thing) (maxL := 3) (ret := (some .int)) (by decide) rfl ?_
  intro p e s m args below meth c s₁ B hml hv
  obtain ⟨rfl, hP, hK, hnd, hE⟩ := hv
  have hx := B.exec
  have hb := B.bytes
  have hr := B.returns
  have hts := atoms_spec (ws := wsX9_thing) B.pre
  have hown : s.vm.findClass RX9 = some m.cls := findClass_of_methodNamed B.named
  have hlocks := B.notSynchronized
  have hD := nd_D hnd
  have hS : va_S (AL L) s.heap s.heap [] := va_S.rf
  have hl := lv_entry ([.ref x, .int p0, .int p1]) (n := 3) (Nat.le_of_ble_eq_true rfl)
  rw [lg_entry_eq]
  generalize (lg_sl ([.ref x, .int p0, .int p1]) ++ List.replicate (3 - (lg_sl ([.ref x, .int p0, .int p1])).length) Slot.unset).toArray = ls at hl ⊢
  have hl : lv_has ls 3 [(0, .ref x), (1, .int p0), (2, .int p1)] := hl
  obtain ⟨Z, hZ⟩ : ∃ z, z = MQ below (hm_QI G L (h_X9_thing x p0 p1 S)) ([.ref x, .int p0, .int p1] : List Value).toArray s 0 0 (AL L) := ⟨_, rfl⟩
  rw [← hZ]
  refine lv_aload_n hx hb dX9_thing_0 rfl (lv_at hl 0 rfl) ?_
  refine lv_dup hx hb dX9_thing_1 rfl ?_
  obtain ⟨h_2, hok⟩ := hok
  refine hp_get (ci := 7) (C := RX9) (T := TX9) (N := 12) hx hb hts iw_X9_thing_X9 hown hK hP h_2.1 (PF_7 h_2.2) rfl 3 (by decide) (hts _ (List.mem_of_getElem? (i := 1) rfl)) (fun _ h9 => h9) rfl dX9_thing_2 ?_
  refine lv_iconst (v := 1) hx hb dX9_thing_5 (by decide) ?_
  refine lv_iadd hx hb dX9_thing_6 ?_
  obtain ⟨h_7, hok⟩ := hok
  refine hp_put (ci := 7) (C := RX9) (T := TX9) (N := 12) (ty := .int) (v := .int ((hsI S x 3) + 1)) (g := PF G (hwI S x 3 ((hsI S x 3) + 1))) hx hb hts iw_X9_thing_X9 tyX9 tyX9_ok nmX9 hown hK hP (hD _) hS h_7.1 (PF_7 h_7.2) rfl 3 (by decide) (hts _ (List.mem_of_getElem? (i := 1) rfl)) (fun _ h9 => h9) rfl (by decide +kernel) rfl rfl (Nat.le_of_ble_eq_true rfl) (PF_s7_3 h_7.2) (fun _ hb9 => PF_wI hb9) dX9_thing_7 (fun H locs hP hS => ?_)
  refine lv_aload_n hx hb dX9_thing_10 rfl (lv_at hl 0 rfl) ?_
  obtain ⟨h_11, hok⟩ := hok
  refine hp_getR (ci := 7) (C := RX9) (T := TX9) (N := 12) hx hb hts iw_X9_thing_X9 hown hK hP h_11.1 (PF_7 h_11.2.1) rfl 0 (by decide) (hts _ (List.mem_of_getElem? (i := 2) rfl)) (fun _ h9 => h9) rfl h_11.2.2 dX9_thing_11 ?_
  refine lv_aload_n hx hb dX9_thing_14 rfl (lv_at hl 0 rfl) ?_
  obtain ⟨h_15, hok⟩ := hok
  refine hp_get (ci := 7) (C := RX9) (T := TX9) (N := 12) hx hb hts iw_X9_thing_X9 hown hK hP h_15.1 (PF_7 h_15.2) rfl 3 (by decide) (hts _ (List.mem_of_getElem? (i := 1) rfl)) (fun _ h9 => h9) rfl dX9_thing_15 ?_
  refine lv_iload_n hx hb dX9_thing_18 rfl (lv_at hl 1 rfl) ?_
  obtain ⟨h_19, hok⟩ := hok
  refine hp_iast (g2 := PF G (hwA (hwI S x 3 ((hsI S x 3) + 1)) ((hsQ (hwI S x 3 ((hsI S x 3) + 1)) x 0).getD 0) (hsI (hwI S x 3 ((hsI S x 3) + 1)) x 3).toNatClampNeg p0)) hx hb hK hP (hD _) hS h_19.1 0 (PF_8 h_19.2.1) rfl h_19.2.2 (PF_sA h_19.2.1) (fun _ hb9 => PF_wA hb9) dX9_thing_19 (fun H locs hP hS => ?_)
  refine lv_aload_n hx hb dX9_thing_20 rfl (lv_at hl 0 rfl) ?_
  obtain ⟨h_21, hok⟩ := hok
  refine hp_getR (ci := 7) (C := RX9) (T := TX9) (N := 12) hx hb hts iw_X9_thing_X9 hown hK hP h_21.1 (PF_7 h_21.2.1) rfl 1 (by decide) (hts _ (List.mem_of_getElem? (i := 3) rfl)) (fun _ h9 => h9) rfl h_21.2.2 dX9_thing_21 ?_
  refine lv_aload_n hx hb dX9_thing_24 rfl (lv_at hl 0 rfl) ?_
  obtain ⟨h_25, hok⟩ := hok
  refine hp_get (ci := 7) (C := RX9) (T := TX9) (N := 12) hx hb hts iw_X9_thing_X9 hown hK hP h_25.1 (PF_7 h_25.2) rfl 3 (by decide) (hts _ (List.mem_of_getElem? (i := 1) rfl)) (fun _ h9 => h9) rfl dX9_thing_25 ?_
  refine lv_iload_n hx hb dX9_thing_28 rfl (lv_at hl 2 rfl) ?_
  obtain ⟨h_29, hok⟩ := hok
  refine hp_iast (g2 := PF G (hwA (hwA (hwI S x 3 ((hsI S x 3) + 1)) ((hsQ (hwI S x 3 ((hsI S x 3) + 1)) x 0).getD 0) (hsI (hwI S x 3 ((hsI S x 3) + 1)) x 3).toNatClampNeg p0) ((hsQ (hwA (hwI S x 3 ((hsI S x 3) + 1)) ((hsQ (hwI S x 3 ((hsI S x 3) + 1)) x 0).getD 0) (hsI (hwI S x 3 ((hsI S x 3) + 1)) x 3).toNatClampNeg p0) x 1).getD 0) (hsI (hwA (hwI S x 3 ((hsI S x 3) + 1)) ((hsQ (hwI S x 3 ((hsI S x 3) + 1)) x 0).getD 0) (hsI (hwI S x 3 ((hsI S x 3) + 1)) x 3).toNatClampNeg p0) x 3).toNatClampNeg p1)) hx hb hK hP (hD _) hS h_29.1 0 (PF_8 h_29.2.1) rfl h_29.2.2 (PF_sA h_29.2.1) (fun _ hb9 => PF_wA hb9) dX9_thing_29 (fun H locs hP hS => ?_)
  refine lv_iload_n hx hb dX9_thing_30 rfl (lv_at hl 1 rfl) ?_
  refine lv_if_ne (tgt := 60) hx hb dX9_thing_31 (by decide) (fun c_31 => ?_) (fun c_31 => ?_)
  ·
    have hok := (hok).2 c_31
    refine lv_iload_n hx hb dX9_thing_60 rfl (lv_at hl 1 rfl) ?_
    refine lv_bipush (v := 10) hx hb dX9_thing_61 (by decide) ?_
    refine lv_icmp_ge (tgt := 89) hx hb dX9_thing_63 (by decide) (fun c_63 => ?_) (fun c_63 => ?_)
    ·
      have hok := (hok).1 c_63
      refine lv_aload_n hx hb dX9_thing_89 rfl (lv_at hl 0 rfl) ?_
      obtain ⟨h_90, hok⟩ := hok
      refine hp_get (ci := 7) (C := RX9) (T := TX9) (N := 12) hx hb hts iw_X9_thing_X9 hown hK hP h_90.1 (PF_7 h_90.2) rfl 3 (by decide) (hts _ (List.mem_of_getElem? (i := 1) rfl)) (fun _ h9 => h9) rfl dX9_thing_90 ?_
      rw [hZ]
      exact hm_iret hx hb hr hlocks hS hP hK hnd hE (((if_neg c_31).trans (if_pos c_63))) dX9_thing_93
    ·
      have hok := (hok).2 c_63
      refine lv_aload_n hx hb dX9_thing_66 rfl (lv_at hl 0 rfl) ?_
      obtain ⟨h_67, hok⟩ := hok
      refine hp_getR (ci := 7) (C := RX9) (T := TX9) (N := 12) hx hb hts iw_X9_thing_X9 hown hK hP h_67.1 (PF_7 h_67.2.1) rfl 2 (by decide) (hts _ (List.mem_of_getElem? (i := 4) rfl)) (fun _ h9 => h9) rfl h_67.2.2 dX9_thing_67 ?_
      refine lv_aload_n hx hb dX9_thing_70 rfl (lv_at hl 0 rfl) ?_
      obtain ⟨h_71, hok⟩ := hok
      refine hp_get (ci := 7) (C := RX9) (T := TX9) (N := 12) hx hb hts iw_X9_thing_X9 hown hK hP h_71.1 (PF_7 h_71.2) rfl 3 (by decide) (hts _ (List.mem_of_getElem? (i := 1) rfl)) (fun _ h9 => h9) rfl dX9_thing_71 ?_
      refine lv_aload_n hx hb dX9_thing_74 rfl (lv_at hl 0 rfl) ?_
      obtain ⟨h_75, hok⟩ := hok
      refine hp_get (ci := 7) (C := RX9) (T := TX9) (N := 12) hx hb hts iw_X9_thing_X9 hown hK hP h_75.1 (PF_7 h_75.2) rfl 7 (by decide) (hts _ (List.mem_of_getElem? (i := 6) rfl)) (fun _ h9 => h9) rfl dX9_thing_75 ?_
      obtain ⟨h_78, hok⟩ := hok
      refine hp_iast (g2 := PF G (hwA (hwA (hwA (hwI S x 3 ((hsI S x 3) + 1)) ((hsQ (hwI S x 3 ((hsI S x 3) + 1)) x 0).getD 0) (hsI (hwI S x 3 ((hsI S x 3) + 1)) x 3).toNatClampNeg p0) ((hsQ (hwA (hwI S x 3 ((hsI S x 3) + 1)) ((hsQ (hwI S x 3 ((hsI S x 3) + 1)) x 0).getD 0) (hsI (hwI S x 3 ((hsI S x 3) + 1)) x 3).toNatClampNeg p0) x 1).getD 0) (hsI (hwA (hwI S x 3 ((hsI S x 3) + 1)) ((hsQ (hwI S x 3 ((hsI S x 3) + 1)) x 0).getD 0) (hsI (hwI S x 3 ((hsI S x 3) + 1)) x 3).toNatClampNeg p0) x 3).toNatClampNeg p1) ((hsQ (hwA (hwA (hwI S x 3 ((hsI S x 3) + 1)) ((hsQ (hwI S x 3 ((hsI S x 3) + 1)) x 0).getD 0) (hsI (hwI S x 3 ((hsI S x 3) + 1)) x 3).toNatClampNeg p0) ((hsQ (hwA (hwI S x 3 ((hsI S x 3) + 1)) ((hsQ (hwI S x 3 ((hsI S x 3) + 1)) x 0).getD 0) (hsI (hwI S x 3 ((hsI S x 3) + 1)) x 3).toNatClampNeg p0) x 1).getD 0) (hsI (hwA (hwI S x 3 ((hsI S x 3) + 1)) ((hsQ (hwI S x 3 ((hsI S x 3) + 1)) x 0).getD 0) (hsI (hwI S x 3 ((hsI S x 3) + 1)) x 3).toNatClampNeg p0) x 3).toNatClampNeg p1) x 2).getD 0) (hsI (hwA (hwA (hwI S x 3 ((hsI S x 3) + 1)) ((hsQ (hwI S x 3 ((hsI S x 3) + 1)) x 0).getD 0) (hsI (hwI S x 3 ((hsI S x 3) + 1)) x 3).toNatClampNeg p0) ((hsQ (hwA (hwI S x 3 ((hsI S x 3) + 1)) ((hsQ (hwI S x 3 ((hsI S x 3) + 1)) x 0).getD 0) (hsI (hwI S x 3 ((hsI S x 3) + 1)) x 3).toNatClampNeg p0) x 1).getD 0) (hsI (hwA (hwI S x 3 ((hsI S x 3) + 1)) ((hsQ (hwI S x 3 ((hsI S x 3) + 1)) x 0).getD 0) (hsI (hwI S x 3 ((hsI S x 3) + 1)) x 3).toNatClampNeg p0) x 3).toNatClampNeg p1) x 3).toNatClampNeg (hsI (hwA (hwA (hwI S x 3 ((hsI S x 3) + 1)) ((hsQ (hwI S x 3 ((hsI S x 3) + 1)) x 0).getD 0) (hsI (hwI S x 3 ((hsI S x 3) + 1)) x 3).toNatClampNeg p0) ((hsQ (hwA (hwI S x 3 ((hsI S x 3) + 1)) ((hsQ (hwI S x 3 ((hsI S x 3) + 1)) x 0).getD 0) (hsI (hwI S x 3 ((hsI S x 3) + 1)) x 3).toNatClampNeg p0) x 1).getD 0) (hsI (hwA (hwI S x 3 ((hsI S x 3) + 1)) ((hsQ (hwI S x 3 ((hsI S x 3) + 1)) x 0).getD 0) (hsI (hwI S x 3 ((hsI S x 3) + 1)) x 3).toNatClampNeg p0) x 3).toNatClampNeg p1) x 7))) hx hb hK hP (hD _) hS h_78.1 0 (PF_8 h_78.2.1) rfl h_78.2.2 (PF_sA h_78.2.1) (fun _ hb9 => PF_wA hb9) dX9_thing_78 (fun H locs hP hS => ?_)
      refine lv_aload_n hx hb dX9_thing_79 rfl (lv_at hl 0 rfl) ?_
      refine lv_dup hx hb dX9_thing_80 rfl ?_
      obtain ⟨h_81, hok⟩ := hok
      refine hp_get (ci := 7) (C := RX9) (T := TX9) (N := 12) hx hb hts iw_X9_thing_X9 hown hK hP h_81.1 (PF_7 h_81.2) rfl 7 (by decide) (hts _ (List.mem_of_getElem? (i := 6) rfl)) (fun _ h9 => h9) rfl dX9_thing_81 ?_
      refine lv_iload_n hx hb dX9_thing_84 rfl (lv_at hl 2 rfl) ?_
      refine lv_iadd hx hb dX9_thing_85 ?_
      obtain ⟨h_86, hok⟩ := hok
      refine hp_put (ci := 7) (C := RX9) (T := TX9) (N := 12) (ty := .int) (v := .int ((hsI (hwA (hwA (hwA (hwI S x 3 ((hsI S x 3) + 1)) ((hsQ (hwI S x 3 ((hsI S x 3) + 1)) x 0).getD 0) (hsI (hwI S x 3 ((hsI S x 3) + 1)) x 3).toNatClampNeg p0) ((hsQ (hwA (hwI S x 3 ((hsI S x 3) + 1)) ((hsQ (hwI S x 3 ((hsI S x 3) + 1)) x 0).getD 0) (hsI (hwI S x 3 ((hsI S x 3) + 1)) x 3).toNatClampNeg p0) x 1).getD 0) (hsI (hwA (hwI S x 3 ((hsI S x 3) + 1)) ((hsQ (hwI S x 3 ((hsI S x 3) + 1)) x 0).getD 0) (hsI (hwI S x 3 ((hsI S x 3) + 1)) x 3).toNatClampNeg p0) x 3).toNatClampNeg p1) ((hsQ (hwA (hwA (hwI S x 3 ((hsI S x 3) + 1)) ((hsQ (hwI S x 3 ((hsI S x 3) + 1)) x 0).getD 0) (hsI (hwI S x 3 ((hsI S x 3) + 1)) x 3).toNatClampNeg p0) ((hsQ (hwA (hwI S x 3 ((hsI S x 3) + 1)) ((hsQ (hwI S x 3 ((hsI S x 3) + 1)) x 0).getD 0) (hsI (hwI S x 3 ((hsI S x 3) + 1)) x 3).toNatClampNeg p0) x 1).getD 0) (hsI (hwA (hwI S x 3 ((hsI S x 3) + 1)) ((hsQ (hwI S x 3 ((hsI S x 3) + 1)) x 0).getD 0) (hsI (hwI S x 3 ((hsI S x 3) + 1)) x 3).toNatClampNeg p0) x 3).toNatClampNeg p1) x 2).getD 0) (hsI (hwA (hwA (hwI S x 3 ((hsI S x 3) + 1)) ((hsQ (hwI S x 3 ((hsI S x 3) + 1)) x 0).getD 0) (hsI (hwI S x 3 ((hsI S x 3) + 1)) x 3).toNatClampNeg p0) ((hsQ (hwA (hwI S x 3 ((hsI S x 3) + 1)) ((hsQ (hwI S x 3 ((hsI S x 3) + 1)) x 0).getD 0) (hsI (hwI S x 3 ((hsI S x 3) + 1)) x 3).toNatClampNeg p0) x 1).getD 0) (hsI (hwA (hwI S x 3 ((hsI S x 3) + 1)) ((hsQ (hwI S x 3 ((hsI S x 3) + 1)) x 0).getD 0) (hsI (hwI S x 3 ((hsI S x 3) + 1)) x 3).toNatClampNeg p0) x 3).toNatClampNeg p1) x 3).toNatClampNeg (hsI (hwA (hwA (hwI S x 3 ((hsI S x 3) + 1)) ((hsQ (hwI S x 3 ((hsI S x 3) + 1)) x 0).getD 0) (hsI (hwI S x 3 ((hsI S x 3) + 1)) x 3).toNatClampNeg p0) ((hsQ (hwA (hwI S x 3 ((hsI S x 3) + 1)) ((hsQ (hwI S x 3 ((hsI S x 3) + 1)) x 0).getD 0) (hsI (hwI S x 3 ((hsI S x 3) + 1)) x 3).toNatClampNeg p0) x 1).getD 0) (hsI (hwA (hwI S x 3 ((hsI S x 3) + 1)) ((hsQ (hwI S x 3 ((hsI S x 3) + 1)) x 0).getD 0) (hsI (hwI S x 3 ((hsI S x 3) + 1)) x 3).toNatClampNeg p0) x 3).toNatClampNeg p1) x 7)) x 7) + p1)) (g := PF G (hwI (hwA (hwA (hwA (hwI S x 3 ((hsI S x 3) + 1)) ((hsQ (hwI S x 3 ((hsI S x 3) + 1)) x 0).getD 0) (hsI (hwI S x 3 ((hsI S x 3) + 1)) x 3).toNatClampNeg p0) ((hsQ (hwA (hwI S x 3 ((hsI S x 3) + 1)) ((hsQ (hwI S x 3 ((hsI S x 3) + 1)) x 0).getD 0) (hsI (hwI S x 3 ((hsI S x 3) + 1)) x 3).toNatClampNeg p0) x 1).getD 0) (hsI (hwA (hwI S x 3 ((hsI S x 3) + 1)) ((hsQ (hwI S x 3 ((hsI S x 3) + 1)) x 0).getD 0) (hsI (hwI S x 3 ((hsI S x 3) + 1)) x 3).toNatClampNeg p0) x 3).toNatClampNeg p1) ((hsQ (hwA (hwA (hwI S x 3 ((hsI S x 3) + 1)) ((hsQ (hwI S x 3 ((hsI S x 3) + 1)) x 0).getD 0) (hsI (hwI S x 3 ((hsI S x 3) + 1)) x 3).toNatClampNeg p0) ((hsQ (hwA (hwI S x 3 ((hsI S x 3) + 1)) ((hsQ (hwI S x 3 ((hsI S x 3) + 1)) x 0).getD 0) (hsI (hwI S x 3 ((hsI S x 3) + 1)) x 3).toNatClampNeg p0) x 1).getD 0) (hsI (hwA (hwI S x 3 ((hsI S x 3) + 1)) ((hsQ (hwI S x 3 ((hsI S x 3) + 1)) x 0).getD 0) (hsI (hwI S x 3 ((hsI S x 3) + 1)) x 3).toNatClampNeg p0) x 3).toNatClampNeg p1) x 2).getD 0) (hsI (hwA (hwA (hwI S x 3 ((hsI S x 3) + 1)) ((hsQ (hwI S x 3 ((hsI S x 3) + 1)) x 0).getD 0) (hsI (hwI S x 3 ((hsI S x 3) + 1)) x 3).toNatClampNeg p0) ((hsQ (hwA (hwI S x 3 ((hsI S x 3) + 1)) ((hsQ (hwI S x 3 ((hsI S x 3) + 1)) x 0).getD 0) (hsI (hwI S x 3 ((hsI S x 3) + 1)) x 3).toNatClampNeg p0) x 1).getD 0) (hsI (hwA (hwI S x 3 ((hsI S x 3) + 1)) ((hsQ (hwI S x 3 ((hsI S x 3) + 1)) x 0).getD 0) (hsI (hwI S x 3 ((hsI S x 3) + 1)) x 3).toNatClampNeg p0) x 3).toNatClampNeg p1) x 3).toNatClampNeg (hsI (hwA (hwA (hwI S x 3 ((hsI S x 3) + 1)) ((hsQ (hwI S x 3 ((hsI S x 3) + 1)) x 0).getD 0) (hsI (hwI S x 3 ((hsI S x 3) + 1)) x 3).toNatClampNeg p0) ((hsQ (hwA (hwI S x 3 ((hsI S x 3) + 1)) ((hsQ (hwI S x 3 ((hsI S x 3) + 1)) x 0).getD 0) (hsI (hwI S x 3 ((hsI S x 3) + 1)) x 3).toNatClampNeg p0) x 1).getD 0) (hsI (hwA (hwI S x 3 ((hsI S x 3) + 1)) ((hsQ (hwI S x 3 ((hsI S x 3) + 1)) x 0).getD 0) (hsI (hwI S x 3 ((hsI S x 3) + 1)) x 3).toNatClampNeg p0) x 3).toNatClampNeg p1) x 7)) x 7 ((hsI (hwA (hwA (hwA (hwI S x 3 ((hsI S x 3) + 1)) ((hsQ (hwI S x 3 ((hsI S x 3) + 1)) x 0).getD 0) (hsI (hwI S x 3 ((hsI S x 3) + 1)) x 3).toNatClampNeg p0) ((hsQ (hwA (hwI S x 3 ((hsI S x 3) + 1)) ((hsQ (hwI S x 3 ((hsI S x 3) + 1)) x 0).getD 0) (hsI (hwI S x 3 ((hsI S x 3) + 1)) x 3).toNatClampNeg p0) x 1).getD 0) (hsI (hwA (hwI S x 3 ((hsI S x 3) + 1)) ((hsQ (hwI S x 3 ((hsI S x 3) + 1)) x 0).getD 0) (hsI (hwI S x 3 ((hsI S x 3) + 1)) x 3).toNatClampNeg p0) x 3).toNatClampNeg p1) ((hsQ (hwA (hwA (hwI S x 3 ((hsI S x 3) + 1)) ((hsQ (hwI S x 3 ((hsI S x 3) + 1)) x 0).getD 0) (hsI (hwI S x 3 ((hsI S x 3) + 1)) x 3).toNatClampNeg p0) ((hsQ (hwA (hwI S x 3 ((hsI S x 3) + 1)) ((hsQ (hwI S x 3 ((hsI S x 3) + 1)) x 0).getD 0) (hsI (hwI S x 3 ((hsI S x 3) + 1)) x 3).toNatClampNeg p0) x 1).getD 0) (hsI (hwA (hwI S x 3 ((hsI S x 3) + 1)) ((hsQ (hwI S x 3 ((hsI S x 3) + 1)) x 0).getD 0) (hsI (hwI S x 3 ((hsI S x 3) + 1)) x 3).toNatClampNeg p0) x 3).toNatClampNeg p1) x 2).getD 0) (hsI (hwA (hwA (hwI S x 3 ((hsI S x 3) + 1)) ((hsQ (hwI S x 3 ((hsI S x 3) + 1)) x 0).getD 0) (hsI (hwI S x 3 ((hsI S x 3) + 1)) x 3).toNatClampNeg p0) ((hsQ (hwA (hwI S x 3 ((hsI S x 3) + 1)) ((hsQ (hwI S x 3 ((hsI S x 3) + 1)) x 0).getD 0) (hsI (hwI S x 3 ((hsI S x 3) + 1)) x 3).toNatClampNeg p0) x 1).getD 0) (hsI (hwA (hwI S x 3 ((hsI S x 3) + 1)) ((hsQ (hwI S x 3 ((hsI S x 3) + 1)) x 0).getD 0) (hsI (hwI S x 3 ((hsI S x 3) + 1)) x 3).toNatClampNeg p0) x 3).toNatClampNeg p1) x 3).toNatClampNeg (hsI (hwA (hwA (hwI S x 3 ((hsI S x 3) + 1)) ((hsQ (hwI S x 3 ((hsI S x 3) + 1)) x 0).getD 0) (hsI (hwI S x 3 ((hsI S x 3) + 1)) x 3).toNatClampNeg p0) ((hsQ (hwA (hwI S x 3 ((hsI S x 3) + 1)) ((hsQ (hwI S x 3 ((hsI S x 3) + 1)) x 0).getD 0) (hsI (hwI S x 3 ((hsI S x 3) + 1)) x 3).toNatClampNeg p0) x 1).getD 0) (hsI (hwA (hwI S x 3 ((hsI S x 3) + 1)) ((hsQ (hwI S x 3 ((hsI S x 3) + 1)) x 0).getD 0) (hsI (hwI S x 3 ((hsI S x 3) + 1)) x 3).toNatClampNeg p0) x 3).toNatClampNeg p1) x 7)) x 7) + p1))) hx hb hts iw_X9_thing_X9 tyX9 tyX9_ok nmX9 hown hK hP (hD _) hS h_86.1 (PF_7 h_86.2) rfl 7 (by decide) (hts _ (List.mem_of_getElem? (i := 6) rfl)) (fun _ h9 => h9) rfl (by decide +kernel) rfl rfl (Nat.le_of_ble_eq_true rfl) (PF_s7_7 h_86.2) (fun _ hb9 => PF_wI hb9) dX9_thing_86 (fun H locs hP hS => ?_)
      refine lv_aload_n hx hb dX9_thing_89 rfl (lv_at hl 0 rfl) ?_
      obtain ⟨h_90, hok⟩ := hok
      refine hp_get (ci := 7) (C := RX9) (T := TX9) (N := 12) hx hb hts iw_X9_thing_X9 hown hK hP h_90.1 (PF_7 h_90.2) rfl 3 (by decide) (hts _ (List.mem_of_getElem? (i := 1) rfl)) (fun _ h9 => h9) rfl dX9_thing_90 ?_
      rw [hZ]
      exact hm_iret hx hb hr hlocks hS hP hK hnd hE (((if_neg c_31).trans (if_neg c_63))) dX9_thing_93
  ·
    have hok := (hok).1 c_31
    refine lv_aload_n hx hb dX9_thing_34 rfl (lv_at hl 0 rfl) ?_
    obtain ⟨h_35, hok⟩ := hok
    refine hp_getR (ci := 7) (C := RX9) (T := TX9) (N := 12) hx hb hts iw_X9_thing_X9 hown hK hP h_35.1 (PF_7 h_35.2.1) rfl 2 (by decide) (hts _ (List.mem_of_getElem? (i := 4) rfl)) (fun _ h9 => h9) rfl h_35.2.2 dX9_thing_35 ?_
    refine lv_aload_n hx hb dX9_thing_38 rfl (lv_at hl 0 rfl) ?_
    obtain ⟨h_39, hok⟩ := hok
    refine hp_get (ci := 7) (C := RX9) (T := TX9) (N := 12) hx hb hts iw_X9_thing_X9 hown hK hP h_39.1 (PF_7 h_39.2) rfl 3 (by decide) (hts _ (List.mem_of_getElem? (i := 1) rfl)) (fun _ h9 => h9) rfl dX9_thing_39 ?_
    refine lv_aload_n hx hb dX9_thing_42 rfl (lv_at hl 0 rfl) ?_
    obtain ⟨h_43, hok⟩ := hok
    refine hp_get (ci := 7) (C := RX9) (T := TX9) (N := 12) hx hb hts iw_X9_thing_X9 hown hK hP h_43.1 (PF_7 h_43.2) rfl 5 (by decide) (hts _ (List.mem_of_getElem? (i := 5) rfl)) (fun _ h9 => h9) rfl dX9_thing_43 ?_
    obtain ⟨h_46, hok⟩ := hok
    refine hp_iast (g2 := PF G (hwA (hwA (hwA (hwI S x 3 ((hsI S x 3) + 1)) ((hsQ (hwI S x 3 ((hsI S x 3) + 1)) x 0).getD 0) (hsI (hwI S x 3 ((hsI S x 3) + 1)) x 3).toNatClampNeg p0) ((hsQ (hwA (hwI S x 3 ((hsI S x 3) + 1)) ((hsQ (hwI S x 3 ((hsI S x 3) + 1)) x 0).getD 0) (hsI (hwI S x 3 ((hsI S x 3) + 1)) x 3).toNatClampNeg p0) x 1).getD 0) (hsI (hwA (hwI S x 3 ((hsI S x 3) + 1)) ((hsQ (hwI S x 3 ((hsI S x 3) + 1)) x 0).getD 0) (hsI (hwI S x 3 ((hsI S x 3) + 1)) x 3).toNatClampNeg p0) x 3).toNatClampNeg p1) ((hsQ (hwA (hwA (hwI S x 3 ((hsI S x 3) + 1)) ((hsQ (hwI S x 3 ((hsI S x 3) + 1)) x 0).getD 0) (hsI (hwI S x 3 ((hsI S x 3) + 1)) x 3).toNatClampNeg p0) ((hsQ (hwA (hwI S x 3 ((hsI S x 3) + 1)) ((hsQ (hwI S x 3 ((hsI S x 3) + 1)) x 0).getD 0) (hsI (hwI S x 3 ((hsI S x 3) + 1)) x 3).toNatClampNeg p0) x 1).getD 0) (hsI (hwA (hwI S x 3 ((hsI S x 3) + 1)) ((hsQ (hwI S x 3 ((hsI S x 3) + 1)) x 0).getD 0) (hsI (hwI S x 3 ((hsI S x 3) + 1)) x 3).toNatClampNeg p0) x 3).toNatClampNeg p1) x 2).getD 0) (hsI (hwA (hwA (hwI S x 3 ((hsI S x 3) + 1)) ((hsQ (hwI S x 3 ((hsI S x 3) + 1)) x 0).getD 0) (hsI (hwI S x 3 ((hsI S x 3) + 1)) x 3).toNatClampNeg p0) ((hsQ (hwA (hwI S x 3 ((hsI S x 3) + 1)) ((hsQ (hwI S x 3 ((hsI S x 3) + 1)) x 0).getD 0) (hsI (hwI S x 3 ((hsI S x 3) + 1)) x 3).toNatClampNeg p0) x 1).getD 0) (hsI (hwA (hwI S x 3 ((hsI S x 3) + 1)) ((hsQ (hwI S x 3 ((hsI S x 3) + 1)) x 0).getD 0) (hsI (hwI S x 3 ((hsI S x 3) + 1)) x 3).toNatClampNeg p0) x 3).toNatClampNeg p1) x 3).toNatClampNeg (hsI (hwA (hwA (hwI S x 3 ((hsI S x 3) + 1)) ((hsQ (hwI S x 3 ((hsI S x 3) + 1)) x 0).getD 0) (hsI (hwI S x 3 ((hsI S x 3) + 1)) x 3).toNatClampNeg p0) ((hsQ (hwA (hwI S x 3 ((hsI S x 3) + 1)) ((hsQ (hwI S x 3 ((hsI S x 3) + 1)) x 0).getD 0) (hsI (hwI S x 3 ((hsI S x 3) + 1)) x 3).toNatClampNeg p0) x 1).getD 0) (hsI (hwA (hwI S x 3 ((hsI S x 3) + 1)) ((hsQ (hwI S x 3 ((hsI S x 3) + 1)) x 0).getD 0) (hsI (hwI S x 3 ((hsI S x 3) + 1)) x 3).toNatClampNeg p0) x 3).toNatClampNeg p1) x 5))) hx hb hK hP (hD _) hS h_46.1 0 (PF_8 h_46.2.1) rfl h_46.2.2 (PF_sA h_46.2.1) (fun _ hb9 => PF_wA hb9) dX9_thing_46 (fun H locs hP hS => ?_)
    refine lv_aload_n hx hb dX9_thing_47 rfl (lv_at hl 0 rfl) ?_
    refine lv_dup hx hb dX9_thing_48 rfl ?_
    obtain ⟨h_49, hok⟩ := hok
    refine hp_get (ci := 7) (C := RX9) (T := TX9) (N := 12) hx hb hts iw_X9_thing_X9 hown hK hP h_49.1 (PF_7 h_49.2) rfl 5 (by decide) (hts _ (List.mem_of_getElem? (i := 5) rfl)) (fun _ h9 => h9) rfl dX9_thing_49 ?_
    refine lv_iload_n hx hb dX9_thing_52 rfl (lv_at hl 2 rfl) ?_
    refine lv_iadd hx hb dX9_thing_53 ?_
    obtain ⟨h_54, hok⟩ := hok
    refine hp_put (ci := 7) (C := RX9) (T := TX9) (N := 12) (ty := .int) (v := .int ((hsI (hwA (hwA (hwA (hwI S x 3 ((hsI S x 3) + 1)) ((hsQ (hwI S x 3 ((hsI S x 3) + 1)) x 0).getD 0) (hsI (hwI S x 3 ((hsI S x 3) + 1)) x 3).toNatClampNeg p0) ((hsQ (hwA (hwI S x 3 ((hsI S x 3) + 1)) ((hsQ (hwI S x 3 ((hsI S x 3) + 1)) x 0).getD 0) (hsI (hwI S x 3 ((hsI S x 3) + 1)) x 3).toNatClampNeg p0) x 1).getD 0) (hsI (hwA (hwI S x 3 ((hsI S x 3) + 1)) ((hsQ (hwI S x 3 ((hsI S x 3) + 1)) x 0).getD 0) (hsI (hwI S x 3 ((hsI S x 3) + 1)) x 3).toNatClampNeg p0) x 3).toNatClampNeg p1) ((hsQ (hwA (hwA (hwI S x 3 ((hsI S x 3) + 1)) ((hsQ (hwI S x 3 ((hsI S x 3) + 1)) x 0).getD 0) (hsI (hwI S x 3 ((hsI S x 3) + 1)) x 3).toNatClampNeg p0) ((hsQ (hwA (hwI S x 3 ((hsI S x 3) + 1)) ((hsQ (hwI S x 3 ((hsI S x 3) + 1)) x 0).getD 0) (hsI (hwI S x 3 ((hsI S x 3) + 1)) x 3).toNatClampNeg p0) x 1).getD 0) (hsI (hwA (hwI S x 3 ((hsI S x 3) + 1)) ((hsQ (hwI S x 3 ((hsI S x 3) + 1)) x 0).getD 0) (hsI (hwI S x 3 ((hsI S x 3) + 1)) x 3).toNatClampNeg p0) x 3).toNatClampNeg p1) x 2).getD 0) (hsI (hwA (hwA (hwI S x 3 ((hsI S x 3) + 1)) ((hsQ (hwI S x 3 ((hsI S x 3) + 1)) x 0).getD 0) (hsI (hwI S x 3 ((hsI S x 3) + 1)) x 3).toNatClampNeg p0) ((hsQ (hwA (hwI S x 3 ((hsI S x 3) + 1)) ((hsQ (hwI S x 3 ((hsI S x 3) + 1)) x 0).getD 0) (hsI (hwI S x 3 ((hsI S x 3) + 1)) x 3).toNatClampNeg p0) x 1).getD 0) (hsI (hwA (hwI S x 3 ((hsI S x 3) + 1)) ((hsQ (hwI S x 3 ((hsI S x 3) + 1)) x 0).getD 0) (hsI (hwI S x 3 ((hsI S x 3) + 1)) x 3).toNatClampNeg p0) x 3).toNatClampNeg p1) x 3).toNatClampNeg (hsI (hwA (hwA (hwI S x 3 ((hsI S x 3) + 1)) ((hsQ (hwI S x 3 ((hsI S x 3) + 1)) x 0).getD 0) (hsI (hwI S x 3 ((hsI S x 3) + 1)) x 3).toNatClampNeg p0) ((hsQ (hwA (hwI S x 3 ((hsI S x 3) + 1)) ((hsQ (hwI S x 3 ((hsI S x 3) + 1)) x 0).getD 0) (hsI (hwI S x 3 ((hsI S x 3) + 1)) x 3).toNatClampNeg p0) x 1).getD 0) (hsI (hwA (hwI S x 3 ((hsI S x 3) + 1)) ((hsQ (hwI S x 3 ((hsI S x 3) + 1)) x 0).getD 0) (hsI (hwI S x 3 ((hsI S x 3) + 1)) x 3).toNatClampNeg p0) x 3).toNatClampNeg p1) x 5)) x 5) + p1)) (g := PF G (hwI (hwA (hwA (hwA (hwI S x 3 ((hsI S x 3) + 1)) ((hsQ (hwI S x 3 ((hsI S x 3) + 1)) x 0).getD 0) (hsI (hwI S x 3 ((hsI S x 3) + 1)) x 3).toNatClampNeg p0) ((hsQ (hwA (hwI S x 3 ((hsI S x 3) + 1)) ((hsQ (hwI S x 3 ((hsI S x 3) + 1)) x 0).getD 0) (hsI (hwI S x 3 ((hsI S x 3) + 1)) x 3).toNatClampNeg p0) x 1).getD 0) (hsI (hwA (hwI S x 3 ((hsI S x 3) + 1)) ((hsQ (hwI S x 3 ((hsI S x 3) + 1)) x 0).getD 0) (hsI (hwI S x 3 ((hsI S x 3) + 1)) x 3).toNatClampNeg p0) x 3).toNatClampNeg p1) ((hsQ (hwA (hwA (hwI S x 3 ((hsI S x 3) + 1)) ((hsQ (hwI S x 3 ((hsI S x 3) + 1)) x 0).getD 0) (hsI (hwI S x 3 ((hsI S x 3) + 1)) x 3).toNatClampNeg p0) ((hsQ (hwA (hwI S x 3 ((hsI S x 3) + 1)) ((hsQ (hwI S x 3 ((hsI S x 3) + 1)) x 0).getD 0) (hsI (hwI S x 3 ((hsI S x 3) + 1)) x 3).toNatClampNeg p0) x 1).getD 0) (hsI (hwA (hwI S x 3 ((hsI S x 3) + 1)) ((hsQ (hwI S x 3 ((hsI S x 3) + 1)) x 0).getD 0) (hsI (hwI S x 3 ((hsI S x 3) + 1)) x 3).toNatClampNeg p0) x 3).toNatClampNeg p1) x 2).getD 0) (hsI (hwA (hwA (hwI S x 3 ((hsI S x 3) + 1)) ((hsQ (hwI S x 3 ((hsI S x 3) + 1)) x 0).getD 0) (hsI (hwI S x 3 ((hsI S x 3) + 1)) x 3).toNatClampNeg p0) ((hsQ (hwA (hwI S x 3 ((hsI S x 3) + 1)) ((hsQ (hwI S x 3 ((hsI S x 3) + 1)) x 0).getD 0) (hsI (hwI S x 3 ((hsI S x 3) + 1)) x 3).toNatClampNeg p0) x 1).getD 0) (hsI (hwA (hwI S x 3 ((hsI S x 3) + 1)) ((hsQ (hwI S x 3 ((hsI S x 3) + 1)) x 0).getD 0) (hsI (hwI S x 3 ((hsI S x 3) + 1)) x 3).toNatClampNeg p0) x 3).toNatClampNeg p1) x 3).toNatClampNeg (hsI (hwA (hwA (hwI S x 3 ((hsI S x 3) + 1)) ((hsQ (hwI S x 3 ((hsI S x 3) + 1)) x 0).getD 0) (hsI (hwI S x 3 ((hsI S x 3) + 1)) x 3).toNatClampNeg p0) ((hsQ (hwA (hwI S x 3 ((hsI S x 3) + 1)) ((hsQ (hwI S x 3 ((hsI S x 3) + 1)) x 0).getD 0) (hsI (hwI S x 3 ((hsI S x 3) + 1)) x 3).toNatClampNeg p0) x 1).getD 0) (hsI (hwA (hwI S x 3 ((hsI S x 3) + 1)) ((hsQ (hwI S x 3 ((hsI S x 3) + 1)) x 0).getD 0) (hsI (hwI S x 3 ((hsI S x 3) + 1)) x 3).toNatClampNeg p0) x 3).toNatClampNeg p1) x 5)) x 5 ((hsI (hwA (hwA (hwA (hwI S x 3 ((hsI S x 3) + 1)) ((hsQ (hwI S x 3 ((hsI S x 3) + 1)) x 0).getD 0) (hsI (hwI S x 3 ((hsI S x 3) + 1)) x 3).toNatClampNeg p0) ((hsQ (hwA (hwI S x 3 ((hsI S x 3) + 1)) ((hsQ (hwI S x 3 ((hsI S x 3) + 1)) x 0).getD 0) (hsI (hwI S x 3 ((hsI S x 3) + 1)) x 3).toNatClampNeg p0) x 1).getD 0) (hsI (hwA (hwI S x 3 ((hsI S x 3) + 1)) ((hsQ (hwI S x 3 ((hsI S x 3) + 1)) x 0).getD 0) (hsI (hwI S x 3 ((hsI S x 3) + 1)) x 3).toNatClampNeg p0) x 3).toNatClampNeg p1) ((hsQ (hwA (hwA (hwI S x 3 ((hsI S x 3) + 1)) ((hsQ (hwI S x 3 ((hsI S x 3) + 1)) x 0).getD 0) (hsI (hwI S x 3 ((hsI S x 3) + 1)) x 3).toNatClampNeg p0) ((hsQ (hwA (hwI S x 3 ((hsI S x 3) + 1)) ((hsQ (hwI S x 3 ((hsI S x 3) + 1)) x 0).getD 0) (hsI (hwI S x 3 ((hsI S x 3) + 1)) x 3).toNatClampNeg p0) x 1).getD 0) (hsI (hwA (hwI S x 3 ((hsI S x 3) + 1)) ((hsQ (hwI S x 3 ((hsI S x 3) + 1)) x 0).getD 0) (hsI (hwI S x 3 ((hsI S x 3) + 1)) x 3).toNatClampNeg p0) x 3).toNatClampNeg p1) x 2).getD 0) (hsI (hwA (hwA (hwI S x 3 ((hsI S x 3) + 1)) ((hsQ (hwI S x 3 ((hsI S x 3) + 1)) x 0).getD 0) (hsI (hwI S x 3 ((hsI S x 3) + 1)) x 3).toNatClampNeg p0) ((hsQ (hwA (hwI S x 3 ((hsI S x 3) + 1)) ((hsQ (hwI S x 3 ((hsI S x 3) + 1)) x 0).getD 0) (hsI (hwI S x 3 ((hsI S x 3) + 1)) x 3).toNatClampNeg p0) x 1).getD 0) (hsI (hwA (hwI S x 3 ((hsI S x 3) + 1)) ((hsQ (hwI S x 3 ((hsI S x 3) + 1)) x 0).getD 0) (hsI (hwI S x 3 ((hsI S x 3) + 1)) x 3).toNatClampNeg p0) x 3).toNatClampNeg p1) x 3).toNatClampNeg (hsI (hwA (hwA (hwI S x 3 ((hsI S x 3) + 1)) ((hsQ (hwI S x 3 ((hsI S x 3) + 1)) x 0).getD 0) (hsI (hwI S x 3 ((hsI S x 3) + 1)) x 3).toNatClampNeg p0) ((hsQ (hwA (hwI S x 3 ((hsI S x 3) + 1)) ((hsQ (hwI S x 3 ((hsI S x 3) + 1)) x 0).getD 0) (hsI (hwI S x 3 ((hsI S x 3) + 1)) x 3).toNatClampNeg p0) x 1).getD 0) (hsI (hwA (hwI S x 3 ((hsI S x 3) + 1)) ((hsQ (hwI S x 3 ((hsI S x 3) + 1)) x 0).getD 0) (hsI (hwI S x 3 ((hsI S x 3) + 1)) x 3).toNatClampNeg p0) x 3).toNatClampNeg p1) x 5)) x 5) + p1))) hx hb hts iw_X9_thing_X9 tyX9 tyX9_ok nmX9 hown hK hP (hD _) hS h_54.1 (PF_7 h_54.2) rfl 5 (by decide) (hts _ (List.mem_of_getElem? (i := 5) rfl)) (fun _ h9 => h9) rfl (by decide +kernel) rfl rfl (Nat.le_of_ble_eq_true rfl) (PF_s7_5 h_54.2) (fun _ hb9 => PF_wI hb9) dX9_thing_54 (fun H locs hP hS => ?_)
    refine lv_goto (tgt := 89) hx hb dX9_thing_57 (by decide) ?_
    refine lv_aload_n hx hb dX9_thing_89 rfl (lv_at hl 0 rfl) ?_
    obtain ⟨h_90, hok⟩ := hok
    refine hp_get (ci := 7) (C := RX9) (T := TX9) (N := 12) hx hb hts iw_X9_thing_X9 hown hK hP h_90.1 (PF_7 h_90.2) rfl 3 (by decide) (hts _ (List.mem_of_getElem? (i := 1) rfl)) (fun _ h9 => h9) rfl dX9_thing_90 ?_
    rw [hZ]
    exact hm_iret hx hb hr hlocks hS hP hK hnd hE ((if_pos c_31)) dX9_thing_93
theorem hdv_X9_set : yX9_set.cls = RX9 ∧ yX9_set.cls ≠ "java/lang/invoke/MethodHandle" ∧ yX9_set.cls ≠ "java/lang/invoke/VarHandle" ∧ (parseMethodDescriptor yX9_set.desc).map (fun d => d.parameters.length) = some 3 := by decide +kernel
theorem iw_X9_set_X9 : ∀ w ∈ u_ws RX9 TX9 12, w ∈ wsX9_set := by decide +kernel
def h_X9_set (x : Nat) (p0 : Int32) (p1 : Int32) (p2 : Int64) (S : HS) : HS :=
  if (hsA S ((hsQ S x 0).getD 0) p0.toNatClampNeg) = 0 then (hwA S ((hsQ S x 4).getD 0) ((hsA S ((hsQ S x 2).getD 0) p0.toNatClampNeg) + p1).toNatClampNeg p2.toInt32)
  else (hwJ S ((hsQ S x 6).getD 0) ((hsA S ((hsQ S x 2).getD 0) p0.toNatClampNeg) + p1).toNatClampNeg p2)
def ok_X9_set (L : List Nat) (x : Nat) (p0 : Int32) (p1 : Int32) (p2 : Int64) (S : HS) : Prop :=
  (x ∈ L ∧ hsK S x = 7 ∧ hsQ S x 0 ≠ none) ∧ ((((hsQ S x 0).getD 0) ∈ L ∧ hsK S ((hsQ S x 0).getD 0) = 8 ∧ vp_in p0 (hsN S ((hsQ S x 0).getD 0))) ∧ ((((hsA S ((hsQ S x 0).getD 0) p0.toNatClampNeg) = 0) → ((x ∈ L ∧ hsK S x = 7 ∧ hsQ S x 4 ≠ none) ∧ ((x ∈ L ∧ hsK S x = 7 ∧ hsQ S x 2 ≠ none) ∧ ((((hsQ S x 2).getD 0) ∈ L ∧ hsK S ((hsQ S x 2).getD 0) = 8 ∧ vp_in p0 (hsN S ((hsQ S x 2).getD 0))) ∧ ((((hsQ S x 4).getD 0) ∈ L ∧ hsK S ((hsQ S x 4).getD 0) = 8 ∧ vp_in ((hsA S ((hsQ S x 2).getD 0) p0.toNatClampNeg) + p1) (hsN S ((hsQ S x 4).getD 0))) ∧ (True)))))) ∧
  (¬ ((hsA S ((hsQ S x 0).getD 0) p0.toNatClampNeg) = 0) → ((x ∈ L ∧ hsK S x = 7 ∧ hsQ S x 6 ≠ none) ∧ ((x ∈ L ∧ hsK S x = 7 ∧ hsQ S x 2 ≠ none) ∧ ((((hsQ S x 2).getD 0) ∈ L ∧ hsK S ((hsQ S x 2).getD 0) = 8 ∧ vp_in p0 (hsN S ((hsQ S x 2).getD 0))) ∧ ((((hsQ S x 6).getD 0) ∈ L ∧ hsK S ((hsQ S x 6).getD 0) = 9 ∧ vp_in ((hsA S ((hsQ S x 2).getD 0) p0.toNatClampNeg) + p1) (hsN S ((hsQ S x 6).getD 0))) ∧ (True))))))))
set_option maxHeartbeats 4000000 in
set_option maxRecDepth 100000 in
theorem hm_X9_set (l : Launch) (G : GE) (L : List Nat) (S : HS) (x : Nat) (p0 : Int32) (p1 : Int32) (p2 : Int64) (hok : ok_X9_set L x p0 p1 p2 S) : HmV l G yX9_set wsX9_set 0 0 [.ref x, .int p0, .int p1, .long p2] L S (h_X9_set x p0 p1 p2 S) := by
  refine Met.ofW (cc := cX9_set) (maxL := 5) (ret := none) (by decide) rfl ?_
  intro p e s m args below meth c s₁ B hml hv
  obtain ⟨rfl, hP, hK, hnd, hE⟩ := hv
  have hx := B.exec
  have hb := B.bytes
  have hr := B.returns
  have hts := atoms_spec (ws := wsX9_set) B.pre
  have hown : s.vm.findClass RX9 = some m.cls := findClass_of_methodNamed B.named
  have hlocks := B.notSynchronized
  have hD := nd_D hnd
  have hS : va_S (AL L) s.heap s.heap [] := va_S.rf
  have hl := lv_entry ([.ref x, .int p0, .int p1, .long p2]) (n := 5) (Nat.le_of_ble_eq_true rfl)
  rw [lg_entry_eq]
  generalize (lg_sl ([.ref x, .int p0, .int p1, .long p2]) ++ List.replicate (5 - (lg_sl ([.ref x, .int p0, .int p1, .long p2])).length) Slot.unset).toArray = ls at hl ⊢
  have hl : lv_has ls 5 [(0, .ref x), (1, .int p0), (2, .int p1), (3, .long p2)] := hl
  obtain ⟨Z, hZ⟩ : ∃ z, z = MQ below (hm_QV G L (h_X9_set x p0 p1 p2 S)) ([.ref x, .int p0, .int p1, .long p2] : List Value).toArray s 0 0 (AL L) := ⟨_, rfl⟩
  rw [← hZ]
  refine lv_aload_n hx hb dX9_set_0 rfl (lv_at hl 0 rfl) ?_
  obtain ⟨h_1, hok⟩ := hok
  refine hp_getR (ci := 7) (C := RX9) (T := TX9) (N := 12) hx hb hts iw_X9_set_X9 hown hK hP h_1.1 (PF_7 h_1.2.1) rfl 0 (by decide) (hts _ (List.mem_of_getElem? (i := 1) rfl)) (fun _ h9 => h9) rfl h_1.2.2 dX9_set_1 ?_
  refine lv_iload_n hx hb dX9_set_4 rfl (lv_at hl 1 rfl) ?_
  obtain ⟨h_5, hok⟩ := hok
  refine hp_iald hx hb hK hP h_5.1 0 (PF_8 h_5.2.1) rfl h_5.2.2 dX9_set_5 ?_
  refine lv_if_ne (tgt := 27) hx hb dX9_set_6 (by decide) (fun c_6 => ?_) (fun c_6 => ?_)
  ·
    have hok := (hok).2 c_6
    refine lv_aload_n hx hb dX9_set_27 rfl (lv_at hl 0 rfl) ?_
    obtain ⟨h_28, hok⟩ := hok
    refine hp_getR (ci := 7) (C := RX9) (T := TX9) (N := 12) hx hb hts iw_X9_set_X9 hown hK hP h_28.1 (PF_7 h_28.2.1) rfl 6 (by decide) (hts _ (List.mem_of_getElem? (i := 4) rfl)) (fun _ h9 => h9) rfl h_28.2.2 dX9_set_28 ?_
    refine lv_aload_n hx hb dX9_set_31 rfl (lv_at hl 0 rfl) ?_
    obtain ⟨h_32, hok⟩ := hok
    refine hp_getR (ci := 7) (C := RX9) (T := TX9) (N := 12) hx hb hts iw_X9_set_X9 hown hK hP h_32.1 (PF_7 h_32.2.1) rfl 2 (by decide) (hts _ (List.mem_of_getElem? (i := 3) rfl)) (fun _ h9 => h9) rfl h_32.2.2 dX9_set_32 ?_
    refine lv_iload_n hx hb dX9_set_35 rfl (lv_at hl 1 rfl) ?_
    obtain ⟨h_36, hok⟩ := hok
    refine hp_iald hx hb hK hP h_36.1 0 (PF_8 h_36.2.1) rfl h_36.2.2 dX9_set_36 ?_
    refine lv_iload_n hx hb dX9_set_37 rfl (lv_at hl 2 rfl) ?_
    refine lv_iadd hx hb dX9_set_38 ?_
    refine lv_lload_n hx hb dX9_set_39 rfl (lv_at hl 3 rfl) ?_
    obtain ⟨h_40, hok⟩ := hok
    refine hp_last (g2 := PF G (hwJ S ((hsQ S x 6).getD 0) ((hsA S ((hsQ S x 2).getD 0) p0.toNatClampNeg) + p1).toNatClampNeg p2)) hx hb hK hP (hD _) hS h_40.1 1 (PF_9 h_40.2.1) rfl h_40.2.2 (PF_sJ h_40.2.1) (fun _ hb9 => PF_wJ hb9) dX9_set_40 (fun H locs hP hS => ?_)
    rw [hZ]
    exact hm_vret hx hb hr hlocks hS hP hK hnd hE ((if_neg c_6)) dX9_set_41
  ·
    have hok := (hok).1 c_6
    refine lv_aload_n hx hb dX9_set_9 rfl (lv_at hl 0 rfl) ?_
    obtain ⟨h_10, hok⟩ := hok
    refine hp_getR (ci := 7) (C := RX9) (T := TX9) (N := 12) hx hb hts iw_X9_set_X9 hown hK hP h_10.1 (PF_7 h_10.2.1) rfl 4 (by decide) (hts _ (List.mem_of_getElem? (i := 2) rfl)) (fun _ h9 => h9) rfl h_10.2.2 dX9_set_10 ?_
    refine lv_aload_n hx hb dX9_set_13 rfl (lv_at hl 0 rfl) ?_
    obtain ⟨h_14, hok⟩ := hok
    refine hp_getR (ci := 7) (C := RX9) (T := TX9) (N := 12) hx hb hts iw_X9_set_X9 hown hK hP h_14.1 (PF_7 h_14.2.1) rfl 2 (by decide) (hts _ (List.mem_of_getElem? (i := 3) rfl)) (fun _ h9 => h9) rfl h_14.2.2 dX9_set_14 ?_
    refine lv_iload_n hx hb dX9_set_17 rfl (lv_at hl 1 rfl) ?_
    obtain ⟨h_18, hok⟩ := hok
    refine hp_iald hx hb hK hP h_18.1 0 (PF_8 h_18.2.1) rfl h_18.2.2 dX9_set_18 ?_
    refine lv_iload_n hx hb dX9_set_19 rfl (lv_at hl 2 rfl) ?_
    refine lv_iadd hx hb dX9_set_20 ?_
    refine lv_lload_n hx hb dX9_set_21 rfl (lv_at hl 3 rfl) ?_
    refine lv_l2i (v := p2.toInt32) hx hb dX9_set_22 rfl ?_
    obtain ⟨h_23, hok⟩ := hok
    refine hp_iast (g2 := PF G (hwA S ((hsQ S x 4).getD 0) ((hsA S ((hsQ S x 2).getD 0) p0.toNatClampNeg) + p1).toNatClampNeg p2.toInt32)) hx hb hK hP (hD _) hS h_23.1 0 (PF_8 h_23.2.1) rfl h_23.2.2 (PF_sA h_23.2.1) (fun _ hb9 => PF_wA hb9) dX9_set_23 (fun H locs hP hS => ?_)
    refine lv_goto (tgt := 41) hx hb dX9_set_24 (by decide) ?_
    rw [hZ]
    exact hm_vret hx hb hr hlocks hS hP hK hnd hE ((if_pos c_6)) dX9_set_41
theorem hdv_X9_trace : yX9_trace.cls = RX9 ∧ yX9_trace.cls ≠ "java/lang/invoke/MethodHandle" ∧ yX9_trace.cls ≠ "java/lang/invoke/VarHandle" ∧ (parseMethodDescriptor yX9_trace.desc).map (fun d => d.parameters.length) = some 0 := by decide +kernel
theorem iw_X9_trace_X9 : ∀ w ∈ u_ws RX9 TX9 12, w ∈ wsX9_trace := by decide +kernel
def h_X9_trace (x : Nat) (S : HS) : Int32 :=
  hsI S x 11
def ok_X9_trace (L : List Nat) (x : Nat) (S : HS) : Prop :=
  (x ∈ L ∧ hsK S x = 7) ∧ (True)
set_option maxHeartbeats 4000000 in
set_option maxRecDepth 100000 in
theorem hm_X9_trace (l : Launch) (G : GE) (L : List Nat) (S : HS) (x : Nat) (hok : ok_X9_trace L x S) : HmI l G yX9_trace wsX9_trace 0 0 [.ref x] L S ((h_X9_trace x S, S)) := by
  refine Met.ofW (cc := cX9_trace) (maxL := 1) (ret := (some .int)) (by decide) rfl ?_
  intro p e s m args below meth c s₁ B hml hv
  obtain ⟨rfl, hP, hK, hnd, hE⟩ := hv
  have hx := B.exec
  have hb := B.bytes
  have hr := B.returns
  have hts := atoms_spec (ws := wsX9_trace) B.pre
  have hown : s.vm.findClass RX9 = some m.cls := findClass_of_methodNamed B.named
  have hlocks := B.notSynchronized
  have hD := nd_D hnd
  have hS : va_S (AL L) s.heap s.heap [] := va_S.rf
  have hl := lv_entry ([.ref x]) (n := 1) (Nat.le_of_ble_eq_true rfl)
  rw [lg_entry_eq]
  generalize (lg_sl ([.ref x]) ++ List.replicate (1 - (lg_sl ([.ref x])).length) Slot.unset).toArray = ls at hl ⊢
  have hl : lv_has ls 1 [(0, .ref x)] := hl
  obtain ⟨Z, hZ⟩ : ∃ z, z = MQ below (hm_QI G L ((h_X9_trace x S, S))) ([.ref x] : List Value).toArray s 0 0 (AL L) := ⟨_, rfl⟩
  rw [← hZ]
  refine lv_aload_n hx hb dX9_trace_0 rfl (lv_at hl 0 rfl) ?_
  obtain ⟨h_1, hok⟩ := hok
  refine hp_get (ci := 7) (C := RX9) (T := TX9) (N := 12) hx hb hts iw_X9_trace_X9 hown hK hP h_1.1 (PF_7 h_1.2) rfl 11 (by decide) (hts _ (List.mem_of_getElem? (i := 1) rfl)) (fun _ h9 => h9) rfl dX9_trace_1 ?_
  rw [hZ]
  exact hm_iret hx hb hr hlocks hS hP hK hnd hE (congrArg (fun z => (z, S)) (rfl)) dX9_trace_4
theorem hdv_X9_latest : yX9_latest.cls = RX9 ∧ yX9_latest.cls ≠ "java/lang/invoke/MethodHandle" ∧ yX9_latest.cls ≠ "java/lang/invoke/VarHandle" ∧ (parseMethodDescriptor yX9_latest.desc).map (fun d => d.parameters.length) = some 0 := by decide +kernel
theorem iw_X9_latest_X9 : ∀ w ∈ u_ws RX9 TX9 12, w ∈ wsX9_latest := by decide +kernel
def h_X9_latest (x : Nat) (S : HS) : Int32 :=
  hsI S x 9
def ok_X9_latest (L : List Nat) (x : Nat) (S : HS) : Prop :=
  (x ∈ L ∧ hsK S x = 7) ∧ (True)
set_option maxHeartbeats 4000000 in
set_option maxRecDepth 100000 in
theorem hm_X9_latest (l : Launch) (G : GE) (L : List Nat) (S : HS) (x : Nat) (hok : ok_X9_latest L x S) : HmI l G yX9_latest wsX9_latest 0 0 [.ref x] L S ((h_X9_latest x S, S)) := by
  refine Met.ofW (cc := cX9_latest) (maxL := 1) (ret := (some .int)) (by decide) rfl ?_
  intro p e s m args below meth c s₁ B hml hv
  obtain ⟨rfl, hP, hK, hnd, hE⟩ := hv
  have hx := B.exec
  have hb := B.bytes
  have hr := B.returns
  have hts := atoms_spec (ws := wsX9_latest) B.pre
  have hown : s.vm.findClass RX9 = some m.cls := findClass_of_methodNamed B.named
  have hlocks := B.notSynchronized
  have hD := nd_D hnd
  have hS : va_S (AL L) s.heap s.heap [] := va_S.rf
  have hl := lv_entry ([.ref x]) (n := 1) (Nat.le_of_ble_eq_true rfl)
  rw [lg_entry_eq]
  generalize (lg_sl ([.ref x]) ++ List.replicate (1 - (lg_sl ([.ref x])).length) Slot.unset).toArray = ls at hl ⊢
  have hl : lv_has ls 1 [(0, .ref x)] := hl
  obtain ⟨Z, hZ⟩ : ∃ z, z = MQ below (hm_QI G L ((h_X9_latest x S, S))) ([.ref x] : List Value).toArray s 0 0 (AL L) := ⟨_, rfl⟩
  rw [← hZ]
  refine lv_aload_n hx hb dX9_latest_0 rfl (lv_at hl 0 rfl) ?_
  obtain ⟨h_1, hok⟩ := hok
  refine hp_get (ci := 7) (C := RX9) (T := TX9) (N := 12) hx hb hts iw_X9_latest_X9 hown hK hP h_1.1 (PF_7 h_1.2) rfl 9 (by decide) (hts _ (List.mem_of_getElem? (i := 1) rfl)) (fun _ h9 => h9) rfl dX9_latest_1 ?_
  rw [hZ]
  exact hm_iret hx hb hr hlocks hS hP hK hnd hE (congrArg (fun z => (z, S)) (rfl)) dX9_latest_4
theorem hdv_X9_thrown : yX9_thrown.cls = RX9 ∧ yX9_thrown.cls ≠ "java/lang/invoke/MethodHandle" ∧ yX9_thrown.cls ≠ "java/lang/invoke/VarHandle" ∧ (parseMethodDescriptor yX9_thrown.desc).map (fun d => d.parameters.length) = some 1 := by decide +kernel
theorem iw_X9_thrown_X9 : ∀ w ∈ u_ws RX9 TX9 12, w ∈ wsX9_thrown := by decide +kernel
def h_X9_thrown (x : Nat) (p0 : Int32) (S : HS) : Int32 :=
  if (s_X9_in p0 1 8) = 0 then 0
  else hsA S ((hsQ S x 10).getD 0) p0.toNatClampNeg
def ok_X9_thrown (L : List Nat) (x : Nat) (p0 : Int32) (S : HS) : Prop :=
  (((s_X9_in p0 1 8) = 0) → (True)) ∧
  (¬ ((s_X9_in p0 1 8) = 0) → ((x ∈ L ∧ hsK S x = 7 ∧ hsQ S x 10 ≠ none) ∧ ((((hsQ S x 10).getD 0) ∈ L ∧ hsK S ((hsQ S x 10).getD 0) = 8 ∧ vp_in p0 (hsN S ((hsQ S x 10).getD 0))) ∧ (True))))
set_option maxHeartbeats 4000000 in
set_option maxRecDepth 100000 in
theorem hm_X9_thrown (l : Launch) (G : GE) (L : List Nat) (S : HS) (x : Nat) (p0 : Int32) (hok : ok_X9_thrown L x p0 S) : HmI l G yX9_thrown wsX9_thrown 1 22 [.ref x, .int p0] L S ((h_X9_thrown x p0 S, S)) := by
  refine Met.ofW (cc := cX9_thrown) (maxL := 2) (ret := (some .int)) (by decide) rfl ?_
  intro p e s m args below meth c s₁ B hml hv
  obtain ⟨rfl, hP, hK, hnd, hE⟩ := hv
  have hx := B.exec
  have hb := B.bytes
  have hr := B.returns
  have hts := atoms_spec (ws := wsX9_thrown) B.pre
  have hown : s.vm.findClass RX9 = some m.cls := findClass_of_methodNamed B.named
  have hlocks := B.notSynchronized
  have hD := nd_D hnd
  have hS : va_S (AL L) s.heap s.heap [] := va_S.rf
  have hl := lv_entry ([.ref x, .int p0]) (n := 2) (Nat.le_of_ble_eq_true rfl)
  rw [lg_entry_eq]
  generalize (lg_sl ([.ref x, .int p0]) ++ List.replicate (2 - (lg_sl ([.ref x, .int p0])).length) Slot.unset).toArray = ls at hl ⊢
  have hl : lv_has ls 2 [(0, .ref x), (1, .int p0)] := hl
  obtain ⟨Z, hZ⟩ : ∃ z, z = MQ below (hm_QI G L ((h_X9_thrown x p0 S, S))) ([.ref x, .int p0] : List Value).toArray s 0 0 (AL L) := ⟨_, rfl⟩
  rw [← hZ]
  refine lv_iload_n hx hb dX9_thrown_0 rfl (lv_at hl 1 rfl) ?_
  refine lv_iconst (v := 1) hx hb dX9_thrown_1 (by decide) ?_
  refine lv_bipush (v := 8) hx hb dX9_thrown_2 (by decide) ?_
  refine pm_callI (va_runS (As := [.int p0, .int 1, .int 8]) (rest := []) ⟨hx, hb, hml, hown, hts⟩ (pm_X9_in l p0 1 8) (va_cwS 3 hts gX9_thrown_X9_in rfl rfl rfl hd_X9_in ⟨Nat.le_of_ble_eq_true rfl, Nat.le_of_ble_eq_true rfl⟩) ⟨pm_fbT, fun U hU hW => ⟨rfl, trivial⟩⟩ rfl rfl hl.1 rfl (lv_room (Nat.le_of_ble_eq_true rfl)) dX9_thrown_4 ⟨Nat.le_refl 0, Nat.le_refl 0⟩) hS (fun H locs _ hk9 hS => ?_)
  replace hP := P_keep hP hk9
  refine lv_if_eq (tgt := 19) hx hb dX9_thrown_7 (by decide) (fun c_7 => ?_) (fun c_7 => ?_)
  ·
    have hok := (hok).1 c_7
    refine lv_iconst (v := 0) hx hb dX9_thrown_19 (by decide) ?_
    rw [hZ]
    exact hm_iret hx hb hr hlocks hS hP hK hnd hE (congrArg (fun z => (z, S)) ((if_pos c_7))) dX9_thrown_20
  ·
    have hok := (hok).2 c_7
    refine lv_aload_n hx hb dX9_thrown_10 rfl (lv_at hl 0 rfl) ?_
    obtain ⟨h_11, hok⟩ := hok
    refine hp_getR (ci := 7) (C := RX9) (T := TX9) (N := 12) hx hb hts iw_X9_thrown_X9 hown hK hP h_11.1 (PF_7 h_11.2.1) rfl 10 (by decide) (hts _ (List.mem_of_getElem? (i := 1) rfl)) (fun _ h9 => h9) rfl h_11.2.2 dX9_thrown_11 ?_
    refine lv_iload_n hx hb dX9_thrown_14 rfl (lv_at hl 1 rfl) ?_
    obtain ⟨h_15, hok⟩ := hok
    refine hp_iald hx hb hK hP h_15.1 0 (PF_8 h_15.2.1) rfl h_15.2.2 dX9_thrown_15 ?_
    refine lv_goto (tgt := 20) hx hb dX9_thrown_16 (by decide) ?_
    rw [hZ]
    exact hm_iret hx hb hr hlocks hS hP hK hnd hE (congrArg (fun z => (z, S)) ((if_neg c_7))) dX9_thrown_20
theorem hdv_X9_is : yX9_is.cls = RX9 ∧ yX9_is.cls ≠ "java/lang/invoke/MethodHandle" ∧ yX9_is.cls ≠ "java/lang/invoke/VarHandle" ∧ (parseMethodDescriptor yX9_is.desc).map (fun d => d.parameters.length) = some 2 := by decide +kernel
theorem iw_X9_is_X9 : ∀ w ∈ u_ws RX9 TX9 12, w ∈ wsX9_is := by decide +kernel
def h_X9_is (x : Nat) (p0 : Int32) (p1 : Int32) (S : HS) : Int32 :=
  if (s_X9_isCell p0) = 0 then (-1)
  else if (s_X9_in p1 0 15) = 0 then (-1)
   else if (hsA S ((hsQ S x 8).getD 0) p0.toNatClampNeg) = 0 then 0
    else if (s_X9_isKindOf (hsA S ((hsQ S x 0).getD 0) (hsA S ((hsQ S x 8).getD 0) p0.toNatClampNeg).toNatClampNeg) p1) = 0 then 0
     else 1
def ok_X9_is (L : List Nat) (x : Nat) (p0 : Int32) (p1 : Int32) (S : HS) : Prop :=
  (((s_X9_isCell p0) = 0) → (True)) ∧
  (¬ ((s_X9_isCell p0) = 0) → ((((s_X9_in p1 0 15) = 0) → (True)) ∧
   (¬ ((s_X9_in p1 0 15) = 0) → ((x ∈ L ∧ hsK S x = 7 ∧ hsQ S x 8 ≠ none) ∧ ((((hsQ S x 8).getD 0) ∈ L ∧ hsK S ((hsQ S x 8).getD 0) = 8 ∧ vp_in p0 (hsN S ((hsQ S x 8).getD 0))) ∧ ((((hsA S ((hsQ S x 8).getD 0) p0.toNatClampNeg) = 0) → (True)) ∧
    (¬ ((hsA S ((hsQ S x 8).getD 0) p0.toNatClampNeg) = 0) → ((x ∈ L ∧ hsK S x = 7 ∧ hsQ S x 0 ≠ none) ∧ ((x ∈ L ∧ hsK S x = 7 ∧ hsQ S x 8 ≠ none) ∧ ((((hsQ S x 8).getD 0) ∈ L ∧ hsK S ((hsQ S x 8).getD 0) = 8 ∧ vp_in p0 (hsN S ((hsQ S x 8).getD 0))) ∧ ((((hsQ S x 0).getD 0) ∈ L ∧ hsK S ((hsQ S x 0).getD 0) = 8 ∧ vp_in (hsA S ((hsQ S x 8).getD 0) p0.toNatClampNeg) (hsN S ((hsQ S x 0).getD 0))) ∧ ((((s_X9_isKindOf (hsA S ((hsQ S x 0).getD 0) (hsA S ((hsQ S x 8).getD 0) p0.toNatClampNeg).toNatClampNeg) p1) = 0) → (True)) ∧
     (¬ ((s_X9_isKindOf (hsA S ((hsQ S x 0).getD 0) (hsA S ((hsQ S x 8).getD 0) p0.toNatClampNeg).toNatClampNeg) p1) = 0) → (True))))))))))))))
set_option maxHeartbeats 4000000 in
set_option maxRecDepth 100000 in
theorem hm_X9_is (l : Launch) (G : GE) (L : List Nat) (S : HS) (x : Nat) (p0 : Int32) (p1 : Int32) (hok : ok_X9_is L x p0 p1 S) : HmI l G yX9_is wsX9_is 2 42 [.ref x, .int p0, .int p1] L S ((h_X9_is x p0 p1 S, S)) := by
  refine Met.ofW (cc := cX9_is) (maxL := 3) (ret := (some .int)) (by decide) rfl ?_
  intro p e s m args below meth c s₁ B hml hv
  obtain ⟨rfl, hP, hK, hnd, hE⟩ := hv
  have hx := B.exec
  have hb := B.bytes
  have hr := B.returns
  have hts := atoms_spec (ws := wsX9_is) B.pre
  have hown : s.vm.findClass RX9 = some m.cls := findClass_of_methodNamed B.named
  have hlocks := B.notSynchronized
  have hD := nd_D hnd
  have hS : va_S (AL L) s.heap s.heap [] := va_S.rf
  have hl := lv_entry ([.ref x, .int p0, .int p1]) (n := 3) (Nat.le_of_ble_eq_true rfl)
  rw [lg_entry_eq]
  generalize (lg_sl ([.ref x, .int p0, .int p1]) ++ List.replicate (3 - (lg_sl ([.ref x, .int p0, .int p1])).length) Slot.unset).toArray = ls at hl ⊢
  have hl : lv_has ls 3 [(0, .ref x), (1, .int p0), (2, .int p1)] := hl
  obtain ⟨Z, hZ⟩ : ∃ z, z = MQ below (hm_QI G L ((h_X9_is x p0 p1 S, S))) ([.ref x, .int p0, .int p1] : List Value).toArray s 0 0 (AL L) := ⟨_, rfl⟩
  rw [← hZ]
  refine lv_iload_n hx hb dX9_is_0 rfl (lv_at hl 1 rfl) ?_
  refine pm_callI (va_runS (As := [.int p0]) (rest := []) ⟨hx, hb, hml, hown, hts⟩ (pm_X9_isCell l p0) (va_cwS 1 hts gX9_is_X9_isCell rfl rfl rfl hd_X9_isCell ⟨Nat.le_of_ble_eq_true rfl, Nat.le_of_ble_eq_true rfl⟩) ⟨pm_fbT, fun U hU hW => ⟨rfl, trivial⟩⟩ rfl rfl hl.1 rfl (lv_room (Nat.le_of_ble_eq_true rfl)) dX9_is_1 ⟨Nat.le_refl 0, Nat.le_refl 0⟩) hS (fun H locs _ hk9 hS => ?_)
  replace hP := P_keep hP hk9
  refine lv_if_eq (tgt := 17) hx hb dX9_is_4 (by decide) (fun c_4 => ?_) (fun c_4 => ?_)
  ·
    have hok := (hok).1 c_4
    refine lv_iconst (v := (-1)) hx hb dX9_is_17 (by decide) ?_
    refine lv_goto (tgt := 53) hx hb dX9_is_18 (by decide) ?_
    rw [hZ]
    exact hm_iret hx hb hr hlocks hS hP hK hnd hE (congrArg (fun z => (z, S)) ((if_pos c_4))) dX9_is_53
  ·
    have hok := (hok).2 c_4
    refine lv_iload_n hx hb dX9_is_7 rfl (lv_at hl 2 rfl) ?_
    refine lv_iconst (v := 0) hx hb dX9_is_8 (by decide) ?_
    refine lv_bipush (v := 15) hx hb dX9_is_9 (by decide) ?_
    refine pm_callI (va_runS (As := [.int p1, .int 0, .int 15]) (rest := []) ⟨hx, hb, hml, hown, hts⟩ (pm_X9_in l p1 0 15) (va_cwS 3 hts gX9_is_X9_in rfl rfl rfl hd_X9_in ⟨Nat.le_of_ble_eq_true rfl, Nat.le_of_ble_eq_true rfl⟩) ⟨pm_fbT, fun U hU hW => ⟨rfl, trivial⟩⟩ rfl rfl hl.1 rfl (lv_room (Nat.le_of_ble_eq_true rfl)) dX9_is_11 ⟨Nat.le_refl 0, Nat.le_refl 0⟩) hS (fun H locs _ hk9 hS => ?_)
    replace hP := P_keep hP hk9
    refine lv_if_ne (tgt := 21) hx hb dX9_is_14 (by decide) (fun c_14 => ?_) (fun c_14 => ?_)
    ·
      have hok := (hok).2 c_14
      refine lv_aload_n hx hb dX9_is_21 rfl (lv_at hl 0 rfl) ?_
      obtain ⟨h_22, hok⟩ := hok
      refine hp_getR (ci := 7) (C := RX9) (T := TX9) (N := 12) hx hb hts iw_X9_is_X9 hown hK hP h_22.1 (PF_7 h_22.2.1) rfl 8 (by decide) (hts _ (List.mem_of_getElem? (i := 1) rfl)) (fun _ h9 => h9) rfl h_22.2.2 dX9_is_22 ?_
      refine lv_iload_n hx hb dX9_is_25 rfl (lv_at hl 1 rfl) ?_
      obtain ⟨h_26, hok⟩ := hok
      refine hp_iald hx hb hK hP h_26.1 0 (PF_8 h_26.2.1) rfl h_26.2.2 dX9_is_26 ?_
      refine lv_if_eq (tgt := 52) hx hb dX9_is_27 (by decide) (fun c_27 => ?_) (fun c_27 => ?_)
      ·
        have hok := (hok).1 c_27
        refine lv_iconst (v := 0) hx hb dX9_is_52 (by decide) ?_
        rw [hZ]
        exact hm_iret hx hb hr hlocks hS hP hK hnd hE (congrArg (fun z => (z, S)) (((if_neg c_4).trans ((if_neg c_14).trans (if_pos c_27))))) dX9_is_53
      ·
        have hok := (hok).2 c_27
        refine lv_aload_n hx hb dX9_is_30 rfl (lv_at hl 0 rfl) ?_
        obtain ⟨h_31, hok⟩ := hok
        refine hp_getR (ci := 7) (C := RX9) (T := TX9) (N := 12) hx hb hts iw_X9_is_X9 hown hK hP h_31.1 (PF_7 h_31.2.1) rfl 0 (by decide) (hts _ (List.mem_of_getElem? (i := 2) rfl)) (fun _ h9 => h9) rfl h_31.2.2 dX9_is_31 ?_
        refine lv_aload_n hx hb dX9_is_34 rfl (lv_at hl 0 rfl) ?_
        obtain ⟨h_35, hok⟩ := hok
        refine hp_getR (ci := 7) (C := RX9) (T := TX9) (N := 12) hx hb hts iw_X9_is_X9 hown hK hP h_35.1 (PF_7 h_35.2.1) rfl 8 (by decide) (hts _ (List.mem_of_getElem? (i := 1) rfl)) (fun _ h9 => h9) rfl h_35.2.2 dX9_is_35 ?_
        refine lv_iload_n hx hb dX9_is_38 rfl (lv_at hl 1 rfl) ?_
        obtain ⟨h_39, hok⟩ := hok
        refine hp_iald hx hb hK hP h_39.1 0 (PF_8 h_39.2.1) rfl h_39.2.2 dX9_is_39 ?_
        obtain ⟨h_40, hok⟩ := hok
        refine hp_iald hx hb hK hP h_40.1 0 (PF_8 h_40.2.1) rfl h_40.2.2 dX9_is_40 ?_
        refine lv_iload_n hx hb dX9_is_41 rfl (lv_at hl 2 rfl) ?_
        refine pm_callI (va_runS (As := [.int (hsA S ((hsQ S x 0).getD 0) (hsA S ((hsQ S x 8).getD 0) p0.toNatClampNeg).toNatClampNeg), .int p1]) (rest := []) ⟨hx, hb, hml, hown, hts⟩ (pm_X9_isKindOf l (hsA S ((hsQ S x 0).getD 0) (hsA S ((hsQ S x 8).getD 0) p0.toNatClampNeg).toNatClampNeg) p1) (va_cwS 2 hts gX9_is_X9_isKindOf rfl rfl rfl hd_X9_isKindOf ⟨Nat.le_of_ble_eq_true rfl, Nat.le_of_ble_eq_true rfl⟩) ⟨pm_fbT, fun U hU hW => ⟨rfl, trivial⟩⟩ rfl rfl hl.1 rfl (lv_room (Nat.le_of_ble_eq_true rfl)) dX9_is_42 ⟨Nat.le_refl 0, Nat.le_refl 0⟩) hS (fun H locs _ hk9 hS => ?_)
        replace hP := P_keep hP hk9
        refine lv_if_eq (tgt := 52) hx hb dX9_is_45 (by decide) (fun c_45 => ?_) (fun c_45 => ?_)
        ·
          have hok := (hok).1 c_45
          refine lv_iconst (v := 0) hx hb dX9_is_52 (by decide) ?_
          rw [hZ]
          exact hm_iret hx hb hr hlocks hS hP hK hnd hE (congrArg (fun z => (z, S)) (((if_neg c_4).trans ((if_neg c_14).trans ((if_neg c_27).trans (if_pos c_45)))))) dX9_is_53
        ·
          have hok := (hok).2 c_45
          refine lv_iconst (v := 1) hx hb dX9_is_48 (by decide) ?_
          refine lv_goto (tgt := 53) hx hb dX9_is_49 (by decide) ?_
          rw [hZ]
          exact hm_iret hx hb hr hlocks hS hP hK hnd hE (congrArg (fun z => (z, S)) (((if_neg c_4).trans ((if_neg c_14).trans ((if_neg c_27).trans (if_neg c_45)))))) dX9_is_53
    ·
      have hok := (hok).1 c_14
      refine lv_iconst (v := (-1)) hx hb dX9_is_17 (by decide) ?_
      refine lv_goto (tgt := 53) hx hb dX9_is_18 (by decide) ?_
      rw [hZ]
      exact hm_iret hx hb hr hlocks hS hP hK hnd hE (congrArg (fun z => (z, S)) (((if_neg c_4).trans (if_pos c_14)))) dX9_is_53
theorem hdv_X9_same : yX9_same.cls = RX9 ∧ yX9_same.cls ≠ "java/lang/invoke/MethodHandle" ∧ yX9_same.cls ≠ "java/lang/invoke/VarHandle" ∧ (parseMethodDescriptor yX9_same.desc).map (fun d => d.parameters.length) = some 2 := by decide +kernel
theorem iw_X9_same_X9 : ∀ w ∈ u_ws RX9 TX9 12, w ∈ wsX9_same := by decide +kernel
def h_X9_same (x : Nat) (p0 : Int32) (p1 : Int32) (S : HS) : Int32 :=
  if (s_X9_isCell p0) = 0 then (-1)
  else if (s_X9_isCell p1) = 0 then (-1)
   else if (hsA S ((hsQ S x 8).getD 0) p0.toNatClampNeg) = (hsA S ((hsQ S x 8).getD 0) p1.toNatClampNeg) then 1
    else 0
def ok_X9_same (L : List Nat) (x : Nat) (p0 : Int32) (p1 : Int32) (S : HS) : Prop :=
  (((s_X9_isCell p0) = 0) → (True)) ∧
  (¬ ((s_X9_isCell p0) = 0) → ((((s_X9_isCell p1) = 0) → (True)) ∧
   (¬ ((s_X9_isCell p1) = 0) → ((x ∈ L ∧ hsK S x = 7 ∧ hsQ S x 8 ≠ none) ∧ ((((hsQ S x 8).getD 0) ∈ L ∧ hsK S ((hsQ S x 8).getD 0) = 8 ∧ vp_in p0 (hsN S ((hsQ S x 8).getD 0))) ∧ ((x ∈ L ∧ hsK S x = 7 ∧ hsQ S x 8 ≠ none) ∧ ((((hsQ S x 8).getD 0) ∈ L ∧ hsK S ((hsQ S x 8).getD 0) = 8 ∧ vp_in p1 (hsN S ((hsQ S x 8).getD 0))) ∧ ((((hsA S ((hsQ S x 8).getD 0) p0.toNatClampNeg) = (hsA S ((hsQ S x 8).getD 0) p1.toNatClampNeg)) → (True)) ∧
    (¬ ((hsA S ((hsQ S x 8).getD 0) p0.toNatClampNeg) = (hsA S ((hsQ S x 8).getD 0) p1.toNatClampNeg)) → (True))))))))))
set_option maxHeartbeats 4000000 in
set_option maxRecDepth 100000 in
theorem hm_X9_same (l : Launch) (G : GE) (L : List Nat) (S : HS) (x : Nat) (p0 : Int32) (p1 : Int32) (hok : ok_X9_same L x p0 p1 S) : HmI l G yX9_same wsX9_same 2 42 [.ref x, .int p0, .int p1] L S ((h_X9_same x p0 p1 S, S)) := by
  refine Met.ofW (cc := cX9_same) (maxL := 3) (ret := (some .int)) (by decide) rfl ?_
  intro p e s m args below meth c s₁ B hml hv
  obtain ⟨rfl, hP, hK, hnd, hE⟩ := hv
  have hx := B.exec
  have hb := B.bytes
  have hr := B.returns
  have hts := atoms_spec (ws := wsX9_same) B.pre
  have hown : s.vm.findClass RX9 = some m.cls := findClass_of_methodNamed B.named
  have hlocks := B.notSynchronized
  have hD := nd_D hnd
  have hS : va_S (AL L) s.heap s.heap [] := va_S.rf
  have hl := lv_entry ([.ref x, .int p0, .int p1]) (n := 3) (Nat.le_of_ble_eq_true rfl)
  rw [lg_entry_eq]
  generalize (lg_sl ([.ref x, .int p0, .int p1]) ++ List.replicate (3 - (lg_sl ([.ref x, .int p0, .int p1])).length) Slot.unset).toArray = ls at hl ⊢
  have hl : lv_has ls 3 [(0, .ref x), (1, .int p0), (2, .int p1)] := hl
  obtain ⟨Z, hZ⟩ : ∃ z, z = MQ below (hm_QI G L ((h_X9_same x p0 p1 S, S))) ([.ref x, .int p0, .int p1] : List Value).toArray s 0 0 (AL L) := ⟨_, rfl⟩
  rw [← hZ]
  refine lv_iload_n hx hb dX9_same_0 rfl (lv_at hl 1 rfl) ?_
  refine pm_callI (va_runS (As := [.int p0]) (rest := []) ⟨hx, hb, hml, hown, hts⟩ (pm_X9_isCell l p0) (va_cwS 1 hts gX9_same_X9_isCell rfl rfl rfl hd_X9_isCell ⟨Nat.le_of_ble_eq_true rfl, Nat.le_of_ble_eq_true rfl⟩) ⟨pm_fbT, fun U hU hW => ⟨rfl, trivial⟩⟩ rfl rfl hl.1 rfl (lv_room (Nat.le_of_ble_eq_true rfl)) dX9_same_1 ⟨Nat.le_refl 0, Nat.le_refl 0⟩) hS (fun H locs _ hk9 hS => ?_)
  replace hP := P_keep hP hk9
  refine lv_if_eq (tgt := 14) hx hb dX9_same_4 (by decide) (fun c_4 => ?_) (fun c_4 => ?_)
  ·
    have hok := (hok).1 c_4
    refine lv_iconst (v := (-1)) hx hb dX9_same_14 (by decide) ?_
    refine lv_goto (tgt := 38) hx hb dX9_same_15 (by decide) ?_
    rw [hZ]
    exact hm_iret hx hb hr hlocks hS hP hK hnd hE (congrArg (fun z => (z, S)) ((if_pos c_4))) dX9_same_38
  ·
    have hok := (hok).2 c_4
    refine lv_iload_n hx hb dX9_same_7 rfl (lv_at hl 2 rfl) ?_
    refine pm_callI (va_runS (As := [.int p1]) (rest := []) ⟨hx, hb, hml, hown, hts⟩ (pm_X9_isCell l p1) (va_cwS 1 hts gX9_same_X9_isCell rfl rfl rfl hd_X9_isCell ⟨Nat.le_of_ble_eq_true rfl, Nat.le_of_ble_eq_true rfl⟩) ⟨pm_fbT, fun U hU hW => ⟨rfl, trivial⟩⟩ rfl rfl hl.1 rfl (lv_room (Nat.le_of_ble_eq_true rfl)) dX9_same_8 ⟨Nat.le_refl 0, Nat.le_refl 0⟩) hS (fun H locs _ hk9 hS => ?_)
    replace hP := P_keep hP hk9
    refine lv_if_ne (tgt := 18) hx hb dX9_same_11 (by decide) (fun c_11 => ?_) (fun c_11 => ?_)
    ·
      have hok := (hok).2 c_11
      refine lv_aload_n hx hb dX9_same_18 rfl (lv_at hl 0 rfl) ?_
      obtain ⟨h_19, hok⟩ := hok
      refine hp_getR (ci := 7) (C := RX9) (T := TX9) (N := 12) hx hb hts iw_X9_same_X9 hown hK hP h_19.1 (PF_7 h_19.2.1) rfl 8 (by decide) (hts _ (List.mem_of_getElem? (i := 1) rfl)) (fun _ h9 => h9) rfl h_19.2.2 dX9_same_19 ?_
      refine lv_iload_n hx hb dX9_same_22 rfl (lv_at hl 1 rfl) ?_
      obtain ⟨h_23, hok⟩ := hok
      refine hp_iald hx hb hK hP h_23.1 0 (PF_8 h_23.2.1) rfl h_23.2.2 dX9_same_23 ?_
      refine lv_aload_n hx hb dX9_same_24 rfl (lv_at hl 0 rfl) ?_
      obtain ⟨h_25, hok⟩ := hok
      refine hp_getR (ci := 7) (C := RX9) (T := TX9) (N := 12) hx hb hts iw_X9_same_X9 hown hK hP h_25.1 (PF_7 h_25.2.1) rfl 8 (by decide) (hts _ (List.mem_of_getElem? (i := 1) rfl)) (fun _ h9 => h9) rfl h_25.2.2 dX9_same_25 ?_
      refine lv_iload_n hx hb dX9_same_28 rfl (lv_at hl 2 rfl) ?_
      obtain ⟨h_29, hok⟩ := hok
      refine hp_iald hx hb hK hP h_29.1 0 (PF_8 h_29.2.1) rfl h_29.2.2 dX9_same_29 ?_
      refine lv_icmp_ne (tgt := 37) hx hb dX9_same_30 (by decide) (fun c_30 => ?_) (fun c_30 => ?_)
      ·
        have hok := (hok).2 c_30
        refine lv_iconst (v := 0) hx hb dX9_same_37 (by decide) ?_
        rw [hZ]
        exact hm_iret hx hb hr hlocks hS hP hK hnd hE (congrArg (fun z => (z, S)) (((if_neg c_4).trans ((if_neg c_11).trans (if_neg c_30))))) dX9_same_38
      ·
        have hok := (hok).1 c_30
        refine lv_iconst (v := 1) hx hb dX9_same_33 (by decide) ?_
        refine lv_goto (tgt := 38) hx hb dX9_same_34 (by decide) ?_
        rw [hZ]
        exact hm_iret hx hb hr hlocks hS hP hK hnd hE (congrArg (fun z => (z, S)) (((if_neg c_4).trans ((if_neg c_11).trans (if_pos c_30))))) dX9_same_38
    ·
      have hok := (hok).1 c_11
      refine lv_iconst (v := (-1)) hx hb dX9_same_14 (by decide) ?_
      refine lv_goto (tgt := 38) hx hb dX9_same_15 (by decide) ?_
      rw [hZ]
      exact hm_iret hx hb hr hlocks hS hP hK hnd hE (congrArg (fun z => (z, S)) (((if_neg c_4).trans (if_pos c_11)))) dX9_same_38
