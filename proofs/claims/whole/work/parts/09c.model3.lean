/-! ===== the model over its cells, third part (laid by program) ===== -/
theorem hdv_X9_cross : yX9_cross.cls = RX9 ∧ yX9_cross.cls ≠ "java/lang/invoke/MethodHandle" ∧ yX9_cross.cls ≠ "java/lang/invoke/VarHandle" ∧ (parseMethodDescriptor yX9_cross.desc).map (fun d => d.parameters.length) = some 3 := by decide +kernel
theorem iw_X9_cross_X9 : ∀ w ∈ u_ws RX9 TX9 12, w ∈ wsX9_cross := by decide +kernel
def h_X9_cross (x : Nat) (p0 : Int32) (p1 : Int32) (p2 : Int32) (S : HS) : Int32 × HS :=
  if (s_X9_isCell p0) = 0 then ((h_X9_fails x 8 (h_X9_begin x S)).1, (h_X9_fails x 8 (h_X9_begin x S)).2)
  else if (h_X9_against x 7 (hsA (h_X9_begin x S) ((hsQ (h_X9_begin x S) x 8).getD 0) p0.toNatClampNeg) p1 (h_X9_begin x S)) ≤ 0 then if (h_X9_against x 0 ((hsJ (h_X9_begin x S) ((hsQ (h_X9_begin x S) x 6).getD 0) ((hsA (h_X9_begin x S) ((hsQ (h_X9_begin x S) x 2).getD 0) (hsA (h_X9_begin x S) ((hsQ (h_X9_begin x S) x 8).getD 0) p0.toNatClampNeg).toNatClampNeg) + p1).toNatClampNeg).toInt32) p2 (h_X9_begin x S)) ≤ 0 then (hsA (h_X9_begin x S) ((hsQ (h_X9_begin x S) x 4).getD 0) ((hsA (h_X9_begin x S) ((hsQ (h_X9_begin x S) x 2).getD 0) ((hsJ (h_X9_begin x S) ((hsQ (h_X9_begin x S) x 6).getD 0) ((hsA (h_X9_begin x S) ((hsQ (h_X9_begin x S) x 2).getD 0) (hsA (h_X9_begin x S) ((hsQ (h_X9_begin x S) x 8).getD 0) p0.toNatClampNeg).toNatClampNeg) + p1).toNatClampNeg).toInt32).toNatClampNeg) + p2).toNatClampNeg, h_X9_begin x S)
    else ((h_X9_fails x (h_X9_against x 0 ((hsJ (h_X9_begin x S) ((hsQ (h_X9_begin x S) x 6).getD 0) ((hsA (h_X9_begin x S) ((hsQ (h_X9_begin x S) x 2).getD 0) (hsA (h_X9_begin x S) ((hsQ (h_X9_begin x S) x 8).getD 0) p0.toNatClampNeg).toNatClampNeg) + p1).toNatClampNeg).toInt32) p2 (h_X9_begin x S)) (h_X9_begin x S)).1, (h_X9_fails x (h_X9_against x 0 ((hsJ (h_X9_begin x S) ((hsQ (h_X9_begin x S) x 6).getD 0) ((hsA (h_X9_begin x S) ((hsQ (h_X9_begin x S) x 2).getD 0) (hsA (h_X9_begin x S) ((hsQ (h_X9_begin x S) x 8).getD 0) p0.toNatClampNeg).toNatClampNeg) + p1).toNatClampNeg).toInt32) p2 (h_X9_begin x S)) (h_X9_begin x S)).2)
   else ((h_X9_fails x (h_X9_against x 7 (hsA (h_X9_begin x S) ((hsQ (h_X9_begin x S) x 8).getD 0) p0.toNatClampNeg) p1 (h_X9_begin x S)) (h_X9_begin x S)).1, (h_X9_fails x (h_X9_against x 7 (hsA (h_X9_begin x S) ((hsQ (h_X9_begin x S) x 8).getD 0) p0.toNatClampNeg) p1 (h_X9_begin x S)) (h_X9_begin x S)).2)
def ok_X9_cross (L : List Nat) (x : Nat) (p0 : Int32) (p1 : Int32) (p2 : Int32) (S : HS) : Prop :=
  (x ∈ L ∧ hsK S x = 7) ∧ ((ok_X9_begin L x S) ∧ ((((s_X9_isCell p0) = 0) → ((x ∈ L ∧ hsK (h_X9_begin x S) x = 7) ∧ ((ok_X9_fails L x 8 (h_X9_begin x S)) ∧ (True)))) ∧
  (¬ ((s_X9_isCell p0) = 0) → ((x ∈ L ∧ hsK (h_X9_begin x S) x = 7 ∧ hsQ (h_X9_begin x S) x 8 ≠ none) ∧ ((((hsQ (h_X9_begin x S) x 8).getD 0) ∈ L ∧ hsK (h_X9_begin x S) ((hsQ (h_X9_begin x S) x 8).getD 0) = 8 ∧ vp_in p0 (hsN (h_X9_begin x S) ((hsQ (h_X9_begin x S) x 8).getD 0))) ∧ ((x ∈ L ∧ hsK (h_X9_begin x S) x = 7) ∧ ((ok_X9_against L x 7 (hsA (h_X9_begin x S) ((hsQ (h_X9_begin x S) x 8).getD 0) p0.toNatClampNeg) p1 (h_X9_begin x S)) ∧ ((((h_X9_against x 7 (hsA (h_X9_begin x S) ((hsQ (h_X9_begin x S) x 8).getD 0) p0.toNatClampNeg) p1 (h_X9_begin x S)) ≤ 0) → ((x ∈ L ∧ hsK (h_X9_begin x S) x = 7 ∧ hsQ (h_X9_begin x S) x 6 ≠ none) ∧ ((x ∈ L ∧ hsK (h_X9_begin x S) x = 7 ∧ hsQ (h_X9_begin x S) x 2 ≠ none) ∧ ((x ∈ L ∧ hsK (h_X9_begin x S) x = 7 ∧ hsQ (h_X9_begin x S) x 8 ≠ none) ∧ ((((hsQ (h_X9_begin x S) x 8).getD 0) ∈ L ∧ hsK (h_X9_begin x S) ((hsQ (h_X9_begin x S) x 8).getD 0) = 8 ∧ vp_in p0 (hsN (h_X9_begin x S) ((hsQ (h_X9_begin x S) x 8).getD 0))) ∧ ((((hsQ (h_X9_begin x S) x 2).getD 0) ∈ L ∧ hsK (h_X9_begin x S) ((hsQ (h_X9_begin x S) x 2).getD 0) = 8 ∧ vp_in (hsA (h_X9_begin x S) ((hsQ (h_X9_begin x S) x 8).getD 0) p0.toNatClampNeg) (hsN (h_X9_begin x S) ((hsQ (h_X9_begin x S) x 2).getD 0))) ∧ ((((hsQ (h_X9_begin x S) x 6).getD 0) ∈ L ∧ hsK (h_X9_begin x S) ((hsQ (h_X9_begin x S) x 6).getD 0) = 9 ∧ vp_in ((hsA (h_X9_begin x S) ((hsQ (h_X9_begin x S) x 2).getD 0) (hsA (h_X9_begin x S) ((hsQ (h_X9_begin x S) x 8).getD 0) p0.toNatClampNeg).toNatClampNeg) + p1) (hsN (h_X9_begin x S) ((hsQ (h_X9_begin x S) x 6).getD 0))) ∧ ((x ∈ L ∧ hsK (h_X9_begin x S) x = 7) ∧ ((ok_X9_against L x 0 ((hsJ (h_X9_begin x S) ((hsQ (h_X9_begin x S) x 6).getD 0) ((hsA (h_X9_begin x S) ((hsQ (h_X9_begin x S) x 2).getD 0) (hsA (h_X9_begin x S) ((hsQ (h_X9_begin x S) x 8).getD 0) p0.toNatClampNeg).toNatClampNeg) + p1).toNatClampNeg).toInt32) p2 (h_X9_begin x S)) ∧ ((((h_X9_against x 0 ((hsJ (h_X9_begin x S) ((hsQ (h_X9_begin x S) x 6).getD 0) ((hsA (h_X9_begin x S) ((hsQ (h_X9_begin x S) x 2).getD 0) (hsA (h_X9_begin x S) ((hsQ (h_X9_begin x S) x 8).getD 0) p0.toNatClampNeg).toNatClampNeg) + p1).toNatClampNeg).toInt32) p2 (h_X9_begin x S)) ≤ 0) → ((x ∈ L ∧ hsK (h_X9_begin x S) x = 7 ∧ hsQ (h_X9_begin x S) x 4 ≠ none) ∧ ((x ∈ L ∧ hsK (h_X9_begin x S) x = 7 ∧ hsQ (h_X9_begin x S) x 2 ≠ none) ∧ ((((hsQ (h_X9_begin x S) x 2).getD 0) ∈ L ∧ hsK (h_X9_begin x S) ((hsQ (h_X9_begin x S) x 2).getD 0) = 8 ∧ vp_in ((hsJ (h_X9_begin x S) ((hsQ (h_X9_begin x S) x 6).getD 0) ((hsA (h_X9_begin x S) ((hsQ (h_X9_begin x S) x 2).getD 0) (hsA (h_X9_begin x S) ((hsQ (h_X9_begin x S) x 8).getD 0) p0.toNatClampNeg).toNatClampNeg) + p1).toNatClampNeg).toInt32) (hsN (h_X9_begin x S) ((hsQ (h_X9_begin x S) x 2).getD 0))) ∧ ((((hsQ (h_X9_begin x S) x 4).getD 0) ∈ L ∧ hsK (h_X9_begin x S) ((hsQ (h_X9_begin x S) x 4).getD 0) = 8 ∧ vp_in ((hsA (h_X9_begin x S) ((hsQ (h_X9_begin x S) x 2).getD 0) ((hsJ (h_X9_begin x S) ((hsQ (h_X9_begin x S) x 6).getD 0) ((hsA (h_X9_begin x S) ((hsQ (h_X9_begin x S) x 2).getD 0) (hsA (h_X9_begin x S) ((hsQ (h_X9_begin x S) x 8).getD 0) p0.toNatClampNeg).toNatClampNeg) + p1).toNatClampNeg).toInt32).toNatClampNeg) + p2) (hsN (h_X9_begin x S) ((hsQ (h_X9_begin x S) x 4).getD 0))) ∧ (True)))))) ∧
    (¬ ((h_X9_against x 0 ((hsJ (h_X9_begin x S) ((hsQ (h_X9_begin x S) x 6).getD 0) ((hsA (h_X9_begin x S) ((hsQ (h_X9_begin x S) x 2).getD 0) (hsA (h_X9_begin x S) ((hsQ (h_X9_begin x S) x 8).getD 0) p0.toNatClampNeg).toNatClampNeg) + p1).toNatClampNeg).toInt32) p2 (h_X9_begin x S)) ≤ 0) → ((x ∈ L ∧ hsK (h_X9_begin x S) x = 7) ∧ ((ok_X9_fails L x (h_X9_against x 0 ((hsJ (h_X9_begin x S) ((hsQ (h_X9_begin x S) x 6).getD 0) ((hsA (h_X9_begin x S) ((hsQ (h_X9_begin x S) x 2).getD 0) (hsA (h_X9_begin x S) ((hsQ (h_X9_begin x S) x 8).getD 0) p0.toNatClampNeg).toNatClampNeg) + p1).toNatClampNeg).toInt32) p2 (h_X9_begin x S)) (h_X9_begin x S)) ∧ (True)))))))))))))) ∧
   (¬ ((h_X9_against x 7 (hsA (h_X9_begin x S) ((hsQ (h_X9_begin x S) x 8).getD 0) p0.toNatClampNeg) p1 (h_X9_begin x S)) ≤ 0) → ((x ∈ L ∧ hsK (h_X9_begin x S) x = 7) ∧ ((ok_X9_fails L x (h_X9_against x 7 (hsA (h_X9_begin x S) ((hsQ (h_X9_begin x S) x 8).getD 0) p0.toNatClampNeg) p1 (h_X9_begin x S)) (h_X9_begin x S)) ∧ (True))))))))))))
set_option maxHeartbeats 4000000 in
set_option maxRecDepth 100000 in
theorem hm_X9_cross (l : Launch) (G : GE) (L : List Nat) (S : HS) (x : Nat) (p0 : Int32) (p1 : Int32) (p2 : Int32) (hok : ok_X9_cross L x p0 p1 p2 S) : HmI l G yX9_cross wsX9_cross 3 66 [.ref x, .int p0, .int p1, .int p2] L S (h_X9_cross x p0 p1 p2 S) := by
  refine Met.ofW (cc := cX9_cross) (maxL := 6) (ret := (some .int)) (by decide) rfl ?_
  intro p e s m args below meth c s₁ B hml hv
  obtain ⟨rfl, hP, hK, hnd, hE⟩ := hv
  have hx := B.exec
  have hb := B.bytes
  have hr := B.returns
  have hts := atoms_spec (ws := wsX9_cross) B.pre
  have hown : s.vm.findClass RX9 = some m.cls := findClass_of_methodNamed B.named
  have hlocks := B.notSynchronized
  have hD := nd_D hnd
  have hS : va_S (AL L) s.heap s.heap [] := va_S.rf
  have hl := lv_entry ([.ref x, .int p0, .int p1, .int p2]) (n := 6) (Nat.le_of_ble_eq_true rfl)
  rw [lg_entry_eq]
  generalize (lg_sl ([.ref x, .int p0, .int p1, .int p2]) ++ List.replicate (6 - (lg_sl ([.ref x, .int p0, .int p1, .int p2])).length) Slot.unset).toArray = ls at hl ⊢
  have hl : lv_has ls 6 [(0, .ref x), (1, .int p0), (2, .int p1), (3, .int p2)] := hl
  obtain ⟨Z, hZ⟩ : ∃ z, z = MQ below (hm_QI G L (h_X9_cross x p0 p1 p2 S)) ([.ref x, .int p0, .int p1, .int p2] : List Value).toArray s 0 0 (AL L) := ⟨_, rfl⟩
  rw [← hZ]
  refine lv_aload_n hx hb dX9_cross_0 rfl (lv_at hl 0 rfl) ?_
  obtain ⟨h_1k, hok⟩ := hok
  obtain ⟨h_1, hok⟩ := hok
  refine hm_callV (G := G) (a := ([.ref x] : List Value).toArray) (pr := (h_X9_begin x S)) (rest := []) ?_ hS (fun H locs hP hS => ?_)
  ·
    exact va_runV (As := []) (rest := []) ⟨hx, hb, hml, hown, hts⟩ (hm_X9_begin l G L S x h_1) (cwV 0 hts gX9_cross_X9_begin rfl rfl rfl hdv_X9_begin ⟨Nat.le_of_ble_eq_true rfl, Nat.le_of_ble_eq_true rfl⟩) ⟨HW.fb, hp_recv hK hP h_1k.1 (PF_7 h_1k.2) rfl, fun U hU hW => ⟨rfl, HW.call hP hK hnd hE hS U hU hW⟩⟩ rfl rfl hl.1 rfl (lv_room (Nat.le_of_ble_eq_true rfl)) dX9_cross_1 ⟨Nat.le_refl 0, Nat.le_refl 0⟩
  ·
    refine lv_iload_n hx hb dX9_cross_4 rfl (lv_at hl 1 rfl) ?_
    refine pm_callI (va_runS (As := [.int p0]) (rest := []) ⟨hx, hb, hml, hown, hts⟩ (pm_X9_isCell l p0) (va_cwS 1 hts gX9_cross_X9_isCell rfl rfl rfl hd_X9_isCell ⟨Nat.le_of_ble_eq_true rfl, Nat.le_of_ble_eq_true rfl⟩) ⟨pm_fbT, fun U hU hW => ⟨rfl, trivial⟩⟩ rfl rfl hl.1 rfl (lv_room (Nat.le_of_ble_eq_true rfl)) dX9_cross_5 ⟨Nat.le_refl 0, Nat.le_refl 0⟩) hS (fun H locs _ hk9 hS => ?_)
    replace hP := P_keep hP hk9
    refine lv_if_ne (tgt := 18) hx hb dX9_cross_8 (by decide) (fun c_8 => ?_) (fun c_8 => ?_)
    ·
      have hok := (hok).2 c_8
      refine lv_aload_n hx hb dX9_cross_18 rfl (lv_at hl 0 rfl) ?_
      refine lv_bipush (v := 7) hx hb dX9_cross_19 (by decide) ?_
      refine lv_aload_n hx hb dX9_cross_21 rfl (lv_at hl 0 rfl) ?_
      obtain ⟨h_22, hok⟩ := hok
      refine hp_getR (ci := 7) (C := RX9) (T := TX9) (N := 12) hx hb hts iw_X9_cross_X9 hown hK hP h_22.1 (PF_7 h_22.2.1) rfl 8 (by decide) (hts _ (List.mem_of_getElem? (i := 1) rfl)) (fun _ h9 => h9) rfl h_22.2.2 dX9_cross_22 ?_
      refine lv_iload_n hx hb dX9_cross_25 rfl (lv_at hl 1 rfl) ?_
      obtain ⟨h_26, hok⟩ := hok
      refine hp_iald hx hb hK hP h_26.1 0 (PF_8 h_26.2.1) rfl h_26.2.2 dX9_cross_26 ?_
      refine lv_iload_n hx hb dX9_cross_27 rfl (lv_at hl 2 rfl) ?_
      obtain ⟨h_28k, hok⟩ := hok
      obtain ⟨h_28, hok⟩ := hok
      refine hm_callIr (G := G) (S1 := h_X9_begin x S) (a := ([.ref x, .int 7, .int (hsA (h_X9_begin x S) ((hsQ (h_X9_begin x S) x 8).getD 0) p0.toNatClampNeg), .int p1] : List Value).toArray) (rest := []) (h_X9_against x 7 (hsA (h_X9_begin x S) ((hsQ (h_X9_begin x S) x 8).getD 0) p0.toNatClampNeg) p1 (h_X9_begin x S)) ?_ hS (fun H locs hP hS => ?_)
      ·
        exact va_runV (As := [.int 7, .int (hsA (h_X9_begin x S) ((hsQ (h_X9_begin x S) x 8).getD 0) p0.toNatClampNeg), .int p1]) (rest := []) ⟨hx, hb, hml, hown, hts⟩ (hm_X9_against l G L (h_X9_begin x S) x 7 (hsA (h_X9_begin x S) ((hsQ (h_X9_begin x S) x 8).getD 0) p0.toNatClampNeg) p1 h_28) (cwV 3 hts gX9_cross_X9_against rfl rfl rfl hdv_X9_against ⟨Nat.le_of_ble_eq_true rfl, Nat.le_of_ble_eq_true rfl⟩) ⟨HW.fb, hp_recv hK hP h_28k.1 (PF_7 h_28k.2) rfl, fun U hU hW => ⟨rfl, HW.call hP hK hnd hE hS U hU hW⟩⟩ rfl rfl hl.1 rfl (lv_room (Nat.le_of_ble_eq_true rfl)) dX9_cross_28 ⟨Nat.le_refl 0, Nat.le_refl 0⟩
      ·
        refine lv_istore (lv' := [(4, .int (h_X9_against x 7 (hsA (h_X9_begin x S) ((hsQ (h_X9_begin x S) x 8).getD 0) p0.toNatClampNeg) p1 (h_X9_begin x S))), (0, .ref x), (1, .int p0), (2, .int p1), (3, .int p2)]) hx hb dX9_cross_31 hl (by decide) rfl (fun ls hl => ?_)
        refine lv_iload hx hb dX9_cross_33 (lv_at hl 0 rfl) ?_
        refine lv_if_le (tgt := 45) hx hb dX9_cross_35 (by decide) (fun c_35 => ?_) (fun c_35 => ?_)
        ·
          have hok := (hok).1 c_35
          refine lv_aload_n hx hb dX9_cross_45 rfl (lv_at hl 1 rfl) ?_
          obtain ⟨h_46, hok⟩ := hok
          refine hp_getR (ci := 7) (C := RX9) (T := TX9) (N := 12) hx hb hts iw_X9_cross_X9 hown hK hP h_46.1 (PF_7 h_46.2.1) rfl 6 (by decide) (hts _ (List.mem_of_getElem? (i := 2) rfl)) (fun _ h9 => h9) rfl h_46.2.2 dX9_cross_46 ?_
          refine lv_aload_n hx hb dX9_cross_49 rfl (lv_at hl 1 rfl) ?_
          obtain ⟨h_50, hok⟩ := hok
          refine hp_getR (ci := 7) (C := RX9) (T := TX9) (N := 12) hx hb hts iw_X9_cross_X9 hown hK hP h_50.1 (PF_7 h_50.2.1) rfl 2 (by decide) (hts _ (List.mem_of_getElem? (i := 3) rfl)) (fun _ h9 => h9) rfl h_50.2.2 dX9_cross_50 ?_
          refine lv_aload_n hx hb dX9_cross_53 rfl (lv_at hl 1 rfl) ?_
          obtain ⟨h_54, hok⟩ := hok
          refine hp_getR (ci := 7) (C := RX9) (T := TX9) (N := 12) hx hb hts iw_X9_cross_X9 hown hK hP h_54.1 (PF_7 h_54.2.1) rfl 8 (by decide) (hts _ (List.mem_of_getElem? (i := 1) rfl)) (fun _ h9 => h9) rfl h_54.2.2 dX9_cross_54 ?_
          refine lv_iload_n hx hb dX9_cross_57 rfl (lv_at hl 2 rfl) ?_
          obtain ⟨h_58, hok⟩ := hok
          refine hp_iald hx hb hK hP h_58.1 0 (PF_8 h_58.2.1) rfl h_58.2.2 dX9_cross_58 ?_
          obtain ⟨h_59, hok⟩ := hok
          refine hp_iald hx hb hK hP h_59.1 0 (PF_8 h_59.2.1) rfl h_59.2.2 dX9_cross_59 ?_
          refine lv_iload_n hx hb dX9_cross_60 rfl (lv_at hl 3 rfl) ?_
          refine lv_iadd hx hb dX9_cross_61 ?_
          obtain ⟨h_62, hok⟩ := hok
          refine hp_lald hx hb hK hP h_62.1 1 (PF_9 h_62.2.1) rfl h_62.2.2 dX9_cross_62 ?_
          refine lv_l2i (v := (hsJ (h_X9_begin x S) ((hsQ (h_X9_begin x S) x 6).getD 0) ((hsA (h_X9_begin x S) ((hsQ (h_X9_begin x S) x 2).getD 0) (hsA (h_X9_begin x S) ((hsQ (h_X9_begin x S) x 8).getD 0) p0.toNatClampNeg).toNatClampNeg) + p1).toNatClampNeg).toInt32) hx hb dX9_cross_63 rfl ?_
          refine lv_istore (lv' := [(5, .int ((hsJ (h_X9_begin x S) ((hsQ (h_X9_begin x S) x 6).getD 0) ((hsA (h_X9_begin x S) ((hsQ (h_X9_begin x S) x 2).getD 0) (hsA (h_X9_begin x S) ((hsQ (h_X9_begin x S) x 8).getD 0) p0.toNatClampNeg).toNatClampNeg) + p1).toNatClampNeg).toInt32)), (4, .int (h_X9_against x 7 (hsA (h_X9_begin x S) ((hsQ (h_X9_begin x S) x 8).getD 0) p0.toNatClampNeg) p1 (h_X9_begin x S))), (0, .ref x), (1, .int p0), (2, .int p1), (3, .int p2)]) hx hb dX9_cross_64 hl (by decide) rfl (fun ls hl => ?_)
          refine lv_aload_n hx hb dX9_cross_66 rfl (lv_at hl 2 rfl) ?_
          refine lv_iconst (v := 0) hx hb dX9_cross_67 (by decide) ?_
          refine lv_iload hx hb dX9_cross_68 (lv_at hl 0 rfl) ?_
          refine lv_iload_n hx hb dX9_cross_70 rfl (lv_at hl 5 rfl) ?_
          obtain ⟨h_71k, hok⟩ := hok
          obtain ⟨h_71, hok⟩ := hok
          refine hm_callIr (G := G) (S1 := h_X9_begin x S) (a := ([.ref x, .int 0, .int ((hsJ (h_X9_begin x S) ((hsQ (h_X9_begin x S) x 6).getD 0) ((hsA (h_X9_begin x S) ((hsQ (h_X9_begin x S) x 2).getD 0) (hsA (h_X9_begin x S) ((hsQ (h_X9_begin x S) x 8).getD 0) p0.toNatClampNeg).toNatClampNeg) + p1).toNatClampNeg).toInt32), .int p2] : List Value).toArray) (rest := []) (h_X9_against x 0 ((hsJ (h_X9_begin x S) ((hsQ (h_X9_begin x S) x 6).getD 0) ((hsA (h_X9_begin x S) ((hsQ (h_X9_begin x S) x 2).getD 0) (hsA (h_X9_begin x S) ((hsQ (h_X9_begin x S) x 8).getD 0) p0.toNatClampNeg).toNatClampNeg) + p1).toNatClampNeg).toInt32) p2 (h_X9_begin x S)) ?_ hS (fun H locs hP hS => ?_)
          ·
            exact va_runV (As := [.int 0, .int ((hsJ (h_X9_begin x S) ((hsQ (h_X9_begin x S) x 6).getD 0) ((hsA (h_X9_begin x S) ((hsQ (h_X9_begin x S) x 2).getD 0) (hsA (h_X9_begin x S) ((hsQ (h_X9_begin x S) x 8).getD 0) p0.toNatClampNeg).toNatClampNeg) + p1).toNatClampNeg).toInt32), .int p2]) (rest := []) ⟨hx, hb, hml, hown, hts⟩ (hm_X9_against l G L (h_X9_begin x S) x 0 ((hsJ (h_X9_begin x S) ((hsQ (h_X9_begin x S) x 6).getD 0) ((hsA (h_X9_begin x S) ((hsQ (h_X9_begin x S) x 2).getD 0) (hsA (h_X9_begin x S) ((hsQ (h_X9_begin x S) x 8).getD 0) p0.toNatClampNeg).toNatClampNeg) + p1).toNatClampNeg).toInt32) p2 h_71) (cwV 3 hts gX9_cross_X9_against rfl rfl rfl hdv_X9_against ⟨Nat.le_of_ble_eq_true rfl, Nat.le_of_ble_eq_true rfl⟩) ⟨HW.fb, hp_recv hK hP h_71k.1 (PF_7 h_71k.2) rfl, fun U hU hW => ⟨rfl, HW.call hP hK hnd hE hS U hU hW⟩⟩ rfl rfl hl.1 rfl (lv_room (Nat.le_of_ble_eq_true rfl)) dX9_cross_71 ⟨Nat.le_refl 0, Nat.le_refl 0⟩
          ·
            refine lv_istore (lv' := [(4, .int (h_X9_against x 0 ((hsJ (h_X9_begin x S) ((hsQ (h_X9_begin x S) x 6).getD 0) ((hsA (h_X9_begin x S) ((hsQ (h_X9_begin x S) x 2).getD 0) (hsA (h_X9_begin x S) ((hsQ (h_X9_begin x S) x 8).getD 0) p0.toNatClampNeg).toNatClampNeg) + p1).toNatClampNeg).toInt32) p2 (h_X9_begin x S))), (5, .int ((hsJ (h_X9_begin x S) ((hsQ (h_X9_begin x S) x 6).getD 0) ((hsA (h_X9_begin x S) ((hsQ (h_X9_begin x S) x 2).getD 0) (hsA (h_X9_begin x S) ((hsQ (h_X9_begin x S) x 8).getD 0) p0.toNatClampNeg).toNatClampNeg) + p1).toNatClampNeg).toInt32)), (0, .ref x), (1, .int p0), (2, .int p1), (3, .int p2)]) hx hb dX9_cross_74 hl (by decide) rfl (fun ls hl => ?_)
            refine lv_iload hx hb dX9_cross_76 (lv_at hl 0 rfl) ?_
            refine lv_if_le (tgt := 90) hx hb dX9_cross_78 (by decide) (fun c_78 => ?_) (fun c_78 => ?_)
            ·
              have hok := (hok).1 c_78
              refine lv_aload_n hx hb dX9_cross_90 rfl (lv_at hl 2 rfl) ?_
              obtain ⟨h_91, hok⟩ := hok
              refine hp_getR (ci := 7) (C := RX9) (T := TX9) (N := 12) hx hb hts iw_X9_cross_X9 hown hK hP h_91.1 (PF_7 h_91.2.1) rfl 4 (by decide) (hts _ (List.mem_of_getElem? (i := 4) rfl)) (fun _ h9 => h9) rfl h_91.2.2 dX9_cross_91 ?_
              refine lv_aload_n hx hb dX9_cross_94 rfl (lv_at hl 2 rfl) ?_
              obtain ⟨h_95, hok⟩ := hok
              refine hp_getR (ci := 7) (C := RX9) (T := TX9) (N := 12) hx hb hts iw_X9_cross_X9 hown hK hP h_95.1 (PF_7 h_95.2.1) rfl 2 (by decide) (hts _ (List.mem_of_getElem? (i := 3) rfl)) (fun _ h9 => h9) rfl h_95.2.2 dX9_cross_95 ?_
              refine lv_iload hx hb dX9_cross_98 (lv_at hl 1 rfl) ?_
              obtain ⟨h_100, hok⟩ := hok
              refine hp_iald hx hb hK hP h_100.1 0 (PF_8 h_100.2.1) rfl h_100.2.2 dX9_cross_100 ?_
              refine lv_iload_n hx hb dX9_cross_101 rfl (lv_at hl 5 rfl) ?_
              refine lv_iadd hx hb dX9_cross_102 ?_
              obtain ⟨h_103, hok⟩ := hok
              refine hp_iald hx hb hK hP h_103.1 0 (PF_8 h_103.2.1) rfl h_103.2.2 dX9_cross_103 ?_
              rw [hZ]
              exact hm_iret hx hb hr hlocks hS hP hK hnd hE (((if_neg c_8).trans ((if_pos c_35).trans (if_pos c_78)))) dX9_cross_104
            ·
              have hok := (hok).2 c_78
              refine lv_aload_n hx hb dX9_cross_81 rfl (lv_at hl 2 rfl) ?_
              refine lv_iload hx hb dX9_cross_82 (lv_at hl 0 rfl) ?_
              obtain ⟨h_84k, hok⟩ := hok
              obtain ⟨h_84, hok⟩ := hok
              refine hm_callI (G := G) (a := ([.ref x, .int (h_X9_against x 0 ((hsJ (h_X9_begin x S) ((hsQ (h_X9_begin x S) x 6).getD 0) ((hsA (h_X9_begin x S) ((hsQ (h_X9_begin x S) x 2).getD 0) (hsA (h_X9_begin x S) ((hsQ (h_X9_begin x S) x 8).getD 0) p0.toNatClampNeg).toNatClampNeg) + p1).toNatClampNeg).toInt32) p2 (h_X9_begin x S))] : List Value).toArray) (pr := (h_X9_fails x (h_X9_against x 0 ((hsJ (h_X9_begin x S) ((hsQ (h_X9_begin x S) x 6).getD 0) ((hsA (h_X9_begin x S) ((hsQ (h_X9_begin x S) x 2).getD 0) (hsA (h_X9_begin x S) ((hsQ (h_X9_begin x S) x 8).getD 0) p0.toNatClampNeg).toNatClampNeg) + p1).toNatClampNeg).toInt32) p2 (h_X9_begin x S)) (h_X9_begin x S))) (rest := []) ?_ hS (fun H locs hP hS => ?_)
              ·
                exact va_runV (As := [.int (h_X9_against x 0 ((hsJ (h_X9_begin x S) ((hsQ (h_X9_begin x S) x 6).getD 0) ((hsA (h_X9_begin x S) ((hsQ (h_X9_begin x S) x 2).getD 0) (hsA (h_X9_begin x S) ((hsQ (h_X9_begin x S) x 8).getD 0) p0.toNatClampNeg).toNatClampNeg) + p1).toNatClampNeg).toInt32) p2 (h_X9_begin x S))]) (rest := []) ⟨hx, hb, hml, hown, hts⟩ (hm_X9_fails l G L (h_X9_begin x S) x (h_X9_against x 0 ((hsJ (h_X9_begin x S) ((hsQ (h_X9_begin x S) x 6).getD 0) ((hsA (h_X9_begin x S) ((hsQ (h_X9_begin x S) x 2).getD 0) (hsA (h_X9_begin x S) ((hsQ (h_X9_begin x S) x 8).getD 0) p0.toNatClampNeg).toNatClampNeg) + p1).toNatClampNeg).toInt32) p2 (h_X9_begin x S)) h_84) (cwV 1 hts gX9_cross_X9_fails rfl rfl rfl hdv_X9_fails ⟨Nat.le_of_ble_eq_true rfl, Nat.le_of_ble_eq_true rfl⟩) ⟨HW.fb, hp_recv hK hP h_84k.1 (PF_7 h_84k.2) rfl, fun U hU hW => ⟨rfl, HW.call hP hK hnd hE hS U hU hW⟩⟩ rfl rfl hl.1 rfl (lv_room (Nat.le_of_ble_eq_true rfl)) dX9_cross_84 ⟨Nat.le_refl 0, Nat.le_refl 0⟩
              ·
                refine lv_goto (tgt := 104) hx hb dX9_cross_87 (by decide) ?_
                rw [hZ]
                exact hm_iret hx hb hr hlocks hS hP hK hnd hE (((if_neg c_8).trans ((if_pos c_35).trans (if_neg c_78)))) dX9_cross_104
        ·
          have hok := (hok).2 c_35
          refine lv_aload_n hx hb dX9_cross_38 rfl (lv_at hl 1 rfl) ?_
          refine lv_iload hx hb dX9_cross_39 (lv_at hl 0 rfl) ?_
          obtain ⟨h_41k, hok⟩ := hok
          obtain ⟨h_41, hok⟩ := hok
          refine hm_callI (G := G) (a := ([.ref x, .int (h_X9_against x 7 (hsA (h_X9_begin x S) ((hsQ (h_X9_begin x S) x 8).getD 0) p0.toNatClampNeg) p1 (h_X9_begin x S))] : List Value).toArray) (pr := (h_X9_fails x (h_X9_against x 7 (hsA (h_X9_begin x S) ((hsQ (h_X9_begin x S) x 8).getD 0) p0.toNatClampNeg) p1 (h_X9_begin x S)) (h_X9_begin x S))) (rest := []) ?_ hS (fun H locs hP hS => ?_)
          ·
            exact va_runV (As := [.int (h_X9_against x 7 (hsA (h_X9_begin x S) ((hsQ (h_X9_begin x S) x 8).getD 0) p0.toNatClampNeg) p1 (h_X9_begin x S))]) (rest := []) ⟨hx, hb, hml, hown, hts⟩ (hm_X9_fails l G L (h_X9_begin x S) x (h_X9_against x 7 (hsA (h_X9_begin x S) ((hsQ (h_X9_begin x S) x 8).getD 0) p0.toNatClampNeg) p1 (h_X9_begin x S)) h_41) (cwV 1 hts gX9_cross_X9_fails rfl rfl rfl hdv_X9_fails ⟨Nat.le_of_ble_eq_true rfl, Nat.le_of_ble_eq_true rfl⟩) ⟨HW.fb, hp_recv hK hP h_41k.1 (PF_7 h_41k.2) rfl, fun U hU hW => ⟨rfl, HW.call hP hK hnd hE hS U hU hW⟩⟩ rfl rfl hl.1 rfl (lv_room (Nat.le_of_ble_eq_true rfl)) dX9_cross_41 ⟨Nat.le_refl 0, Nat.le_refl 0⟩
          ·
            rw [hZ]
            exact hm_iret hx hb hr hlocks hS hP hK hnd hE (((if_neg c_8).trans (if_neg c_35))) dX9_cross_44
    ·
      have hok := (hok).1 c_8
      refine lv_aload_n hx hb dX9_cross_11 rfl (lv_at hl 0 rfl) ?_
      refine lv_bipush (v := 8) hx hb dX9_cross_12 (by decide) ?_
      obtain ⟨h_14k, hok⟩ := hok
      obtain ⟨h_14, hok⟩ := hok
      refine hm_callI (G := G) (a := ([.ref x, .int 8] : List Value).toArray) (pr := (h_X9_fails x 8 (h_X9_begin x S))) (rest := []) ?_ hS (fun H locs hP hS => ?_)
      ·
        exact va_runV (As := [.int 8]) (rest := []) ⟨hx, hb, hml, hown, hts⟩ (hm_X9_fails l G L (h_X9_begin x S) x 8 h_14) (cwV 1 hts gX9_cross_X9_fails rfl rfl rfl hdv_X9_fails ⟨Nat.le_of_ble_eq_true rfl, Nat.le_of_ble_eq_true rfl⟩) ⟨HW.fb, hp_recv hK hP h_14k.1 (PF_7 h_14k.2) rfl, fun U hU hW => ⟨rfl, HW.call hP hK hnd hE hS U hU hW⟩⟩ rfl rfl hl.1 rfl (lv_room (Nat.le_of_ble_eq_true rfl)) dX9_cross_14 ⟨Nat.le_refl 0, Nat.le_refl 0⟩
      ·
        rw [hZ]
        exact hm_iret hx hb hr hlocks hS hP hK hnd hE ((if_pos c_8)) dX9_cross_17
theorem hdv_X9_copy : yX9_copy.cls = RX9 ∧ yX9_copy.cls ≠ "java/lang/invoke/MethodHandle" ∧ yX9_copy.cls ≠ "java/lang/invoke/VarHandle" ∧ (parseMethodDescriptor yX9_copy.desc).map (fun d => d.parameters.length) = some 5 := by decide +kernel
theorem iw_X9_copy_X9 : ∀ w ∈ u_ws RX9 TX9 12, w ∈ wsX9_copy := by decide +kernel
def h_X9_copy_l217 (x : Nat) (p0 : Int32) (p1 : Int32) (p2 : Int32) (p3 : Int32) (p4 : Int32) (S : HS) : Nat → Int32 → HS → Int32 × HS
  | 0, _, _ => (0, S)
  | n + 1, y_217_8, S_217 =>
  if p4 ≤ y_217_8 then (1, S_217)
  else if (s_X9_isFamily (hsA S_217 ((hsQ S_217 x 0).getD 0) (hsA (h_X9_begin x S) ((hsQ (h_X9_begin x S) x 8).getD 0) p2.toNatClampNeg).toNatClampNeg)) = 0 then h_X9_copy_l217 x p0 p1 p2 p3 p4 S n (y_217_8 + 1) (h_X9_set x (hsA (h_X9_begin x S) ((hsQ (h_X9_begin x S) x 8).getD 0) p2.toNatClampNeg) (p3 + y_217_8) (h_X9_element x (hsA (h_X9_begin x S) ((hsQ (h_X9_begin x S) x 8).getD 0) p0.toNatClampNeg) (p1 + y_217_8) S_217) S_217)
   else if (h_X9_passes x ((h_X9_element x (hsA (h_X9_begin x S) ((hsQ (h_X9_begin x S) x 8).getD 0) p0.toNatClampNeg) (p1 + y_217_8) S_217).toInt32) (s_X9_elementType (hsA S_217 ((hsQ S_217 x 0).getD 0) (hsA (h_X9_begin x S) ((hsQ (h_X9_begin x S) x 8).getD 0) p2.toNatClampNeg).toNatClampNeg)) S_217) = 0 then ((h_X9_fails x 5 S_217).1, (h_X9_fails x 5 S_217).2)
    else h_X9_copy_l217 x p0 p1 p2 p3 p4 S n (y_217_8 + 1) (h_X9_set x (hsA (h_X9_begin x S) ((hsQ (h_X9_begin x S) x 8).getD 0) p2.toNatClampNeg) (p3 + y_217_8) (h_X9_element x (hsA (h_X9_begin x S) ((hsQ (h_X9_begin x S) x 8).getD 0) p0.toNatClampNeg) (p1 + y_217_8) S_217) S_217)
def ok_X9_copy_l217 (L : List Nat) (x : Nat) (p0 : Int32) (p1 : Int32) (p2 : Int32) (p3 : Int32) (p4 : Int32) (S : HS) : Nat → Int32 → HS → Prop
  | 0, _, _ => False
  | n + 1, y_217_8, S_217 =>
  ((p4 ≤ y_217_8) → (True)) ∧
  (¬ (p4 ≤ y_217_8) → ((x ∈ L ∧ hsK S_217 x = 7) ∧ ((ok_X9_element L x (hsA (h_X9_begin x S) ((hsQ (h_X9_begin x S) x 8).getD 0) p0.toNatClampNeg) (p1 + y_217_8) S_217) ∧ ((x ∈ L ∧ hsK S_217 x = 7 ∧ hsQ S_217 x 0 ≠ none) ∧ ((((hsQ S_217 x 0).getD 0) ∈ L ∧ hsK S_217 ((hsQ S_217 x 0).getD 0) = 8 ∧ vp_in (hsA (h_X9_begin x S) ((hsQ (h_X9_begin x S) x 8).getD 0) p2.toNatClampNeg) (hsN S_217 ((hsQ S_217 x 0).getD 0))) ∧ ((((s_X9_isFamily (hsA S_217 ((hsQ S_217 x 0).getD 0) (hsA (h_X9_begin x S) ((hsQ (h_X9_begin x S) x 8).getD 0) p2.toNatClampNeg).toNatClampNeg)) = 0) → ((x ∈ L ∧ hsK S_217 x = 7) ∧ ((ok_X9_set L x (hsA (h_X9_begin x S) ((hsQ (h_X9_begin x S) x 8).getD 0) p2.toNatClampNeg) (p3 + y_217_8) (h_X9_element x (hsA (h_X9_begin x S) ((hsQ (h_X9_begin x S) x 8).getD 0) p0.toNatClampNeg) (p1 + y_217_8) S_217) S_217) ∧ (ok_X9_copy_l217 L x p0 p1 p2 p3 p4 S n (y_217_8 + 1) (h_X9_set x (hsA (h_X9_begin x S) ((hsQ (h_X9_begin x S) x 8).getD 0) p2.toNatClampNeg) (p3 + y_217_8) (h_X9_element x (hsA (h_X9_begin x S) ((hsQ (h_X9_begin x S) x 8).getD 0) p0.toNatClampNeg) (p1 + y_217_8) S_217) S_217))))) ∧
   (¬ ((s_X9_isFamily (hsA S_217 ((hsQ S_217 x 0).getD 0) (hsA (h_X9_begin x S) ((hsQ (h_X9_begin x S) x 8).getD 0) p2.toNatClampNeg).toNatClampNeg)) = 0) → ((x ∈ L ∧ hsK S_217 x = 7 ∧ hsQ S_217 x 0 ≠ none) ∧ ((((hsQ S_217 x 0).getD 0) ∈ L ∧ hsK S_217 ((hsQ S_217 x 0).getD 0) = 8 ∧ vp_in (hsA (h_X9_begin x S) ((hsQ (h_X9_begin x S) x 8).getD 0) p2.toNatClampNeg) (hsN S_217 ((hsQ S_217 x 0).getD 0))) ∧ ((x ∈ L ∧ hsK S_217 x = 7) ∧ ((ok_X9_passes L x ((h_X9_element x (hsA (h_X9_begin x S) ((hsQ (h_X9_begin x S) x 8).getD 0) p0.toNatClampNeg) (p1 + y_217_8) S_217).toInt32) (s_X9_elementType (hsA S_217 ((hsQ S_217 x 0).getD 0) (hsA (h_X9_begin x S) ((hsQ (h_X9_begin x S) x 8).getD 0) p2.toNatClampNeg).toNatClampNeg)) S_217) ∧ ((((h_X9_passes x ((h_X9_element x (hsA (h_X9_begin x S) ((hsQ (h_X9_begin x S) x 8).getD 0) p0.toNatClampNeg) (p1 + y_217_8) S_217).toInt32) (s_X9_elementType (hsA S_217 ((hsQ S_217 x 0).getD 0) (hsA (h_X9_begin x S) ((hsQ (h_X9_begin x S) x 8).getD 0) p2.toNatClampNeg).toNatClampNeg)) S_217) = 0) → ((x ∈ L ∧ hsK S_217 x = 7) ∧ ((ok_X9_fails L x 5 S_217) ∧ (True)))) ∧
    (¬ ((h_X9_passes x ((h_X9_element x (hsA (h_X9_begin x S) ((hsQ (h_X9_begin x S) x 8).getD 0) p0.toNatClampNeg) (p1 + y_217_8) S_217).toInt32) (s_X9_elementType (hsA S_217 ((hsQ S_217 x 0).getD 0) (hsA (h_X9_begin x S) ((hsQ (h_X9_begin x S) x 8).getD 0) p2.toNatClampNeg).toNatClampNeg)) S_217) = 0) → ((x ∈ L ∧ hsK S_217 x = 7) ∧ ((ok_X9_set L x (hsA (h_X9_begin x S) ((hsQ (h_X9_begin x S) x 8).getD 0) p2.toNatClampNeg) (p3 + y_217_8) (h_X9_element x (hsA (h_X9_begin x S) ((hsQ (h_X9_begin x S) x 8).getD 0) p0.toNatClampNeg) (p1 + y_217_8) S_217) S_217) ∧ (ok_X9_copy_l217 L x p0 p1 p2 p3 p4 S n (y_217_8 + 1) (h_X9_set x (hsA (h_X9_begin x S) ((hsQ (h_X9_begin x S) x 8).getD 0) p2.toNatClampNeg) (p3 + y_217_8) (h_X9_element x (hsA (h_X9_begin x S) ((hsQ (h_X9_begin x S) x 8).getD 0) p0.toNatClampNeg) (p1 + y_217_8) S_217) S_217)))))))))))))))))
def h_X9_copy_l217a (x : Nat) (p0 : Int32) (p1 : Int32) (p2 : Int32) (p3 : Int32) (p4 : Int32) (S : HS) : Nat → Int32 → HS → Int32 × HS
  | 0, _, _ => (0, S)
  | n + 1, y_217_8, S_217 =>
  if p4 ≤ y_217_8 then (1, S_217)
  else if (s_X9_isFamily (hsA S_217 ((hsQ S_217 x 0).getD 0) (hsA (h_X9_begin x S) ((hsQ (h_X9_begin x S) x 8).getD 0) p2.toNatClampNeg).toNatClampNeg)) = 0 then h_X9_copy_l217a x p0 p1 p2 p3 p4 S n (y_217_8 + 1) (h_X9_set x (hsA (h_X9_begin x S) ((hsQ (h_X9_begin x S) x 8).getD 0) p2.toNatClampNeg) (p3 + y_217_8) (h_X9_element x (hsA (h_X9_begin x S) ((hsQ (h_X9_begin x S) x 8).getD 0) p0.toNatClampNeg) (p1 + y_217_8) S_217) S_217)
   else if (h_X9_passes x ((h_X9_element x (hsA (h_X9_begin x S) ((hsQ (h_X9_begin x S) x 8).getD 0) p0.toNatClampNeg) (p1 + y_217_8) S_217).toInt32) (s_X9_elementType (hsA S_217 ((hsQ S_217 x 0).getD 0) (hsA (h_X9_begin x S) ((hsQ (h_X9_begin x S) x 8).getD 0) p2.toNatClampNeg).toNatClampNeg)) S_217) = 0 then ((h_X9_fails x 5 S_217).1, (h_X9_fails x 5 S_217).2)
    else h_X9_copy_l217a x p0 p1 p2 p3 p4 S n (y_217_8 + 1) (h_X9_set x (hsA (h_X9_begin x S) ((hsQ (h_X9_begin x S) x 8).getD 0) p2.toNatClampNeg) (p3 + y_217_8) (h_X9_element x (hsA (h_X9_begin x S) ((hsQ (h_X9_begin x S) x 8).getD 0) p0.toNatClampNeg) (p1 + y_217_8) S_217) S_217)
def ok_X9_copy_l217a (L : List Nat) (x : Nat) (p0 : Int32) (p1 : Int32) (p2 : Int32) (p3 : Int32) (p4 : Int32) (S : HS) : Nat → Int32 → HS → Prop
  | 0, _, _ => False
  | n + 1, y_217_8, S_217 =>
  ((p4 ≤ y_217_8) → (True)) ∧
  (¬ (p4 ≤ y_217_8) → ((x ∈ L ∧ hsK S_217 x = 7) ∧ ((ok_X9_element L x (hsA (h_X9_begin x S) ((hsQ (h_X9_begin x S) x 8).getD 0) p0.toNatClampNeg) (p1 + y_217_8) S_217) ∧ ((x ∈ L ∧ hsK S_217 x = 7 ∧ hsQ S_217 x 0 ≠ none) ∧ ((((hsQ S_217 x 0).getD 0) ∈ L ∧ hsK S_217 ((hsQ S_217 x 0).getD 0) = 8 ∧ vp_in (hsA (h_X9_begin x S) ((hsQ (h_X9_begin x S) x 8).getD 0) p2.toNatClampNeg) (hsN S_217 ((hsQ S_217 x 0).getD 0))) ∧ ((((s_X9_isFamily (hsA S_217 ((hsQ S_217 x 0).getD 0) (hsA (h_X9_begin x S) ((hsQ (h_X9_begin x S) x 8).getD 0) p2.toNatClampNeg).toNatClampNeg)) = 0) → ((x ∈ L ∧ hsK S_217 x = 7) ∧ ((ok_X9_set L x (hsA (h_X9_begin x S) ((hsQ (h_X9_begin x S) x 8).getD 0) p2.toNatClampNeg) (p3 + y_217_8) (h_X9_element x (hsA (h_X9_begin x S) ((hsQ (h_X9_begin x S) x 8).getD 0) p0.toNatClampNeg) (p1 + y_217_8) S_217) S_217) ∧ (ok_X9_copy_l217a L x p0 p1 p2 p3 p4 S n (y_217_8 + 1) (h_X9_set x (hsA (h_X9_begin x S) ((hsQ (h_X9_begin x S) x 8).getD 0) p2.toNatClampNeg) (p3 + y_217_8) (h_X9_element x (hsA (h_X9_begin x S) ((hsQ (h_X9_begin x S) x 8).getD 0) p0.toNatClampNeg) (p1 + y_217_8) S_217) S_217))))) ∧
   (¬ ((s_X9_isFamily (hsA S_217 ((hsQ S_217 x 0).getD 0) (hsA (h_X9_begin x S) ((hsQ (h_X9_begin x S) x 8).getD 0) p2.toNatClampNeg).toNatClampNeg)) = 0) → ((x ∈ L ∧ hsK S_217 x = 7 ∧ hsQ S_217 x 0 ≠ none) ∧ ((((hsQ S_217 x 0).getD 0) ∈ L ∧ hsK S_217 ((hsQ S_217 x 0).getD 0) = 8 ∧ vp_in (hsA (h_X9_begin x S) ((hsQ (h_X9_begin x S) x 8).getD 0) p2.toNatClampNeg) (hsN S_217 ((hsQ S_217 x 0).getD 0))) ∧ ((x ∈ L ∧ hsK S_217 x = 7) ∧ ((ok_X9_passes L x ((h_X9_element x (hsA (h_X9_begin x S) ((hsQ (h_X9_begin x S) x 8).getD 0) p0.toNatClampNeg) (p1 + y_217_8) S_217).toInt32) (s_X9_elementType (hsA S_217 ((hsQ S_217 x 0).getD 0) (hsA (h_X9_begin x S) ((hsQ (h_X9_begin x S) x 8).getD 0) p2.toNatClampNeg).toNatClampNeg)) S_217) ∧ ((((h_X9_passes x ((h_X9_element x (hsA (h_X9_begin x S) ((hsQ (h_X9_begin x S) x 8).getD 0) p0.toNatClampNeg) (p1 + y_217_8) S_217).toInt32) (s_X9_elementType (hsA S_217 ((hsQ S_217 x 0).getD 0) (hsA (h_X9_begin x S) ((hsQ (h_X9_begin x S) x 8).getD 0) p2.toNatClampNeg).toNatClampNeg)) S_217) = 0) → ((x ∈ L ∧ hsK S_217 x = 7) ∧ ((ok_X9_fails L x 5 S_217) ∧ (True)))) ∧
    (¬ ((h_X9_passes x ((h_X9_element x (hsA (h_X9_begin x S) ((hsQ (h_X9_begin x S) x 8).getD 0) p0.toNatClampNeg) (p1 + y_217_8) S_217).toInt32) (s_X9_elementType (hsA S_217 ((hsQ S_217 x 0).getD 0) (hsA (h_X9_begin x S) ((hsQ (h_X9_begin x S) x 8).getD 0) p2.toNatClampNeg).toNatClampNeg)) S_217) = 0) → ((x ∈ L ∧ hsK S_217 x = 7) ∧ ((ok_X9_set L x (hsA (h_X9_begin x S) ((hsQ (h_X9_begin x S) x 8).getD 0) p2.toNatClampNeg) (p3 + y_217_8) (h_X9_element x (hsA (h_X9_begin x S) ((hsQ (h_X9_begin x S) x 8).getD 0) p0.toNatClampNeg) (p1 + y_217_8) S_217) S_217) ∧ (ok_X9_copy_l217a L x p0 p1 p2 p3 p4 S n (y_217_8 + 1) (h_X9_set x (hsA (h_X9_begin x S) ((hsQ (h_X9_begin x S) x 8).getD 0) p2.toNatClampNeg) (p3 + y_217_8) (h_X9_element x (hsA (h_X9_begin x S) ((hsQ (h_X9_begin x S) x 8).getD 0) p0.toNatClampNeg) (p1 + y_217_8) S_217) S_217)))))))))))))))))
def h_X9_copy_l180 (x : Nat) (p0 : Int32) (p1 : Int32) (p2 : Int32) (p3 : Int32) (p4 : Int32) (S : HS) : Nat → Int32 → HS → Int32 × HS
  | 0, _, _ => (0, S)
  | n + 1, y_180_8, S_180 =>
  if y_180_8 < 0 then (1, S_180)
  else h_X9_copy_l180 x p0 p1 p2 p3 p4 S n (y_180_8 + (-1)) (h_X9_set x (hsA (h_X9_begin x S) ((hsQ (h_X9_begin x S) x 8).getD 0) p2.toNatClampNeg) (p3 + y_180_8) (h_X9_element x (hsA (h_X9_begin x S) ((hsQ (h_X9_begin x S) x 8).getD 0) p0.toNatClampNeg) (p1 + y_180_8) S_180) S_180)
def ok_X9_copy_l180 (L : List Nat) (x : Nat) (p0 : Int32) (p1 : Int32) (p2 : Int32) (p3 : Int32) (p4 : Int32) (S : HS) : Nat → Int32 → HS → Prop
  | 0, _, _ => False
  | n + 1, y_180_8, S_180 =>
  ((y_180_8 < 0) → (True)) ∧
  (¬ (y_180_8 < 0) → ((x ∈ L ∧ hsK S_180 x = 7) ∧ ((ok_X9_element L x (hsA (h_X9_begin x S) ((hsQ (h_X9_begin x S) x 8).getD 0) p0.toNatClampNeg) (p1 + y_180_8) S_180) ∧ ((x ∈ L ∧ hsK S_180 x = 7) ∧ ((ok_X9_set L x (hsA (h_X9_begin x S) ((hsQ (h_X9_begin x S) x 8).getD 0) p2.toNatClampNeg) (p3 + y_180_8) (h_X9_element x (hsA (h_X9_begin x S) ((hsQ (h_X9_begin x S) x 8).getD 0) p0.toNatClampNeg) (p1 + y_180_8) S_180) S_180) ∧ (ok_X9_copy_l180 L x p0 p1 p2 p3 p4 S n (y_180_8 + (-1)) (h_X9_set x (hsA (h_X9_begin x S) ((hsQ (h_X9_begin x S) x 8).getD 0) p2.toNatClampNeg) (p3 + y_180_8) (h_X9_element x (hsA (h_X9_begin x S) ((hsQ (h_X9_begin x S) x 8).getD 0) p0.toNatClampNeg) (p1 + y_180_8) S_180) S_180)))))))
def h_X9_copy_j130 (x : Nat) (p0 : Int32) (p1 : Int32) (p2 : Int32) (p3 : Int32) (p4 : Int32) (S : HS) : Int32 × HS :=
  if (h_X9_isBeyond x (hsA (h_X9_begin x S) ((hsQ (h_X9_begin x S) x 8).getD 0) p0.toNatClampNeg) p1 p4 (h_X9_begin x S)) = 0 then if (h_X9_isBeyond x (hsA (h_X9_begin x S) ((hsQ (h_X9_begin x S) x 8).getD 0) p2.toNatClampNeg) p3 p4 (h_X9_begin x S)) = 0 then if (hsA (h_X9_begin x S) ((hsQ (h_X9_begin x S) x 8).getD 0) p0.toNatClampNeg) = (hsA (h_X9_begin x S) ((hsQ (h_X9_begin x S) x 8).getD 0) p2.toNatClampNeg) then if p3 ≤ p1 then h_X9_copy_l217a x p0 p1 p2 p3 p4 S 100 0 (h_X9_begin x S)
     else h_X9_copy_l180 x p0 p1 p2 p3 p4 S 100 (p4 - 1) (h_X9_begin x S)
    else h_X9_copy_l217 x p0 p1 p2 p3 p4 S 100 0 (h_X9_begin x S)
   else ((h_X9_fails x 2 (h_X9_begin x S)).1, (h_X9_fails x 2 (h_X9_begin x S)).2)
  else ((h_X9_fails x 2 (h_X9_begin x S)).1, (h_X9_fails x 2 (h_X9_begin x S)).2)
def ok_X9_copy_j130 (L : List Nat) (x : Nat) (p0 : Int32) (p1 : Int32) (p2 : Int32) (p3 : Int32) (p4 : Int32) (S : HS) : Prop :=
  (x ∈ L ∧ hsK (h_X9_begin x S) x = 7) ∧ ((ok_X9_isBeyond L x (hsA (h_X9_begin x S) ((hsQ (h_X9_begin x S) x 8).getD 0) p0.toNatClampNeg) p1 p4 (h_X9_begin x S)) ∧ ((((h_X9_isBeyond x (hsA (h_X9_begin x S) ((hsQ (h_X9_begin x S) x 8).getD 0) p0.toNatClampNeg) p1 p4 (h_X9_begin x S)) = 0) → ((x ∈ L ∧ hsK (h_X9_begin x S) x = 7) ∧ ((ok_X9_isBeyond L x (hsA (h_X9_begin x S) ((hsQ (h_X9_begin x S) x 8).getD 0) p2.toNatClampNeg) p3 p4 (h_X9_begin x S)) ∧ ((((h_X9_isBeyond x (hsA (h_X9_begin x S) ((hsQ (h_X9_begin x S) x 8).getD 0) p2.toNatClampNeg) p3 p4 (h_X9_begin x S)) = 0) → ((((hsA (h_X9_begin x S) ((hsQ (h_X9_begin x S) x 8).getD 0) p0.toNatClampNeg) = (hsA (h_X9_begin x S) ((hsQ (h_X9_begin x S) x 8).getD 0) p2.toNatClampNeg)) → (((p3 ≤ p1) → (ok_X9_copy_l217a L x p0 p1 p2 p3 p4 S 100 0 (h_X9_begin x S))) ∧
     (¬ (p3 ≤ p1) → (ok_X9_copy_l180 L x p0 p1 p2 p3 p4 S 100 (p4 - 1) (h_X9_begin x S))))) ∧
    (¬ ((hsA (h_X9_begin x S) ((hsQ (h_X9_begin x S) x 8).getD 0) p0.toNatClampNeg) = (hsA (h_X9_begin x S) ((hsQ (h_X9_begin x S) x 8).getD 0) p2.toNatClampNeg)) → (ok_X9_copy_l217 L x p0 p1 p2 p3 p4 S 100 0 (h_X9_begin x S))))) ∧
   (¬ ((h_X9_isBeyond x (hsA (h_X9_begin x S) ((hsQ (h_X9_begin x S) x 8).getD 0) p2.toNatClampNeg) p3 p4 (h_X9_begin x S)) = 0) → ((x ∈ L ∧ hsK (h_X9_begin x S) x = 7) ∧ ((ok_X9_fails L x 2 (h_X9_begin x S)) ∧ (True)))))))) ∧
  (¬ ((h_X9_isBeyond x (hsA (h_X9_begin x S) ((hsQ (h_X9_begin x S) x 8).getD 0) p0.toNatClampNeg) p1 p4 (h_X9_begin x S)) = 0) → ((x ∈ L ∧ hsK (h_X9_begin x S) x = 7) ∧ ((ok_X9_fails L x 2 (h_X9_begin x S)) ∧ (True))))))
def h_X9_copy (x : Nat) (p0 : Int32) (p1 : Int32) (p2 : Int32) (p3 : Int32) (p4 : Int32) (S : HS) : Int32 × HS :=
  if (s_X9_isCell p0) = 0 then ((h_X9_fails x 8 (h_X9_begin x S)).1, (h_X9_fails x 8 (h_X9_begin x S)).2)
  else if (s_X9_isCell p2) = 0 then ((h_X9_fails x 8 (h_X9_begin x S)).1, (h_X9_fails x 8 (h_X9_begin x S)).2)
   else if (hsA (h_X9_begin x S) ((hsQ (h_X9_begin x S) x 8).getD 0) p0.toNatClampNeg) = 0 then ((h_X9_fails x 1 (h_X9_begin x S)).1, (h_X9_fails x 1 (h_X9_begin x S)).2)
    else if (hsA (h_X9_begin x S) ((hsQ (h_X9_begin x S) x 8).getD 0) p2.toNatClampNeg) = 0 then ((h_X9_fails x 1 (h_X9_begin x S)).1, (h_X9_fails x 1 (h_X9_begin x S)).2)
     else if 9 < (hsA (h_X9_begin x S) ((hsQ (h_X9_begin x S) x 0).getD 0) (hsA (h_X9_begin x S) ((hsQ (h_X9_begin x S) x 8).getD 0) p0.toNatClampNeg).toNatClampNeg) then ((h_X9_fails x 5 (h_X9_begin x S)).1, (h_X9_fails x 5 (h_X9_begin x S)).2)
      else if 9 < (hsA (h_X9_begin x S) ((hsQ (h_X9_begin x S) x 0).getD 0) (hsA (h_X9_begin x S) ((hsQ (h_X9_begin x S) x 8).getD 0) p2.toNatClampNeg).toNatClampNeg) then ((h_X9_fails x 5 (h_X9_begin x S)).1, (h_X9_fails x 5 (h_X9_begin x S)).2)
       else if (hsA (h_X9_begin x S) ((hsQ (h_X9_begin x S) x 0).getD 0) (hsA (h_X9_begin x S) ((hsQ (h_X9_begin x S) x 8).getD 0) p0.toNatClampNeg).toNatClampNeg) = (hsA (h_X9_begin x S) ((hsQ (h_X9_begin x S) x 0).getD 0) (hsA (h_X9_begin x S) ((hsQ (h_X9_begin x S) x 8).getD 0) p2.toNatClampNeg).toNatClampNeg) then h_X9_copy_j130 x p0 p1 p2 p3 p4 S
        else if (s_X9_isFamily (hsA (h_X9_begin x S) ((hsQ (h_X9_begin x S) x 0).getD 0) (hsA (h_X9_begin x S) ((hsQ (h_X9_begin x S) x 8).getD 0) p0.toNatClampNeg).toNatClampNeg)) = 0 then ((h_X9_fails x 5 (h_X9_begin x S)).1, (h_X9_fails x 5 (h_X9_begin x S)).2)
         else if (s_X9_isFamily (hsA (h_X9_begin x S) ((hsQ (h_X9_begin x S) x 0).getD 0) (hsA (h_X9_begin x S) ((hsQ (h_X9_begin x S) x 8).getD 0) p2.toNatClampNeg).toNatClampNeg)) = 0 then ((h_X9_fails x 5 (h_X9_begin x S)).1, (h_X9_fails x 5 (h_X9_begin x S)).2)
          else h_X9_copy_j130 x p0 p1 p2 p3 p4 S
def ok_X9_copy (L : List Nat) (x : Nat) (p0 : Int32) (p1 : Int32) (p2 : Int32) (p3 : Int32) (p4 : Int32) (S : HS) : Prop :=
  (x ∈ L ∧ hsK S x = 7) ∧ ((ok_X9_begin L x S) ∧ ((((s_X9_isCell p0) = 0) → ((x ∈ L ∧ hsK (h_X9_begin x S) x = 7) ∧ ((ok_X9_fails L x 8 (h_X9_begin x S)) ∧ (True)))) ∧
  (¬ ((s_X9_isCell p0) = 0) → ((((s_X9_isCell p2) = 0) → ((x ∈ L ∧ hsK (h_X9_begin x S) x = 7) ∧ ((ok_X9_fails L x 8 (h_X9_begin x S)) ∧ (True)))) ∧
   (¬ ((s_X9_isCell p2) = 0) → ((x ∈ L ∧ hsK (h_X9_begin x S) x = 7 ∧ hsQ (h_X9_begin x S) x 8 ≠ none) ∧ ((((hsQ (h_X9_begin x S) x 8).getD 0) ∈ L ∧ hsK (h_X9_begin x S) ((hsQ (h_X9_begin x S) x 8).getD 0) = 8 ∧ vp_in p0 (hsN (h_X9_begin x S) ((hsQ (h_X9_begin x S) x 8).getD 0))) ∧ ((x ∈ L ∧ hsK (h_X9_begin x S) x = 7 ∧ hsQ (h_X9_begin x S) x 8 ≠ none) ∧ ((((hsQ (h_X9_begin x S) x 8).getD 0) ∈ L ∧ hsK (h_X9_begin x S) ((hsQ (h_X9_begin x S) x 8).getD 0) = 8 ∧ vp_in p2 (hsN (h_X9_begin x S) ((hsQ (h_X9_begin x S) x 8).getD 0))) ∧ ((((hsA (h_X9_begin x S) ((hsQ (h_X9_begin x S) x 8).getD 0) p0.toNatClampNeg) = 0) → ((x ∈ L ∧ hsK (h_X9_begin x S) x = 7) ∧ ((ok_X9_fails L x 1 (h_X9_begin x S)) ∧ (True)))) ∧
    (¬ ((hsA (h_X9_begin x S) ((hsQ (h_X9_begin x S) x 8).getD 0) p0.toNatClampNeg) = 0) → ((((hsA (h_X9_begin x S) ((hsQ (h_X9_begin x S) x 8).getD 0) p2.toNatClampNeg) = 0) → ((x ∈ L ∧ hsK (h_X9_begin x S) x = 7) ∧ ((ok_X9_fails L x 1 (h_X9_begin x S)) ∧ (True)))) ∧
     (¬ ((hsA (h_X9_begin x S) ((hsQ (h_X9_begin x S) x 8).getD 0) p2.toNatClampNeg) = 0) → ((x ∈ L ∧ hsK (h_X9_begin x S) x = 7 ∧ hsQ (h_X9_begin x S) x 0 ≠ none) ∧ ((((hsQ (h_X9_begin x S) x 0).getD 0) ∈ L ∧ hsK (h_X9_begin x S) ((hsQ (h_X9_begin x S) x 0).getD 0) = 8 ∧ vp_in (hsA (h_X9_begin x S) ((hsQ (h_X9_begin x S) x 8).getD 0) p0.toNatClampNeg) (hsN (h_X9_begin x S) ((hsQ (h_X9_begin x S) x 0).getD 0))) ∧ (((9 < (hsA (h_X9_begin x S) ((hsQ (h_X9_begin x S) x 0).getD 0) (hsA (h_X9_begin x S) ((hsQ (h_X9_begin x S) x 8).getD 0) p0.toNatClampNeg).toNatClampNeg)) → ((x ∈ L ∧ hsK (h_X9_begin x S) x = 7) ∧ ((ok_X9_fails L x 5 (h_X9_begin x S)) ∧ (True)))) ∧
      (¬ (9 < (hsA (h_X9_begin x S) ((hsQ (h_X9_begin x S) x 0).getD 0) (hsA (h_X9_begin x S) ((hsQ (h_X9_begin x S) x 8).getD 0) p0.toNatClampNeg).toNatClampNeg)) → ((x ∈ L ∧ hsK (h_X9_begin x S) x = 7 ∧ hsQ (h_X9_begin x S) x 0 ≠ none) ∧ ((((hsQ (h_X9_begin x S) x 0).getD 0) ∈ L ∧ hsK (h_X9_begin x S) ((hsQ (h_X9_begin x S) x 0).getD 0) = 8 ∧ vp_in (hsA (h_X9_begin x S) ((hsQ (h_X9_begin x S) x 8).getD 0) p2.toNatClampNeg) (hsN (h_X9_begin x S) ((hsQ (h_X9_begin x S) x 0).getD 0))) ∧ (((9 < (hsA (h_X9_begin x S) ((hsQ (h_X9_begin x S) x 0).getD 0) (hsA (h_X9_begin x S) ((hsQ (h_X9_begin x S) x 8).getD 0) p2.toNatClampNeg).toNatClampNeg)) → ((x ∈ L ∧ hsK (h_X9_begin x S) x = 7) ∧ ((ok_X9_fails L x 5 (h_X9_begin x S)) ∧ (True)))) ∧
       (¬ (9 < (hsA (h_X9_begin x S) ((hsQ (h_X9_begin x S) x 0).getD 0) (hsA (h_X9_begin x S) ((hsQ (h_X9_begin x S) x 8).getD 0) p2.toNatClampNeg).toNatClampNeg)) → ((x ∈ L ∧ hsK (h_X9_begin x S) x = 7 ∧ hsQ (h_X9_begin x S) x 0 ≠ none) ∧ ((((hsQ (h_X9_begin x S) x 0).getD 0) ∈ L ∧ hsK (h_X9_begin x S) ((hsQ (h_X9_begin x S) x 0).getD 0) = 8 ∧ vp_in (hsA (h_X9_begin x S) ((hsQ (h_X9_begin x S) x 8).getD 0) p0.toNatClampNeg) (hsN (h_X9_begin x S) ((hsQ (h_X9_begin x S) x 0).getD 0))) ∧ ((x ∈ L ∧ hsK (h_X9_begin x S) x = 7 ∧ hsQ (h_X9_begin x S) x 0 ≠ none) ∧ ((((hsQ (h_X9_begin x S) x 0).getD 0) ∈ L ∧ hsK (h_X9_begin x S) ((hsQ (h_X9_begin x S) x 0).getD 0) = 8 ∧ vp_in (hsA (h_X9_begin x S) ((hsQ (h_X9_begin x S) x 8).getD 0) p2.toNatClampNeg) (hsN (h_X9_begin x S) ((hsQ (h_X9_begin x S) x 0).getD 0))) ∧ ((((hsA (h_X9_begin x S) ((hsQ (h_X9_begin x S) x 0).getD 0) (hsA (h_X9_begin x S) ((hsQ (h_X9_begin x S) x 8).getD 0) p0.toNatClampNeg).toNatClampNeg) = (hsA (h_X9_begin x S) ((hsQ (h_X9_begin x S) x 0).getD 0) (hsA (h_X9_begin x S) ((hsQ (h_X9_begin x S) x 8).getD 0) p2.toNatClampNeg).toNatClampNeg)) → (ok_X9_copy_j130 L x p0 p1 p2 p3 p4 S)) ∧
        (¬ ((hsA (h_X9_begin x S) ((hsQ (h_X9_begin x S) x 0).getD 0) (hsA (h_X9_begin x S) ((hsQ (h_X9_begin x S) x 8).getD 0) p0.toNatClampNeg).toNatClampNeg) = (hsA (h_X9_begin x S) ((hsQ (h_X9_begin x S) x 0).getD 0) (hsA (h_X9_begin x S) ((hsQ (h_X9_begin x S) x 8).getD 0) p2.toNatClampNeg).toNatClampNeg)) → ((x ∈ L ∧ hsK (h_X9_begin x S) x = 7 ∧ hsQ (h_X9_begin x S) x 0 ≠ none) ∧ ((((hsQ (h_X9_begin x S) x 0).getD 0) ∈ L ∧ hsK (h_X9_begin x S) ((hsQ (h_X9_begin x S) x 0).getD 0) = 8 ∧ vp_in (hsA (h_X9_begin x S) ((hsQ (h_X9_begin x S) x 8).getD 0) p0.toNatClampNeg) (hsN (h_X9_begin x S) ((hsQ (h_X9_begin x S) x 0).getD 0))) ∧ ((((s_X9_isFamily (hsA (h_X9_begin x S) ((hsQ (h_X9_begin x S) x 0).getD 0) (hsA (h_X9_begin x S) ((hsQ (h_X9_begin x S) x 8).getD 0) p0.toNatClampNeg).toNatClampNeg)) = 0) → ((x ∈ L ∧ hsK (h_X9_begin x S) x = 7) ∧ ((ok_X9_fails L x 5 (h_X9_begin x S)) ∧ (True)))) ∧
         (¬ ((s_X9_isFamily (hsA (h_X9_begin x S) ((hsQ (h_X9_begin x S) x 0).getD 0) (hsA (h_X9_begin x S) ((hsQ (h_X9_begin x S) x 8).getD 0) p0.toNatClampNeg).toNatClampNeg)) = 0) → ((x ∈ L ∧ hsK (h_X9_begin x S) x = 7 ∧ hsQ (h_X9_begin x S) x 0 ≠ none) ∧ ((((hsQ (h_X9_begin x S) x 0).getD 0) ∈ L ∧ hsK (h_X9_begin x S) ((hsQ (h_X9_begin x S) x 0).getD 0) = 8 ∧ vp_in (hsA (h_X9_begin x S) ((hsQ (h_X9_begin x S) x 8).getD 0) p2.toNatClampNeg) (hsN (h_X9_begin x S) ((hsQ (h_X9_begin x S) x 0).getD 0))) ∧ ((((s_X9_isFamily (hsA (h_X9_begin x S) ((hsQ (h_X9_begin x S) x 0).getD 0) (hsA (h_X9_begin x S) ((hsQ (h_X9_begin x S) x 8).getD 0) p2.toNatClampNeg).toNatClampNeg)) = 0) → ((x ∈ L ∧ hsK (h_X9_begin x S) x = 7) ∧ ((ok_X9_fails L x 5 (h_X9_begin x S)) ∧ (True)))) ∧
          (¬ ((s_X9_isFamily (hsA (h_X9_begin x S) ((hsQ (h_X9_begin x S) x 0).getD 0) (hsA (h_X9_begin x S) ((hsQ (h_X9_begin x S) x 8).getD 0) p2.toNatClampNeg).toNatClampNeg)) = 0) → (ok_X9_copy_j130 L x p0 p1 p2 p3 p4 S))))))))))))))))))))))))))))))))))))
set_option maxHeartbeats 4000000 in
set_option maxRecDepth 100000 in
theorem hm_X9_copy (l : Launch) (G : GE) (L : List Nat) (S : HS) (x : Nat) (p0 : Int32) (p1 : Int32) (p2 : Int32) (p3 : Int32) (p4 : Int32) (hok : ok_X9_copy L x p0 p1 p2 p3 p4 S) : HmI l G yX9_copy wsX9_copy 2 43 [.ref x, .int p0, .int p1, .int p2, .int p3, .int p4] L S (h_X9_copy x p0 p1 p2 p3 p4 S) := by
  refine Met.ofW (cc := cX9_copy) (maxL := 11) (ret := (some .int)) (by decide) rfl ?_
  intro p e s m args below meth c s₁ B hml hv
  obtain ⟨rfl, hP, hK, hnd, hE⟩ := hv
  have hx := B.exec
  have hb := B.bytes
  have hr := B.returns
  have hts := atoms_spec (ws := wsX9_copy) B.pre
  have hown : s.vm.findClass RX9 = some m.cls := findClass_of_methodNamed B.named
  have hlocks := B.notSynchronized
  have hD := nd_D hnd
  have hS : va_S (AL L) s.heap s.heap [] := va_S.rf
  have hl := lv_entry ([.ref x, .int p0, .int p1, .int p2, .int p3, .int p4]) (n := 11) (Nat.le_of_ble_eq_true rfl)
  rw [lg_entry_eq]
  generalize (lg_sl ([.ref x, .int p0, .int p1, .int p2, .int p3, .int p4]) ++ List.replicate (11 - (lg_sl ([.ref x, .int p0, .int p1, .int p2, .int p3, .int p4])).length) Slot.unset).toArray = ls at hl ⊢
  have hl : lv_has ls 11 [(0, .ref x), (1, .int p0), (2, .int p1), (3, .int p2), (4, .int p3), (5, .int p4)] := hl
  obtain ⟨Z, hZ⟩ : ∃ z, z = MQ below (hm_QI G L (h_X9_copy x p0 p1 p2 p3 p4 S)) ([.ref x, .int p0, .int p1, .int p2, .int p3, .int p4] : List Value).toArray s 0 0 (AL L) := ⟨_, rfl⟩
  rw [← hZ]
  refine lv_aload_n hx hb dX9_copy_0 rfl (lv_at hl 0 rfl) ?_
  obtain ⟨h_1k, hok⟩ := hok
  obtain ⟨h_1, hok⟩ := hok
  refine hm_callV (G := G) (a := ([.ref x] : List Value).toArray) (pr := (h_X9_begin x S)) (rest := []) ?_ hS (fun H locs hP hS => ?_)
  ·
    exact va_runV (As := []) (rest := []) ⟨hx, hb, hml, hown, hts⟩ (hm_X9_begin l G L S x h_1) (cwV 0 hts gX9_copy_X9_begin rfl rfl rfl hdv_X9_begin ⟨Nat.le_of_ble_eq_true rfl, Nat.le_of_ble_eq_true rfl⟩) ⟨HW.fb, hp_recv hK hP h_1k.1 (PF_7 h_1k.2) rfl, fun U hU hW => ⟨rfl, HW.call hP hK hnd hE hS U hU hW⟩⟩ rfl rfl hl.1 rfl (lv_room (Nat.le_of_ble_eq_true rfl)) dX9_copy_1 ⟨Nat.le_refl 0, Nat.le_refl 0⟩
  ·
    refine lv_iload_n hx hb dX9_copy_4 rfl (lv_at hl 1 rfl) ?_
    refine pm_callI (va_runS (As := [.int p0]) (rest := []) ⟨hx, hb, hml, hown, hts⟩ (pm_X9_isCell l p0) (va_cwS 1 hts gX9_copy_X9_isCell rfl rfl rfl hd_X9_isCell ⟨Nat.le_of_ble_eq_true rfl, Nat.le_of_ble_eq_true rfl⟩) ⟨pm_fbT, fun U hU hW => ⟨rfl, trivial⟩⟩ rfl rfl hl.1 rfl (lv_room (Nat.le_of_ble_eq_true rfl)) dX9_copy_5 ⟨Nat.le_refl 0, Nat.le_refl 0⟩) hS (fun H locs _ hk9 hS => ?_)
    replace hP := P_keep hP hk9
    refine lv_if_eq (tgt := 18) hx hb dX9_copy_8 (by decide) (fun c_8 => ?_) (fun c_8 => ?_)
    ·
      have hok := (hok).1 c_8
      refine lv_aload_n hx hb dX9_copy_18 rfl (lv_at hl 0 rfl) ?_
      refine lv_bipush (v := 8) hx hb dX9_copy_19 (by decide) ?_
      obtain ⟨h_21k, hok⟩ := hok
      obtain ⟨h_21, hok⟩ := hok
      refine hm_callI (G := G) (a := ([.ref x, .int 8] : List Value).toArray) (pr := (h_X9_fails x 8 (h_X9_begin x S))) (rest := []) ?_ hS (fun H locs hP hS => ?_)
      ·
        exact va_runV (As := [.int 8]) (rest := []) ⟨hx, hb, hml, hown, hts⟩ (hm_X9_fails l G L (h_X9_begin x S) x 8 h_21) (cwV 1 hts gX9_copy_X9_fails rfl rfl rfl hdv_X9_fails ⟨Nat.le_of_ble_eq_true rfl, Nat.le_of_ble_eq_true rfl⟩) ⟨HW.fb, hp_recv hK hP h_21k.1 (PF_7 h_21k.2) rfl, fun U hU hW => ⟨rfl, HW.call hP hK hnd hE hS U hU hW⟩⟩ rfl rfl hl.1 rfl (lv_room (Nat.le_of_ble_eq_true rfl)) dX9_copy_21 ⟨Nat.le_refl 0, Nat.le_refl 0⟩
      ·
        rw [hZ]
        exact hm_iret hx hb hr hlocks hS hP hK hnd hE ((if_pos c_8)) dX9_copy_24
    ·
      have hok := (hok).2 c_8
      refine lv_iload_n hx hb dX9_copy_11 rfl (lv_at hl 3 rfl) ?_
      refine pm_callI (va_runS (As := [.int p2]) (rest := []) ⟨hx, hb, hml, hown, hts⟩ (pm_X9_isCell l p2) (va_cwS 1 hts gX9_copy_X9_isCell rfl rfl rfl hd_X9_isCell ⟨Nat.le_of_ble_eq_true rfl, Nat.le_of_ble_eq_true rfl⟩) ⟨pm_fbT, fun U hU hW => ⟨rfl, trivial⟩⟩ rfl rfl hl.1 rfl (lv_room (Nat.le_of_ble_eq_true rfl)) dX9_copy_12 ⟨Nat.le_refl 0, Nat.le_refl 0⟩) hS (fun H locs _ hk9 hS => ?_)
      replace hP := P_keep hP hk9
      refine lv_if_ne (tgt := 25) hx hb dX9_copy_15 (by decide) (fun c_15 => ?_) (fun c_15 => ?_)
      ·
        have hok := (hok).2 c_15
        refine lv_aload_n hx hb dX9_copy_25 rfl (lv_at hl 0 rfl) ?_
        obtain ⟨h_26, hok⟩ := hok
        refine hp_getR (ci := 7) (C := RX9) (T := TX9) (N := 12) hx hb hts iw_X9_copy_X9 hown hK hP h_26.1 (PF_7 h_26.2.1) rfl 8 (by decide) (hts _ (List.mem_of_getElem? (i := 1) rfl)) (fun _ h9 => h9) rfl h_26.2.2 dX9_copy_26 ?_
        refine lv_iload_n hx hb dX9_copy_29 rfl (lv_at hl 1 rfl) ?_
        obtain ⟨h_30, hok⟩ := hok
        refine hp_iald hx hb hK hP h_30.1 0 (PF_8 h_30.2.1) rfl h_30.2.2 dX9_copy_30 ?_
        refine lv_istore (lv' := [(6, .int (hsA (h_X9_begin x S) ((hsQ (h_X9_begin x S) x 8).getD 0) p0.toNatClampNeg)), (0, .ref x), (1, .int p0), (2, .int p1), (3, .int p2), (4, .int p3), (5, .int p4)]) hx hb dX9_copy_31 hl (by decide) rfl (fun ls hl => ?_)
        refine lv_aload_n hx hb dX9_copy_33 rfl (lv_at hl 1 rfl) ?_
        obtain ⟨h_34, hok⟩ := hok
        refine hp_getR (ci := 7) (C := RX9) (T := TX9) (N := 12) hx hb hts iw_X9_copy_X9 hown hK hP h_34.1 (PF_7 h_34.2.1) rfl 8 (by decide) (hts _ (List.mem_of_getElem? (i := 1) rfl)) (fun _ h9 => h9) rfl h_34.2.2 dX9_copy_34 ?_
        refine lv_iload_n hx hb dX9_copy_37 rfl (lv_at hl 4 rfl) ?_
        obtain ⟨h_38, hok⟩ := hok
        refine hp_iald hx hb hK hP h_38.1 0 (PF_8 h_38.2.1) rfl h_38.2.2 dX9_copy_38 ?_
        refine lv_istore (lv' := [(7, .int (hsA (h_X9_begin x S) ((hsQ (h_X9_begin x S) x 8).getD 0) p2.toNatClampNeg)), (6, .int (hsA (h_X9_begin x S) ((hsQ (h_X9_begin x S) x 8).getD 0) p0.toNatClampNeg)), (0, .ref x), (1, .int p0), (2, .int p1), (3, .int p2), (4, .int p3), (5, .int p4)]) hx hb dX9_copy_39 hl (by decide) rfl (fun ls hl => ?_)
        refine lv_iload hx hb dX9_copy_41 (lv_at hl 1 rfl) ?_
        refine lv_if_eq (tgt := 51) hx hb dX9_copy_43 (by decide) (fun c_43 => ?_) (fun c_43 => ?_)
        ·
          have hok := (hok).1 c_43
          refine lv_aload_n hx hb dX9_copy_51 rfl (lv_at hl 2 rfl) ?_
          refine lv_iconst (v := 1) hx hb dX9_copy_52 (by decide) ?_
          obtain ⟨h_53k, hok⟩ := hok
          obtain ⟨h_53, hok⟩ := hok
          refine hm_callI (G := G) (a := ([.ref x, .int 1] : List Value).toArray) (pr := (h_X9_fails x 1 (h_X9_begin x S))) (rest := []) ?_ hS (fun H locs hP hS => ?_)
          ·
            exact va_runV (As := [.int 1]) (rest := []) ⟨hx, hb, hml, hown, hts⟩ (hm_X9_fails l G L (h_X9_begin x S) x 1 h_53) (cwV 1 hts gX9_copy_X9_fails rfl rfl rfl hdv_X9_fails ⟨Nat.le_of_ble_eq_true rfl, Nat.le_of_ble_eq_true rfl⟩) ⟨HW.fb, hp_recv hK hP h_53k.1 (PF_7 h_53k.2) rfl, fun U hU hW => ⟨rfl, HW.call hP hK hnd hE hS U hU hW⟩⟩ rfl rfl hl.1 rfl (lv_room (Nat.le_of_ble_eq_true rfl)) dX9_copy_53 ⟨Nat.le_refl 0, Nat.le_refl 0⟩
          ·
            rw [hZ]
            exact hm_iret hx hb hr hlocks hS hP hK hnd hE (((if_neg c_8).trans ((if_neg c_15).trans (if_pos c_43)))) dX9_copy_56
        ·
          have hok := (hok).2 c_43
          refine lv_iload hx hb dX9_copy_46 (lv_at hl 0 rfl) ?_
          refine lv_if_ne (tgt := 57) hx hb dX9_copy_48 (by decide) (fun c_48 => ?_) (fun c_48 => ?_)
          ·
            have hok := (hok).2 c_48
            refine lv_aload_n hx hb dX9_copy_57 rfl (lv_at hl 2 rfl) ?_
            obtain ⟨h_58, hok⟩ := hok
            refine hp_getR (ci := 7) (C := RX9) (T := TX9) (N := 12) hx hb hts iw_X9_copy_X9 hown hK hP h_58.1 (PF_7 h_58.2.1) rfl 0 (by decide) (hts _ (List.mem_of_getElem? (i := 2) rfl)) (fun _ h9 => h9) rfl h_58.2.2 dX9_copy_58 ?_
            refine lv_iload hx hb dX9_copy_61 (lv_at hl 1 rfl) ?_
            obtain ⟨h_63, hok⟩ := hok
            refine hp_iald hx hb hK hP h_63.1 0 (PF_8 h_63.2.1) rfl h_63.2.2 dX9_copy_63 ?_
            refine lv_bipush (v := 9) hx hb dX9_copy_64 (by decide) ?_
            refine lv_icmp_gt (tgt := 124) hx hb dX9_copy_66 (by decide) (fun c_66 => ?_) (fun c_66 => ?_)
            ·
              have hok := (hok).1 c_66
              refine lv_aload_n hx hb dX9_copy_124 rfl (lv_at hl 2 rfl) ?_
              refine lv_iconst (v := 5) hx hb dX9_copy_125 (by decide) ?_
              obtain ⟨h_126k, hok⟩ := hok
              obtain ⟨h_126, hok⟩ := hok
              refine hm_callI (G := G) (a := ([.ref x, .int 5] : List Value).toArray) (pr := (h_X9_fails x 5 (h_X9_begin x S))) (rest := []) ?_ hS (fun H locs hP hS => ?_)
              ·
                exact va_runV (As := [.int 5]) (rest := []) ⟨hx, hb, hml, hown, hts⟩ (hm_X9_fails l G L (h_X9_begin x S) x 5 h_126) (cwV 1 hts gX9_copy_X9_fails rfl rfl rfl hdv_X9_fails ⟨Nat.le_of_ble_eq_true rfl, Nat.le_of_ble_eq_true rfl⟩) ⟨HW.fb, hp_recv hK hP h_126k.1 (PF_7 h_126k.2) rfl, fun U hU hW => ⟨rfl, HW.call hP hK hnd hE hS U hU hW⟩⟩ rfl rfl hl.1 rfl (lv_room (Nat.le_of_ble_eq_true rfl)) dX9_copy_126 ⟨Nat.le_refl 0, Nat.le_refl 0⟩
              ·
                rw [hZ]
                exact hm_iret hx hb hr hlocks hS hP hK hnd hE (((if_neg c_8).trans ((if_neg c_15).trans ((if_neg c_43).trans ((if_neg c_48).trans (if_pos c_66)))))) dX9_copy_129
            ·
              have hok := (hok).2 c_66
              refine lv_aload_n hx hb dX9_copy_69 rfl (lv_at hl 2 rfl) ?_
              obtain ⟨h_70, hok⟩ := hok
              refine hp_getR (ci := 7) (C := RX9) (T := TX9) (N := 12) hx hb hts iw_X9_copy_X9 hown hK hP h_70.1 (PF_7 h_70.2.1) rfl 0 (by decide) (hts _ (List.mem_of_getElem? (i := 2) rfl)) (fun _ h9 => h9) rfl h_70.2.2 dX9_copy_70 ?_
              refine lv_iload hx hb dX9_copy_73 (lv_at hl 0 rfl) ?_
              obtain ⟨h_75, hok⟩ := hok
              refine hp_iald hx hb hK hP h_75.1 0 (PF_8 h_75.2.1) rfl h_75.2.2 dX9_copy_75 ?_
              refine lv_bipush (v := 9) hx hb dX9_copy_76 (by decide) ?_
              refine lv_icmp_gt (tgt := 124) hx hb dX9_copy_78 (by decide) (fun c_78 => ?_) (fun c_78 => ?_)
              ·
                have hok := (hok).1 c_78
                refine lv_aload_n hx hb dX9_copy_124 rfl (lv_at hl 2 rfl) ?_
                refine lv_iconst (v := 5) hx hb dX9_copy_125 (by decide) ?_
                obtain ⟨h_126k, hok⟩ := hok
                obtain ⟨h_126, hok⟩ := hok
                refine hm_callI (G := G) (a := ([.ref x, .int 5] : List Value).toArray) (pr := (h_X9_fails x 5 (h_X9_begin x S))) (rest := []) ?_ hS (fun H locs hP hS => ?_)
                ·
                  exact va_runV (As := [.int 5]) (rest := []) ⟨hx, hb, hml, hown, hts⟩ (hm_X9_fails l G L (h_X9_begin x S) x 5 h_126) (cwV 1 hts gX9_copy_X9_fails rfl rfl rfl hdv_X9_fails ⟨Nat.le_of_ble_eq_true rfl, Nat.le_of_ble_eq_true rfl⟩) ⟨HW.fb, hp_recv hK hP h_126k.1 (PF_7 h_126k.2) rfl, fun U hU hW => ⟨rfl, HW.call hP hK hnd hE hS U hU hW⟩⟩ rfl rfl hl.1 rfl (lv_room (Nat.le_of_ble_eq_true rfl)) dX9_copy_126 ⟨Nat.le_refl 0, Nat.le_refl 0⟩
                ·
                  rw [hZ]
                  exact hm_iret hx hb hr hlocks hS hP hK hnd hE (((if_neg c_8).trans ((if_neg c_15).trans ((if_neg c_43).trans ((if_neg c_48).trans ((if_neg c_66).trans (if_pos c_78))))))) dX9_copy_129
              ·
                have hok := (hok).2 c_78
                refine lv_aload_n hx hb dX9_copy_81 rfl (lv_at hl 2 rfl) ?_
                obtain ⟨h_82, hok⟩ := hok
                refine hp_getR (ci := 7) (C := RX9) (T := TX9) (N := 12) hx hb hts iw_X9_copy_X9 hown hK hP h_82.1 (PF_7 h_82.2.1) rfl 0 (by decide) (hts _ (List.mem_of_getElem? (i := 2) rfl)) (fun _ h9 => h9) rfl h_82.2.2 dX9_copy_82 ?_
                refine lv_iload hx hb dX9_copy_85 (lv_at hl 1 rfl) ?_
                obtain ⟨h_87, hok⟩ := hok
                refine hp_iald hx hb hK hP h_87.1 0 (PF_8 h_87.2.1) rfl h_87.2.2 dX9_copy_87 ?_
                refine lv_aload_n hx hb dX9_copy_88 rfl (lv_at hl 2 rfl) ?_
                obtain ⟨h_89, hok⟩ := hok
                refine hp_getR (ci := 7) (C := RX9) (T := TX9) (N := 12) hx hb hts iw_X9_copy_X9 hown hK hP h_89.1 (PF_7 h_89.2.1) rfl 0 (by decide) (hts _ (List.mem_of_getElem? (i := 2) rfl)) (fun _ h9 => h9) rfl h_89.2.2 dX9_copy_89 ?_
                refine lv_iload hx hb dX9_copy_92 (lv_at hl 0 rfl) ?_
                obtain ⟨h_94, hok⟩ := hok
                refine hp_iald hx hb hK hP h_94.1 0 (PF_8 h_94.2.1) rfl h_94.2.2 dX9_copy_94 ?_
                have K_130 : ∀ (H : Heap) (locs : List Loc), va_P (gD G) vwCl (va_pl L (PF G (h_X9_begin x S))) H → va_S (AL L) s.heap H locs → ∀ (ls : Array Slot), lv_has ls 11 [(0, .ref x), (2, .int p1), (4, .int p3), (5, .int p4), (6, .int (hsA (h_X9_begin x S) ((hsQ (h_X9_begin x S) x 8).getD 0) p0.toNatClampNeg)), (7, .int (hsA (h_X9_begin x S) ((hsQ (h_X9_begin x S) x 8).getD 0) p2.toNatClampNeg))] → ok_X9_copy_j130 L x p0 p1 p2 p3 p4 S → h_X9_copy x p0 p1 p2 p3 p4 S = h_X9_copy_j130 x p0 p1 p2 p3 p4 S → W p l e (pm_R 2 43) s m ([.ref x, .int p0, .int p1, .int p2, .int p3, .int p4] : List Value).toArray below meth c H locs 0 0 Z (F0 m 130 ls []) := by
                  intro H locs hP hS ls hl hok hK_130
                  refine lv_aload_n hx hb dX9_copy_130 rfl (lv_at hl 0 rfl) ?_
                  refine lv_iload hx hb dX9_copy_131 (lv_at hl 4 rfl) ?_
                  refine lv_iload_n hx hb dX9_copy_133 rfl (lv_at hl 1 rfl) ?_
                  refine lv_iload hx hb dX9_copy_134 (lv_at hl 3 rfl) ?_
                  obtain ⟨h_136k, hok⟩ := hok
                  obtain ⟨h_136, hok⟩ := hok
                  refine hm_callIr (G := G) (S1 := h_X9_begin x S) (a := ([.ref x, .int (hsA (h_X9_begin x S) ((hsQ (h_X9_begin x S) x 8).getD 0) p0.toNatClampNeg), .int p1, .int p4] : List Value).toArray) (rest := []) (h_X9_isBeyond x (hsA (h_X9_begin x S) ((hsQ (h_X9_begin x S) x 8).getD 0) p0.toNatClampNeg) p1 p4 (h_X9_begin x S)) ?_ hS (fun H locs hP hS => ?_)
                  ·
                    exact va_runV (As := [.int (hsA (h_X9_begin x S) ((hsQ (h_X9_begin x S) x 8).getD 0) p0.toNatClampNeg), .int p1, .int p4]) (rest := []) ⟨hx, hb, hml, hown, hts⟩ (hm_X9_isBeyond l G L (h_X9_begin x S) x (hsA (h_X9_begin x S) ((hsQ (h_X9_begin x S) x 8).getD 0) p0.toNatClampNeg) p1 p4 h_136) (cwV 3 hts gX9_copy_X9_isBeyond rfl rfl rfl hdv_X9_isBeyond ⟨Nat.le_of_ble_eq_true rfl, Nat.le_of_ble_eq_true rfl⟩) ⟨HW.fb, hp_recv hK hP h_136k.1 (PF_7 h_136k.2) rfl, fun U hU hW => ⟨rfl, HW.call hP hK hnd hE hS U hU hW⟩⟩ rfl rfl hl.1 rfl (lv_room (Nat.le_of_ble_eq_true rfl)) dX9_copy_136 ⟨Nat.le_refl 0, Nat.le_refl 0⟩
                  ·
                    refine lv_if_ne (tgt := 155) hx hb dX9_copy_139 (by decide) (fun c_139 => ?_) (fun c_139 => ?_)
                    ·
                      have hok := (hok).2 c_139
                      refine lv_aload_n hx hb dX9_copy_155 rfl (lv_at hl 0 rfl) ?_
                      refine lv_iconst (v := 2) hx hb dX9_copy_156 (by decide) ?_
                      obtain ⟨h_157k, hok⟩ := hok
                      obtain ⟨h_157, hok⟩ := hok
                      refine hm_callI (G := G) (a := ([.ref x, .int 2] : List Value).toArray) (pr := (h_X9_fails x 2 (h_X9_begin x S))) (rest := []) ?_ hS (fun H locs hP hS => ?_)
                      ·
                        exact va_runV (As := [.int 2]) (rest := []) ⟨hx, hb, hml, hown, hts⟩ (hm_X9_fails l G L (h_X9_begin x S) x 2 h_157) (cwV 1 hts gX9_copy_X9_fails rfl rfl rfl hdv_X9_fails ⟨Nat.le_of_ble_eq_true rfl, Nat.le_of_ble_eq_true rfl⟩) ⟨HW.fb, hp_recv hK hP h_157k.1 (PF_7 h_157k.2) rfl, fun U hU hW => ⟨rfl, HW.call hP hK hnd hE hS U hU hW⟩⟩ rfl rfl hl.1 rfl (lv_room (Nat.le_of_ble_eq_true rfl)) dX9_copy_157 ⟨Nat.le_refl 0, Nat.le_refl 0⟩
                      ·
                        rw [hZ]
                        exact hm_iret hx hb hr hlocks hS hP hK hnd hE (((hK_130).trans (if_neg c_139))) dX9_copy_160
                    ·
                      have hok := (hok).1 c_139
                      refine lv_aload_n hx hb dX9_copy_142 rfl (lv_at hl 0 rfl) ?_
                      refine lv_iload hx hb dX9_copy_143 (lv_at hl 5 rfl) ?_
                      refine lv_iload hx hb dX9_copy_145 (lv_at hl 2 rfl) ?_
                      refine lv_iload hx hb dX9_copy_147 (lv_at hl 3 rfl) ?_
                      obtain ⟨h_149k, hok⟩ := hok
                      obtain ⟨h_149, hok⟩ := hok
                      refine hm_callIr (G := G) (S1 := h_X9_begin x S) (a := ([.ref x, .int (hsA (h_X9_begin x S) ((hsQ (h_X9_begin x S) x 8).getD 0) p2.toNatClampNeg), .int p3, .int p4] : List Value).toArray) (rest := []) (h_X9_isBeyond x (hsA (h_X9_begin x S) ((hsQ (h_X9_begin x S) x 8).getD 0) p2.toNatClampNeg) p3 p4 (h_X9_begin x S)) ?_ hS (fun H locs hP hS => ?_)
                      ·
                        exact va_runV (As := [.int (hsA (h_X9_begin x S) ((hsQ (h_X9_begin x S) x 8).getD 0) p2.toNatClampNeg), .int p3, .int p4]) (rest := []) ⟨hx, hb, hml, hown, hts⟩ (hm_X9_isBeyond l G L (h_X9_begin x S) x (hsA (h_X9_begin x S) ((hsQ (h_X9_begin x S) x 8).getD 0) p2.toNatClampNeg) p3 p4 h_149) (cwV 3 hts gX9_copy_X9_isBeyond rfl rfl rfl hdv_X9_isBeyond ⟨Nat.le_of_ble_eq_true rfl, Nat.le_of_ble_eq_true rfl⟩) ⟨HW.fb, hp_recv hK hP h_149k.1 (PF_7 h_149k.2) rfl, fun U hU hW => ⟨rfl, HW.call hP hK hnd hE hS U hU hW⟩⟩ rfl rfl hl.1 rfl (lv_room (Nat.le_of_ble_eq_true rfl)) dX9_copy_149 ⟨Nat.le_refl 0, Nat.le_refl 0⟩
                      ·
                        refine lv_if_eq (tgt := 161) hx hb dX9_copy_152 (by decide) (fun c_152 => ?_) (fun c_152 => ?_)
                        ·
                          have hok := (hok).1 c_152
                          refine lv_iload hx hb dX9_copy_161 (lv_at hl 4 rfl) ?_
                          refine lv_iload hx hb dX9_copy_163 (lv_at hl 5 rfl) ?_
                          refine lv_icmp_ne (tgt := 214) hx hb dX9_copy_165 (by decide) (fun c_165 => ?_) (fun c_165 => ?_)
                          ·
                            have hok := (hok).2 c_165
                            refine lv_iconst (v := 0) hx hb dX9_copy_214 (by decide) ?_
                            refine lv_istore (lv' := [(8, .int 0), (0, .ref x), (2, .int p1), (4, .int p3), (5, .int p4), (6, .int (hsA (h_X9_begin x S) ((hsQ (h_X9_begin x S) x 8).getD 0) p0.toNatClampNeg)), (7, .int (hsA (h_X9_begin x S) ((hsQ (h_X9_begin x S) x 8).getD 0) p2.toNatClampNeg))]) hx hb dX9_copy_215 hl (by decide) rfl (fun ls hl => ?_)
                            have K_217 : ∀ (n : Nat) (y_217_8 : Int32) (S_217 : HS) (H : Heap) (locs : List Loc), va_P (gD G) vwCl (va_pl L (PF G S_217)) H → va_S (AL L) s.heap H locs → ∀ (ls : Array Slot), lv_has ls 11 [(0, .ref x), (2, .int p1), (4, .int p3), (5, .int p4), (6, .int (hsA (h_X9_begin x S) ((hsQ (h_X9_begin x S) x 8).getD 0) p0.toNatClampNeg)), (7, .int (hsA (h_X9_begin x S) ((hsQ (h_X9_begin x S) x 8).getD 0) p2.toNatClampNeg)), (8, .int y_217_8)] → ok_X9_copy_l217 L x p0 p1 p2 p3 p4 S n y_217_8 S_217 → h_X9_copy x p0 p1 p2 p3 p4 S = h_X9_copy_l217 x p0 p1 p2 p3 p4 S n y_217_8 S_217 → W p l e (pm_R 2 43) s m ([.ref x, .int p0, .int p1, .int p2, .int p3, .int p4] : List Value).toArray below meth c H locs 0 0 Z (F0 m 217 ls []) := by
                              intro n
                              induction n with
                              | zero =>
                                intro y_217_8 S_217 H locs hP hS ls hl hok hK_217
                                exact False.elim hok
                              | succ n ih =>
                                intro y_217_8 S_217 H locs hP hS ls hl hok hK_217
                                refine lv_iload hx hb dX9_copy_217 (lv_at hl 6 rfl) ?_
                                refine lv_iload hx hb dX9_copy_219 (lv_at hl 3 rfl) ?_
                                refine lv_icmp_ge (tgt := 294) hx hb dX9_copy_221 (by decide) (fun c_221 => ?_) (fun c_221 => ?_)
                                ·
                                  have hok := (hok).1 c_221
                                  refine lv_iconst (v := 1) hx hb dX9_copy_294 (by decide) ?_
                                  rw [hZ]
                                  exact hm_iret hx hb hr hlocks hS hP hK hnd hE (((hK_217).trans (if_pos c_221))) dX9_copy_295
                                ·
                                  have hok := (hok).2 c_221
                                  refine lv_aload_n hx hb dX9_copy_224 rfl (lv_at hl 0 rfl) ?_
                                  refine lv_iload hx hb dX9_copy_225 (lv_at hl 4 rfl) ?_
                                  refine lv_iload_n hx hb dX9_copy_227 rfl (lv_at hl 1 rfl) ?_
                                  refine lv_iload hx hb dX9_copy_228 (lv_at hl 6 rfl) ?_
                                  refine lv_iadd hx hb dX9_copy_230 ?_
                                  obtain ⟨h_231k, hok⟩ := hok
                                  obtain ⟨h_231, hok⟩ := hok
                                  refine hm_callLr (G := G) (S1 := S_217) (a := ([.ref x, .int (hsA (h_X9_begin x S) ((hsQ (h_X9_begin x S) x 8).getD 0) p0.toNatClampNeg), .int (p1 + y_217_8)] : List Value).toArray) (rest := []) (h_X9_element x (hsA (h_X9_begin x S) ((hsQ (h_X9_begin x S) x 8).getD 0) p0.toNatClampNeg) (p1 + y_217_8) S_217) ?_ hS (fun H locs hP hS => ?_)
                                  ·
                                    exact va_runV (As := [.int (hsA (h_X9_begin x S) ((hsQ (h_X9_begin x S) x 8).getD 0) p0.toNatClampNeg), .int (p1 + y_217_8)]) (rest := []) ⟨hx, hb, hml, hown, hts⟩ (hm_X9_element l G L S_217 x (hsA (h_X9_begin x S) ((hsQ (h_X9_begin x S) x 8).getD 0) p0.toNatClampNeg) (p1 + y_217_8) h_231) (cwV 2 hts gX9_copy_X9_element rfl rfl rfl hdv_X9_element ⟨Nat.le_of_ble_eq_true rfl, Nat.le_of_ble_eq_true rfl⟩) ⟨HW.fb, hp_recv hK hP h_231k.1 (PF_7 h_231k.2) rfl, fun U hU hW => ⟨rfl, HW.call hP hK hnd hE hS U hU hW⟩⟩ rfl rfl hl.1 rfl (lv_room (Nat.le_of_ble_eq_true rfl)) dX9_copy_231 ⟨Nat.le_refl 0, Nat.le_refl 0⟩
                                  ·
                                    refine lv_lstore (lv' := [(9, .long (h_X9_element x (hsA (h_X9_begin x S) ((hsQ (h_X9_begin x S) x 8).getD 0) p0.toNatClampNeg) (p1 + y_217_8) S_217)), (0, .ref x), (2, .int p1), (4, .int p3), (5, .int p4), (6, .int (hsA (h_X9_begin x S) ((hsQ (h_X9_begin x S) x 8).getD 0) p0.toNatClampNeg)), (7, .int (hsA (h_X9_begin x S) ((hsQ (h_X9_begin x S) x 8).getD 0) p2.toNatClampNeg)), (8, .int y_217_8)]) hx hb dX9_copy_234 hl (by decide) rfl (fun ls hl => ?_)
                                    refine lv_aload_n hx hb dX9_copy_236 rfl (lv_at hl 1 rfl) ?_
                                    obtain ⟨h_237, hok⟩ := hok
                                    refine hp_getR (ci := 7) (C := RX9) (T := TX9) (N := 12) hx hb hts iw_X9_copy_X9 hown hK hP h_237.1 (PF_7 h_237.2.1) rfl 0 (by decide) (hts _ (List.mem_of_getElem? (i := 2) rfl)) (fun _ h9 => h9) rfl h_237.2.2 dX9_copy_237 ?_
                                    refine lv_iload hx hb dX9_copy_240 (lv_at hl 6 rfl) ?_
                                    obtain ⟨h_242, hok⟩ := hok
                                    refine hp_iald hx hb hK hP h_242.1 0 (PF_8 h_242.2.1) rfl h_242.2.2 dX9_copy_242 ?_
                                    refine pm_callI (va_runS (As := [.int (hsA S_217 ((hsQ S_217 x 0).getD 0) (hsA (h_X9_begin x S) ((hsQ (h_X9_begin x S) x 8).getD 0) p2.toNatClampNeg).toNatClampNeg)]) (rest := []) ⟨hx, hb, hml, hown, hts⟩ (pm_X9_isFamily l (hsA S_217 ((hsQ S_217 x 0).getD 0) (hsA (h_X9_begin x S) ((hsQ (h_X9_begin x S) x 8).getD 0) p2.toNatClampNeg).toNatClampNeg)) (va_cwS 1 hts gX9_copy_X9_isFamily rfl rfl rfl hd_X9_isFamily ⟨Nat.le_of_ble_eq_true rfl, Nat.le_of_ble_eq_true rfl⟩) ⟨pm_fbT, fun U hU hW => ⟨rfl, trivial⟩⟩ rfl rfl hl.1 rfl (lv_room (Nat.le_of_ble_eq_true rfl)) dX9_copy_243 ⟨Nat.le_refl 0, Nat.le_refl 0⟩) hS (fun H locs _ hk9 hS => ?_)
                                    replace hP := P_keep hP hk9
                                    refine lv_if_eq (tgt := 275) hx hb dX9_copy_246 (by decide) (fun c_246 => ?_) (fun c_246 => ?_)
                                    ·
                                      have hok := (hok).1 c_246
                                      refine lv_aload_n hx hb dX9_copy_275 rfl (lv_at hl 1 rfl) ?_
                                      refine lv_iload hx hb dX9_copy_276 (lv_at hl 6 rfl) ?_
                                      refine lv_iload hx hb dX9_copy_278 (lv_at hl 3 rfl) ?_
                                      refine lv_iload hx hb dX9_copy_280 (lv_at hl 7 rfl) ?_
                                      refine lv_iadd hx hb dX9_copy_282 ?_
                                      refine lv_lload hx hb dX9_copy_283 (lv_at hl 0 rfl) ?_
                                      obtain ⟨h_285k, hok⟩ := hok
                                      obtain ⟨h_285, hok⟩ := hok
                                      refine hm_callV (G := G) (a := ([.ref x, .int (hsA (h_X9_begin x S) ((hsQ (h_X9_begin x S) x 8).getD 0) p2.toNatClampNeg), .int (p3 + y_217_8), .long (h_X9_element x (hsA (h_X9_begin x S) ((hsQ (h_X9_begin x S) x 8).getD 0) p0.toNatClampNeg) (p1 + y_217_8) S_217)] : List Value).toArray) (pr := (h_X9_set x (hsA (h_X9_begin x S) ((hsQ (h_X9_begin x S) x 8).getD 0) p2.toNatClampNeg) (p3 + y_217_8) (h_X9_element x (hsA (h_X9_begin x S) ((hsQ (h_X9_begin x S) x 8).getD 0) p0.toNatClampNeg) (p1 + y_217_8) S_217) S_217)) (rest := []) ?_ hS (fun H locs hP hS => ?_)
                                      ·
                                        exact va_runV (As := [.int (hsA (h_X9_begin x S) ((hsQ (h_X9_begin x S) x 8).getD 0) p2.toNatClampNeg), .int (p3 + y_217_8), .long (h_X9_element x (hsA (h_X9_begin x S) ((hsQ (h_X9_begin x S) x 8).getD 0) p0.toNatClampNeg) (p1 + y_217_8) S_217)]) (rest := []) ⟨hx, hb, hml, hown, hts⟩ (hm_X9_set l G L S_217 x (hsA (h_X9_begin x S) ((hsQ (h_X9_begin x S) x 8).getD 0) p2.toNatClampNeg) (p3 + y_217_8) (h_X9_element x (hsA (h_X9_begin x S) ((hsQ (h_X9_begin x S) x 8).getD 0) p0.toNatClampNeg) (p1 + y_217_8) S_217) h_285) (cwV 3 hts gX9_copy_X9_set rfl rfl rfl hdv_X9_set ⟨Nat.le_of_ble_eq_true rfl, Nat.le_of_ble_eq_true rfl⟩) ⟨HW.fb, hp_recv hK hP h_285k.1 (PF_7 h_285k.2) rfl, fun U hU hW => ⟨rfl, HW.call hP hK hnd hE hS U hU hW⟩⟩ rfl rfl hl.1 rfl (lv_room (Nat.le_of_ble_eq_true rfl)) dX9_copy_285 ⟨Nat.le_refl 0, Nat.le_refl 0⟩
                                      ·
                                        refine lv_iinc (v := y_217_8 + 1) (lv' := [(8, .int (y_217_8 + 1)), (9, .long (h_X9_element x (hsA (h_X9_begin x S) ((hsQ (h_X9_begin x S) x 8).getD 0) p0.toNatClampNeg) (p1 + y_217_8) S_217)), (0, .ref x), (2, .int p1), (4, .int p3), (5, .int p4), (6, .int (hsA (h_X9_begin x S) ((hsQ (h_X9_begin x S) x 8).getD 0) p0.toNatClampNeg)), (7, .int (hsA (h_X9_begin x S) ((hsQ (h_X9_begin x S) x 8).getD 0) p2.toNatClampNeg))]) hx hb dX9_copy_288 hl (k := 7) rfl rfl (by decide) rfl (fun ls hl => ?_)
                                        refine lv_goto (tgt := 217) hx hb dX9_copy_291 (by decide) ?_
                                        exact ih (y_217_8 + 1) (h_X9_set x (hsA (h_X9_begin x S) ((hsQ (h_X9_begin x S) x 8).getD 0) p2.toNatClampNeg) (p3 + y_217_8) (h_X9_element x (hsA (h_X9_begin x S) ((hsQ (h_X9_begin x S) x 8).getD 0) p0.toNatClampNeg) (p1 + y_217_8) S_217) S_217) _ _ hP hS ls (lv_sub hl [2, 3, 4, 5, 6, 7, 0] rfl) hok (((hK_217).trans ((if_neg c_221).trans (if_pos c_246))))
                                    ·
                                      have hok := (hok).2 c_246
                                      refine lv_aload_n hx hb dX9_copy_249 rfl (lv_at hl 1 rfl) ?_
                                      refine lv_lload hx hb dX9_copy_250 (lv_at hl 0 rfl) ?_
                                      refine lv_l2i (v := (h_X9_element x (hsA (h_X9_begin x S) ((hsQ (h_X9_begin x S) x 8).getD 0) p0.toNatClampNeg) (p1 + y_217_8) S_217).toInt32) hx hb dX9_copy_252 rfl ?_
                                      refine lv_aload_n hx hb dX9_copy_253 rfl (lv_at hl 1 rfl) ?_
                                      obtain ⟨h_254, hok⟩ := hok
                                      refine hp_getR (ci := 7) (C := RX9) (T := TX9) (N := 12) hx hb hts iw_X9_copy_X9 hown hK hP h_254.1 (PF_7 h_254.2.1) rfl 0 (by decide) (hts _ (List.mem_of_getElem? (i := 2) rfl)) (fun _ h9 => h9) rfl h_254.2.2 dX9_copy_254 ?_
                                      refine lv_iload hx hb dX9_copy_257 (lv_at hl 6 rfl) ?_
                                      obtain ⟨h_259, hok⟩ := hok
                                      refine hp_iald hx hb hK hP h_259.1 0 (PF_8 h_259.2.1) rfl h_259.2.2 dX9_copy_259 ?_
                                      refine pm_callI (va_runS (As := [.int (hsA S_217 ((hsQ S_217 x 0).getD 0) (hsA (h_X9_begin x S) ((hsQ (h_X9_begin x S) x 8).getD 0) p2.toNatClampNeg).toNatClampNeg)]) (rest := [.int ((h_X9_element x (hsA (h_X9_begin x S) ((hsQ (h_X9_begin x S) x 8).getD 0) p0.toNatClampNeg) (p1 + y_217_8) S_217).toInt32), .ref x]) ⟨hx, hb, hml, hown, hts⟩ (pm_X9_elementType l (hsA S_217 ((hsQ S_217 x 0).getD 0) (hsA (h_X9_begin x S) ((hsQ (h_X9_begin x S) x 8).getD 0) p2.toNatClampNeg).toNatClampNeg)) (va_cwS 1 hts gX9_copy_X9_elementType rfl rfl rfl hd_X9_elementType ⟨Nat.le_of_ble_eq_true rfl, Nat.le_of_ble_eq_true rfl⟩) ⟨pm_fbT, fun U hU hW => ⟨rfl, trivial⟩⟩ rfl rfl hl.1 rfl (lv_room (Nat.le_of_ble_eq_true rfl)) dX9_copy_260 ⟨Nat.le_refl 0, Nat.le_refl 0⟩) hS (fun H locs _ hk9 hS => ?_)
                                      replace hP := P_keep hP hk9
                                      obtain ⟨h_263k, hok⟩ := hok
                                      obtain ⟨h_263, hok⟩ := hok
                                      refine hm_callIr (G := G) (S1 := S_217) (a := ([.ref x, .int ((h_X9_element x (hsA (h_X9_begin x S) ((hsQ (h_X9_begin x S) x 8).getD 0) p0.toNatClampNeg) (p1 + y_217_8) S_217).toInt32), .int (s_X9_elementType (hsA S_217 ((hsQ S_217 x 0).getD 0) (hsA (h_X9_begin x S) ((hsQ (h_X9_begin x S) x 8).getD 0) p2.toNatClampNeg).toNatClampNeg))] : List Value).toArray) (rest := []) (h_X9_passes x ((h_X9_element x (hsA (h_X9_begin x S) ((hsQ (h_X9_begin x S) x 8).getD 0) p0.toNatClampNeg) (p1 + y_217_8) S_217).toInt32) (s_X9_elementType (hsA S_217 ((hsQ S_217 x 0).getD 0) (hsA (h_X9_begin x S) ((hsQ (h_X9_begin x S) x 8).getD 0) p2.toNatClampNeg).toNatClampNeg)) S_217) ?_ hS (fun H locs hP hS => ?_)
                                      ·
                                        exact va_runV (As := [.int ((h_X9_element x (hsA (h_X9_begin x S) ((hsQ (h_X9_begin x S) x 8).getD 0) p0.toNatClampNeg) (p1 + y_217_8) S_217).toInt32), .int (s_X9_elementType (hsA S_217 ((hsQ S_217 x 0).getD 0) (hsA (h_X9_begin x S) ((hsQ (h_X9_begin x S) x 8).getD 0) p2.toNatClampNeg).toNatClampNeg))]) (rest := []) ⟨hx, hb, hml, hown, hts⟩ (hm_X9_passes l G L S_217 x ((h_X9_element x (hsA (h_X9_begin x S) ((hsQ (h_X9_begin x S) x 8).getD 0) p0.toNatClampNeg) (p1 + y_217_8) S_217).toInt32) (s_X9_elementType (hsA S_217 ((hsQ S_217 x 0).getD 0) (hsA (h_X9_begin x S) ((hsQ (h_X9_begin x S) x 8).getD 0) p2.toNatClampNeg).toNatClampNeg)) h_263) (cwV 2 hts gX9_copy_X9_passes rfl rfl rfl hdv_X9_passes ⟨Nat.le_of_ble_eq_true rfl, Nat.le_of_ble_eq_true rfl⟩) ⟨HW.fb, hp_recv hK hP h_263k.1 (PF_7 h_263k.2) rfl, fun U hU hW => ⟨rfl, HW.call hP hK hnd hE hS U hU hW⟩⟩ rfl rfl hl.1 rfl (lv_room (Nat.le_of_ble_eq_true rfl)) dX9_copy_263 ⟨Nat.le_refl 0, Nat.le_refl 0⟩
                                      ·
                                        refine lv_if_ne (tgt := 275) hx hb dX9_copy_266 (by decide) (fun c_266 => ?_) (fun c_266 => ?_)
                                        ·
                                          have hok := (hok).2 c_266
                                          refine lv_aload_n hx hb dX9_copy_275 rfl (lv_at hl 1 rfl) ?_
                                          refine lv_iload hx hb dX9_copy_276 (lv_at hl 6 rfl) ?_
                                          refine lv_iload hx hb dX9_copy_278 (lv_at hl 3 rfl) ?_
                                          refine lv_iload hx hb dX9_copy_280 (lv_at hl 7 rfl) ?_
                                          refine lv_iadd hx hb dX9_copy_282 ?_
                                          refine lv_lload hx hb dX9_copy_283 (lv_at hl 0 rfl) ?_
                                          obtain ⟨h_285k, hok⟩ := hok
                                          obtain ⟨h_285, hok⟩ := hok
                                          refine hm_callV (G := G) (a := ([.ref x, .int (hsA (h_X9_begin x S) ((hsQ (h_X9_begin x S) x 8).getD 0) p2.toNatClampNeg), .int (p3 + y_217_8), .long (h_X9_element x (hsA (h_X9_begin x S) ((hsQ (h_X9_begin x S) x 8).getD 0) p0.toNatClampNeg) (p1 + y_217_8) S_217)] : List Value).toArray) (pr := (h_X9_set x (hsA (h_X9_begin x S) ((hsQ (h_X9_begin x S) x 8).getD 0) p2.toNatClampNeg) (p3 + y_217_8) (h_X9_element x (hsA (h_X9_begin x S) ((hsQ (h_X9_begin x S) x 8).getD 0) p0.toNatClampNeg) (p1 + y_217_8) S_217) S_217)) (rest := []) ?_ hS (fun H locs hP hS => ?_)
                                          ·
                                            exact va_runV (As := [.int (hsA (h_X9_begin x S) ((hsQ (h_X9_begin x S) x 8).getD 0) p2.toNatClampNeg), .int (p3 + y_217_8), .long (h_X9_element x (hsA (h_X9_begin x S) ((hsQ (h_X9_begin x S) x 8).getD 0) p0.toNatClampNeg) (p1 + y_217_8) S_217)]) (rest := []) ⟨hx, hb, hml, hown, hts⟩ (hm_X9_set l G L S_217 x (hsA (h_X9_begin x S) ((hsQ (h_X9_begin x S) x 8).getD 0) p2.toNatClampNeg) (p3 + y_217_8) (h_X9_element x (hsA (h_X9_begin x S) ((hsQ (h_X9_begin x S) x 8).getD 0) p0.toNatClampNeg) (p1 + y_217_8) S_217) h_285) (cwV 3 hts gX9_copy_X9_set rfl rfl rfl hdv_X9_set ⟨Nat.le_of_ble_eq_true rfl, Nat.le_of_ble_eq_true rfl⟩) ⟨HW.fb, hp_recv hK hP h_285k.1 (PF_7 h_285k.2) rfl, fun U hU hW => ⟨rfl, HW.call hP hK hnd hE hS U hU hW⟩⟩ rfl rfl hl.1 rfl (lv_room (Nat.le_of_ble_eq_true rfl)) dX9_copy_285 ⟨Nat.le_refl 0, Nat.le_refl 0⟩
                                          ·
                                            refine lv_iinc (v := y_217_8 + 1) (lv' := [(8, .int (y_217_8 + 1)), (9, .long (h_X9_element x (hsA (h_X9_begin x S) ((hsQ (h_X9_begin x S) x 8).getD 0) p0.toNatClampNeg) (p1 + y_217_8) S_217)), (0, .ref x), (2, .int p1), (4, .int p3), (5, .int p4), (6, .int (hsA (h_X9_begin x S) ((hsQ (h_X9_begin x S) x 8).getD 0) p0.toNatClampNeg)), (7, .int (hsA (h_X9_begin x S) ((hsQ (h_X9_begin x S) x 8).getD 0) p2.toNatClampNeg))]) hx hb dX9_copy_288 hl (k := 7) rfl rfl (by decide) rfl (fun ls hl => ?_)
                                            refine lv_goto (tgt := 217) hx hb dX9_copy_291 (by decide) ?_
                                            exact ih (y_217_8 + 1) (h_X9_set x (hsA (h_X9_begin x S) ((hsQ (h_X9_begin x S) x 8).getD 0) p2.toNatClampNeg) (p3 + y_217_8) (h_X9_element x (hsA (h_X9_begin x S) ((hsQ (h_X9_begin x S) x 8).getD 0) p0.toNatClampNeg) (p1 + y_217_8) S_217) S_217) _ _ hP hS ls (lv_sub hl [2, 3, 4, 5, 6, 7, 0] rfl) hok (((hK_217).trans ((if_neg c_221).trans ((if_neg c_246).trans (if_neg c_266)))))
                                        ·
                                          have hok := (hok).1 c_266
                                          refine lv_aload_n hx hb dX9_copy_269 rfl (lv_at hl 1 rfl) ?_
                                          refine lv_iconst (v := 5) hx hb dX9_copy_270 (by decide) ?_
                                          obtain ⟨h_271k, hok⟩ := hok
                                          obtain ⟨h_271, hok⟩ := hok
                                          refine hm_callI (G := G) (a := ([.ref x, .int 5] : List Value).toArray) (pr := (h_X9_fails x 5 S_217)) (rest := []) ?_ hS (fun H locs hP hS => ?_)
                                          ·
                                            exact va_runV (As := [.int 5]) (rest := []) ⟨hx, hb, hml, hown, hts⟩ (hm_X9_fails l G L S_217 x 5 h_271) (cwV 1 hts gX9_copy_X9_fails rfl rfl rfl hdv_X9_fails ⟨Nat.le_of_ble_eq_true rfl, Nat.le_of_ble_eq_true rfl⟩) ⟨HW.fb, hp_recv hK hP h_271k.1 (PF_7 h_271k.2) rfl, fun U hU hW => ⟨rfl, HW.call hP hK hnd hE hS U hU hW⟩⟩ rfl rfl hl.1 rfl (lv_room (Nat.le_of_ble_eq_true rfl)) dX9_copy_271 ⟨Nat.le_refl 0, Nat.le_refl 0⟩
                                          ·
                                            rw [hZ]
                                            exact hm_iret hx hb hr hlocks hS hP hK hnd hE (((hK_217).trans ((if_neg c_221).trans ((if_neg c_246).trans (if_pos c_266))))) dX9_copy_274
                            exact K_217 (100) 0 (h_X9_begin x S) _ _ hP hS ls (lv_sub hl [1, 2, 3, 4, 5, 6, 0] rfl) hok (((hK_130).trans ((if_pos c_139).trans ((if_pos c_152).trans (if_neg c_165)))))
                          ·
                            have hok := (hok).1 c_165
                            refine lv_iload_n hx hb dX9_copy_168 rfl (lv_at hl 1 rfl) ?_
                            refine lv_iload hx hb dX9_copy_169 (lv_at hl 2 rfl) ?_
                            refine lv_icmp_ge (tgt := 214) hx hb dX9_copy_171 (by decide) (fun c_171 => ?_) (fun c_171 => ?_)
                            ·
                              have hok := (hok).1 c_171
                              refine lv_iconst (v := 0) hx hb dX9_copy_214 (by decide) ?_
                              refine lv_istore (lv' := [(8, .int 0), (0, .ref x), (2, .int p1), (4, .int p3), (5, .int p4), (6, .int (hsA (h_X9_begin x S) ((hsQ (h_X9_begin x S) x 8).getD 0) p0.toNatClampNeg)), (7, .int (hsA (h_X9_begin x S) ((hsQ (h_X9_begin x S) x 8).getD 0) p2.toNatClampNeg))]) hx hb dX9_copy_215 hl (by decide) rfl (fun ls hl => ?_)
                              have K_217 : ∀ (n : Nat) (y_217_8 : Int32) (S_217 : HS) (H : Heap) (locs : List Loc), va_P (gD G) vwCl (va_pl L (PF G S_217)) H → va_S (AL L) s.heap H locs → ∀ (ls : Array Slot), lv_has ls 11 [(0, .ref x), (2, .int p1), (4, .int p3), (5, .int p4), (6, .int (hsA (h_X9_begin x S) ((hsQ (h_X9_begin x S) x 8).getD 0) p0.toNatClampNeg)), (7, .int (hsA (h_X9_begin x S) ((hsQ (h_X9_begin x S) x 8).getD 0) p2.toNatClampNeg)), (8, .int y_217_8)] → ok_X9_copy_l217a L x p0 p1 p2 p3 p4 S n y_217_8 S_217 → h_X9_copy x p0 p1 p2 p3 p4 S = h_X9_copy_l217a x p0 p1 p2 p3 p4 S n y_217_8 S_217 → W p l e (pm_R 2 43) s m ([.ref x, .int p0, .int p1, .int p2, .int p3, .int p4] : List Value).toArray below meth c H locs 0 0 Z (F0 m 217 ls []) := by
                                intro n
                                induction n with
                                | zero =>
                                  intro y_217_8 S_217 H locs hP hS ls hl hok hK_217
                                  exact False.elim hok
                                | succ n ih =>
                                  intro y_217_8 S_217 H locs hP hS ls hl hok hK_217
                                  refine lv_iload hx hb dX9_copy_217 (lv_at hl 6 rfl) ?_
                                  refine lv_iload hx hb dX9_copy_219 (lv_at hl 3 rfl) ?_
                                  refine lv_icmp_ge (tgt := 294) hx hb dX9_copy_221 (by decide) (fun c_221 => ?_) (fun c_221 => ?_)
                                  ·
                                    have hok := (hok).1 c_221
                                    refine lv_iconst (v := 1) hx hb dX9_copy_294 (by decide) ?_
                                    rw [hZ]
                                    exact hm_iret hx hb hr hlocks hS hP hK hnd hE (((hK_217).trans (if_pos c_221))) dX9_copy_295
                                  ·
                                    have hok := (hok).2 c_221
                                    refine lv_aload_n hx hb dX9_copy_224 rfl (lv_at hl 0 rfl) ?_
                                    refine lv_iload hx hb dX9_copy_225 (lv_at hl 4 rfl) ?_
                                    refine lv_iload_n hx hb dX9_copy_227 rfl (lv_at hl 1 rfl) ?_
                                    refine lv_iload hx hb dX9_copy_228 (lv_at hl 6 rfl) ?_
                                    refine lv_iadd hx hb dX9_copy_230 ?_
                                    obtain ⟨h_231k, hok⟩ := hok
                                    obtain ⟨h_231, hok⟩ := hok
                                    refine hm_callLr (G := G) (S1 := S_217) (a := ([.ref x, .int (hsA (h_X9_begin x S) ((hsQ (h_X9_begin x S) x 8).getD 0) p0.toNatClampNeg), .int (p1 + y_217_8)] : List Value).toArray) (rest := []) (h_X9_element x (hsA (h_X9_begin x S) ((hsQ (h_X9_begin x S) x 8).getD 0) p0.toNatClampNeg) (p1 + y_217_8) S_217) ?_ hS (fun H locs hP hS => ?_)
                                    ·
                                      exact va_runV (As := [.int (hsA (h_X9_begin x S) ((hsQ (h_X9_begin x S) x 8).getD 0) p0.toNatClampNeg), .int (p1 + y_217_8)]) (rest := []) ⟨hx, hb, hml, hown, hts⟩ (hm_X9_element l G L S_217 x (hsA (h_X9_begin x S) ((hsQ (h_X9_begin x S) x 8).getD 0) p0.toNatClampNeg) (p1 + y_217_8) h_231) (cwV 2 hts gX9_copy_X9_element rfl rfl rfl hdv_X9_element ⟨Nat.le_of_ble_eq_true rfl, Nat.le_of_ble_eq_true rfl⟩) ⟨HW.fb, hp_recv hK hP h_231k.1 (PF_7 h_231k.2) rfl, fun U hU hW => ⟨rfl, HW.call hP hK hnd hE hS U hU hW⟩⟩ rfl rfl hl.1 rfl (lv_room (Nat.le_of_ble_eq_true rfl)) dX9_copy_231 ⟨Nat.le_refl 0, Nat.le_refl 0⟩
                                    ·
                                      refine lv_lstore (lv' := [(9, .long (h_X9_element x (hsA (h_X9_begin x S) ((hsQ (h_X9_begin x S) x 8).getD 0) p0.toNatClampNeg) (p1 + y_217_8) S_217)), (0, .ref x), (2, .int p1), (4, .int p3), (5, .int p4), (6, .int (hsA (h_X9_begin x S) ((hsQ (h_X9_begin x S) x 8).getD 0) p0.toNatClampNeg)), (7, .int (hsA (h_X9_begin x S) ((hsQ (h_X9_begin x S) x 8).getD 0) p2.toNatClampNeg)), (8, .int y_217_8)]) hx hb dX9_copy_234 hl (by decide) rfl (fun ls hl => ?_)
                                      refine lv_aload_n hx hb dX9_copy_236 rfl (lv_at hl 1 rfl) ?_
                                      obtain ⟨h_237, hok⟩ := hok
                                      refine hp_getR (ci := 7) (C := RX9) (T := TX9) (N := 12) hx hb hts iw_X9_copy_X9 hown hK hP h_237.1 (PF_7 h_237.2.1) rfl 0 (by decide) (hts _ (List.mem_of_getElem? (i := 2) rfl)) (fun _ h9 => h9) rfl h_237.2.2 dX9_copy_237 ?_
                                      refine lv_iload hx hb dX9_copy_240 (lv_at hl 6 rfl) ?_
                                      obtain ⟨h_242, hok⟩ := hok
                                      refine hp_iald hx hb hK hP h_242.1 0 (PF_8 h_242.2.1) rfl h_242.2.2 dX9_copy_242 ?_
                                      refine pm_callI (va_runS (As := [.int (hsA S_217 ((hsQ S_217 x 0).getD 0) (hsA (h_X9_begin x S) ((hsQ (h_X9_begin x S) x 8).getD 0) p2.toNatClampNeg).toNatClampNeg)]) (rest := []) ⟨hx, hb, hml, hown, hts⟩ (pm_X9_isFamily l (hsA S_217 ((hsQ S_217 x 0).getD 0) (hsA (h_X9_begin x S) ((hsQ (h_X9_begin x S) x 8).getD 0) p2.toNatClampNeg).toNatClampNeg)) (va_cwS 1 hts gX9_copy_X9_isFamily rfl rfl rfl hd_X9_isFamily ⟨Nat.le_of_ble_eq_true rfl, Nat.le_of_ble_eq_true rfl⟩) ⟨pm_fbT, fun U hU hW => ⟨rfl, trivial⟩⟩ rfl rfl hl.1 rfl (lv_room (Nat.le_of_ble_eq_true rfl)) dX9_copy_243 ⟨Nat.le_refl 0, Nat.le_refl 0⟩) hS (fun H locs _ hk9 hS => ?_)
                                      replace hP := P_keep hP hk9
                                      refine lv_if_eq (tgt := 275) hx hb dX9_copy_246 (by decide) (fun c_246 => ?_) (fun c_246 => ?_)
                                      ·
                                        have hok := (hok).1 c_246
                                        refine lv_aload_n hx hb dX9_copy_275 rfl (lv_at hl 1 rfl) ?_
                                        refine lv_iload hx hb dX9_copy_276 (lv_at hl 6 rfl) ?_
                                        refine lv_iload hx hb dX9_copy_278 (lv_at hl 3 rfl) ?_
                                        refine lv_iload hx hb dX9_copy_280 (lv_at hl 7 rfl) ?_
                                        refine lv_iadd hx hb dX9_copy_282 ?_
                                        refine lv_lload hx hb dX9_copy_283 (lv_at hl 0 rfl) ?_
                                        obtain ⟨h_285k, hok⟩ := hok
                                        obtain ⟨h_285, hok⟩ := hok
                                        refine hm_callV (G := G) (a := ([.ref x, .int (hsA (h_X9_begin x S) ((hsQ (h_X9_begin x S) x 8).getD 0) p2.toNatClampNeg), .int (p3 + y_217_8), .long (h_X9_element x (hsA (h_X9_begin x S) ((hsQ (h_X9_begin x S) x 8).getD 0) p0.toNatClampNeg) (p1 + y_217_8) S_217)] : List Value).toArray) (pr := (h_X9_set x (hsA (h_X9_begin x S) ((hsQ (h_X9_begin x S) x 8).getD 0) p2.toNatClampNeg) (p3 + y_217_8) (h_X9_element x (hsA (h_X9_begin x S) ((hsQ (h_X9_begin x S) x 8).getD 0) p0.toNatClampNeg) (p1 + y_217_8) S_217) S_217)) (rest := []) ?_ hS (fun H locs hP hS => ?_)
                                        ·
                                          exact va_runV (As := [.int (hsA (h_X9_begin x S) ((hsQ (h_X9_begin x S) x 8).getD 0) p2.toNatClampNeg), .int (p3 + y_217_8), .long (h_X9_element x (hsA (h_X9_begin x S) ((hsQ (h_X9_begin x S) x 8).getD 0) p0.toNatClampNeg) (p1 + y_217_8) S_217)]) (rest := []) ⟨hx, hb, hml, hown, hts⟩ (hm_X9_set l G L S_217 x (hsA (h_X9_begin x S) ((hsQ (h_X9_begin x S) x 8).getD 0) p2.toNatClampNeg) (p3 + y_217_8) (h_X9_element x (hsA (h_X9_begin x S) ((hsQ (h_X9_begin x S) x 8).getD 0) p0.toNatClampNeg) (p1 + y_217_8) S_217) h_285) (cwV 3 hts gX9_copy_X9_set rfl rfl rfl hdv_X9_set ⟨Nat.le_of_ble_eq_true rfl, Nat.le_of_ble_eq_true rfl⟩) ⟨HW.fb, hp_recv hK hP h_285k.1 (PF_7 h_285k.2) rfl, fun U hU hW => ⟨rfl, HW.call hP hK hnd hE hS U hU hW⟩⟩ rfl rfl hl.1 rfl (lv_room (Nat.le_of_ble_eq_true rfl)) dX9_copy_285 ⟨Nat.le_refl 0, Nat.le_refl 0⟩
                                        ·
                                          refine lv_iinc (v := y_217_8 + 1) (lv' := [(8, .int (y_217_8 + 1)), (9, .long (h_X9_element x (hsA (h_X9_begin x S) ((hsQ (h_X9_begin x S) x 8).getD 0) p0.toNatClampNeg) (p1 + y_217_8) S_217)), (0, .ref x), (2, .int p1), (4, .int p3), (5, .int p4), (6, .int (hsA (h_X9_begin x S) ((hsQ (h_X9_begin x S) x 8).getD 0) p0.toNatClampNeg)), (7, .int (hsA (h_X9_begin x S) ((hsQ (h_X9_begin x S) x 8).getD 0) p2.toNatClampNeg))]) hx hb dX9_copy_288 hl (k := 7) rfl rfl (by decide) rfl (fun ls hl => ?_)
                                          refine lv_goto (tgt := 217) hx hb dX9_copy_291 (by decide) ?_
                                          exact ih (y_217_8 + 1) (h_X9_set x (hsA (h_X9_begin x S) ((hsQ (h_X9_begin x S) x 8).getD 0) p2.toNatClampNeg) (p3 + y_217_8) (h_X9_element x (hsA (h_X9_begin x S) ((hsQ (h_X9_begin x S) x 8).getD 0) p0.toNatClampNeg) (p1 + y_217_8) S_217) S_217) _ _ hP hS ls (lv_sub hl [2, 3, 4, 5, 6, 7, 0] rfl) hok (((hK_217).trans ((if_neg c_221).trans (if_pos c_246))))
                                      ·
                                        have hok := (hok).2 c_246
                                        refine lv_aload_n hx hb dX9_copy_249 rfl (lv_at hl 1 rfl) ?_
                                        refine lv_lload hx hb dX9_copy_250 (lv_at hl 0 rfl) ?_
                                        refine lv_l2i (v := (h_X9_element x (hsA (h_X9_begin x S) ((hsQ (h_X9_begin x S) x 8).getD 0) p0.toNatClampNeg) (p1 + y_217_8) S_217).toInt32) hx hb dX9_copy_252 rfl ?_
                                        refine lv_aload_n hx hb dX9_copy_253 rfl (lv_at hl 1 rfl) ?_
                                        obtain ⟨h_254, hok⟩ := hok
                                        refine hp_getR (ci := 7) (C := RX9) (T := TX9) (N := 12) hx hb hts iw_X9_copy_X9 hown hK hP h_254.1 (PF_7 h_254.2.1) rfl 0 (by decide) (hts _ (List.mem_of_getElem? (i := 2) rfl)) (fun _ h9 => h9) rfl h_254.2.2 dX9_copy_254 ?_
                                        refine lv_iload hx hb dX9_copy_257 (lv_at hl 6 rfl) ?_
                                        obtain ⟨h_259, hok⟩ := hok
                                        refine hp_iald hx hb hK hP h_259.1 0 (PF_8 h_259.2.1) rfl h_259.2.2 dX9_copy_259 ?_
                                        refine pm_callI (va_runS (As := [.int (hsA S_217 ((hsQ S_217 x 0).getD 0) (hsA (h_X9_begin x S) ((hsQ (h_X9_begin x S) x 8).getD 0) p2.toNatClampNeg).toNatClampNeg)]) (rest := [.int ((h_X9_element x (hsA (h_X9_begin x S) ((hsQ (h_X9_begin x S) x 8).getD 0) p0.toNatClampNeg) (p1 + y_217_8) S_217).toInt32), .ref x]) ⟨hx, hb, hml, hown, hts⟩ (pm_X9_elementType l (hsA S_217 ((hsQ S_217 x 0).getD 0) (hsA (h_X9_begin x S) ((hsQ (h_X9_begin x S) x 8).getD 0) p2.toNatClampNeg).toNatClampNeg)) (va_cwS 1 hts gX9_copy_X9_elementType rfl rfl rfl hd_X9_elementType ⟨Nat.le_of_ble_eq_true rfl, Nat.le_of_ble_eq_true rfl⟩) ⟨pm_fbT, fun U hU hW => ⟨rfl, trivial⟩⟩ rfl rfl hl.1 rfl (lv_room (Nat.le_of_ble_eq_true rfl)) dX9_copy_260 ⟨Nat.le_refl 0, Nat.le_refl 0⟩) hS (fun H locs _ hk9 hS => ?_)
                                        replace hP := P_keep hP hk9
                                        obtain ⟨h_263k, hok⟩ := hok
                                        obtain ⟨h_263, hok⟩ := hok
                                        refine hm_callIr (G := G) (S1 := S_217) (a := ([.ref x, .int ((h_X9_element x (hsA (h_X9_begin x S) ((hsQ (h_X9_begin x S) x 8).getD 0) p0.toNatClampNeg) (p1 + y_217_8) S_217).toInt32), .int (s_X9_elementType (hsA S_217 ((hsQ S_217 x 0).getD 0) (hsA (h_X9_begin x S) ((hsQ (h_X9_begin x S) x 8).getD 0) p2.toNatClampNeg).toNatClampNeg))] : List Value).toArray) (rest := []) (h_X9_passes x ((h_X9_element x (hsA (h_X9_begin x S) ((hsQ (h_X9_begin x S) x 8).getD 0) p0.toNatClampNeg) (p1 + y_217_8) S_217).toInt32) (s_X9_elementType (hsA S_217 ((hsQ S_217 x 0).getD 0) (hsA (h_X9_begin x S) ((hsQ (h_X9_begin x S) x 8).getD 0) p2.toNatClampNeg).toNatClampNeg)) S_217) ?_ hS (fun H locs hP hS => ?_)
                                        ·
                                          exact va_runV (As := [.int ((h_X9_element x (hsA (h_X9_begin x S) ((hsQ (h_X9_begin x S) x 8).getD 0) p0.toNatClampNeg) (p1 + y_217_8) S_217).toInt32), .int (s_X9_elementType (hsA S_217 ((hsQ S_217 x 0).getD 0) (hsA (h_X9_begin x S) ((hsQ (h_X9_begin x S) x 8).getD 0) p2.toNatClampNeg).toNatClampNeg))]) (rest := []) ⟨hx, hb, hml, hown, hts⟩ (hm_X9_passes l G L S_217 x ((h_X9_element x (hsA (h_X9_begin x S) ((hsQ (h_X9_begin x S) x 8).getD 0) p0.toNatClampNeg) (p1 + y_217_8) S_217).toInt32) (s_X9_elementType (hsA S_217 ((hsQ S_217 x 0).getD 0) (hsA (h_X9_begin x S) ((hsQ (h_X9_begin x S) x 8).getD 0) p2.toNatClampNeg).toNatClampNeg)) h_263) (cwV 2 hts gX9_copy_X9_passes rfl rfl rfl hdv_X9_passes ⟨Nat.le_of_ble_eq_true rfl, Nat.le_of_ble_eq_true rfl⟩) ⟨HW.fb, hp_recv hK hP h_263k.1 (PF_7 h_263k.2) rfl, fun U hU hW => ⟨rfl, HW.call hP hK hnd hE hS U hU hW⟩⟩ rfl rfl hl.1 rfl (lv_room (Nat.le_of_ble_eq_true rfl)) dX9_copy_263 ⟨Nat.le_refl 0, Nat.le_refl 0⟩
                                        ·
                                          refine lv_if_ne (tgt := 275) hx hb dX9_copy_266 (by decide) (fun c_266 => ?_) (fun c_266 => ?_)
                                          ·
                                            have hok := (hok).2 c_266
                                            refine lv_aload_n hx hb dX9_copy_275 rfl (lv_at hl 1 rfl) ?_
                                            refine lv_iload hx hb dX9_copy_276 (lv_at hl 6 rfl) ?_
                                            refine lv_iload hx hb dX9_copy_278 (lv_at hl 3 rfl) ?_
                                            refine lv_iload hx hb dX9_copy_280 (lv_at hl 7 rfl) ?_
                                            refine lv_iadd hx hb dX9_copy_282 ?_
                                            refine lv_lload hx hb dX9_copy_283 (lv_at hl 0 rfl) ?_
                                            obtain ⟨h_285k, hok⟩ := hok
                                            obtain ⟨h_285, hok⟩ := hok
                                            refine hm_callV (G := G) (a := ([.ref x, .int (hsA (h_X9_begin x S) ((hsQ (h_X9_begin x S) x 8).getD 0) p2.toNatClampNeg), .int (p3 + y_217_8), .long (h_X9_element x (hsA (h_X9_begin x S) ((hsQ (h_X9_begin x S) x 8).getD 0) p0.toNatClampNeg) (p1 + y_217_8) S_217)] : List Value).toArray) (pr := (h_X9_set x (hsA (h_X9_begin x S) ((hsQ (h_X9_begin x S) x 8).getD 0) p2.toNatClampNeg) (p3 + y_217_8) (h_X9_element x (hsA (h_X9_begin x S) ((hsQ (h_X9_begin x S) x 8).getD 0) p0.toNatClampNeg) (p1 + y_217_8) S_217) S_217)) (rest := []) ?_ hS (fun H locs hP hS => ?_)
                                            ·
                                              exact va_runV (As := [.int (hsA (h_X9_begin x S) ((hsQ (h_X9_begin x S) x 8).getD 0) p2.toNatClampNeg), .int (p3 + y_217_8), .long (h_X9_element x (hsA (h_X9_begin x S) ((hsQ (h_X9_begin x S) x 8).getD 0) p0.toNatClampNeg) (p1 + y_217_8) S_217)]) (rest := []) ⟨hx, hb, hml, hown, hts⟩ (hm_X9_set l G L S_217 x (hsA (h_X9_begin x S) ((hsQ (h_X9_begin x S) x 8).getD 0) p2.toNatClampNeg) (p3 + y_217_8) (h_X9_element x (hsA (h_X9_begin x S) ((hsQ (h_X9_begin x S) x 8).getD 0) p0.toNatClampNeg) (p1 + y_217_8) S_217) h_285) (cwV 3 hts gX9_copy_X9_set rfl rfl rfl hdv_X9_set ⟨Nat.le_of_ble_eq_true rfl, Nat.le_of_ble_eq_true rfl⟩) ⟨HW.fb, hp_recv hK hP h_285k.1 (PF_7 h_285k.2) rfl, fun U hU hW => ⟨rfl, HW.call hP hK hnd hE hS U hU hW⟩⟩ rfl rfl hl.1 rfl (lv_room (Nat.le_of_ble_eq_true rfl)) dX9_copy_285 ⟨Nat.le_refl 0, Nat.le_refl 0⟩
                                            ·
                                              refine lv_iinc (v := y_217_8 + 1) (lv' := [(8, .int (y_217_8 + 1)), (9, .long (h_X9_element x (hsA (h_X9_begin x S) ((hsQ (h_X9_begin x S) x 8).getD 0) p0.toNatClampNeg) (p1 + y_217_8) S_217)), (0, .ref x), (2, .int p1), (4, .int p3), (5, .int p4), (6, .int (hsA (h_X9_begin x S) ((hsQ (h_X9_begin x S) x 8).getD 0) p0.toNatClampNeg)), (7, .int (hsA (h_X9_begin x S) ((hsQ (h_X9_begin x S) x 8).getD 0) p2.toNatClampNeg))]) hx hb dX9_copy_288 hl (k := 7) rfl rfl (by decide) rfl (fun ls hl => ?_)
                                              refine lv_goto (tgt := 217) hx hb dX9_copy_291 (by decide) ?_
                                              exact ih (y_217_8 + 1) (h_X9_set x (hsA (h_X9_begin x S) ((hsQ (h_X9_begin x S) x 8).getD 0) p2.toNatClampNeg) (p3 + y_217_8) (h_X9_element x (hsA (h_X9_begin x S) ((hsQ (h_X9_begin x S) x 8).getD 0) p0.toNatClampNeg) (p1 + y_217_8) S_217) S_217) _ _ hP hS ls (lv_sub hl [2, 3, 4, 5, 6, 7, 0] rfl) hok (((hK_217).trans ((if_neg c_221).trans ((if_neg c_246).trans (if_neg c_266)))))
                                          ·
                                            have hok := (hok).1 c_266
                                            refine lv_aload_n hx hb dX9_copy_269 rfl (lv_at hl 1 rfl) ?_
                                            refine lv_iconst (v := 5) hx hb dX9_copy_270 (by decide) ?_
                                            obtain ⟨h_271k, hok⟩ := hok
                                            obtain ⟨h_271, hok⟩ := hok
                                            refine hm_callI (G := G) (a := ([.ref x, .int 5] : List Value).toArray) (pr := (h_X9_fails x 5 S_217)) (rest := []) ?_ hS (fun H locs hP hS => ?_)
                                            ·
                                              exact va_runV (As := [.int 5]) (rest := []) ⟨hx, hb, hml, hown, hts⟩ (hm_X9_fails l G L S_217 x 5 h_271) (cwV 1 hts gX9_copy_X9_fails rfl rfl rfl hdv_X9_fails ⟨Nat.le_of_ble_eq_true rfl, Nat.le_of_ble_eq_true rfl⟩) ⟨HW.fb, hp_recv hK hP h_271k.1 (PF_7 h_271k.2) rfl, fun U hU hW => ⟨rfl, HW.call hP hK hnd hE hS U hU hW⟩⟩ rfl rfl hl.1 rfl (lv_room (Nat.le_of_ble_eq_true rfl)) dX9_copy_271 ⟨Nat.le_refl 0, Nat.le_refl 0⟩
                                            ·
                                              rw [hZ]
                                              exact hm_iret hx hb hr hlocks hS hP hK hnd hE (((hK_217).trans ((if_neg c_221).trans ((if_neg c_246).trans (if_pos c_266))))) dX9_copy_274
                              exact K_217 (100) 0 (h_X9_begin x S) _ _ hP hS ls (lv_sub hl [1, 2, 3, 4, 5, 6, 0] rfl) hok (((hK_130).trans ((if_pos c_139).trans ((if_pos c_152).trans ((if_pos c_165).trans (if_pos c_171))))))
                            ·
                              have hok := (hok).2 c_171
                              refine lv_iload hx hb dX9_copy_174 (lv_at hl 3 rfl) ?_
                              refine lv_iconst (v := 1) hx hb dX9_copy_176 (by decide) ?_
                              refine lv_isub hx hb dX9_copy_177 ?_
                              refine lv_istore (lv' := [(8, .int (p4 - 1)), (0, .ref x), (2, .int p1), (4, .int p3), (5, .int p4), (6, .int (hsA (h_X9_begin x S) ((hsQ (h_X9_begin x S) x 8).getD 0) p0.toNatClampNeg)), (7, .int (hsA (h_X9_begin x S) ((hsQ (h_X9_begin x S) x 8).getD 0) p2.toNatClampNeg))]) hx hb dX9_copy_178 hl (by decide) rfl (fun ls hl => ?_)
                              have K_180 : ∀ (n : Nat) (y_180_8 : Int32) (S_180 : HS) (H : Heap) (locs : List Loc), va_P (gD G) vwCl (va_pl L (PF G S_180)) H → va_S (AL L) s.heap H locs → ∀ (ls : Array Slot), lv_has ls 11 [(0, .ref x), (2, .int p1), (4, .int p3), (6, .int (hsA (h_X9_begin x S) ((hsQ (h_X9_begin x S) x 8).getD 0) p0.toNatClampNeg)), (7, .int (hsA (h_X9_begin x S) ((hsQ (h_X9_begin x S) x 8).getD 0) p2.toNatClampNeg)), (8, .int y_180_8)] → ok_X9_copy_l180 L x p0 p1 p2 p3 p4 S n y_180_8 S_180 → h_X9_copy x p0 p1 p2 p3 p4 S = h_X9_copy_l180 x p0 p1 p2 p3 p4 S n y_180_8 S_180 → W p l e (pm_R 2 43) s m ([.ref x, .int p0, .int p1, .int p2, .int p3, .int p4] : List Value).toArray below meth c H locs 0 0 Z (F0 m 180 ls []) := by
                                intro n
                                induction n with
                                | zero =>
                                  intro y_180_8 S_180 H locs hP hS ls hl hok hK_180
                                  exact False.elim hok
                                | succ n ih =>
                                  intro y_180_8 S_180 H locs hP hS ls hl hok hK_180
                                  refine lv_iload hx hb dX9_copy_180 (lv_at hl 5 rfl) ?_
                                  refine lv_if_lt (tgt := 212) hx hb dX9_copy_182 (by decide) (fun c_182 => ?_) (fun c_182 => ?_)
                                  ·
                                    have hok := (hok).1 c_182
                                    refine lv_iconst (v := 1) hx hb dX9_copy_212 (by decide) ?_
                                    rw [hZ]
                                    exact hm_iret hx hb hr hlocks hS hP hK hnd hE (((hK_180).trans (if_pos c_182))) dX9_copy_213
                                  ·
                                    have hok := (hok).2 c_182
                                    refine lv_aload_n hx hb dX9_copy_185 rfl (lv_at hl 0 rfl) ?_
                                    refine lv_iload hx hb dX9_copy_186 (lv_at hl 4 rfl) ?_
                                    refine lv_iload hx hb dX9_copy_188 (lv_at hl 2 rfl) ?_
                                    refine lv_iload hx hb dX9_copy_190 (lv_at hl 5 rfl) ?_
                                    refine lv_iadd hx hb dX9_copy_192 ?_
                                    refine lv_aload_n hx hb dX9_copy_193 rfl (lv_at hl 0 rfl) ?_
                                    refine lv_iload hx hb dX9_copy_194 (lv_at hl 3 rfl) ?_
                                    refine lv_iload_n hx hb dX9_copy_196 rfl (lv_at hl 1 rfl) ?_
                                    refine lv_iload hx hb dX9_copy_197 (lv_at hl 5 rfl) ?_
                                    refine lv_iadd hx hb dX9_copy_199 ?_
                                    obtain ⟨h_200k, hok⟩ := hok
                                    obtain ⟨h_200, hok⟩ := hok
                                    refine hm_callLr (G := G) (S1 := S_180) (a := ([.ref x, .int (hsA (h_X9_begin x S) ((hsQ (h_X9_begin x S) x 8).getD 0) p0.toNatClampNeg), .int (p1 + y_180_8)] : List Value).toArray) (rest := [.int (p3 + y_180_8), .int (hsA (h_X9_begin x S) ((hsQ (h_X9_begin x S) x 8).getD 0) p2.toNatClampNeg), .ref x]) (h_X9_element x (hsA (h_X9_begin x S) ((hsQ (h_X9_begin x S) x 8).getD 0) p0.toNatClampNeg) (p1 + y_180_8) S_180) ?_ hS (fun H locs hP hS => ?_)
                                    ·
                                      exact va_runV (As := [.int (hsA (h_X9_begin x S) ((hsQ (h_X9_begin x S) x 8).getD 0) p0.toNatClampNeg), .int (p1 + y_180_8)]) (rest := [.int (p3 + y_180_8), .int (hsA (h_X9_begin x S) ((hsQ (h_X9_begin x S) x 8).getD 0) p2.toNatClampNeg), .ref x]) ⟨hx, hb, hml, hown, hts⟩ (hm_X9_element l G L S_180 x (hsA (h_X9_begin x S) ((hsQ (h_X9_begin x S) x 8).getD 0) p0.toNatClampNeg) (p1 + y_180_8) h_200) (cwV 2 hts gX9_copy_X9_element rfl rfl rfl hdv_X9_element ⟨Nat.le_of_ble_eq_true rfl, Nat.le_of_ble_eq_true rfl⟩) ⟨HW.fb, hp_recv hK hP h_200k.1 (PF_7 h_200k.2) rfl, fun U hU hW => ⟨rfl, HW.call hP hK hnd hE hS U hU hW⟩⟩ rfl rfl hl.1 rfl (lv_room (Nat.le_of_ble_eq_true rfl)) dX9_copy_200 ⟨Nat.le_refl 0, Nat.le_refl 0⟩
                                    ·
                                      obtain ⟨h_203k, hok⟩ := hok
                                      obtain ⟨h_203, hok⟩ := hok
                                      refine hm_callV (G := G) (a := ([.ref x, .int (hsA (h_X9_begin x S) ((hsQ (h_X9_begin x S) x 8).getD 0) p2.toNatClampNeg), .int (p3 + y_180_8), .long (h_X9_element x (hsA (h_X9_begin x S) ((hsQ (h_X9_begin x S) x 8).getD 0) p0.toNatClampNeg) (p1 + y_180_8) S_180)] : List Value).toArray) (pr := (h_X9_set x (hsA (h_X9_begin x S) ((hsQ (h_X9_begin x S) x 8).getD 0) p2.toNatClampNeg) (p3 + y_180_8) (h_X9_element x (hsA (h_X9_begin x S) ((hsQ (h_X9_begin x S) x 8).getD 0) p0.toNatClampNeg) (p1 + y_180_8) S_180) S_180)) (rest := []) ?_ hS (fun H locs hP hS => ?_)
                                      ·
                                        exact va_runV (As := [.int (hsA (h_X9_begin x S) ((hsQ (h_X9_begin x S) x 8).getD 0) p2.toNatClampNeg), .int (p3 + y_180_8), .long (h_X9_element x (hsA (h_X9_begin x S) ((hsQ (h_X9_begin x S) x 8).getD 0) p0.toNatClampNeg) (p1 + y_180_8) S_180)]) (rest := []) ⟨hx, hb, hml, hown, hts⟩ (hm_X9_set l G L S_180 x (hsA (h_X9_begin x S) ((hsQ (h_X9_begin x S) x 8).getD 0) p2.toNatClampNeg) (p3 + y_180_8) (h_X9_element x (hsA (h_X9_begin x S) ((hsQ (h_X9_begin x S) x 8).getD 0) p0.toNatClampNeg) (p1 + y_180_8) S_180) h_203) (cwV 3 hts gX9_copy_X9_set rfl rfl rfl hdv_X9_set ⟨Nat.le_of_ble_eq_true rfl, Nat.le_of_ble_eq_true rfl⟩) ⟨HW.fb, hp_recv hK hP h_203k.1 (PF_7 h_203k.2) rfl, fun U hU hW => ⟨rfl, HW.call hP hK hnd hE hS U hU hW⟩⟩ rfl rfl hl.1 rfl (lv_room (Nat.le_of_ble_eq_true rfl)) dX9_copy_203 ⟨Nat.le_refl 0, Nat.le_refl 0⟩
                                      ·
                                        refine lv_iinc (v := y_180_8 + (-1)) (lv' := [(8, .int (y_180_8 + (-1))), (0, .ref x), (2, .int p1), (4, .int p3), (6, .int (hsA (h_X9_begin x S) ((hsQ (h_X9_begin x S) x 8).getD 0) p0.toNatClampNeg)), (7, .int (hsA (h_X9_begin x S) ((hsQ (h_X9_begin x S) x 8).getD 0) p2.toNatClampNeg))]) hx hb dX9_copy_206 hl (k := 5) rfl rfl (by decide) rfl (fun ls hl => ?_)
                                        refine lv_goto (tgt := 180) hx hb dX9_copy_209 (by decide) ?_
                                        exact ih (y_180_8 + (-1)) (h_X9_set x (hsA (h_X9_begin x S) ((hsQ (h_X9_begin x S) x 8).getD 0) p2.toNatClampNeg) (p3 + y_180_8) (h_X9_element x (hsA (h_X9_begin x S) ((hsQ (h_X9_begin x S) x 8).getD 0) p0.toNatClampNeg) (p1 + y_180_8) S_180) S_180) _ _ hP hS ls (lv_sub hl [1, 2, 3, 4, 5, 0] rfl) hok (((hK_180).trans (if_neg c_182)))
                              exact K_180 (100) (p4 - 1) (h_X9_begin x S) _ _ hP hS ls (lv_sub hl [1, 2, 3, 5, 6, 0] rfl) hok (((hK_130).trans ((if_pos c_139).trans ((if_pos c_152).trans ((if_pos c_165).trans (if_neg c_171))))))
                        ·
                          have hok := (hok).2 c_152
                          refine lv_aload_n hx hb dX9_copy_155 rfl (lv_at hl 0 rfl) ?_
                          refine lv_iconst (v := 2) hx hb dX9_copy_156 (by decide) ?_
                          obtain ⟨h_157k, hok⟩ := hok
                          obtain ⟨h_157, hok⟩ := hok
                          refine hm_callI (G := G) (a := ([.ref x, .int 2] : List Value).toArray) (pr := (h_X9_fails x 2 (h_X9_begin x S))) (rest := []) ?_ hS (fun H locs hP hS => ?_)
                          ·
                            exact va_runV (As := [.int 2]) (rest := []) ⟨hx, hb, hml, hown, hts⟩ (hm_X9_fails l G L (h_X9_begin x S) x 2 h_157) (cwV 1 hts gX9_copy_X9_fails rfl rfl rfl hdv_X9_fails ⟨Nat.le_of_ble_eq_true rfl, Nat.le_of_ble_eq_true rfl⟩) ⟨HW.fb, hp_recv hK hP h_157k.1 (PF_7 h_157k.2) rfl, fun U hU hW => ⟨rfl, HW.call hP hK hnd hE hS U hU hW⟩⟩ rfl rfl hl.1 rfl (lv_room (Nat.le_of_ble_eq_true rfl)) dX9_copy_157 ⟨Nat.le_refl 0, Nat.le_refl 0⟩
                          ·
                            rw [hZ]
                            exact hm_iret hx hb hr hlocks hS hP hK hnd hE (((hK_130).trans ((if_pos c_139).trans (if_neg c_152)))) dX9_copy_160
                refine lv_icmp_eq (tgt := 130) hx hb dX9_copy_95 (by decide) (fun c_95 => ?_) (fun c_95 => ?_)
                ·
                  have hok := (hok).1 c_95
                  exact K_130 _ _ hP hS ls (lv_sub hl [2, 4, 6, 7, 1, 0] rfl) hok (((if_neg c_8).trans ((if_neg c_15).trans ((if_neg c_43).trans ((if_neg c_48).trans ((if_neg c_66).trans ((if_neg c_78).trans (if_pos c_95))))))))
                ·
                  have hok := (hok).2 c_95
                  refine lv_aload_n hx hb dX9_copy_98 rfl (lv_at hl 2 rfl) ?_
                  obtain ⟨h_99, hok⟩ := hok
                  refine hp_getR (ci := 7) (C := RX9) (T := TX9) (N := 12) hx hb hts iw_X9_copy_X9 hown hK hP h_99.1 (PF_7 h_99.2.1) rfl 0 (by decide) (hts _ (List.mem_of_getElem? (i := 2) rfl)) (fun _ h9 => h9) rfl h_99.2.2 dX9_copy_99 ?_
                  refine lv_iload hx hb dX9_copy_102 (lv_at hl 1 rfl) ?_
                  obtain ⟨h_104, hok⟩ := hok
                  refine hp_iald hx hb hK hP h_104.1 0 (PF_8 h_104.2.1) rfl h_104.2.2 dX9_copy_104 ?_
                  refine pm_callI (va_runS (As := [.int (hsA (h_X9_begin x S) ((hsQ (h_X9_begin x S) x 0).getD 0) (hsA (h_X9_begin x S) ((hsQ (h_X9_begin x S) x 8).getD 0) p0.toNatClampNeg).toNatClampNeg)]) (rest := []) ⟨hx, hb, hml, hown, hts⟩ (pm_X9_isFamily l (hsA (h_X9_begin x S) ((hsQ (h_X9_begin x S) x 0).getD 0) (hsA (h_X9_begin x S) ((hsQ (h_X9_begin x S) x 8).getD 0) p0.toNatClampNeg).toNatClampNeg)) (va_cwS 1 hts gX9_copy_X9_isFamily rfl rfl rfl hd_X9_isFamily ⟨Nat.le_of_ble_eq_true rfl, Nat.le_of_ble_eq_true rfl⟩) ⟨pm_fbT, fun U hU hW => ⟨rfl, trivial⟩⟩ rfl rfl hl.1 rfl (lv_room (Nat.le_of_ble_eq_true rfl)) dX9_copy_105 ⟨Nat.le_refl 0, Nat.le_refl 0⟩) hS (fun H locs _ hk9 hS => ?_)
                  replace hP := P_keep hP hk9
                  refine lv_if_eq (tgt := 124) hx hb dX9_copy_108 (by decide) (fun c_108 => ?_) (fun c_108 => ?_)
                  ·
                    have hok := (hok).1 c_108
                    refine lv_aload_n hx hb dX9_copy_124 rfl (lv_at hl 2 rfl) ?_
                    refine lv_iconst (v := 5) hx hb dX9_copy_125 (by decide) ?_
                    obtain ⟨h_126k, hok⟩ := hok
                    obtain ⟨h_126, hok⟩ := hok
                    refine hm_callI (G := G) (a := ([.ref x, .int 5] : List Value).toArray) (pr := (h_X9_fails x 5 (h_X9_begin x S))) (rest := []) ?_ hS (fun H locs hP hS => ?_)
                    ·
                      exact va_runV (As := [.int 5]) (rest := []) ⟨hx, hb, hml, hown, hts⟩ (hm_X9_fails l G L (h_X9_begin x S) x 5 h_126) (cwV 1 hts gX9_copy_X9_fails rfl rfl rfl hdv_X9_fails ⟨Nat.le_of_ble_eq_true rfl, Nat.le_of_ble_eq_true rfl⟩) ⟨HW.fb, hp_recv hK hP h_126k.1 (PF_7 h_126k.2) rfl, fun U hU hW => ⟨rfl, HW.call hP hK hnd hE hS U hU hW⟩⟩ rfl rfl hl.1 rfl (lv_room (Nat.le_of_ble_eq_true rfl)) dX9_copy_126 ⟨Nat.le_refl 0, Nat.le_refl 0⟩
                    ·
                      rw [hZ]
                      exact hm_iret hx hb hr hlocks hS hP hK hnd hE (((if_neg c_8).trans ((if_neg c_15).trans ((if_neg c_43).trans ((if_neg c_48).trans ((if_neg c_66).trans ((if_neg c_78).trans ((if_neg c_95).trans (if_pos c_108))))))))) dX9_copy_129
                  ·
                    have hok := (hok).2 c_108
                    refine lv_aload_n hx hb dX9_copy_111 rfl (lv_at hl 2 rfl) ?_
                    obtain ⟨h_112, hok⟩ := hok
                    refine hp_getR (ci := 7) (C := RX9) (T := TX9) (N := 12) hx hb hts iw_X9_copy_X9 hown hK hP h_112.1 (PF_7 h_112.2.1) rfl 0 (by decide) (hts _ (List.mem_of_getElem? (i := 2) rfl)) (fun _ h9 => h9) rfl h_112.2.2 dX9_copy_112 ?_
                    refine lv_iload hx hb dX9_copy_115 (lv_at hl 0 rfl) ?_
                    obtain ⟨h_117, hok⟩ := hok
                    refine hp_iald hx hb hK hP h_117.1 0 (PF_8 h_117.2.1) rfl h_117.2.2 dX9_copy_117 ?_
                    refine pm_callI (va_runS (As := [.int (hsA (h_X9_begin x S) ((hsQ (h_X9_begin x S) x 0).getD 0) (hsA (h_X9_begin x S) ((hsQ (h_X9_begin x S) x 8).getD 0) p2.toNatClampNeg).toNatClampNeg)]) (rest := []) ⟨hx, hb, hml, hown, hts⟩ (pm_X9_isFamily l (hsA (h_X9_begin x S) ((hsQ (h_X9_begin x S) x 0).getD 0) (hsA (h_X9_begin x S) ((hsQ (h_X9_begin x S) x 8).getD 0) p2.toNatClampNeg).toNatClampNeg)) (va_cwS 1 hts gX9_copy_X9_isFamily rfl rfl rfl hd_X9_isFamily ⟨Nat.le_of_ble_eq_true rfl, Nat.le_of_ble_eq_true rfl⟩) ⟨pm_fbT, fun U hU hW => ⟨rfl, trivial⟩⟩ rfl rfl hl.1 rfl (lv_room (Nat.le_of_ble_eq_true rfl)) dX9_copy_118 ⟨Nat.le_refl 0, Nat.le_refl 0⟩) hS (fun H locs _ hk9 hS => ?_)
                    replace hP := P_keep hP hk9
                    refine lv_if_ne (tgt := 130) hx hb dX9_copy_121 (by decide) (fun c_121 => ?_) (fun c_121 => ?_)
                    ·
                      have hok := (hok).2 c_121
                      exact K_130 _ _ hP hS ls (lv_sub hl [2, 4, 6, 7, 1, 0] rfl) hok (((if_neg c_8).trans ((if_neg c_15).trans ((if_neg c_43).trans ((if_neg c_48).trans ((if_neg c_66).trans ((if_neg c_78).trans ((if_neg c_95).trans ((if_neg c_108).trans (if_neg c_121))))))))))
                    ·
                      have hok := (hok).1 c_121
                      refine lv_aload_n hx hb dX9_copy_124 rfl (lv_at hl 2 rfl) ?_
                      refine lv_iconst (v := 5) hx hb dX9_copy_125 (by decide) ?_
                      obtain ⟨h_126k, hok⟩ := hok
                      obtain ⟨h_126, hok⟩ := hok
                      refine hm_callI (G := G) (a := ([.ref x, .int 5] : List Value).toArray) (pr := (h_X9_fails x 5 (h_X9_begin x S))) (rest := []) ?_ hS (fun H locs hP hS => ?_)
                      ·
                        exact va_runV (As := [.int 5]) (rest := []) ⟨hx, hb, hml, hown, hts⟩ (hm_X9_fails l G L (h_X9_begin x S) x 5 h_126) (cwV 1 hts gX9_copy_X9_fails rfl rfl rfl hdv_X9_fails ⟨Nat.le_of_ble_eq_true rfl, Nat.le_of_ble_eq_true rfl⟩) ⟨HW.fb, hp_recv hK hP h_126k.1 (PF_7 h_126k.2) rfl, fun U hU hW => ⟨rfl, HW.call hP hK hnd hE hS U hU hW⟩⟩ rfl rfl hl.1 rfl (lv_room (Nat.le_of_ble_eq_true rfl)) dX9_copy_126 ⟨Nat.le_refl 0, Nat.le_refl 0⟩
                      ·
                        rw [hZ]
                        exact hm_iret hx hb hr hlocks hS hP hK hnd hE (((if_neg c_8).trans ((if_neg c_15).trans ((if_neg c_43).trans ((if_neg c_48).trans ((if_neg c_66).trans ((if_neg c_78).trans ((if_neg c_95).trans ((if_neg c_108).trans (if_pos c_121)))))))))) dX9_copy_129
          ·
            have hok := (hok).1 c_48
            refine lv_aload_n hx hb dX9_copy_51 rfl (lv_at hl 2 rfl) ?_
            refine lv_iconst (v := 1) hx hb dX9_copy_52 (by decide) ?_
            obtain ⟨h_53k, hok⟩ := hok
            obtain ⟨h_53, hok⟩ := hok
            refine hm_callI (G := G) (a := ([.ref x, .int 1] : List Value).toArray) (pr := (h_X9_fails x 1 (h_X9_begin x S))) (rest := []) ?_ hS (fun H locs hP hS => ?_)
            ·
              exact va_runV (As := [.int 1]) (rest := []) ⟨hx, hb, hml, hown, hts⟩ (hm_X9_fails l G L (h_X9_begin x S) x 1 h_53) (cwV 1 hts gX9_copy_X9_fails rfl rfl rfl hdv_X9_fails ⟨Nat.le_of_ble_eq_true rfl, Nat.le_of_ble_eq_true rfl⟩) ⟨HW.fb, hp_recv hK hP h_53k.1 (PF_7 h_53k.2) rfl, fun U hU hW => ⟨rfl, HW.call hP hK hnd hE hS U hU hW⟩⟩ rfl rfl hl.1 rfl (lv_room (Nat.le_of_ble_eq_true rfl)) dX9_copy_53 ⟨Nat.le_refl 0, Nat.le_refl 0⟩
            ·
              rw [hZ]
              exact hm_iret hx hb hr hlocks hS hP hK hnd hE (((if_neg c_8).trans ((if_neg c_15).trans ((if_neg c_43).trans (if_pos c_48))))) dX9_copy_56
      ·
        have hok := (hok).1 c_15
        refine lv_aload_n hx hb dX9_copy_18 rfl (lv_at hl 0 rfl) ?_
        refine lv_bipush (v := 8) hx hb dX9_copy_19 (by decide) ?_
        obtain ⟨h_21k, hok⟩ := hok
        obtain ⟨h_21, hok⟩ := hok
        refine hm_callI (G := G) (a := ([.ref x, .int 8] : List Value).toArray) (pr := (h_X9_fails x 8 (h_X9_begin x S))) (rest := []) ?_ hS (fun H locs hP hS => ?_)
        ·
          exact va_runV (As := [.int 8]) (rest := []) ⟨hx, hb, hml, hown, hts⟩ (hm_X9_fails l G L (h_X9_begin x S) x 8 h_21) (cwV 1 hts gX9_copy_X9_fails rfl rfl rfl hdv_X9_fails ⟨Nat.le_of_ble_eq_true rfl, Nat.le_of_ble_eq_true rfl⟩) ⟨HW.fb, hp_recv hK hP h_21k.1 (PF_7 h_21k.2) rfl, fun U hU hW => ⟨rfl, HW.call hP hK hnd hE hS U hU hW⟩⟩ rfl rfl hl.1 rfl (lv_room (Nat.le_of_ble_eq_true rfl)) dX9_copy_21 ⟨Nat.le_refl 0, Nat.le_refl 0⟩
        ·
          rw [hZ]
          exact hm_iret hx hb hr hlocks hS hP hK hnd hE (((if_neg c_8).trans (if_pos c_15))) dX9_copy_24
theorem hdv_X9_field : yX9_field.cls = RX9 ∧ yX9_field.cls ≠ "java/lang/invoke/MethodHandle" ∧ yX9_field.cls ≠ "java/lang/invoke/VarHandle" ∧ (parseMethodDescriptor yX9_field.desc).map (fun d => d.parameters.length) = some 2 := by decide +kernel
theorem iw_X9_field_X9 : ∀ w ∈ u_ws RX9 TX9 12, w ∈ wsX9_field := by decide +kernel
def h_X9_field (x : Nat) (p0 : Int32) (p1 : Int32) (S : HS) : Int32 × HS :=
  if (s_X9_in p0 10 12) = 0 then ((h_X9_fails x 8 (h_X9_begin x S)).1, (h_X9_fails x 8 (h_X9_begin x S)).2)
  else if (s_X9_isCell p1) = 0 then ((h_X9_fails x 8 (h_X9_begin x S)).1, (h_X9_fails x 8 (h_X9_begin x S)).2)
   else if (h_X9_passes x (hsA (h_X9_begin x S) ((hsQ (h_X9_begin x S) x 8).getD 0) p1.toNatClampNeg) p0 (h_X9_begin x S)) = 0 then ((h_X9_fails x 4 (h_X9_begin x S)).1, (h_X9_fails x 4 (h_X9_begin x S)).2)
    else if (hsA (h_X9_begin x S) ((hsQ (h_X9_begin x S) x 8).getD 0) p1.toNatClampNeg) = 0 then ((h_X9_fails x 1 (h_X9_begin x S)).1, (h_X9_fails x 1 (h_X9_begin x S)).2)
     else (hsA (h_X9_begin x S) ((hsQ (h_X9_begin x S) x 1).getD 0) (hsA (h_X9_begin x S) ((hsQ (h_X9_begin x S) x 8).getD 0) p1.toNatClampNeg).toNatClampNeg, h_X9_begin x S)
def ok_X9_field (L : List Nat) (x : Nat) (p0 : Int32) (p1 : Int32) (S : HS) : Prop :=
  (x ∈ L ∧ hsK S x = 7) ∧ ((ok_X9_begin L x S) ∧ ((((s_X9_in p0 10 12) = 0) → ((x ∈ L ∧ hsK (h_X9_begin x S) x = 7) ∧ ((ok_X9_fails L x 8 (h_X9_begin x S)) ∧ (True)))) ∧
  (¬ ((s_X9_in p0 10 12) = 0) → ((((s_X9_isCell p1) = 0) → ((x ∈ L ∧ hsK (h_X9_begin x S) x = 7) ∧ ((ok_X9_fails L x 8 (h_X9_begin x S)) ∧ (True)))) ∧
   (¬ ((s_X9_isCell p1) = 0) → ((x ∈ L ∧ hsK (h_X9_begin x S) x = 7 ∧ hsQ (h_X9_begin x S) x 8 ≠ none) ∧ ((((hsQ (h_X9_begin x S) x 8).getD 0) ∈ L ∧ hsK (h_X9_begin x S) ((hsQ (h_X9_begin x S) x 8).getD 0) = 8 ∧ vp_in p1 (hsN (h_X9_begin x S) ((hsQ (h_X9_begin x S) x 8).getD 0))) ∧ ((x ∈ L ∧ hsK (h_X9_begin x S) x = 7) ∧ ((ok_X9_passes L x (hsA (h_X9_begin x S) ((hsQ (h_X9_begin x S) x 8).getD 0) p1.toNatClampNeg) p0 (h_X9_begin x S)) ∧ ((((h_X9_passes x (hsA (h_X9_begin x S) ((hsQ (h_X9_begin x S) x 8).getD 0) p1.toNatClampNeg) p0 (h_X9_begin x S)) = 0) → ((x ∈ L ∧ hsK (h_X9_begin x S) x = 7) ∧ ((ok_X9_fails L x 4 (h_X9_begin x S)) ∧ (True)))) ∧
    (¬ ((h_X9_passes x (hsA (h_X9_begin x S) ((hsQ (h_X9_begin x S) x 8).getD 0) p1.toNatClampNeg) p0 (h_X9_begin x S)) = 0) → ((((hsA (h_X9_begin x S) ((hsQ (h_X9_begin x S) x 8).getD 0) p1.toNatClampNeg) = 0) → ((x ∈ L ∧ hsK (h_X9_begin x S) x = 7) ∧ ((ok_X9_fails L x 1 (h_X9_begin x S)) ∧ (True)))) ∧
     (¬ ((hsA (h_X9_begin x S) ((hsQ (h_X9_begin x S) x 8).getD 0) p1.toNatClampNeg) = 0) → ((x ∈ L ∧ hsK (h_X9_begin x S) x = 7 ∧ hsQ (h_X9_begin x S) x 1 ≠ none) ∧ ((((hsQ (h_X9_begin x S) x 1).getD 0) ∈ L ∧ hsK (h_X9_begin x S) ((hsQ (h_X9_begin x S) x 1).getD 0) = 8 ∧ vp_in (hsA (h_X9_begin x S) ((hsQ (h_X9_begin x S) x 8).getD 0) p1.toNatClampNeg) (hsN (h_X9_begin x S) ((hsQ (h_X9_begin x S) x 1).getD 0))) ∧ (True))))))))))))))))
set_option maxHeartbeats 4000000 in
set_option maxRecDepth 100000 in
theorem hm_X9_field (l : Launch) (G : GE) (L : List Nat) (S : HS) (x : Nat) (p0 : Int32) (p1 : Int32) (hok : ok_X9_field L x p0 p1 S) : HmI l G yX9_field wsX9_field 2 43 [.ref x, .int p0, .int p1] L S (h_X9_field x p0 p1 S) := by
  refine Met.ofW (cc := cX9_field) (maxL := 4) (ret := (some .int)) (by decide) rfl ?_
  intro p e s m args below meth c s₁ B hml hv
  obtain ⟨rfl, hP, hK, hnd, hE⟩ := hv
  have hx := B.exec
  have hb := B.bytes
  have hr := B.returns
  have hts := atoms_spec (ws := wsX9_field) B.pre
  have hown : s.vm.findClass RX9 = some m.cls := findClass_of_methodNamed B.named
  have hlocks := B.notSynchronized
  have hD := nd_D hnd
  have hS : va_S (AL L) s.heap s.heap [] := va_S.rf
  have hl := lv_entry ([.ref x, .int p0, .int p1]) (n := 4) (Nat.le_of_ble_eq_true rfl)
  rw [lg_entry_eq]
  generalize (lg_sl ([.ref x, .int p0, .int p1]) ++ List.replicate (4 - (lg_sl ([.ref x, .int p0, .int p1])).length) Slot.unset).toArray = ls at hl ⊢
  have hl : lv_has ls 4 [(0, .ref x), (1, .int p0), (2, .int p1)] := hl
  obtain ⟨Z, hZ⟩ : ∃ z, z = MQ below (hm_QI G L (h_X9_field x p0 p1 S)) ([.ref x, .int p0, .int p1] : List Value).toArray s 0 0 (AL L) := ⟨_, rfl⟩
  rw [← hZ]
  refine lv_aload_n hx hb dX9_field_0 rfl (lv_at hl 0 rfl) ?_
  obtain ⟨h_1k, hok⟩ := hok
  obtain ⟨h_1, hok⟩ := hok
  refine hm_callV (G := G) (a := ([.ref x] : List Value).toArray) (pr := (h_X9_begin x S)) (rest := []) ?_ hS (fun H locs hP hS => ?_)
  ·
    exact va_runV (As := []) (rest := []) ⟨hx, hb, hml, hown, hts⟩ (hm_X9_begin l G L S x h_1) (cwV 0 hts gX9_field_X9_begin rfl rfl rfl hdv_X9_begin ⟨Nat.le_of_ble_eq_true rfl, Nat.le_of_ble_eq_true rfl⟩) ⟨HW.fb, hp_recv hK hP h_1k.1 (PF_7 h_1k.2) rfl, fun U hU hW => ⟨rfl, HW.call hP hK hnd hE hS U hU hW⟩⟩ rfl rfl hl.1 rfl (lv_room (Nat.le_of_ble_eq_true rfl)) dX9_field_1 ⟨Nat.le_refl 0, Nat.le_refl 0⟩
  ·
    refine lv_iload_n hx hb dX9_field_4 rfl (lv_at hl 1 rfl) ?_
    refine lv_bipush (v := 10) hx hb dX9_field_5 (by decide) ?_
    refine lv_bipush (v := 12) hx hb dX9_field_7 (by decide) ?_
    refine pm_callI (va_runS (As := [.int p0, .int 10, .int 12]) (rest := []) ⟨hx, hb, hml, hown, hts⟩ (pm_X9_in l p0 10 12) (va_cwS 3 hts gX9_field_X9_in rfl rfl rfl hd_X9_in ⟨Nat.le_of_ble_eq_true rfl, Nat.le_of_ble_eq_true rfl⟩) ⟨pm_fbT, fun U hU hW => ⟨rfl, trivial⟩⟩ rfl rfl hl.1 rfl (lv_room (Nat.le_of_ble_eq_true rfl)) dX9_field_9 ⟨Nat.le_refl 0, Nat.le_refl 0⟩) hS (fun H locs _ hk9 hS => ?_)
    replace hP := P_keep hP hk9
    refine lv_if_eq (tgt := 22) hx hb dX9_field_12 (by decide) (fun c_12 => ?_) (fun c_12 => ?_)
    ·
      have hok := (hok).1 c_12
      refine lv_aload_n hx hb dX9_field_22 rfl (lv_at hl 0 rfl) ?_
      refine lv_bipush (v := 8) hx hb dX9_field_23 (by decide) ?_
      obtain ⟨h_25k, hok⟩ := hok
      obtain ⟨h_25, hok⟩ := hok
      refine hm_callI (G := G) (a := ([.ref x, .int 8] : List Value).toArray) (pr := (h_X9_fails x 8 (h_X9_begin x S))) (rest := []) ?_ hS (fun H locs hP hS => ?_)
      ·
        exact va_runV (As := [.int 8]) (rest := []) ⟨hx, hb, hml, hown, hts⟩ (hm_X9_fails l G L (h_X9_begin x S) x 8 h_25) (cwV 1 hts gX9_field_X9_fails rfl rfl rfl hdv_X9_fails ⟨Nat.le_of_ble_eq_true rfl, Nat.le_of_ble_eq_true rfl⟩) ⟨HW.fb, hp_recv hK hP h_25k.1 (PF_7 h_25k.2) rfl, fun U hU hW => ⟨rfl, HW.call hP hK hnd hE hS U hU hW⟩⟩ rfl rfl hl.1 rfl (lv_room (Nat.le_of_ble_eq_true rfl)) dX9_field_25 ⟨Nat.le_refl 0, Nat.le_refl 0⟩
      ·
        rw [hZ]
        exact hm_iret hx hb hr hlocks hS hP hK hnd hE ((if_pos c_12)) dX9_field_28
    ·
      have hok := (hok).2 c_12
      refine lv_iload_n hx hb dX9_field_15 rfl (lv_at hl 2 rfl) ?_
      refine pm_callI (va_runS (As := [.int p1]) (rest := []) ⟨hx, hb, hml, hown, hts⟩ (pm_X9_isCell l p1) (va_cwS 1 hts gX9_field_X9_isCell rfl rfl rfl hd_X9_isCell ⟨Nat.le_of_ble_eq_true rfl, Nat.le_of_ble_eq_true rfl⟩) ⟨pm_fbT, fun U hU hW => ⟨rfl, trivial⟩⟩ rfl rfl hl.1 rfl (lv_room (Nat.le_of_ble_eq_true rfl)) dX9_field_16 ⟨Nat.le_refl 0, Nat.le_refl 0⟩) hS (fun H locs _ hk9 hS => ?_)
      replace hP := P_keep hP hk9
      refine lv_if_ne (tgt := 29) hx hb dX9_field_19 (by decide) (fun c_19 => ?_) (fun c_19 => ?_)
      ·
        have hok := (hok).2 c_19
        refine lv_aload_n hx hb dX9_field_29 rfl (lv_at hl 0 rfl) ?_
        obtain ⟨h_30, hok⟩ := hok
        refine hp_getR (ci := 7) (C := RX9) (T := TX9) (N := 12) hx hb hts iw_X9_field_X9 hown hK hP h_30.1 (PF_7 h_30.2.1) rfl 8 (by decide) (hts _ (List.mem_of_getElem? (i := 1) rfl)) (fun _ h9 => h9) rfl h_30.2.2 dX9_field_30 ?_
        refine lv_iload_n hx hb dX9_field_33 rfl (lv_at hl 2 rfl) ?_
        obtain ⟨h_34, hok⟩ := hok
        refine hp_iald hx hb hK hP h_34.1 0 (PF_8 h_34.2.1) rfl h_34.2.2 dX9_field_34 ?_
        refine lv_istore_n (lv' := [(3, .int (hsA (h_X9_begin x S) ((hsQ (h_X9_begin x S) x 8).getD 0) p1.toNatClampNeg)), (0, .ref x), (1, .int p0), (2, .int p1)]) hx hb dX9_field_35 rfl hl (by decide) rfl (fun ls hl => ?_)
        refine lv_aload_n hx hb dX9_field_36 rfl (lv_at hl 1 rfl) ?_
        refine lv_iload_n hx hb dX9_field_37 rfl (lv_at hl 0 rfl) ?_
        refine lv_iload_n hx hb dX9_field_38 rfl (lv_at hl 2 rfl) ?_
        obtain ⟨h_39k, hok⟩ := hok
        obtain ⟨h_39, hok⟩ := hok
        refine hm_callIr (G := G) (S1 := h_X9_begin x S) (a := ([.ref x, .int (hsA (h_X9_begin x S) ((hsQ (h_X9_begin x S) x 8).getD 0) p1.toNatClampNeg), .int p0] : List Value).toArray) (rest := []) (h_X9_passes x (hsA (h_X9_begin x S) ((hsQ (h_X9_begin x S) x 8).getD 0) p1.toNatClampNeg) p0 (h_X9_begin x S)) ?_ hS (fun H locs hP hS => ?_)
        ·
          exact va_runV (As := [.int (hsA (h_X9_begin x S) ((hsQ (h_X9_begin x S) x 8).getD 0) p1.toNatClampNeg), .int p0]) (rest := []) ⟨hx, hb, hml, hown, hts⟩ (hm_X9_passes l G L (h_X9_begin x S) x (hsA (h_X9_begin x S) ((hsQ (h_X9_begin x S) x 8).getD 0) p1.toNatClampNeg) p0 h_39) (cwV 2 hts gX9_field_X9_passes rfl rfl rfl hdv_X9_passes ⟨Nat.le_of_ble_eq_true rfl, Nat.le_of_ble_eq_true rfl⟩) ⟨HW.fb, hp_recv hK hP h_39k.1 (PF_7 h_39k.2) rfl, fun U hU hW => ⟨rfl, HW.call hP hK hnd hE hS U hU hW⟩⟩ rfl rfl hl.1 rfl (lv_room (Nat.le_of_ble_eq_true rfl)) dX9_field_39 ⟨Nat.le_refl 0, Nat.le_refl 0⟩
        ·
          refine lv_if_ne (tgt := 53) hx hb dX9_field_42 (by decide) (fun c_42 => ?_) (fun c_42 => ?_)
          ·
            have hok := (hok).2 c_42
            refine lv_iload_n hx hb dX9_field_53 rfl (lv_at hl 0 rfl) ?_
            refine lv_if_ne (tgt := 65) hx hb dX9_field_54 (by decide) (fun c_54 => ?_) (fun c_54 => ?_)
            ·
              have hok := (hok).2 c_54
              refine lv_aload_n hx hb dX9_field_65 rfl (lv_at hl 1 rfl) ?_
              obtain ⟨h_66, hok⟩ := hok
              refine hp_getR (ci := 7) (C := RX9) (T := TX9) (N := 12) hx hb hts iw_X9_field_X9 hown hK hP h_66.1 (PF_7 h_66.2.1) rfl 1 (by decide) (hts _ (List.mem_of_getElem? (i := 2) rfl)) (fun _ h9 => h9) rfl h_66.2.2 dX9_field_66 ?_
              refine lv_iload_n hx hb dX9_field_69 rfl (lv_at hl 0 rfl) ?_
              obtain ⟨h_70, hok⟩ := hok
              refine hp_iald hx hb hK hP h_70.1 0 (PF_8 h_70.2.1) rfl h_70.2.2 dX9_field_70 ?_
              rw [hZ]
              exact hm_iret hx hb hr hlocks hS hP hK hnd hE (((if_neg c_12).trans ((if_neg c_19).trans ((if_neg c_42).trans (if_neg c_54))))) dX9_field_71
            ·
              have hok := (hok).1 c_54
              refine lv_aload_n hx hb dX9_field_57 rfl (lv_at hl 1 rfl) ?_
              refine lv_iconst (v := 1) hx hb dX9_field_58 (by decide) ?_
              obtain ⟨h_59k, hok⟩ := hok
              obtain ⟨h_59, hok⟩ := hok
              refine hm_callI (G := G) (a := ([.ref x, .int 1] : List Value).toArray) (pr := (h_X9_fails x 1 (h_X9_begin x S))) (rest := []) ?_ hS (fun H locs hP hS => ?_)
              ·
                exact va_runV (As := [.int 1]) (rest := []) ⟨hx, hb, hml, hown, hts⟩ (hm_X9_fails l G L (h_X9_begin x S) x 1 h_59) (cwV 1 hts gX9_field_X9_fails rfl rfl rfl hdv_X9_fails ⟨Nat.le_of_ble_eq_true rfl, Nat.le_of_ble_eq_true rfl⟩) ⟨HW.fb, hp_recv hK hP h_59k.1 (PF_7 h_59k.2) rfl, fun U hU hW => ⟨rfl, HW.call hP hK hnd hE hS U hU hW⟩⟩ rfl rfl hl.1 rfl (lv_room (Nat.le_of_ble_eq_true rfl)) dX9_field_59 ⟨Nat.le_refl 0, Nat.le_refl 0⟩
              ·
                refine lv_goto (tgt := 71) hx hb dX9_field_62 (by decide) ?_
                rw [hZ]
                exact hm_iret hx hb hr hlocks hS hP hK hnd hE (((if_neg c_12).trans ((if_neg c_19).trans ((if_neg c_42).trans (if_pos c_54))))) dX9_field_71
          ·
            have hok := (hok).1 c_42
            refine lv_aload_n hx hb dX9_field_45 rfl (lv_at hl 1 rfl) ?_
            refine lv_iconst (v := 4) hx hb dX9_field_46 (by decide) ?_
            obtain ⟨h_47k, hok⟩ := hok
            obtain ⟨h_47, hok⟩ := hok
            refine hm_callI (G := G) (a := ([.ref x, .int 4] : List Value).toArray) (pr := (h_X9_fails x 4 (h_X9_begin x S))) (rest := []) ?_ hS (fun H locs hP hS => ?_)
            ·
              exact va_runV (As := [.int 4]) (rest := []) ⟨hx, hb, hml, hown, hts⟩ (hm_X9_fails l G L (h_X9_begin x S) x 4 h_47) (cwV 1 hts gX9_field_X9_fails rfl rfl rfl hdv_X9_fails ⟨Nat.le_of_ble_eq_true rfl, Nat.le_of_ble_eq_true rfl⟩) ⟨HW.fb, hp_recv hK hP h_47k.1 (PF_7 h_47k.2) rfl, fun U hU hW => ⟨rfl, HW.call hP hK hnd hE hS U hU hW⟩⟩ rfl rfl hl.1 rfl (lv_room (Nat.le_of_ble_eq_true rfl)) dX9_field_47 ⟨Nat.le_refl 0, Nat.le_refl 0⟩
            ·
              refine lv_goto (tgt := 71) hx hb dX9_field_50 (by decide) ?_
              rw [hZ]
              exact hm_iret hx hb hr hlocks hS hP hK hnd hE (((if_neg c_12).trans ((if_neg c_19).trans (if_pos c_42)))) dX9_field_71
      ·
        have hok := (hok).1 c_19
        refine lv_aload_n hx hb dX9_field_22 rfl (lv_at hl 0 rfl) ?_
        refine lv_bipush (v := 8) hx hb dX9_field_23 (by decide) ?_
        obtain ⟨h_25k, hok⟩ := hok
        obtain ⟨h_25, hok⟩ := hok
        refine hm_callI (G := G) (a := ([.ref x, .int 8] : List Value).toArray) (pr := (h_X9_fails x 8 (h_X9_begin x S))) (rest := []) ?_ hS (fun H locs hP hS => ?_)
        ·
          exact va_runV (As := [.int 8]) (rest := []) ⟨hx, hb, hml, hown, hts⟩ (hm_X9_fails l G L (h_X9_begin x S) x 8 h_25) (cwV 1 hts gX9_field_X9_fails rfl rfl rfl hdv_X9_fails ⟨Nat.le_of_ble_eq_true rfl, Nat.le_of_ble_eq_true rfl⟩) ⟨HW.fb, hp_recv hK hP h_25k.1 (PF_7 h_25k.2) rfl, fun U hU hW => ⟨rfl, HW.call hP hK hnd hE hS U hU hW⟩⟩ rfl rfl hl.1 rfl (lv_room (Nat.le_of_ble_eq_true rfl)) dX9_field_25 ⟨Nat.le_refl 0, Nat.le_refl 0⟩
        ·
          rw [hZ]
          exact hm_iret hx hb hr hlocks hS hP hK hnd hE (((if_neg c_12).trans (if_pos c_19))) dX9_field_28
theorem hdv_X9_write : yX9_write.cls = RX9 ∧ yX9_write.cls ≠ "java/lang/invoke/MethodHandle" ∧ yX9_write.cls ≠ "java/lang/invoke/VarHandle" ∧ (parseMethodDescriptor yX9_write.desc).map (fun d => d.parameters.length) = some 3 := by decide +kernel
theorem iw_X9_write_X9 : ∀ w ∈ u_ws RX9 TX9 12, w ∈ wsX9_write := by decide +kernel
def h_X9_write (x : Nat) (p0 : Int32) (p1 : Int32) (p2 : Int32) (S : HS) : Int32 × HS :=
  if (s_X9_in p0 10 12) = 0 then ((h_X9_fails x 8 (h_X9_begin x S)).1, (h_X9_fails x 8 (h_X9_begin x S)).2)
  else if (s_X9_isCell p1) = 0 then ((h_X9_fails x 8 (h_X9_begin x S)).1, (h_X9_fails x 8 (h_X9_begin x S)).2)
   else if (h_X9_passes x (hsA (h_X9_begin x S) ((hsQ (h_X9_begin x S) x 8).getD 0) p1.toNatClampNeg) p0 (h_X9_begin x S)) = 0 then ((h_X9_fails x 4 (h_X9_begin x S)).1, (h_X9_fails x 4 (h_X9_begin x S)).2)
    else if (hsA (h_X9_begin x S) ((hsQ (h_X9_begin x S) x 8).getD 0) p1.toNatClampNeg) = 0 then ((h_X9_fails x 1 (h_X9_begin x S)).1, (h_X9_fails x 1 (h_X9_begin x S)).2)
     else (1, (hwA (h_X9_begin x S) ((hsQ (h_X9_begin x S) x 1).getD 0) (hsA (h_X9_begin x S) ((hsQ (h_X9_begin x S) x 8).getD 0) p1.toNatClampNeg).toNatClampNeg p2))
def ok_X9_write (L : List Nat) (x : Nat) (p0 : Int32) (p1 : Int32) (p2 : Int32) (S : HS) : Prop :=
  (x ∈ L ∧ hsK S x = 7) ∧ ((ok_X9_begin L x S) ∧ ((((s_X9_in p0 10 12) = 0) → ((x ∈ L ∧ hsK (h_X9_begin x S) x = 7) ∧ ((ok_X9_fails L x 8 (h_X9_begin x S)) ∧ (True)))) ∧
  (¬ ((s_X9_in p0 10 12) = 0) → ((((s_X9_isCell p1) = 0) → ((x ∈ L ∧ hsK (h_X9_begin x S) x = 7) ∧ ((ok_X9_fails L x 8 (h_X9_begin x S)) ∧ (True)))) ∧
   (¬ ((s_X9_isCell p1) = 0) → ((x ∈ L ∧ hsK (h_X9_begin x S) x = 7 ∧ hsQ (h_X9_begin x S) x 8 ≠ none) ∧ ((((hsQ (h_X9_begin x S) x 8).getD 0) ∈ L ∧ hsK (h_X9_begin x S) ((hsQ (h_X9_begin x S) x 8).getD 0) = 8 ∧ vp_in p1 (hsN (h_X9_begin x S) ((hsQ (h_X9_begin x S) x 8).getD 0))) ∧ ((x ∈ L ∧ hsK (h_X9_begin x S) x = 7) ∧ ((ok_X9_passes L x (hsA (h_X9_begin x S) ((hsQ (h_X9_begin x S) x 8).getD 0) p1.toNatClampNeg) p0 (h_X9_begin x S)) ∧ ((((h_X9_passes x (hsA (h_X9_begin x S) ((hsQ (h_X9_begin x S) x 8).getD 0) p1.toNatClampNeg) p0 (h_X9_begin x S)) = 0) → ((x ∈ L ∧ hsK (h_X9_begin x S) x = 7) ∧ ((ok_X9_fails L x 4 (h_X9_begin x S)) ∧ (True)))) ∧
    (¬ ((h_X9_passes x (hsA (h_X9_begin x S) ((hsQ (h_X9_begin x S) x 8).getD 0) p1.toNatClampNeg) p0 (h_X9_begin x S)) = 0) → ((((hsA (h_X9_begin x S) ((hsQ (h_X9_begin x S) x 8).getD 0) p1.toNatClampNeg) = 0) → ((x ∈ L ∧ hsK (h_X9_begin x S) x = 7) ∧ ((ok_X9_fails L x 1 (h_X9_begin x S)) ∧ (True)))) ∧
     (¬ ((hsA (h_X9_begin x S) ((hsQ (h_X9_begin x S) x 8).getD 0) p1.toNatClampNeg) = 0) → ((x ∈ L ∧ hsK (h_X9_begin x S) x = 7 ∧ hsQ (h_X9_begin x S) x 1 ≠ none) ∧ ((((hsQ (h_X9_begin x S) x 1).getD 0) ∈ L ∧ hsK (h_X9_begin x S) ((hsQ (h_X9_begin x S) x 1).getD 0) = 8 ∧ vp_in (hsA (h_X9_begin x S) ((hsQ (h_X9_begin x S) x 8).getD 0) p1.toNatClampNeg) (hsN (h_X9_begin x S) ((hsQ (h_X9_begin x S) x 1).getD 0))) ∧ (True))))))))))))))))
set_option maxHeartbeats 4000000 in
set_option maxRecDepth 100000 in
theorem hm_X9_write (l : Launch) (G : GE) (L : List Nat) (S : HS) (x : Nat) (p0 : Int32) (p1 : Int32) (p2 : Int32) (hok : ok_X9_write L x p0 p1 p2 S) : HmI l G yX9_write wsX9_write 2 43 [.ref x, .int p0, .int p1, .int p2] L S (h_X9_write x p0 p1 p2 S) := by
  refine Met.ofW (cc := cX9_write) (maxL := 5) (ret := (some .int)) (by decide) rfl ?_
  intro p e s m args below meth c s₁ B hml hv
  obtain ⟨rfl, hP, hK, hnd, hE⟩ := hv
  have hx := B.exec
  have hb := B.bytes
  have hr := B.returns
  have hts := atoms_spec (ws := wsX9_write) B.pre
  have hown : s.vm.findClass RX9 = some m.cls := findClass_of_methodNamed B.named
  have hlocks := B.notSynchronized
  have hD := nd_D hnd
  have hS : va_S (AL L) s.heap s.heap [] := va_S.rf
  have hl := lv_entry ([.ref x, .int p0, .int p1, .int p2]) (n := 5) (Nat.le_of_ble_eq_true rfl)
  rw [lg_entry_eq]
  generalize (lg_sl ([.ref x, .int p0, .int p1, .int p2]) ++ List.replicate (5 - (lg_sl ([.ref x, .int p0, .int p1, .int p2])).length) Slot.unset).toArray = ls at hl ⊢
  have hl : lv_has ls 5 [(0, .ref x), (1, .int p0), (2, .int p1), (3, .int p2)] := hl
  obtain ⟨Z, hZ⟩ : ∃ z, z = MQ below (hm_QI G L (h_X9_write x p0 p1 p2 S)) ([.ref x, .int p0, .int p1, .int p2] : List Value).toArray s 0 0 (AL L) := ⟨_, rfl⟩
  rw [← hZ]
  refine lv_aload_n hx hb dX9_write_0 rfl (lv_at hl 0 rfl) ?_
  obtain ⟨h_1k, hok⟩ := hok
  obtain ⟨h_1, hok⟩ := hok
  refine hm_callV (G := G) (a := ([.ref x] : List Value).toArray) (pr := (h_X9_begin x S)) (rest := []) ?_ hS (fun H locs hP hS => ?_)
  ·
    exact va_runV (As := []) (rest := []) ⟨hx, hb, hml, hown, hts⟩ (hm_X9_begin l G L S x h_1) (cwV 0 hts gX9_write_X9_begin rfl rfl rfl hdv_X9_begin ⟨Nat.le_of_ble_eq_true rfl, Nat.le_of_ble_eq_true rfl⟩) ⟨HW.fb, hp_recv hK hP h_1k.1 (PF_7 h_1k.2) rfl, fun U hU hW => ⟨rfl, HW.call hP hK hnd hE hS U hU hW⟩⟩ rfl rfl hl.1 rfl (lv_room (Nat.le_of_ble_eq_true rfl)) dX9_write_1 ⟨Nat.le_refl 0, Nat.le_refl 0⟩
  ·
    refine lv_iload_n hx hb dX9_write_4 rfl (lv_at hl 1 rfl) ?_
    refine lv_bipush (v := 10) hx hb dX9_write_5 (by decide) ?_
    refine lv_bipush (v := 12) hx hb dX9_write_7 (by decide) ?_
    refine pm_callI (va_runS (As := [.int p0, .int 10, .int 12]) (rest := []) ⟨hx, hb, hml, hown, hts⟩ (pm_X9_in l p0 10 12) (va_cwS 3 hts gX9_write_X9_in rfl rfl rfl hd_X9_in ⟨Nat.le_of_ble_eq_true rfl, Nat.le_of_ble_eq_true rfl⟩) ⟨pm_fbT, fun U hU hW => ⟨rfl, trivial⟩⟩ rfl rfl hl.1 rfl (lv_room (Nat.le_of_ble_eq_true rfl)) dX9_write_9 ⟨Nat.le_refl 0, Nat.le_refl 0⟩) hS (fun H locs _ hk9 hS => ?_)
    replace hP := P_keep hP hk9
    refine lv_if_eq (tgt := 22) hx hb dX9_write_12 (by decide) (fun c_12 => ?_) (fun c_12 => ?_)
    ·
      have hok := (hok).1 c_12
      refine lv_aload_n hx hb dX9_write_22 rfl (lv_at hl 0 rfl) ?_
      refine lv_bipush (v := 8) hx hb dX9_write_23 (by decide) ?_
      obtain ⟨h_25k, hok⟩ := hok
      obtain ⟨h_25, hok⟩ := hok
      refine hm_callI (G := G) (a := ([.ref x, .int 8] : List Value).toArray) (pr := (h_X9_fails x 8 (h_X9_begin x S))) (rest := []) ?_ hS (fun H locs hP hS => ?_)
      ·
        exact va_runV (As := [.int 8]) (rest := []) ⟨hx, hb, hml, hown, hts⟩ (hm_X9_fails l G L (h_X9_begin x S) x 8 h_25) (cwV 1 hts gX9_write_X9_fails rfl rfl rfl hdv_X9_fails ⟨Nat.le_of_ble_eq_true rfl, Nat.le_of_ble_eq_true rfl⟩) ⟨HW.fb, hp_recv hK hP h_25k.1 (PF_7 h_25k.2) rfl, fun U hU hW => ⟨rfl, HW.call hP hK hnd hE hS U hU hW⟩⟩ rfl rfl hl.1 rfl (lv_room (Nat.le_of_ble_eq_true rfl)) dX9_write_25 ⟨Nat.le_refl 0, Nat.le_refl 0⟩
      ·
        rw [hZ]
        exact hm_iret hx hb hr hlocks hS hP hK hnd hE ((if_pos c_12)) dX9_write_28
    ·
      have hok := (hok).2 c_12
      refine lv_iload_n hx hb dX9_write_15 rfl (lv_at hl 2 rfl) ?_
      refine pm_callI (va_runS (As := [.int p1]) (rest := []) ⟨hx, hb, hml, hown, hts⟩ (pm_X9_isCell l p1) (va_cwS 1 hts gX9_write_X9_isCell rfl rfl rfl hd_X9_isCell ⟨Nat.le_of_ble_eq_true rfl, Nat.le_of_ble_eq_true rfl⟩) ⟨pm_fbT, fun U hU hW => ⟨rfl, trivial⟩⟩ rfl rfl hl.1 rfl (lv_room (Nat.le_of_ble_eq_true rfl)) dX9_write_16 ⟨Nat.le_refl 0, Nat.le_refl 0⟩) hS (fun H locs _ hk9 hS => ?_)
      replace hP := P_keep hP hk9
      refine lv_if_ne (tgt := 29) hx hb dX9_write_19 (by decide) (fun c_19 => ?_) (fun c_19 => ?_)
      ·
        have hok := (hok).2 c_19
        refine lv_aload_n hx hb dX9_write_29 rfl (lv_at hl 0 rfl) ?_
        obtain ⟨h_30, hok⟩ := hok
        refine hp_getR (ci := 7) (C := RX9) (T := TX9) (N := 12) hx hb hts iw_X9_write_X9 hown hK hP h_30.1 (PF_7 h_30.2.1) rfl 8 (by decide) (hts _ (List.mem_of_getElem? (i := 1) rfl)) (fun _ h9 => h9) rfl h_30.2.2 dX9_write_30 ?_
        refine lv_iload_n hx hb dX9_write_33 rfl (lv_at hl 2 rfl) ?_
        obtain ⟨h_34, hok⟩ := hok
        refine hp_iald hx hb hK hP h_34.1 0 (PF_8 h_34.2.1) rfl h_34.2.2 dX9_write_34 ?_
        refine lv_istore (lv' := [(4, .int (hsA (h_X9_begin x S) ((hsQ (h_X9_begin x S) x 8).getD 0) p1.toNatClampNeg)), (0, .ref x), (1, .int p0), (2, .int p1), (3, .int p2)]) hx hb dX9_write_35 hl (by decide) rfl (fun ls hl => ?_)
        refine lv_aload_n hx hb dX9_write_37 rfl (lv_at hl 1 rfl) ?_
        refine lv_iload hx hb dX9_write_38 (lv_at hl 0 rfl) ?_
        refine lv_iload_n hx hb dX9_write_40 rfl (lv_at hl 2 rfl) ?_
        obtain ⟨h_41k, hok⟩ := hok
        obtain ⟨h_41, hok⟩ := hok
        refine hm_callIr (G := G) (S1 := h_X9_begin x S) (a := ([.ref x, .int (hsA (h_X9_begin x S) ((hsQ (h_X9_begin x S) x 8).getD 0) p1.toNatClampNeg), .int p0] : List Value).toArray) (rest := []) (h_X9_passes x (hsA (h_X9_begin x S) ((hsQ (h_X9_begin x S) x 8).getD 0) p1.toNatClampNeg) p0 (h_X9_begin x S)) ?_ hS (fun H locs hP hS => ?_)
        ·
          exact va_runV (As := [.int (hsA (h_X9_begin x S) ((hsQ (h_X9_begin x S) x 8).getD 0) p1.toNatClampNeg), .int p0]) (rest := []) ⟨hx, hb, hml, hown, hts⟩ (hm_X9_passes l G L (h_X9_begin x S) x (hsA (h_X9_begin x S) ((hsQ (h_X9_begin x S) x 8).getD 0) p1.toNatClampNeg) p0 h_41) (cwV 2 hts gX9_write_X9_passes rfl rfl rfl hdv_X9_passes ⟨Nat.le_of_ble_eq_true rfl, Nat.le_of_ble_eq_true rfl⟩) ⟨HW.fb, hp_recv hK hP h_41k.1 (PF_7 h_41k.2) rfl, fun U hU hW => ⟨rfl, HW.call hP hK hnd hE hS U hU hW⟩⟩ rfl rfl hl.1 rfl (lv_room (Nat.le_of_ble_eq_true rfl)) dX9_write_41 ⟨Nat.le_refl 0, Nat.le_refl 0⟩
        ·
          refine lv_if_ne (tgt := 53) hx hb dX9_write_44 (by decide) (fun c_44 => ?_) (fun c_44 => ?_)
          ·
            have hok := (hok).2 c_44
            refine lv_iload hx hb dX9_write_53 (lv_at hl 0 rfl) ?_
            refine lv_if_ne (tgt := 64) hx hb dX9_write_55 (by decide) (fun c_55 => ?_) (fun c_55 => ?_)
            ·
              have hok := (hok).2 c_55
              refine lv_aload_n hx hb dX9_write_64 rfl (lv_at hl 1 rfl) ?_
              obtain ⟨h_65, hok⟩ := hok
              refine hp_getR (ci := 7) (C := RX9) (T := TX9) (N := 12) hx hb hts iw_X9_write_X9 hown hK hP h_65.1 (PF_7 h_65.2.1) rfl 1 (by decide) (hts _ (List.mem_of_getElem? (i := 2) rfl)) (fun _ h9 => h9) rfl h_65.2.2 dX9_write_65 ?_
              refine lv_iload hx hb dX9_write_68 (lv_at hl 0 rfl) ?_
              refine lv_iload_n hx hb dX9_write_70 rfl (lv_at hl 4 rfl) ?_
              obtain ⟨h_71, hok⟩ := hok
              refine hp_iast (g2 := PF G (hwA (h_X9_begin x S) ((hsQ (h_X9_begin x S) x 1).getD 0) (hsA (h_X9_begin x S) ((hsQ (h_X9_begin x S) x 8).getD 0) p1.toNatClampNeg).toNatClampNeg p2)) hx hb hK hP (hD _) hS h_71.1 0 (PF_8 h_71.2.1) rfl h_71.2.2 (PF_sA h_71.2.1) (fun _ hb9 => PF_wA hb9) dX9_write_71 (fun H locs hP hS => ?_)
              refine lv_iconst (v := 1) hx hb dX9_write_72 (by decide) ?_
              rw [hZ]
              exact hm_iret hx hb hr hlocks hS hP hK hnd hE (((if_neg c_12).trans ((if_neg c_19).trans ((if_neg c_44).trans (if_neg c_55))))) dX9_write_73
            ·
              have hok := (hok).1 c_55
              refine lv_aload_n hx hb dX9_write_58 rfl (lv_at hl 1 rfl) ?_
              refine lv_iconst (v := 1) hx hb dX9_write_59 (by decide) ?_
              obtain ⟨h_60k, hok⟩ := hok
              obtain ⟨h_60, hok⟩ := hok
              refine hm_callI (G := G) (a := ([.ref x, .int 1] : List Value).toArray) (pr := (h_X9_fails x 1 (h_X9_begin x S))) (rest := []) ?_ hS (fun H locs hP hS => ?_)
              ·
                exact va_runV (As := [.int 1]) (rest := []) ⟨hx, hb, hml, hown, hts⟩ (hm_X9_fails l G L (h_X9_begin x S) x 1 h_60) (cwV 1 hts gX9_write_X9_fails rfl rfl rfl hdv_X9_fails ⟨Nat.le_of_ble_eq_true rfl, Nat.le_of_ble_eq_true rfl⟩) ⟨HW.fb, hp_recv hK hP h_60k.1 (PF_7 h_60k.2) rfl, fun U hU hW => ⟨rfl, HW.call hP hK hnd hE hS U hU hW⟩⟩ rfl rfl hl.1 rfl (lv_room (Nat.le_of_ble_eq_true rfl)) dX9_write_60 ⟨Nat.le_refl 0, Nat.le_refl 0⟩
              ·
                rw [hZ]
                exact hm_iret hx hb hr hlocks hS hP hK hnd hE (((if_neg c_12).trans ((if_neg c_19).trans ((if_neg c_44).trans (if_pos c_55))))) dX9_write_63
          ·
            have hok := (hok).1 c_44
            refine lv_aload_n hx hb dX9_write_47 rfl (lv_at hl 1 rfl) ?_
            refine lv_iconst (v := 4) hx hb dX9_write_48 (by decide) ?_
            obtain ⟨h_49k, hok⟩ := hok
            obtain ⟨h_49, hok⟩ := hok
            refine hm_callI (G := G) (a := ([.ref x, .int 4] : List Value).toArray) (pr := (h_X9_fails x 4 (h_X9_begin x S))) (rest := []) ?_ hS (fun H locs hP hS => ?_)
            ·
              exact va_runV (As := [.int 4]) (rest := []) ⟨hx, hb, hml, hown, hts⟩ (hm_X9_fails l G L (h_X9_begin x S) x 4 h_49) (cwV 1 hts gX9_write_X9_fails rfl rfl rfl hdv_X9_fails ⟨Nat.le_of_ble_eq_true rfl, Nat.le_of_ble_eq_true rfl⟩) ⟨HW.fb, hp_recv hK hP h_49k.1 (PF_7 h_49k.2) rfl, fun U hU hW => ⟨rfl, HW.call hP hK hnd hE hS U hU hW⟩⟩ rfl rfl hl.1 rfl (lv_room (Nat.le_of_ble_eq_true rfl)) dX9_write_49 ⟨Nat.le_refl 0, Nat.le_refl 0⟩
            ·
              rw [hZ]
              exact hm_iret hx hb hr hlocks hS hP hK hnd hE (((if_neg c_12).trans ((if_neg c_19).trans (if_pos c_44)))) dX9_write_52
      ·
        have hok := (hok).1 c_19
        refine lv_aload_n hx hb dX9_write_22 rfl (lv_at hl 0 rfl) ?_
        refine lv_bipush (v := 8) hx hb dX9_write_23 (by decide) ?_
        obtain ⟨h_25k, hok⟩ := hok
        obtain ⟨h_25, hok⟩ := hok
        refine hm_callI (G := G) (a := ([.ref x, .int 8] : List Value).toArray) (pr := (h_X9_fails x 8 (h_X9_begin x S))) (rest := []) ?_ hS (fun H locs hP hS => ?_)
        ·
          exact va_runV (As := [.int 8]) (rest := []) ⟨hx, hb, hml, hown, hts⟩ (hm_X9_fails l G L (h_X9_begin x S) x 8 h_25) (cwV 1 hts gX9_write_X9_fails rfl rfl rfl hdv_X9_fails ⟨Nat.le_of_ble_eq_true rfl, Nat.le_of_ble_eq_true rfl⟩) ⟨HW.fb, hp_recv hK hP h_25k.1 (PF_7 h_25k.2) rfl, fun U hU hW => ⟨rfl, HW.call hP hK hnd hE hS U hU hW⟩⟩ rfl rfl hl.1 rfl (lv_room (Nat.le_of_ble_eq_true rfl)) dX9_write_25 ⟨Nat.le_refl 0, Nat.le_refl 0⟩
        ·
          rw [hZ]
          exact hm_iret hx hb hr hlocks hS hP hK hnd hE (((if_neg c_12).trans (if_pos c_19))) dX9_write_28
theorem hdv_X9_call : yX9_call.cls = RX9 ∧ yX9_call.cls ≠ "java/lang/invoke/MethodHandle" ∧ yX9_call.cls ≠ "java/lang/invoke/VarHandle" ∧ (parseMethodDescriptor yX9_call.desc).map (fun d => d.parameters.length) = some 2 := by decide +kernel
theorem iw_X9_call_X9 : ∀ w ∈ u_ws RX9 TX9 12, w ∈ wsX9_call := by decide +kernel
def h_X9_call_j109 (x : Nat) (p0 : Int32) (p1 : Int32) (z_109_0 : Int32) (S : HS) : Int32 × HS :=
  if p1 = 0 then (z_109_0, h_X9_begin x S)
  else if p1 = 1 then if (hsA (h_X9_begin x S) ((hsQ (h_X9_begin x S) x 0).getD 0) (hsA (h_X9_begin x S) ((hsQ (h_X9_begin x S) x 8).getD 0) p0.toNatClampNeg).toNatClampNeg) = 10 then (2 * z_109_0, h_X9_begin x S)
    else ((3 * z_109_0) + 100, h_X9_begin x S)
   else if p1 = 2 then if (hsA (h_X9_begin x S) ((hsQ (h_X9_begin x S) x 0).getD 0) (hsA (h_X9_begin x S) ((hsQ (h_X9_begin x S) x 8).getD 0) p0.toNatClampNeg).toNatClampNeg) = 12 then (((7 * (hsA (h_X9_begin x S) ((hsQ (h_X9_begin x S) x 1).getD 0) (hsA (h_X9_begin x S) ((hsQ (h_X9_begin x S) x 8).getD 0) p0.toNatClampNeg).toNatClampNeg)) + 1) * 10, h_X9_begin x S)
     else (((7 * (hsA (h_X9_begin x S) ((hsQ (h_X9_begin x S) x 1).getD 0) (hsA (h_X9_begin x S) ((hsQ (h_X9_begin x S) x 8).getD 0) p0.toNatClampNeg).toNatClampNeg)) + 1) * 1, h_X9_begin x S)
    else if p1 = 3 then if (hsA (h_X9_begin x S) ((hsQ (h_X9_begin x S) x 0).getD 0) (hsA (h_X9_begin x S) ((hsQ (h_X9_begin x S) x 8).getD 0) p0.toNatClampNeg).toNatClampNeg) = 10 then ((1000 + (hsA (h_X9_begin x S) ((hsQ (h_X9_begin x S) x 1).getD 0) (hsA (h_X9_begin x S) ((hsQ (h_X9_begin x S) x 8).getD 0) p0.toNatClampNeg).toNatClampNeg)) + 0, h_X9_begin x S)
      else if (hsA (h_X9_begin x S) ((hsQ (h_X9_begin x S) x 0).getD 0) (hsA (h_X9_begin x S) ((hsQ (h_X9_begin x S) x 8).getD 0) p0.toNatClampNeg).toNatClampNeg) = 11 then ((1000 + (hsA (h_X9_begin x S) ((hsQ (h_X9_begin x S) x 1).getD 0) (hsA (h_X9_begin x S) ((hsQ (h_X9_begin x S) x 8).getD 0) p0.toNatClampNeg).toNatClampNeg)) + 20, h_X9_begin x S)
       else ((1000 + (hsA (h_X9_begin x S) ((hsQ (h_X9_begin x S) x 1).getD 0) (hsA (h_X9_begin x S) ((hsQ (h_X9_begin x S) x 8).getD 0) p0.toNatClampNeg).toNatClampNeg)) + 23, h_X9_begin x S)
     else if p1 = 4 then (z_109_0 - z_109_0 / 5 * 5, h_X9_begin x S)
      else if p1 = 5 then if 0 ≤ z_109_0 then (z_109_0, h_X9_begin x S)
        else ((h_X9_fails x 7 (h_X9_begin x S)).1, (h_X9_fails x 7 (h_X9_begin x S)).2)
       else if (hsA (h_X9_begin x S) ((hsQ (h_X9_begin x S) x 1).getD 0) (hsA (h_X9_begin x S) ((hsQ (h_X9_begin x S) x 8).getD 0) p0.toNatClampNeg).toNatClampNeg) = 0 then ((h_X9_fails x 6 (h_X9_begin x S)).1, (h_X9_fails x 6 (h_X9_begin x S)).2)
        else (1000 / (hsA (h_X9_begin x S) ((hsQ (h_X9_begin x S) x 1).getD 0) (hsA (h_X9_begin x S) ((hsQ (h_X9_begin x S) x 8).getD 0) p0.toNatClampNeg).toNatClampNeg), h_X9_begin x S)
def ok_X9_call_j109 (L : List Nat) (x : Nat) (p0 : Int32) (p1 : Int32) (z_109_0 : Int32) (S : HS) : Prop :=
  ((p1 = 0) → (True)) ∧
  (¬ (p1 = 0) → (((p1 = 1) → ((((hsA (h_X9_begin x S) ((hsQ (h_X9_begin x S) x 0).getD 0) (hsA (h_X9_begin x S) ((hsQ (h_X9_begin x S) x 8).getD 0) p0.toNatClampNeg).toNatClampNeg) = 10) → (True)) ∧
    (¬ ((hsA (h_X9_begin x S) ((hsQ (h_X9_begin x S) x 0).getD 0) (hsA (h_X9_begin x S) ((hsQ (h_X9_begin x S) x 8).getD 0) p0.toNatClampNeg).toNatClampNeg) = 10) → (True)))) ∧
   (¬ (p1 = 1) → (((p1 = 2) → ((((hsA (h_X9_begin x S) ((hsQ (h_X9_begin x S) x 0).getD 0) (hsA (h_X9_begin x S) ((hsQ (h_X9_begin x S) x 8).getD 0) p0.toNatClampNeg).toNatClampNeg) = 12) → (True)) ∧
     (¬ ((hsA (h_X9_begin x S) ((hsQ (h_X9_begin x S) x 0).getD 0) (hsA (h_X9_begin x S) ((hsQ (h_X9_begin x S) x 8).getD 0) p0.toNatClampNeg).toNatClampNeg) = 12) → (True)))) ∧
    (¬ (p1 = 2) → (((p1 = 3) → ((((hsA (h_X9_begin x S) ((hsQ (h_X9_begin x S) x 0).getD 0) (hsA (h_X9_begin x S) ((hsQ (h_X9_begin x S) x 8).getD 0) p0.toNatClampNeg).toNatClampNeg) = 10) → (True)) ∧
      (¬ ((hsA (h_X9_begin x S) ((hsQ (h_X9_begin x S) x 0).getD 0) (hsA (h_X9_begin x S) ((hsQ (h_X9_begin x S) x 8).getD 0) p0.toNatClampNeg).toNatClampNeg) = 10) → ((((hsA (h_X9_begin x S) ((hsQ (h_X9_begin x S) x 0).getD 0) (hsA (h_X9_begin x S) ((hsQ (h_X9_begin x S) x 8).getD 0) p0.toNatClampNeg).toNatClampNeg) = 11) → (True)) ∧
       (¬ ((hsA (h_X9_begin x S) ((hsQ (h_X9_begin x S) x 0).getD 0) (hsA (h_X9_begin x S) ((hsQ (h_X9_begin x S) x 8).getD 0) p0.toNatClampNeg).toNatClampNeg) = 11) → (True)))))) ∧
     (¬ (p1 = 3) → (((p1 = 4) → (True)) ∧
      (¬ (p1 = 4) → (((p1 = 5) → (((0 ≤ z_109_0) → (True)) ∧
        (¬ (0 ≤ z_109_0) → ((x ∈ L ∧ hsK (h_X9_begin x S) x = 7) ∧ ((ok_X9_fails L x 7 (h_X9_begin x S)) ∧ (True)))))) ∧
       (¬ (p1 = 5) → ((((hsA (h_X9_begin x S) ((hsQ (h_X9_begin x S) x 1).getD 0) (hsA (h_X9_begin x S) ((hsQ (h_X9_begin x S) x 8).getD 0) p0.toNatClampNeg).toNatClampNeg) = 0) → ((x ∈ L ∧ hsK (h_X9_begin x S) x = 7) ∧ ((ok_X9_fails L x 6 (h_X9_begin x S)) ∧ (True)))) ∧
        (¬ ((hsA (h_X9_begin x S) ((hsQ (h_X9_begin x S) x 1).getD 0) (hsA (h_X9_begin x S) ((hsQ (h_X9_begin x S) x 8).getD 0) p0.toNatClampNeg).toNatClampNeg) = 0) → ((¬ (hsA (h_X9_begin x S) ((hsQ (h_X9_begin x S) x 1).getD 0) (hsA (h_X9_begin x S) ((hsQ (h_X9_begin x S) x 8).getD 0) p0.toNatClampNeg).toNatClampNeg) = 0) ∧ (True)))))))))))))))
def h_X9_call (x : Nat) (p0 : Int32) (p1 : Int32) (S : HS) : Int32 × HS :=
  if (s_X9_isCell p0) = 0 then ((h_X9_fails x 8 (h_X9_begin x S)).1, (h_X9_fails x 8 (h_X9_begin x S)).2)
  else if (s_X9_in p1 0 6) = 0 then ((h_X9_fails x 8 (h_X9_begin x S)).1, (h_X9_fails x 8 (h_X9_begin x S)).2)
   else if (h_X9_passes x (hsA (h_X9_begin x S) ((hsQ (h_X9_begin x S) x 8).getD 0) p0.toNatClampNeg) 13 (h_X9_begin x S)) = 0 then ((h_X9_fails x 4 (h_X9_begin x S)).1, (h_X9_fails x 4 (h_X9_begin x S)).2)
    else if (hsA (h_X9_begin x S) ((hsQ (h_X9_begin x S) x 8).getD 0) p0.toNatClampNeg) = 0 then ((h_X9_fails x 1 (h_X9_begin x S)).1, (h_X9_fails x 1 (h_X9_begin x S)).2)
     else if (hsA (h_X9_begin x S) ((hsQ (h_X9_begin x S) x 0).getD 0) (hsA (h_X9_begin x S) ((hsQ (h_X9_begin x S) x 8).getD 0) p0.toNatClampNeg).toNatClampNeg) = 10 then h_X9_call_j109 x p0 p1 (hsA (h_X9_begin x S) ((hsQ (h_X9_begin x S) x 1).getD 0) (hsA (h_X9_begin x S) ((hsQ (h_X9_begin x S) x 8).getD 0) p0.toNatClampNeg).toNatClampNeg) S
      else if (hsA (h_X9_begin x S) ((hsQ (h_X9_begin x S) x 0).getD 0) (hsA (h_X9_begin x S) ((hsQ (h_X9_begin x S) x 8).getD 0) p0.toNatClampNeg).toNatClampNeg) = 11 then h_X9_call_j109 x p0 p1 (2 * (hsA (h_X9_begin x S) ((hsQ (h_X9_begin x S) x 1).getD 0) (hsA (h_X9_begin x S) ((hsQ (h_X9_begin x S) x 8).getD 0) p0.toNatClampNeg).toNatClampNeg)) S
       else h_X9_call_j109 x p0 p1 ((2 * (hsA (h_X9_begin x S) ((hsQ (h_X9_begin x S) x 1).getD 0) (hsA (h_X9_begin x S) ((hsQ (h_X9_begin x S) x 8).getD 0) p0.toNatClampNeg).toNatClampNeg)) + 1) S
def ok_X9_call (L : List Nat) (x : Nat) (p0 : Int32) (p1 : Int32) (S : HS) : Prop :=
  (x ∈ L ∧ hsK S x = 7) ∧ ((ok_X9_begin L x S) ∧ ((((s_X9_isCell p0) = 0) → ((x ∈ L ∧ hsK (h_X9_begin x S) x = 7) ∧ ((ok_X9_fails L x 8 (h_X9_begin x S)) ∧ (True)))) ∧
  (¬ ((s_X9_isCell p0) = 0) → ((((s_X9_in p1 0 6) = 0) → ((x ∈ L ∧ hsK (h_X9_begin x S) x = 7) ∧ ((ok_X9_fails L x 8 (h_X9_begin x S)) ∧ (True)))) ∧
   (¬ ((s_X9_in p1 0 6) = 0) → ((x ∈ L ∧ hsK (h_X9_begin x S) x = 7 ∧ hsQ (h_X9_begin x S) x 8 ≠ none) ∧ ((((hsQ (h_X9_begin x S) x 8).getD 0) ∈ L ∧ hsK (h_X9_begin x S) ((hsQ (h_X9_begin x S) x 8).getD 0) = 8 ∧ vp_in p0 (hsN (h_X9_begin x S) ((hsQ (h_X9_begin x S) x 8).getD 0))) ∧ ((x ∈ L ∧ hsK (h_X9_begin x S) x = 7) ∧ ((ok_X9_passes L x (hsA (h_X9_begin x S) ((hsQ (h_X9_begin x S) x 8).getD 0) p0.toNatClampNeg) 13 (h_X9_begin x S)) ∧ ((((h_X9_passes x (hsA (h_X9_begin x S) ((hsQ (h_X9_begin x S) x 8).getD 0) p0.toNatClampNeg) 13 (h_X9_begin x S)) = 0) → ((x ∈ L ∧ hsK (h_X9_begin x S) x = 7) ∧ ((ok_X9_fails L x 4 (h_X9_begin x S)) ∧ (True)))) ∧
    (¬ ((h_X9_passes x (hsA (h_X9_begin x S) ((hsQ (h_X9_begin x S) x 8).getD 0) p0.toNatClampNeg) 13 (h_X9_begin x S)) = 0) → ((((hsA (h_X9_begin x S) ((hsQ (h_X9_begin x S) x 8).getD 0) p0.toNatClampNeg) = 0) → ((x ∈ L ∧ hsK (h_X9_begin x S) x = 7) ∧ ((ok_X9_fails L x 1 (h_X9_begin x S)) ∧ (True)))) ∧
     (¬ ((hsA (h_X9_begin x S) ((hsQ (h_X9_begin x S) x 8).getD 0) p0.toNatClampNeg) = 0) → ((x ∈ L ∧ hsK (h_X9_begin x S) x = 7 ∧ hsQ (h_X9_begin x S) x 0 ≠ none) ∧ ((((hsQ (h_X9_begin x S) x 0).getD 0) ∈ L ∧ hsK (h_X9_begin x S) ((hsQ (h_X9_begin x S) x 0).getD 0) = 8 ∧ vp_in (hsA (h_X9_begin x S) ((hsQ (h_X9_begin x S) x 8).getD 0) p0.toNatClampNeg) (hsN (h_X9_begin x S) ((hsQ (h_X9_begin x S) x 0).getD 0))) ∧ ((x ∈ L ∧ hsK (h_X9_begin x S) x = 7 ∧ hsQ (h_X9_begin x S) x 1 ≠ none) ∧ ((((hsQ (h_X9_begin x S) x 1).getD 0) ∈ L ∧ hsK (h_X9_begin x S) ((hsQ (h_X9_begin x S) x 1).getD 0) = 8 ∧ vp_in (hsA (h_X9_begin x S) ((hsQ (h_X9_begin x S) x 8).getD 0) p0.toNatClampNeg) (hsN (h_X9_begin x S) ((hsQ (h_X9_begin x S) x 1).getD 0))) ∧ ((((hsA (h_X9_begin x S) ((hsQ (h_X9_begin x S) x 0).getD 0) (hsA (h_X9_begin x S) ((hsQ (h_X9_begin x S) x 8).getD 0) p0.toNatClampNeg).toNatClampNeg) = 10) → (ok_X9_call_j109 L x p0 p1 (hsA (h_X9_begin x S) ((hsQ (h_X9_begin x S) x 1).getD 0) (hsA (h_X9_begin x S) ((hsQ (h_X9_begin x S) x 8).getD 0) p0.toNatClampNeg).toNatClampNeg) S)) ∧
      (¬ ((hsA (h_X9_begin x S) ((hsQ (h_X9_begin x S) x 0).getD 0) (hsA (h_X9_begin x S) ((hsQ (h_X9_begin x S) x 8).getD 0) p0.toNatClampNeg).toNatClampNeg) = 10) → ((((hsA (h_X9_begin x S) ((hsQ (h_X9_begin x S) x 0).getD 0) (hsA (h_X9_begin x S) ((hsQ (h_X9_begin x S) x 8).getD 0) p0.toNatClampNeg).toNatClampNeg) = 11) → (ok_X9_call_j109 L x p0 p1 (2 * (hsA (h_X9_begin x S) ((hsQ (h_X9_begin x S) x 1).getD 0) (hsA (h_X9_begin x S) ((hsQ (h_X9_begin x S) x 8).getD 0) p0.toNatClampNeg).toNatClampNeg)) S)) ∧
       (¬ ((hsA (h_X9_begin x S) ((hsQ (h_X9_begin x S) x 0).getD 0) (hsA (h_X9_begin x S) ((hsQ (h_X9_begin x S) x 8).getD 0) p0.toNatClampNeg).toNatClampNeg) = 11) → (ok_X9_call_j109 L x p0 p1 ((2 * (hsA (h_X9_begin x S) ((hsQ (h_X9_begin x S) x 1).getD 0) (hsA (h_X9_begin x S) ((hsQ (h_X9_begin x S) x 8).getD 0) p0.toNatClampNeg).toNatClampNeg)) + 1) S))))))))))))))))))))))
set_option maxHeartbeats 4000000 in
set_option maxRecDepth 100000 in
theorem hm_X9_call (l : Launch) (G : GE) (L : List Nat) (S : HS) (x : Nat) (p0 : Int32) (p1 : Int32) (hok : ok_X9_call L x p0 p1 S) : HmI l G yX9_call wsX9_call 2 43 [.ref x, .int p0, .int p1] L S (h_X9_call x p0 p1 S) := by
  refine Met.ofW (cc := cX9_call) (maxL := 7) (ret := (some .int)) (by decide) rfl ?_
  intro p e s m args below meth c s₁ B hml hv
  obtain ⟨rfl, hP, hK, hnd, hE⟩ := hv
  have hx := B.exec
  have hb := B.bytes
  have hr := B.returns
  have hts := atoms_spec (ws := wsX9_call) B.pre
  have hown : s.vm.findClass RX9 = some m.cls := findClass_of_methodNamed B.named
  have hlocks := B.notSynchronized
  have hD := nd_D hnd
  have hS : va_S (AL L) s.heap s.heap [] := va_S.rf
  have hl := lv_entry ([.ref x, .int p0, .int p1]) (n := 7) (Nat.le_of_ble_eq_true rfl)
  rw [lg_entry_eq]
  generalize (lg_sl ([.ref x, .int p0, .int p1]) ++ List.replicate (7 - (lg_sl ([.ref x, .int p0, .int p1])).length) Slot.unset).toArray = ls at hl ⊢
  have hl : lv_has ls 7 [(0, .ref x), (1, .int p0), (2, .int p1)] := hl
  obtain ⟨Z, hZ⟩ : ∃ z, z = MQ below (hm_QI G L (h_X9_call x p0 p1 S)) ([.ref x, .int p0, .int p1] : List Value).toArray s 0 0 (AL L) := ⟨_, rfl⟩
  rw [← hZ]
  refine lv_aload_n hx hb dX9_call_0 rfl (lv_at hl 0 rfl) ?_
  obtain ⟨h_1k, hok⟩ := hok
  obtain ⟨h_1, hok⟩ := hok
  refine hm_callV (G := G) (a := ([.ref x] : List Value).toArray) (pr := (h_X9_begin x S)) (rest := []) ?_ hS (fun H locs hP hS => ?_)
  ·
    exact va_runV (As := []) (rest := []) ⟨hx, hb, hml, hown, hts⟩ (hm_X9_begin l G L S x h_1) (cwV 0 hts gX9_call_X9_begin rfl rfl rfl hdv_X9_begin ⟨Nat.le_of_ble_eq_true rfl, Nat.le_of_ble_eq_true rfl⟩) ⟨HW.fb, hp_recv hK hP h_1k.1 (PF_7 h_1k.2) rfl, fun U hU hW => ⟨rfl, HW.call hP hK hnd hE hS U hU hW⟩⟩ rfl rfl hl.1 rfl (lv_room (Nat.le_of_ble_eq_true rfl)) dX9_call_1 ⟨Nat.le_refl 0, Nat.le_refl 0⟩
  ·
    refine lv_iload_n hx hb dX9_call_4 rfl (lv_at hl 1 rfl) ?_
    refine pm_callI (va_runS (As := [.int p0]) (rest := []) ⟨hx, hb, hml, hown, hts⟩ (pm_X9_isCell l p0) (va_cwS 1 hts gX9_call_X9_isCell rfl rfl rfl hd_X9_isCell ⟨Nat.le_of_ble_eq_true rfl, Nat.le_of_ble_eq_true rfl⟩) ⟨pm_fbT, fun U hU hW => ⟨rfl, trivial⟩⟩ rfl rfl hl.1 rfl (lv_room (Nat.le_of_ble_eq_true rfl)) dX9_call_5 ⟨Nat.le_refl 0, Nat.le_refl 0⟩) hS (fun H locs _ hk9 hS => ?_)
    replace hP := P_keep hP hk9
    refine lv_if_eq (tgt := 21) hx hb dX9_call_8 (by decide) (fun c_8 => ?_) (fun c_8 => ?_)
    ·
      have hok := (hok).1 c_8
      refine lv_aload_n hx hb dX9_call_21 rfl (lv_at hl 0 rfl) ?_
      refine lv_bipush (v := 8) hx hb dX9_call_22 (by decide) ?_
      obtain ⟨h_24k, hok⟩ := hok
      obtain ⟨h_24, hok⟩ := hok
      refine hm_callI (G := G) (a := ([.ref x, .int 8] : List Value).toArray) (pr := (h_X9_fails x 8 (h_X9_begin x S))) (rest := []) ?_ hS (fun H locs hP hS => ?_)
      ·
        exact va_runV (As := [.int 8]) (rest := []) ⟨hx, hb, hml, hown, hts⟩ (hm_X9_fails l G L (h_X9_begin x S) x 8 h_24) (cwV 1 hts gX9_call_X9_fails rfl rfl rfl hdv_X9_fails ⟨Nat.le_of_ble_eq_true rfl, Nat.le_of_ble_eq_true rfl⟩) ⟨HW.fb, hp_recv hK hP h_24k.1 (PF_7 h_24k.2) rfl, fun U hU hW => ⟨rfl, HW.call hP hK hnd hE hS U hU hW⟩⟩ rfl rfl hl.1 rfl (lv_room (Nat.le_of_ble_eq_true rfl)) dX9_call_24 ⟨Nat.le_refl 0, Nat.le_refl 0⟩
      ·
        rw [hZ]
        exact hm_iret hx hb hr hlocks hS hP hK hnd hE ((if_pos c_8)) dX9_call_27
    ·
      have hok := (hok).2 c_8
      refine lv_iload_n hx hb dX9_call_11 rfl (lv_at hl 2 rfl) ?_
      refine lv_iconst (v := 0) hx hb dX9_call_12 (by decide) ?_
      refine lv_bipush (v := 6) hx hb dX9_call_13 (by decide) ?_
      refine pm_callI (va_runS (As := [.int p1, .int 0, .int 6]) (rest := []) ⟨hx, hb, hml, hown, hts⟩ (pm_X9_in l p1 0 6) (va_cwS 3 hts gX9_call_X9_in rfl rfl rfl hd_X9_in ⟨Nat.le_of_ble_eq_true rfl, Nat.le_of_ble_eq_true rfl⟩) ⟨pm_fbT, fun U hU hW => ⟨rfl, trivial⟩⟩ rfl rfl hl.1 rfl (lv_room (Nat.le_of_ble_eq_true rfl)) dX9_call_15 ⟨Nat.le_refl 0, Nat.le_refl 0⟩) hS (fun H locs _ hk9 hS => ?_)
      replace hP := P_keep hP hk9
      refine lv_if_ne (tgt := 28) hx hb dX9_call_18 (by decide) (fun c_18 => ?_) (fun c_18 => ?_)
      ·
        have hok := (hok).2 c_18
        refine lv_aload_n hx hb dX9_call_28 rfl (lv_at hl 0 rfl) ?_
        obtain ⟨h_29, hok⟩ := hok
        refine hp_getR (ci := 7) (C := RX9) (T := TX9) (N := 12) hx hb hts iw_X9_call_X9 hown hK hP h_29.1 (PF_7 h_29.2.1) rfl 8 (by decide) (hts _ (List.mem_of_getElem? (i := 1) rfl)) (fun _ h9 => h9) rfl h_29.2.2 dX9_call_29 ?_
        refine lv_iload_n hx hb dX9_call_32 rfl (lv_at hl 1 rfl) ?_
        obtain ⟨h_33, hok⟩ := hok
        refine hp_iald hx hb hK hP h_33.1 0 (PF_8 h_33.2.1) rfl h_33.2.2 dX9_call_33 ?_
        refine lv_istore_n (lv' := [(3, .int (hsA (h_X9_begin x S) ((hsQ (h_X9_begin x S) x 8).getD 0) p0.toNatClampNeg)), (0, .ref x), (1, .int p0), (2, .int p1)]) hx hb dX9_call_34 rfl hl (by decide) rfl (fun ls hl => ?_)
        refine lv_aload_n hx hb dX9_call_35 rfl (lv_at hl 1 rfl) ?_
        refine lv_iload_n hx hb dX9_call_36 rfl (lv_at hl 0 rfl) ?_
        refine lv_bipush (v := 13) hx hb dX9_call_37 (by decide) ?_
        obtain ⟨h_39k, hok⟩ := hok
        obtain ⟨h_39, hok⟩ := hok
        refine hm_callIr (G := G) (S1 := h_X9_begin x S) (a := ([.ref x, .int (hsA (h_X9_begin x S) ((hsQ (h_X9_begin x S) x 8).getD 0) p0.toNatClampNeg), .int 13] : List Value).toArray) (rest := []) (h_X9_passes x (hsA (h_X9_begin x S) ((hsQ (h_X9_begin x S) x 8).getD 0) p0.toNatClampNeg) 13 (h_X9_begin x S)) ?_ hS (fun H locs hP hS => ?_)
        ·
          exact va_runV (As := [.int (hsA (h_X9_begin x S) ((hsQ (h_X9_begin x S) x 8).getD 0) p0.toNatClampNeg), .int 13]) (rest := []) ⟨hx, hb, hml, hown, hts⟩ (hm_X9_passes l G L (h_X9_begin x S) x (hsA (h_X9_begin x S) ((hsQ (h_X9_begin x S) x 8).getD 0) p0.toNatClampNeg) 13 h_39) (cwV 2 hts gX9_call_X9_passes rfl rfl rfl hdv_X9_passes ⟨Nat.le_of_ble_eq_true rfl, Nat.le_of_ble_eq_true rfl⟩) ⟨HW.fb, hp_recv hK hP h_39k.1 (PF_7 h_39k.2) rfl, fun U hU hW => ⟨rfl, HW.call hP hK hnd hE hS U hU hW⟩⟩ rfl rfl hl.1 rfl (lv_room (Nat.le_of_ble_eq_true rfl)) dX9_call_39 ⟨Nat.le_refl 0, Nat.le_refl 0⟩
        ·
          refine lv_if_ne (tgt := 51) hx hb dX9_call_42 (by decide) (fun c_42 => ?_) (fun c_42 => ?_)
          ·
            have hok := (hok).2 c_42
            refine lv_iload_n hx hb dX9_call_51 rfl (lv_at hl 0 rfl) ?_
            refine lv_if_ne (tgt := 61) hx hb dX9_call_52 (by decide) (fun c_52 => ?_) (fun c_52 => ?_)
            ·
              have hok := (hok).2 c_52
              refine lv_aload_n hx hb dX9_call_61 rfl (lv_at hl 1 rfl) ?_
              obtain ⟨h_62, hok⟩ := hok
              refine hp_getR (ci := 7) (C := RX9) (T := TX9) (N := 12) hx hb hts iw_X9_call_X9 hown hK hP h_62.1 (PF_7 h_62.2.1) rfl 0 (by decide) (hts _ (List.mem_of_getElem? (i := 2) rfl)) (fun _ h9 => h9) rfl h_62.2.2 dX9_call_62 ?_
              refine lv_iload_n hx hb dX9_call_65 rfl (lv_at hl 0 rfl) ?_
              obtain ⟨h_66, hok⟩ := hok
              refine hp_iald hx hb hK hP h_66.1 0 (PF_8 h_66.2.1) rfl h_66.2.2 dX9_call_66 ?_
              refine lv_istore (lv' := [(4, .int (hsA (h_X9_begin x S) ((hsQ (h_X9_begin x S) x 0).getD 0) (hsA (h_X9_begin x S) ((hsQ (h_X9_begin x S) x 8).getD 0) p0.toNatClampNeg).toNatClampNeg)), (3, .int (hsA (h_X9_begin x S) ((hsQ (h_X9_begin x S) x 8).getD 0) p0.toNatClampNeg)), (0, .ref x), (1, .int p0), (2, .int p1)]) hx hb dX9_call_67 hl (by decide) rfl (fun ls hl => ?_)
              refine lv_aload_n hx hb dX9_call_69 rfl (lv_at hl 2 rfl) ?_
              obtain ⟨h_70, hok⟩ := hok
              refine hp_getR (ci := 7) (C := RX9) (T := TX9) (N := 12) hx hb hts iw_X9_call_X9 hown hK hP h_70.1 (PF_7 h_70.2.1) rfl 1 (by decide) (hts _ (List.mem_of_getElem? (i := 3) rfl)) (fun _ h9 => h9) rfl h_70.2.2 dX9_call_70 ?_
              refine lv_iload_n hx hb dX9_call_73 rfl (lv_at hl 1 rfl) ?_
              obtain ⟨h_74, hok⟩ := hok
              refine hp_iald hx hb hK hP h_74.1 0 (PF_8 h_74.2.1) rfl h_74.2.2 dX9_call_74 ?_
              refine lv_istore (lv' := [(5, .int (hsA (h_X9_begin x S) ((hsQ (h_X9_begin x S) x 1).getD 0) (hsA (h_X9_begin x S) ((hsQ (h_X9_begin x S) x 8).getD 0) p0.toNatClampNeg).toNatClampNeg)), (4, .int (hsA (h_X9_begin x S) ((hsQ (h_X9_begin x S) x 0).getD 0) (hsA (h_X9_begin x S) ((hsQ (h_X9_begin x S) x 8).getD 0) p0.toNatClampNeg).toNatClampNeg)), (3, .int (hsA (h_X9_begin x S) ((hsQ (h_X9_begin x S) x 8).getD 0) p0.toNatClampNeg)), (0, .ref x), (1, .int p0), (2, .int p1)]) hx hb dX9_call_75 hl (by decide) rfl (fun ls hl => ?_)
              refine lv_iload hx hb dX9_call_77 (lv_at hl 1 rfl) ?_
              refine lv_bipush (v := 10) hx hb dX9_call_79 (by decide) ?_
              have K_109 : ∀ (z_109_0 : Int32) (H : Heap) (locs : List Loc), va_P (gD G) vwCl (va_pl L (PF G (h_X9_begin x S))) H → va_S (AL L) s.heap H locs → ∀ (ls : Array Slot), lv_has ls 7 [(0, .ref x), (2, .int p1), (4, .int (hsA (h_X9_begin x S) ((hsQ (h_X9_begin x S) x 0).getD 0) (hsA (h_X9_begin x S) ((hsQ (h_X9_begin x S) x 8).getD 0) p0.toNatClampNeg).toNatClampNeg)), (5, .int (hsA (h_X9_begin x S) ((hsQ (h_X9_begin x S) x 1).getD 0) (hsA (h_X9_begin x S) ((hsQ (h_X9_begin x S) x 8).getD 0) p0.toNatClampNeg).toNatClampNeg))] → ok_X9_call_j109 L x p0 p1 z_109_0 S → h_X9_call x p0 p1 S = h_X9_call_j109 x p0 p1 z_109_0 S → W p l e (pm_R 2 43) s m ([.ref x, .int p0, .int p1] : List Value).toArray below meth c H locs 0 0 Z (F0 m 109 ls [.int z_109_0]) := by
                intro z_109_0 H locs hP hS ls hl hok hK_109
                refine lv_istore (lv' := [(6, .int z_109_0), (0, .ref x), (2, .int p1), (4, .int (hsA (h_X9_begin x S) ((hsQ (h_X9_begin x S) x 0).getD 0) (hsA (h_X9_begin x S) ((hsQ (h_X9_begin x S) x 8).getD 0) p0.toNatClampNeg).toNatClampNeg)), (5, .int (hsA (h_X9_begin x S) ((hsQ (h_X9_begin x S) x 1).getD 0) (hsA (h_X9_begin x S) ((hsQ (h_X9_begin x S) x 8).getD 0) p0.toNatClampNeg).toNatClampNeg))]) hx hb dX9_call_109 hl (by decide) rfl (fun ls hl => ?_)
                refine lv_iload_n hx hb dX9_call_111 rfl (lv_at hl 2 rfl) ?_
                by_cases c_112_0 : p1 = 0
                ·
                  have hok := (hok).1 c_112_0
                  refine lv_tableIn (off := 40) (tgt := 152) hx hb dX9_call_112 (by rw [c_112_0]; decide) (by rw [c_112_0]; decide) (by rw [c_112_0]; decide) (by decide) ?_
                  refine lv_iload hx hb dX9_call_152 (lv_at hl 0 rfl) ?_
                  rw [hZ]
                  exact hm_iret hx hb hr hlocks hS hP hK hnd hE (((hK_109).trans (if_pos c_112_0))) dX9_call_154
                ·
                  have hok := (hok).2 c_112_0
                  by_cases c_112_1 : p1 = 1
                  ·
                    have hok := (hok).1 c_112_1
                    refine lv_tableIn (off := 43) (tgt := 155) hx hb dX9_call_112 (by rw [c_112_1]; decide) (by rw [c_112_1]; decide) (by rw [c_112_1]; decide) (by decide) ?_
                    refine lv_iload hx hb dX9_call_155 (lv_at hl 3 rfl) ?_
                    refine lv_bipush (v := 10) hx hb dX9_call_157 (by decide) ?_
                    refine lv_icmp_ne (tgt := 169) hx hb dX9_call_159 (by decide) (fun c_159 => ?_) (fun c_159 => ?_)
                    ·
                      have hok := (hok).2 c_159
                      refine lv_iconst (v := 3) hx hb dX9_call_169 (by decide) ?_
                      refine lv_iload hx hb dX9_call_170 (lv_at hl 0 rfl) ?_
                      refine lv_imul hx hb dX9_call_172 ?_
                      refine lv_bipush (v := 100) hx hb dX9_call_173 (by decide) ?_
                      refine lv_iadd hx hb dX9_call_175 ?_
                      rw [hZ]
                      exact hm_iret hx hb hr hlocks hS hP hK hnd hE (((hK_109).trans ((if_neg c_112_0).trans ((if_pos c_112_1).trans (if_neg c_159))))) dX9_call_176
                    ·
                      have hok := (hok).1 c_159
                      refine lv_iconst (v := 2) hx hb dX9_call_162 (by decide) ?_
                      refine lv_iload hx hb dX9_call_163 (lv_at hl 0 rfl) ?_
                      refine lv_imul hx hb dX9_call_165 ?_
                      refine lv_goto (tgt := 176) hx hb dX9_call_166 (by decide) ?_
                      rw [hZ]
                      exact hm_iret hx hb hr hlocks hS hP hK hnd hE (((hK_109).trans ((if_neg c_112_0).trans ((if_pos c_112_1).trans (if_pos c_159))))) dX9_call_176
                  ·
                    have hok := (hok).2 c_112_1
                    by_cases c_112_2 : p1 = 2
                    ·
                      have hok := (hok).1 c_112_2
                      refine lv_tableIn (off := 65) (tgt := 177) hx hb dX9_call_112 (by rw [c_112_2]; decide) (by rw [c_112_2]; decide) (by rw [c_112_2]; decide) (by decide) ?_
                      refine lv_bipush (v := 7) hx hb dX9_call_177 (by decide) ?_
                      refine lv_iload hx hb dX9_call_179 (lv_at hl 4 rfl) ?_
                      refine lv_imul hx hb dX9_call_181 ?_
                      refine lv_iconst (v := 1) hx hb dX9_call_182 (by decide) ?_
                      refine lv_iadd hx hb dX9_call_183 ?_
                      refine lv_iload hx hb dX9_call_184 (lv_at hl 3 rfl) ?_
                      refine lv_bipush (v := 12) hx hb dX9_call_186 (by decide) ?_
                      refine lv_icmp_ne (tgt := 196) hx hb dX9_call_188 (by decide) (fun c_188 => ?_) (fun c_188 => ?_)
                      ·
                        have hok := (hok).2 c_188
                        refine lv_iconst (v := 1) hx hb dX9_call_196 (by decide) ?_
                        refine lv_imul hx hb dX9_call_197 ?_
                        rw [hZ]
                        exact hm_iret hx hb hr hlocks hS hP hK hnd hE (((hK_109).trans ((if_neg c_112_0).trans ((if_neg c_112_1).trans ((if_pos c_112_2).trans (if_neg c_188)))))) dX9_call_198
                      ·
                        have hok := (hok).1 c_188
                        refine lv_bipush (v := 10) hx hb dX9_call_191 (by decide) ?_
                        refine lv_goto (tgt := 197) hx hb dX9_call_193 (by decide) ?_
                        refine lv_imul hx hb dX9_call_197 ?_
                        rw [hZ]
                        exact hm_iret hx hb hr hlocks hS hP hK hnd hE (((hK_109).trans ((if_neg c_112_0).trans ((if_neg c_112_1).trans ((if_pos c_112_2).trans (if_pos c_188)))))) dX9_call_198
                    ·
                      have hok := (hok).2 c_112_2
                      by_cases c_112_3 : p1 = 3
                      ·
                        have hok := (hok).1 c_112_3
                        refine lv_tableIn (off := 87) (tgt := 199) hx hb dX9_call_112 (by rw [c_112_3]; decide) (by rw [c_112_3]; decide) (by rw [c_112_3]; decide) (by decide) ?_
                        refine lv_sipush (v := 1000) hx hb dX9_call_199 (by decide) ?_
                        refine lv_iload hx hb dX9_call_202 (lv_at hl 4 rfl) ?_
                        refine lv_iadd hx hb dX9_call_204 ?_
                        refine lv_iload hx hb dX9_call_205 (lv_at hl 3 rfl) ?_
                        refine lv_bipush (v := 10) hx hb dX9_call_207 (by decide) ?_
                        refine lv_icmp_ne (tgt := 216) hx hb dX9_call_209 (by decide) (fun c_209 => ?_) (fun c_209 => ?_)
                        ·
                          have hok := (hok).2 c_209
                          refine lv_iload hx hb dX9_call_216 (lv_at hl 3 rfl) ?_
                          refine lv_bipush (v := 11) hx hb dX9_call_218 (by decide) ?_
                          refine lv_icmp_ne (tgt := 228) hx hb dX9_call_220 (by decide) (fun c_220 => ?_) (fun c_220 => ?_)
                          ·
                            have hok := (hok).2 c_220
                            refine lv_bipush (v := 23) hx hb dX9_call_228 (by decide) ?_
                            refine lv_iadd hx hb dX9_call_230 ?_
                            rw [hZ]
                            exact hm_iret hx hb hr hlocks hS hP hK hnd hE (((hK_109).trans ((if_neg c_112_0).trans ((if_neg c_112_1).trans ((if_neg c_112_2).trans ((if_pos c_112_3).trans ((if_neg c_209).trans (if_neg c_220)))))))) dX9_call_231
                          ·
                            have hok := (hok).1 c_220
                            refine lv_bipush (v := 20) hx hb dX9_call_223 (by decide) ?_
                            refine lv_goto (tgt := 230) hx hb dX9_call_225 (by decide) ?_
                            refine lv_iadd hx hb dX9_call_230 ?_
                            rw [hZ]
                            exact hm_iret hx hb hr hlocks hS hP hK hnd hE (((hK_109).trans ((if_neg c_112_0).trans ((if_neg c_112_1).trans ((if_neg c_112_2).trans ((if_pos c_112_3).trans ((if_neg c_209).trans (if_pos c_220)))))))) dX9_call_231
                        ·
                          have hok := (hok).1 c_209
                          refine lv_iconst (v := 0) hx hb dX9_call_212 (by decide) ?_
                          refine lv_goto (tgt := 230) hx hb dX9_call_213 (by decide) ?_
                          refine lv_iadd hx hb dX9_call_230 ?_
                          rw [hZ]
                          exact hm_iret hx hb hr hlocks hS hP hK hnd hE (((hK_109).trans ((if_neg c_112_0).trans ((if_neg c_112_1).trans ((if_neg c_112_2).trans ((if_pos c_112_3).trans (if_pos c_209))))))) dX9_call_231
                      ·
                        have hok := (hok).2 c_112_3
                        by_cases c_112_4 : p1 = 4
                        ·
                          have hok := (hok).1 c_112_4
                          refine lv_tableIn (off := 120) (tgt := 232) hx hb dX9_call_112 (by rw [c_112_4]; decide) (by rw [c_112_4]; decide) (by rw [c_112_4]; decide) (by decide) ?_
                          refine lv_iload hx hb dX9_call_232 (lv_at hl 0 rfl) ?_
                          refine lv_iconst (v := 5) hx hb dX9_call_234 (by decide) ?_
                          refine lv_irem hx hb dX9_call_235 (by decide) ?_
                          rw [hZ]
                          exact hm_iret hx hb hr hlocks hS hP hK hnd hE (((hK_109).trans ((if_neg c_112_0).trans ((if_neg c_112_1).trans ((if_neg c_112_2).trans ((if_neg c_112_3).trans (if_pos c_112_4))))))) dX9_call_236
                        ·
                          have hok := (hok).2 c_112_4
                          by_cases c_112_5 : p1 = 5
                          ·
                            have hok := (hok).1 c_112_5
                            refine lv_tableIn (off := 125) (tgt := 237) hx hb dX9_call_112 (by rw [c_112_5]; decide) (by rw [c_112_5]; decide) (by rw [c_112_5]; decide) (by decide) ?_
                            refine lv_iload hx hb dX9_call_237 (lv_at hl 0 rfl) ?_
                            refine lv_if_ge (tgt := 251) hx hb dX9_call_239 (by decide) (fun c_239 => ?_) (fun c_239 => ?_)
                            ·
                              have hok := (hok).1 c_239
                              refine lv_iload hx hb dX9_call_251 (lv_at hl 0 rfl) ?_
                              rw [hZ]
                              exact hm_iret hx hb hr hlocks hS hP hK hnd hE (((hK_109).trans ((if_neg c_112_0).trans ((if_neg c_112_1).trans ((if_neg c_112_2).trans ((if_neg c_112_3).trans ((if_neg c_112_4).trans ((if_pos c_112_5).trans (if_pos c_239))))))))) dX9_call_253
                            ·
                              have hok := (hok).2 c_239
                              refine lv_aload_n hx hb dX9_call_242 rfl (lv_at hl 1 rfl) ?_
                              refine lv_bipush (v := 7) hx hb dX9_call_243 (by decide) ?_
                              obtain ⟨h_245k, hok⟩ := hok
                              obtain ⟨h_245, hok⟩ := hok
                              refine hm_callI (G := G) (a := ([.ref x, .int 7] : List Value).toArray) (pr := (h_X9_fails x 7 (h_X9_begin x S))) (rest := []) ?_ hS (fun H locs hP hS => ?_)
                              ·
                                exact va_runV (As := [.int 7]) (rest := []) ⟨hx, hb, hml, hown, hts⟩ (hm_X9_fails l G L (h_X9_begin x S) x 7 h_245) (cwV 1 hts gX9_call_X9_fails rfl rfl rfl hdv_X9_fails ⟨Nat.le_of_ble_eq_true rfl, Nat.le_of_ble_eq_true rfl⟩) ⟨HW.fb, hp_recv hK hP h_245k.1 (PF_7 h_245k.2) rfl, fun U hU hW => ⟨rfl, HW.call hP hK hnd hE hS U hU hW⟩⟩ rfl rfl hl.1 rfl (lv_room (Nat.le_of_ble_eq_true rfl)) dX9_call_245 ⟨Nat.le_refl 0, Nat.le_refl 0⟩
                              ·
                                refine lv_goto (tgt := 253) hx hb dX9_call_248 (by decide) ?_
                                rw [hZ]
                                exact hm_iret hx hb hr hlocks hS hP hK hnd hE (((hK_109).trans ((if_neg c_112_0).trans ((if_neg c_112_1).trans ((if_neg c_112_2).trans ((if_neg c_112_3).trans ((if_neg c_112_4).trans ((if_pos c_112_5).trans (if_neg c_239))))))))) dX9_call_253
                          ·
                            have hok := (hok).2 c_112_5
                            have nc_112_0 : (p1).toInt ≠ 0 := fun h => c_112_0 (Int32.toInt.inj (h.trans (by decide)))
                            have nc_112_1 : (p1).toInt ≠ 1 := fun h => c_112_1 (Int32.toInt.inj (h.trans (by decide)))
                            have nc_112_2 : (p1).toInt ≠ 2 := fun h => c_112_2 (Int32.toInt.inj (h.trans (by decide)))
                            have nc_112_3 : (p1).toInt ≠ 3 := fun h => c_112_3 (Int32.toInt.inj (h.trans (by decide)))
                            have nc_112_4 : (p1).toInt ≠ 4 := fun h => c_112_4 (Int32.toInt.inj (h.trans (by decide)))
                            have nc_112_5 : (p1).toInt ≠ 5 := fun h => c_112_5 (Int32.toInt.inj (h.trans (by decide)))
                            refine lv_tableOut (tgt := 254) hx hb dX9_call_112 (by omega) (by decide) ?_
                            refine lv_iload hx hb dX9_call_254 (lv_at hl 4 rfl) ?_
                            refine lv_if_ne (tgt := 268) hx hb dX9_call_256 (by decide) (fun c_256 => ?_) (fun c_256 => ?_)
                            ·
                              have hok := (hok).2 c_256
                              refine lv_sipush (v := 1000) hx hb dX9_call_268 (by decide) ?_
                              refine lv_iload hx hb dX9_call_271 (lv_at hl 4 rfl) ?_
                              obtain ⟨h_273, hok⟩ := hok
                              refine lv_idiv hx hb dX9_call_273 (h_273) ?_
                              rw [hZ]
                              exact hm_iret hx hb hr hlocks hS hP hK hnd hE (((hK_109).trans ((if_neg c_112_0).trans ((if_neg c_112_1).trans ((if_neg c_112_2).trans ((if_neg c_112_3).trans ((if_neg c_112_4).trans ((if_neg c_112_5).trans (if_neg c_256))))))))) dX9_call_274
                            ·
                              have hok := (hok).1 c_256
                              refine lv_aload_n hx hb dX9_call_259 rfl (lv_at hl 1 rfl) ?_
                              refine lv_bipush (v := 6) hx hb dX9_call_260 (by decide) ?_
                              obtain ⟨h_262k, hok⟩ := hok
                              obtain ⟨h_262, hok⟩ := hok
                              refine hm_callI (G := G) (a := ([.ref x, .int 6] : List Value).toArray) (pr := (h_X9_fails x 6 (h_X9_begin x S))) (rest := []) ?_ hS (fun H locs hP hS => ?_)
                              ·
                                exact va_runV (As := [.int 6]) (rest := []) ⟨hx, hb, hml, hown, hts⟩ (hm_X9_fails l G L (h_X9_begin x S) x 6 h_262) (cwV 1 hts gX9_call_X9_fails rfl rfl rfl hdv_X9_fails ⟨Nat.le_of_ble_eq_true rfl, Nat.le_of_ble_eq_true rfl⟩) ⟨HW.fb, hp_recv hK hP h_262k.1 (PF_7 h_262k.2) rfl, fun U hU hW => ⟨rfl, HW.call hP hK hnd hE hS U hU hW⟩⟩ rfl rfl hl.1 rfl (lv_room (Nat.le_of_ble_eq_true rfl)) dX9_call_262 ⟨Nat.le_refl 0, Nat.le_refl 0⟩
                              ·
                                refine lv_goto (tgt := 274) hx hb dX9_call_265 (by decide) ?_
                                rw [hZ]
                                exact hm_iret hx hb hr hlocks hS hP hK hnd hE (((hK_109).trans ((if_neg c_112_0).trans ((if_neg c_112_1).trans ((if_neg c_112_2).trans ((if_neg c_112_3).trans ((if_neg c_112_4).trans ((if_neg c_112_5).trans (if_pos c_256))))))))) dX9_call_274
              refine lv_icmp_ne (tgt := 89) hx hb dX9_call_81 (by decide) (fun c_81 => ?_) (fun c_81 => ?_)
              ·
                have hok := (hok).2 c_81
                refine lv_iload hx hb dX9_call_89 (lv_at hl 1 rfl) ?_
                refine lv_bipush (v := 11) hx hb dX9_call_91 (by decide) ?_
                refine lv_icmp_ne (tgt := 103) hx hb dX9_call_93 (by decide) (fun c_93 => ?_) (fun c_93 => ?_)
                ·
                  have hok := (hok).2 c_93
                  refine lv_iconst (v := 2) hx hb dX9_call_103 (by decide) ?_
                  refine lv_iload hx hb dX9_call_104 (lv_at hl 0 rfl) ?_
                  refine lv_imul hx hb dX9_call_106 ?_
                  refine lv_iconst (v := 1) hx hb dX9_call_107 (by decide) ?_
                  refine lv_iadd hx hb dX9_call_108 ?_
                  exact K_109 ((2 * (hsA (h_X9_begin x S) ((hsQ (h_X9_begin x S) x 1).getD 0) (hsA (h_X9_begin x S) ((hsQ (h_X9_begin x S) x 8).getD 0) p0.toNatClampNeg).toNatClampNeg)) + 1) _ _ hP hS ls (lv_sub hl [3, 5, 1, 0] rfl) hok (((if_neg c_8).trans ((if_neg c_18).trans ((if_neg c_42).trans ((if_neg c_52).trans ((if_neg c_81).trans (if_neg c_93)))))))
                ·
                  have hok := (hok).1 c_93
                  refine lv_iconst (v := 2) hx hb dX9_call_96 (by decide) ?_
                  refine lv_iload hx hb dX9_call_97 (lv_at hl 0 rfl) ?_
                  refine lv_imul hx hb dX9_call_99 ?_
                  refine lv_goto (tgt := 109) hx hb dX9_call_100 (by decide) ?_
                  exact K_109 (2 * (hsA (h_X9_begin x S) ((hsQ (h_X9_begin x S) x 1).getD 0) (hsA (h_X9_begin x S) ((hsQ (h_X9_begin x S) x 8).getD 0) p0.toNatClampNeg).toNatClampNeg)) _ _ hP hS ls (lv_sub hl [3, 5, 1, 0] rfl) hok (((if_neg c_8).trans ((if_neg c_18).trans ((if_neg c_42).trans ((if_neg c_52).trans ((if_neg c_81).trans (if_pos c_93)))))))
              ·
                have hok := (hok).1 c_81
                refine lv_iload hx hb dX9_call_84 (lv_at hl 0 rfl) ?_
                refine lv_goto (tgt := 109) hx hb dX9_call_86 (by decide) ?_
                exact K_109 (hsA (h_X9_begin x S) ((hsQ (h_X9_begin x S) x 1).getD 0) (hsA (h_X9_begin x S) ((hsQ (h_X9_begin x S) x 8).getD 0) p0.toNatClampNeg).toNatClampNeg) _ _ hP hS ls (lv_sub hl [3, 5, 1, 0] rfl) hok (((if_neg c_8).trans ((if_neg c_18).trans ((if_neg c_42).trans ((if_neg c_52).trans (if_pos c_81))))))
            ·
              have hok := (hok).1 c_52
              refine lv_aload_n hx hb dX9_call_55 rfl (lv_at hl 1 rfl) ?_
              refine lv_iconst (v := 1) hx hb dX9_call_56 (by decide) ?_
              obtain ⟨h_57k, hok⟩ := hok
              obtain ⟨h_57, hok⟩ := hok
              refine hm_callI (G := G) (a := ([.ref x, .int 1] : List Value).toArray) (pr := (h_X9_fails x 1 (h_X9_begin x S))) (rest := []) ?_ hS (fun H locs hP hS => ?_)
              ·
                exact va_runV (As := [.int 1]) (rest := []) ⟨hx, hb, hml, hown, hts⟩ (hm_X9_fails l G L (h_X9_begin x S) x 1 h_57) (cwV 1 hts gX9_call_X9_fails rfl rfl rfl hdv_X9_fails ⟨Nat.le_of_ble_eq_true rfl, Nat.le_of_ble_eq_true rfl⟩) ⟨HW.fb, hp_recv hK hP h_57k.1 (PF_7 h_57k.2) rfl, fun U hU hW => ⟨rfl, HW.call hP hK hnd hE hS U hU hW⟩⟩ rfl rfl hl.1 rfl (lv_room (Nat.le_of_ble_eq_true rfl)) dX9_call_57 ⟨Nat.le_refl 0, Nat.le_refl 0⟩
              ·
                rw [hZ]
                exact hm_iret hx hb hr hlocks hS hP hK hnd hE (((if_neg c_8).trans ((if_neg c_18).trans ((if_neg c_42).trans (if_pos c_52))))) dX9_call_60
          ·
            have hok := (hok).1 c_42
            refine lv_aload_n hx hb dX9_call_45 rfl (lv_at hl 1 rfl) ?_
            refine lv_iconst (v := 4) hx hb dX9_call_46 (by decide) ?_
            obtain ⟨h_47k, hok⟩ := hok
            obtain ⟨h_47, hok⟩ := hok
            refine hm_callI (G := G) (a := ([.ref x, .int 4] : List Value).toArray) (pr := (h_X9_fails x 4 (h_X9_begin x S))) (rest := []) ?_ hS (fun H locs hP hS => ?_)
            ·
              exact va_runV (As := [.int 4]) (rest := []) ⟨hx, hb, hml, hown, hts⟩ (hm_X9_fails l G L (h_X9_begin x S) x 4 h_47) (cwV 1 hts gX9_call_X9_fails rfl rfl rfl hdv_X9_fails ⟨Nat.le_of_ble_eq_true rfl, Nat.le_of_ble_eq_true rfl⟩) ⟨HW.fb, hp_recv hK hP h_47k.1 (PF_7 h_47k.2) rfl, fun U hU hW => ⟨rfl, HW.call hP hK hnd hE hS U hU hW⟩⟩ rfl rfl hl.1 rfl (lv_room (Nat.le_of_ble_eq_true rfl)) dX9_call_47 ⟨Nat.le_refl 0, Nat.le_refl 0⟩
            ·
              rw [hZ]
              exact hm_iret hx hb hr hlocks hS hP hK hnd hE (((if_neg c_8).trans ((if_neg c_18).trans (if_pos c_42)))) dX9_call_50
      ·
        have hok := (hok).1 c_18
        refine lv_aload_n hx hb dX9_call_21 rfl (lv_at hl 0 rfl) ?_
        refine lv_bipush (v := 8) hx hb dX9_call_22 (by decide) ?_
        obtain ⟨h_24k, hok⟩ := hok
        obtain ⟨h_24, hok⟩ := hok
        refine hm_callI (G := G) (a := ([.ref x, .int 8] : List Value).toArray) (pr := (h_X9_fails x 8 (h_X9_begin x S))) (rest := []) ?_ hS (fun H locs hP hS => ?_)
        ·
          exact va_runV (As := [.int 8]) (rest := []) ⟨hx, hb, hml, hown, hts⟩ (hm_X9_fails l G L (h_X9_begin x S) x 8 h_24) (cwV 1 hts gX9_call_X9_fails rfl rfl rfl hdv_X9_fails ⟨Nat.le_of_ble_eq_true rfl, Nat.le_of_ble_eq_true rfl⟩) ⟨HW.fb, hp_recv hK hP h_24k.1 (PF_7 h_24k.2) rfl, fun U hU hW => ⟨rfl, HW.call hP hK hnd hE hS U hU hW⟩⟩ rfl rfl hl.1 rfl (lv_room (Nat.le_of_ble_eq_true rfl)) dX9_call_24 ⟨Nat.le_refl 0, Nat.le_refl 0⟩
        ·
          rw [hZ]
          exact hm_iret hx hb hr hlocks hS hP hK hnd hE (((if_neg c_8).trans (if_pos c_18))) dX9_call_27
theorem hdv_X9_divide : yX9_divide.cls = RX9 ∧ yX9_divide.cls ≠ "java/lang/invoke/MethodHandle" ∧ yX9_divide.cls ≠ "java/lang/invoke/VarHandle" ∧ (parseMethodDescriptor yX9_divide.desc).map (fun d => d.parameters.length) = some 3 := by decide +kernel
def h_X9_divide_j58 (x : Nat) (p0 : Int32) (p1 : Int64) (p2 : Int64) (S : HS) : Int64 × HS :=
  if p0 = 0 then ((p1.toInt32 / p2.toInt32).toInt64, h_X9_begin x S)
  else if p0 = 1 then ((p1.toInt32 - p1.toInt32 / p2.toInt32 * p2.toInt32).toInt64, h_X9_begin x S)
   else if p0 = 2 then (p1 / p2, h_X9_begin x S)
    else (p1 - p1 / p2 * p2, h_X9_begin x S)
def ok_X9_divide_j58 (L : List Nat) (x : Nat) (p0 : Int32) (p1 : Int64) (p2 : Int64) (S : HS) : Prop :=
  ((p0 = 0) → ((¬ p2.toInt32 = 0) ∧ (True))) ∧
  (¬ (p0 = 0) → (((p0 = 1) → ((¬ p2.toInt32 = 0) ∧ (True))) ∧
   (¬ (p0 = 1) → (((p0 = 2) → ((¬ p2 = 0) ∧ (True))) ∧
    (¬ (p0 = 2) → ((¬ p2 = 0) ∧ (True)))))))
def h_X9_divide_j50 (x : Nat) (p0 : Int32) (p1 : Int64) (p2 : Int64) (S : HS) : Int64 × HS :=
  (((h_X9_fails x 6 (h_X9_begin x S)).1).toInt64, (h_X9_fails x 6 (h_X9_begin x S)).2)
def ok_X9_divide_j50 (L : List Nat) (x : Nat) (p0 : Int32) (p1 : Int64) (p2 : Int64) (S : HS) : Prop :=
  (x ∈ L ∧ hsK (h_X9_begin x S) x = 7) ∧ ((ok_X9_fails L x 6 (h_X9_begin x S)) ∧ (True))
def h_X9_divide (x : Nat) (p0 : Int32) (p1 : Int64) (p2 : Int64) (S : HS) : Int64 × HS :=
  if (s_X9_in p0 0 3) = 0 then (((h_X9_fails x 8 (h_X9_begin x S)).1).toInt64, (h_X9_fails x 8 (h_X9_begin x S)).2)
  else if 2 ≤ p0 then if p2 = 0 then h_X9_divide_j50 x p0 p1 p2 S
    else h_X9_divide_j58 x p0 p1 p2 S
   else if p2.toInt32 = 0 then h_X9_divide_j50 x p0 p1 p2 S
    else h_X9_divide_j58 x p0 p1 p2 S
def ok_X9_divide (L : List Nat) (x : Nat) (p0 : Int32) (p1 : Int64) (p2 : Int64) (S : HS) : Prop :=
  (x ∈ L ∧ hsK S x = 7) ∧ ((ok_X9_begin L x S) ∧ ((((s_X9_in p0 0 3) = 0) → ((x ∈ L ∧ hsK (h_X9_begin x S) x = 7) ∧ ((ok_X9_fails L x 8 (h_X9_begin x S)) ∧ (True)))) ∧
  (¬ ((s_X9_in p0 0 3) = 0) → (((2 ≤ p0) → (((p2 = 0) → (ok_X9_divide_j50 L x p0 p1 p2 S)) ∧
    (¬ (p2 = 0) → (ok_X9_divide_j58 L x p0 p1 p2 S)))) ∧
   (¬ (2 ≤ p0) → (((p2.toInt32 = 0) → (ok_X9_divide_j50 L x p0 p1 p2 S)) ∧
    (¬ (p2.toInt32 = 0) → (ok_X9_divide_j58 L x p0 p1 p2 S))))))))
set_option maxHeartbeats 4000000 in
set_option maxRecDepth 100000 in
theorem hm_X9_divide (l : Launch) (G : GE) (L : List Nat) (S : HS) (x : Nat) (p0 : Int32) (p1 : Int64) (p2 : Int64) (hok : ok_X9_divide L x p0 p1 p2 S) : HmL l G yX9_divide wsX9_divide 1 22 [.ref x, .int p0, .long p1, .long p2] L S (h_X9_divide x p0 p1 p2 S) := by
  refine Met.ofW (cc := cX9_divide) (maxL := 8) (ret := (some .long)) (by decide) rfl ?_
  intro p e s m args below meth c s₁ B hml hv
  obtain ⟨rfl, hP, hK, hnd, hE⟩ := hv
  have hx := B.exec
  have hb := B.bytes
  have hr := B.returns
  have hts := atoms_spec (ws := wsX9_divide) B.pre
  have hown : s.vm.findClass RX9 = some m.cls := findClass_of_methodNamed B.named
  have hlocks := B.notSynchronized
  have hD := nd_D hnd
  have hS : va_S (AL L) s.heap s.heap [] := va_S.rf
  have hl := lv_entry ([.ref x, .int p0, .long p1, .long p2]) (n := 8) (Nat.le_of_ble_eq_true rfl)
  rw [lg_entry_eq]
  generalize (lg_sl ([.ref x, .int p0, .long p1, .long p2]) ++ List.replicate (8 - (lg_sl ([.ref x, .int p0, .long p1, .long p2])).length) Slot.unset).toArray = ls at hl ⊢
  have hl : lv_has ls 8 [(0, .ref x), (1, .int p0), (2, .long p1), (4, .long p2)] := hl
  obtain ⟨Z, hZ⟩ : ∃ z, z = MQ below (hm_QL G L (h_X9_divide x p0 p1 p2 S)) ([.ref x, .int p0, .long p1, .long p2] : List Value).toArray s 0 0 (AL L) := ⟨_, rfl⟩
  rw [← hZ]
  refine lv_aload_n hx hb dX9_divide_0 rfl (lv_at hl 0 rfl) ?_
  obtain ⟨h_1k, hok⟩ := hok
  obtain ⟨h_1, hok⟩ := hok
  refine hm_callV (G := G) (a := ([.ref x] : List Value).toArray) (pr := (h_X9_begin x S)) (rest := []) ?_ hS (fun H locs hP hS => ?_)
  ·
    exact va_runV (As := []) (rest := []) ⟨hx, hb, hml, hown, hts⟩ (hm_X9_begin l G L S x h_1) (cwV 0 hts gX9_divide_X9_begin rfl rfl rfl hdv_X9_begin ⟨Nat.le_of_ble_eq_true rfl, Nat.le_of_ble_eq_true rfl⟩) ⟨HW.fb, hp_recv hK hP h_1k.1 (PF_7 h_1k.2) rfl, fun U hU hW => ⟨rfl, HW.call hP hK hnd hE hS U hU hW⟩⟩ rfl rfl hl.1 rfl (lv_room (Nat.le_of_ble_eq_true rfl)) dX9_divide_1 ⟨Nat.le_refl 0, Nat.le_refl 0⟩
  ·
    refine lv_iload_n hx hb dX9_divide_4 rfl (lv_at hl 1 rfl) ?_
    refine lv_iconst (v := 0) hx hb dX9_divide_5 (by decide) ?_
    refine lv_iconst (v := 3) hx hb dX9_divide_6 (by decide) ?_
    refine pm_callI (va_runS (As := [.int p0, .int 0, .int 3]) (rest := []) ⟨hx, hb, hml, hown, hts⟩ (pm_X9_in l p0 0 3) (va_cwS 3 hts gX9_divide_X9_in rfl rfl rfl hd_X9_in ⟨Nat.le_of_ble_eq_true rfl, Nat.le_of_ble_eq_true rfl⟩) ⟨pm_fbT, fun U hU hW => ⟨rfl, trivial⟩⟩ rfl rfl hl.1 rfl (lv_room (Nat.le_of_ble_eq_true rfl)) dX9_divide_7 ⟨Nat.le_refl 0, Nat.le_refl 0⟩) hS (fun H locs _ hk9 hS => ?_)
    replace hP := P_keep hP hk9
    refine lv_if_ne (tgt := 21) hx hb dX9_divide_10 (by decide) (fun c_10 => ?_) (fun c_10 => ?_)
    ·
      have hok := (hok).2 c_10
      refine lv_lload_n hx hb dX9_divide_21 rfl (lv_at hl 2 rfl) ?_
      refine lv_l2i (v := p1.toInt32) hx hb dX9_divide_22 rfl ?_
      refine lv_istore (lv' := [(6, .int p1.toInt32), (0, .ref x), (1, .int p0), (2, .long p1), (4, .long p2)]) hx hb dX9_divide_23 hl (by decide) rfl (fun ls hl => ?_)
      refine lv_lload hx hb dX9_divide_25 (lv_at hl 4 rfl) ?_
      refine lv_l2i (v := p2.toInt32) hx hb dX9_divide_27 rfl ?_
      refine lv_istore (lv' := [(7, .int p2.toInt32), (6, .int p1.toInt32), (0, .ref x), (1, .int p0), (2, .long p1), (4, .long p2)]) hx hb dX9_divide_28 hl (by decide) rfl (fun ls hl => ?_)
      refine lv_iload_n hx hb dX9_divide_30 rfl (lv_at hl 3 rfl) ?_
      refine lv_iconst (v := 2) hx hb dX9_divide_31 (by decide) ?_
      have K_58 : ∀ (H : Heap) (locs : List Loc), va_P (gD G) vwCl (va_pl L (PF G (h_X9_begin x S))) H → va_S (AL L) s.heap H locs → ∀ (ls : Array Slot), lv_has ls 8 [(1, .int p0), (2, .long p1), (4, .long p2), (6, .int p1.toInt32), (7, .int p2.toInt32)] → ok_X9_divide_j58 L x p0 p1 p2 S → h_X9_divide x p0 p1 p2 S = h_X9_divide_j58 x p0 p1 p2 S → W p l e (pm_R 1 22) s m ([.ref x, .int p0, .long p1, .long p2] : List Value).toArray below meth c H locs 0 0 Z (F0 m 58 ls []) := by
        intro H locs hP hS ls hl hok hK_58
        refine lv_iload_n hx hb dX9_divide_58 rfl (lv_at hl 0 rfl) ?_
        refine lv_if_ne (tgt := 71) hx hb dX9_divide_59 (by decide) (fun c_59 => ?_) (fun c_59 => ?_)
        ·
          have hok := (hok).2 c_59
          refine lv_iload_n hx hb dX9_divide_71 rfl (lv_at hl 0 rfl) ?_
          refine lv_iconst (v := 1) hx hb dX9_divide_72 (by decide) ?_
          refine lv_icmp_ne (tgt := 85) hx hb dX9_divide_73 (by decide) (fun c_73 => ?_) (fun c_73 => ?_)
          ·
            have hok := (hok).2 c_73
            refine lv_iload_n hx hb dX9_divide_85 rfl (lv_at hl 0 rfl) ?_
            refine lv_iconst (v := 2) hx hb dX9_divide_86 (by decide) ?_
            refine lv_icmp_ne (tgt := 97) hx hb dX9_divide_87 (by decide) (fun c_87 => ?_) (fun c_87 => ?_)
            ·
              have hok := (hok).2 c_87
              refine lv_lload_n hx hb dX9_divide_97 rfl (lv_at hl 1 rfl) ?_
              refine lv_lload hx hb dX9_divide_98 (lv_at hl 2 rfl) ?_
              obtain ⟨h_100, hok⟩ := hok
              refine lv_lrem hx hb dX9_divide_100 (h_100) ?_
              rw [hZ]
              exact hm_lret hx hb hr hlocks hS hP hK hnd hE (((hK_58).trans ((if_neg c_59).trans ((if_neg c_73).trans (if_neg c_87))))) dX9_divide_101
            ·
              have hok := (hok).1 c_87
              refine lv_lload_n hx hb dX9_divide_90 rfl (lv_at hl 1 rfl) ?_
              refine lv_lload hx hb dX9_divide_91 (lv_at hl 2 rfl) ?_
              obtain ⟨h_93, hok⟩ := hok
              refine lv_ldiv hx hb dX9_divide_93 (h_93) ?_
              refine lv_goto (tgt := 101) hx hb dX9_divide_94 (by decide) ?_
              rw [hZ]
              exact hm_lret hx hb hr hlocks hS hP hK hnd hE (((hK_58).trans ((if_neg c_59).trans ((if_neg c_73).trans (if_pos c_87))))) dX9_divide_101
          ·
            have hok := (hok).1 c_73
            refine lv_iload hx hb dX9_divide_76 (lv_at hl 3 rfl) ?_
            refine lv_iload hx hb dX9_divide_78 (lv_at hl 4 rfl) ?_
            obtain ⟨h_80, hok⟩ := hok
            refine lv_irem hx hb dX9_divide_80 (h_80) ?_
            refine lv_i2l (v := (p1.toInt32 - p1.toInt32 / p2.toInt32 * p2.toInt32).toInt64) hx hb dX9_divide_81 rfl ?_
            refine lv_goto (tgt := 101) hx hb dX9_divide_82 (by decide) ?_
            rw [hZ]
            exact hm_lret hx hb hr hlocks hS hP hK hnd hE (((hK_58).trans ((if_neg c_59).trans (if_pos c_73)))) dX9_divide_101
        ·
          have hok := (hok).1 c_59
          refine lv_iload hx hb dX9_divide_62 (lv_at hl 3 rfl) ?_
          refine lv_iload hx hb dX9_divide_64 (lv_at hl 4 rfl) ?_
          obtain ⟨h_66, hok⟩ := hok
          refine lv_idiv hx hb dX9_divide_66 (h_66) ?_
          refine lv_i2l (v := (p1.toInt32 / p2.toInt32).toInt64) hx hb dX9_divide_67 rfl ?_
          refine lv_goto (tgt := 101) hx hb dX9_divide_68 (by decide) ?_
          rw [hZ]
          exact hm_lret hx hb hr hlocks hS hP hK hnd hE (((hK_58).trans (if_pos c_59))) dX9_divide_101
      have K_50 : ∀ (H : Heap) (locs : List Loc), va_P (gD G) vwCl (va_pl L (PF G (h_X9_begin x S))) H → va_S (AL L) s.heap H locs → ∀ (ls : Array Slot), lv_has ls 8 [(0, .ref x)] → ok_X9_divide_j50 L x p0 p1 p2 S → h_X9_divide x p0 p1 p2 S = h_X9_divide_j50 x p0 p1 p2 S → W p l e (pm_R 1 22) s m ([.ref x, .int p0, .long p1, .long p2] : List Value).toArray below meth c H locs 0 0 Z (F0 m 50 ls []) := by
        intro H locs hP hS ls hl hok hK_50
        refine lv_aload_n hx hb dX9_divide_50 rfl (lv_at hl 0 rfl) ?_
        refine lv_bipush (v := 6) hx hb dX9_divide_51 (by decide) ?_
        obtain ⟨h_53k, hok⟩ := hok
        obtain ⟨h_53, hok⟩ := hok
        refine hm_callI (G := G) (a := ([.ref x, .int 6] : List Value).toArray) (pr := (h_X9_fails x 6 (h_X9_begin x S))) (rest := []) ?_ hS (fun H locs hP hS => ?_)
        ·
          exact va_runV (As := [.int 6]) (rest := []) ⟨hx, hb, hml, hown, hts⟩ (hm_X9_fails l G L (h_X9_begin x S) x 6 h_53) (cwV 1 hts gX9_divide_X9_fails rfl rfl rfl hdv_X9_fails ⟨Nat.le_of_ble_eq_true rfl, Nat.le_of_ble_eq_true rfl⟩) ⟨HW.fb, hp_recv hK hP h_53k.1 (PF_7 h_53k.2) rfl, fun U hU hW => ⟨rfl, HW.call hP hK hnd hE hS U hU hW⟩⟩ rfl rfl hl.1 rfl (lv_room (Nat.le_of_ble_eq_true rfl)) dX9_divide_53 ⟨Nat.le_refl 0, Nat.le_refl 0⟩
        ·
          refine lv_i2l (v := ((h_X9_fails x 6 (h_X9_begin x S)).1).toInt64) hx hb dX9_divide_56 rfl ?_
          rw [hZ]
          exact hm_lret hx hb hr hlocks hS hP hK hnd hE ((hK_50)) dX9_divide_57
      refine lv_icmp_ge (tgt := 43) hx hb dX9_divide_32 (by decide) (fun c_32 => ?_) (fun c_32 => ?_)
      ·
        have hok := (hok).1 c_32
        refine lv_lload hx hb dX9_divide_43 (lv_at hl 5 rfl) ?_
        refine lv_lconst (v := 0) hx hb dX9_divide_45 (by decide) ?_
        refine lp_ne (tgt := 58) hx hb dX9_divide_46 dX9_divide_47 (by decide) (fun c_46 => ?_) (fun c_46 => ?_)
        ·
          have hok := (hok).2 c_46
          exact K_58 _ _ hP hS ls (lv_sub hl [3, 4, 5, 1, 0] rfl) hok (((if_neg c_10).trans ((if_pos c_32).trans (if_neg c_46))))
        ·
          have hok := (hok).1 c_46
          exact K_50 _ _ hP hS ls (lv_sub hl [2] rfl) hok (((if_neg c_10).trans ((if_pos c_32).trans (if_pos c_46))))
      ·
        have hok := (hok).2 c_32
        refine lv_iload hx hb dX9_divide_35 (lv_at hl 0 rfl) ?_
        refine lv_if_ne (tgt := 58) hx hb dX9_divide_37 (by decide) (fun c_37 => ?_) (fun c_37 => ?_)
        ·
          have hok := (hok).2 c_37
          exact K_58 _ _ hP hS ls (lv_sub hl [3, 4, 5, 1, 0] rfl) hok (((if_neg c_10).trans ((if_neg c_32).trans (if_neg c_37))))
        ·
          have hok := (hok).1 c_37
          refine lv_goto (tgt := 50) hx hb dX9_divide_40 (by decide) ?_
          exact K_50 _ _ hP hS ls (lv_sub hl [2] rfl) hok (((if_neg c_10).trans ((if_neg c_32).trans (if_pos c_37))))
    ·
      have hok := (hok).1 c_10
      refine lv_aload_n hx hb dX9_divide_13 rfl (lv_at hl 0 rfl) ?_
      refine lv_bipush (v := 8) hx hb dX9_divide_14 (by decide) ?_
      obtain ⟨h_16k, hok⟩ := hok
      obtain ⟨h_16, hok⟩ := hok
      refine hm_callI (G := G) (a := ([.ref x, .int 8] : List Value).toArray) (pr := (h_X9_fails x 8 (h_X9_begin x S))) (rest := []) ?_ hS (fun H locs hP hS => ?_)
      ·
        exact va_runV (As := [.int 8]) (rest := []) ⟨hx, hb, hml, hown, hts⟩ (hm_X9_fails l G L (h_X9_begin x S) x 8 h_16) (cwV 1 hts gX9_divide_X9_fails rfl rfl rfl hdv_X9_fails ⟨Nat.le_of_ble_eq_true rfl, Nat.le_of_ble_eq_true rfl⟩) ⟨HW.fb, hp_recv hK hP h_16k.1 (PF_7 h_16k.2) rfl, fun U hU hW => ⟨rfl, HW.call hP hK hnd hE hS U hU hW⟩⟩ rfl rfl hl.1 rfl (lv_room (Nat.le_of_ble_eq_true rfl)) dX9_divide_16 ⟨Nat.le_refl 0, Nat.le_refl 0⟩
      ·
        refine lv_i2l (v := ((h_X9_fails x 8 (h_X9_begin x S)).1).toInt64) hx hb dX9_divide_19 rfl ?_
        rw [hZ]
        exact hm_lret hx hb hr hlocks hS hP hK hnd hE ((if_pos c_10)) dX9_divide_20
theorem hdv_X9_real : yX9_real.cls = RX9 ∧ yX9_real.cls ≠ "java/lang/invoke/MethodHandle" ∧ yX9_real.cls ≠ "java/lang/invoke/VarHandle" ∧ (parseMethodDescriptor yX9_real.desc).map (fun d => d.parameters.length) = some 3 := by decide +kernel
def h_X9_real (x : Nat) (p0 : Int32) (p1 : Int64) (p2 : Int64) (S : HS) : Int64 × HS :=
  if (s_X9_in p0 0 7) = 0 then (((h_X9_fails x 8 (h_X9_begin x S)).1).toInt64, (h_X9_fails x 8 (h_X9_begin x S)).2)
  else if p0 = 0 then (s_X9_doubleBits (s_X9_sumOf (s_X9_realBits p1) (s_X9_realBits p2)), h_X9_begin x S)
   else if p0 = 1 then (s_X9_doubleBits (s_X9_lessOf (s_X9_realBits p1) (s_X9_realBits p2)), h_X9_begin x S)
    else if p0 = 2 then (s_X9_doubleBits (s_X9_timesOf (s_X9_realBits p1) (s_X9_realBits p2)), h_X9_begin x S)
     else if p0 = 3 then (s_X9_doubleBits (s_X9_overOf (s_X9_realBits p1) (s_X9_realBits p2)), h_X9_begin x S)
      else if p0 = 4 then if dEq (s_X9_realBits p1) (s_X9_realBits p1) then if dEq (s_X9_realBits p2) (s_X9_realBits p2) then if dEq (s_X9_realBits p2) FP.dconst0 then (s_X9_doubleBits (9221120237041090560), h_X9_begin x S)
          else if (s_X9_isEndless (s_X9_realBits p1)) = 0 then (s_X9_doubleBits (FP.drem (s_X9_realBits p1) (s_X9_realBits p2)), h_X9_begin x S)
           else (s_X9_doubleBits (9221120237041090560), h_X9_begin x S)
         else (s_X9_doubleBits (9221120237041090560), h_X9_begin x S)
        else (s_X9_doubleBits (9221120237041090560), h_X9_begin x S)
       else if p0 = 5 then if dEq (s_X9_realBits p1) (s_X9_realBits p1) then if dEq (s_X9_realBits p2) (s_X9_realBits p2) then if dGt (s_X9_realBits p1) (s_X9_realBits p2) then (p1, h_X9_begin x S)
           else if dEq (s_X9_realBits p1) (s_X9_realBits p2) then if p1 < 0 then (p2, h_X9_begin x S)
             else (p1, h_X9_begin x S)
            else (p2, h_X9_begin x S)
          else ((9221120237041090560), h_X9_begin x S)
         else ((9221120237041090560), h_X9_begin x S)
        else if p0 = 6 then if dEq (s_X9_realBits p1) (s_X9_realBits p1) then if dEq (s_X9_realBits p2) (s_X9_realBits p2) then if dLt (s_X9_realBits p1) (s_X9_realBits p2) then (p1, h_X9_begin x S)
            else if dEq (s_X9_realBits p1) (s_X9_realBits p2) then if 0 ≤ p1 then (p2, h_X9_begin x S)
              else (p1, h_X9_begin x S)
             else (p2, h_X9_begin x S)
           else ((9221120237041090560), h_X9_begin x S)
          else ((9221120237041090560), h_X9_begin x S)
         else if dEq (s_X9_realBits p1) (s_X9_realBits p1) then if dEq (s_X9_realBits p2) (s_X9_realBits p2) then ((p1 &&& (9223372036854775807)) ||| (p2 &&& (-9223372036854775808)), h_X9_begin x S)
           else ((p1 &&& (9223372036854775807)) ||| 0, h_X9_begin x S)
          else (s_X9_doubleBits (s_X9_realBits p1), h_X9_begin x S)
def ok_X9_real (L : List Nat) (x : Nat) (p0 : Int32) (p1 : Int64) (p2 : Int64) (S : HS) : Prop :=
  (x ∈ L ∧ hsK S x = 7) ∧ ((ok_X9_begin L x S) ∧ ((((s_X9_in p0 0 7) = 0) → ((x ∈ L ∧ hsK (h_X9_begin x S) x = 7) ∧ ((ok_X9_fails L x 8 (h_X9_begin x S)) ∧ (True)))) ∧
  (¬ ((s_X9_in p0 0 7) = 0) → (((p0 = 0) → (True)) ∧
   (¬ (p0 = 0) → (((p0 = 1) → (True)) ∧
    (¬ (p0 = 1) → (((p0 = 2) → (True)) ∧
     (¬ (p0 = 2) → (((p0 = 3) → (True)) ∧
      (¬ (p0 = 3) → (((p0 = 4) → (((dEq (s_X9_realBits p1) (s_X9_realBits p1)) → (((dEq (s_X9_realBits p2) (s_X9_realBits p2)) → (((dEq (s_X9_realBits p2) FP.dconst0) → (True)) ∧
          (¬ (dEq (s_X9_realBits p2) FP.dconst0) → ((((s_X9_isEndless (s_X9_realBits p1)) = 0) → (True)) ∧
           (¬ ((s_X9_isEndless (s_X9_realBits p1)) = 0) → (True)))))) ∧
         (¬ (dEq (s_X9_realBits p2) (s_X9_realBits p2)) → (True)))) ∧
        (¬ (dEq (s_X9_realBits p1) (s_X9_realBits p1)) → (True)))) ∧
       (¬ (p0 = 4) → (((p0 = 5) → (((dEq (s_X9_realBits p1) (s_X9_realBits p1)) → (((dEq (s_X9_realBits p2) (s_X9_realBits p2)) → (((dGt (s_X9_realBits p1) (s_X9_realBits p2)) → (True)) ∧
           (¬ (dGt (s_X9_realBits p1) (s_X9_realBits p2)) → (((dEq (s_X9_realBits p1) (s_X9_realBits p2)) → (((p1 < 0) → (True)) ∧
             (¬ (p1 < 0) → (True)))) ∧
            (¬ (dEq (s_X9_realBits p1) (s_X9_realBits p2)) → (True)))))) ∧
          (¬ (dEq (s_X9_realBits p2) (s_X9_realBits p2)) → (True)))) ∧
         (¬ (dEq (s_X9_realBits p1) (s_X9_realBits p1)) → (True)))) ∧
        (¬ (p0 = 5) → (((p0 = 6) → (((dEq (s_X9_realBits p1) (s_X9_realBits p1)) → (((dEq (s_X9_realBits p2) (s_X9_realBits p2)) → (((dLt (s_X9_realBits p1) (s_X9_realBits p2)) → (True)) ∧
            (¬ (dLt (s_X9_realBits p1) (s_X9_realBits p2)) → (((dEq (s_X9_realBits p1) (s_X9_realBits p2)) → (((0 ≤ p1) → (True)) ∧
              (¬ (0 ≤ p1) → (True)))) ∧
             (¬ (dEq (s_X9_realBits p1) (s_X9_realBits p2)) → (True)))))) ∧
           (¬ (dEq (s_X9_realBits p2) (s_X9_realBits p2)) → (True)))) ∧
          (¬ (dEq (s_X9_realBits p1) (s_X9_realBits p1)) → (True)))) ∧
         (¬ (p0 = 6) → (((dEq (s_X9_realBits p1) (s_X9_realBits p1)) → (((dEq (s_X9_realBits p2) (s_X9_realBits p2)) → (True)) ∧
           (¬ (dEq (s_X9_realBits p2) (s_X9_realBits p2)) → (True)))) ∧
          (¬ (dEq (s_X9_realBits p1) (s_X9_realBits p1)) → (True))))))))))))))))))))
set_option maxHeartbeats 4000000 in
set_option maxRecDepth 100000 in
theorem hm_X9_real (l : Launch) (G : GE) (L : List Nat) (S : HS) (x : Nat) (p0 : Int32) (p1 : Int64) (p2 : Int64) (hok : ok_X9_real L x p0 p1 p2 S) : HmL l G yX9_real wsX9_real 3 63 [.ref x, .int p0, .long p1, .long p2] L S (h_X9_real x p0 p1 p2 S) := by
  refine Met.ofW (cc := cX9_real) (maxL := 10) (ret := (some .long)) (by decide) rfl ?_
  intro p e s m args below meth c s₁ B hml hv
  obtain ⟨rfl, hP, hK, hnd, hE⟩ := hv
  have hx := B.exec
  have hb := B.bytes
  have hr := B.returns
  have hts := atoms_spec (ws := wsX9_real) B.pre
  have hown : s.vm.findClass RX9 = some m.cls := findClass_of_methodNamed B.named
  have hlocks := B.notSynchronized
  have hD := nd_D hnd
  have hS : va_S (AL L) s.heap s.heap [] := va_S.rf
  have hl := lv_entry ([.ref x, .int p0, .long p1, .long p2]) (n := 10) (Nat.le_of_ble_eq_true rfl)
  rw [lg_entry_eq]
  generalize (lg_sl ([.ref x, .int p0, .long p1, .long p2]) ++ List.replicate (10 - (lg_sl ([.ref x, .int p0, .long p1, .long p2])).length) Slot.unset).toArray = ls at hl ⊢
  have hl : lv_has ls 10 [(0, .ref x), (1, .int p0), (2, .long p1), (4, .long p2)] := hl
  obtain ⟨Z, hZ⟩ : ∃ z, z = MQ below (hm_QL G L (h_X9_real x p0 p1 p2 S)) ([.ref x, .int p0, .long p1, .long p2] : List Value).toArray s 0 0 (AL L) := ⟨_, rfl⟩
  rw [← hZ]
  refine lv_aload_n hx hb dX9_real_0 rfl (lv_at hl 0 rfl) ?_
  obtain ⟨h_1k, hok⟩ := hok
  obtain ⟨h_1, hok⟩ := hok
  refine hm_callV (G := G) (a := ([.ref x] : List Value).toArray) (pr := (h_X9_begin x S)) (rest := []) ?_ hS (fun H locs hP hS => ?_)
  ·
    exact va_runV (As := []) (rest := []) ⟨hx, hb, hml, hown, hts⟩ (hm_X9_begin l G L S x h_1) (cwV 0 hts gX9_real_X9_begin rfl rfl rfl hdv_X9_begin ⟨Nat.le_of_ble_eq_true rfl, Nat.le_of_ble_eq_true rfl⟩) ⟨HW.fb, hp_recv hK hP h_1k.1 (PF_7 h_1k.2) rfl, fun U hU hW => ⟨rfl, HW.call hP hK hnd hE hS U hU hW⟩⟩ rfl rfl hl.1 rfl (lv_room (Nat.le_of_ble_eq_true rfl)) dX9_real_1 ⟨Nat.le_refl 0, Nat.le_refl 0⟩
  ·
    refine lv_iload_n hx hb dX9_real_4 rfl (lv_at hl 1 rfl) ?_
    refine lv_iconst (v := 0) hx hb dX9_real_5 (by decide) ?_
    refine lv_bipush (v := 7) hx hb dX9_real_6 (by decide) ?_
    refine pm_callI (va_runS (As := [.int p0, .int 0, .int 7]) (rest := []) ⟨hx, hb, hml, hown, hts⟩ (pm_X9_in l p0 0 7) (va_cwS 3 hts gX9_real_X9_in rfl rfl rfl hd_X9_in ⟨Nat.le_of_ble_eq_true rfl, Nat.le_of_ble_eq_true rfl⟩) ⟨pm_fbT, fun U hU hW => ⟨rfl, trivial⟩⟩ rfl rfl hl.1 rfl (lv_room (Nat.le_of_ble_eq_true rfl)) dX9_real_8 ⟨Nat.le_refl 0, Nat.le_refl 0⟩) hS (fun H locs _ hk9 hS => ?_)
    replace hP := P_keep hP hk9
    refine lv_if_ne (tgt := 22) hx hb dX9_real_11 (by decide) (fun c_11 => ?_) (fun c_11 => ?_)
    ·
      have hok := (hok).2 c_11
      refine lv_lload_n hx hb dX9_real_22 rfl (lv_at hl 2 rfl) ?_
      refine pm_callD (va_runS (As := [.long p1]) (rest := []) ⟨hx, hb, hml, hown, hts⟩ (pm_X9_realBits l p1) (va_cwS 1 hts gX9_real_X9_realBits rfl rfl rfl hd_X9_realBits ⟨Nat.le_of_ble_eq_true rfl, Nat.le_of_ble_eq_true rfl⟩) ⟨pm_fbT, fun U hU hW => ⟨rfl, trivial⟩⟩ rfl rfl hl.1 rfl (lv_room (Nat.le_of_ble_eq_true rfl)) dX9_real_23 ⟨Nat.le_refl 0, Nat.le_refl 0⟩) hS (fun H locs _ hk9 hS => ?_)
      replace hP := P_keep hP hk9
      refine lv_dstore (lv' := [(6, .double (s_X9_realBits p1)), (0, .ref x), (1, .int p0), (2, .long p1), (4, .long p2)]) hx hb dX9_real_26 hl (by decide) rfl (fun ls hl => ?_)
      refine lv_lload hx hb dX9_real_28 (lv_at hl 4 rfl) ?_
      refine pm_callD (va_runS (As := [.long p2]) (rest := []) ⟨hx, hb, hml, hown, hts⟩ (pm_X9_realBits l p2) (va_cwS 1 hts gX9_real_X9_realBits rfl rfl rfl hd_X9_realBits ⟨Nat.le_of_ble_eq_true rfl, Nat.le_of_ble_eq_true rfl⟩) ⟨pm_fbT, fun U hU hW => ⟨rfl, trivial⟩⟩ rfl rfl hl.1 rfl (lv_room (Nat.le_of_ble_eq_true rfl)) dX9_real_30 ⟨Nat.le_refl 0, Nat.le_refl 0⟩) hS (fun H locs _ hk9 hS => ?_)
      replace hP := P_keep hP hk9
      refine lv_dstore (lv' := [(8, .double (s_X9_realBits p2)), (6, .double (s_X9_realBits p1)), (0, .ref x), (1, .int p0), (2, .long p1), (4, .long p2)]) hx hb dX9_real_33 hl (by decide) rfl (fun ls hl => ?_)
      refine lv_iload_n hx hb dX9_real_35 rfl (lv_at hl 3 rfl) ?_
      by_cases c_36_0 : p0 = 0
      ·
        have hok := (hok).1 c_36_0
        refine lv_tableIn (off := 44) (tgt := 80) hx hb dX9_real_36 (by rw [c_36_0]; decide) (by rw [c_36_0]; decide) (by rw [c_36_0]; decide) (by decide) ?_
        refine lv_dload hx hb dX9_real_80 (lv_at hl 1 rfl) ?_
        refine lv_dload hx hb dX9_real_82 (lv_at hl 0 rfl) ?_
        refine pm_callD (va_runS (As := [.double (s_X9_realBits p1), .double (s_X9_realBits p2)]) (rest := []) ⟨hx, hb, hml, hown, hts⟩ (pm_X9_sumOf l (s_X9_realBits p1) (s_X9_realBits p2)) (va_cwS 2 hts gX9_real_X9_sumOf rfl rfl rfl hd_X9_sumOf ⟨Nat.le_of_ble_eq_true rfl, Nat.le_of_ble_eq_true rfl⟩) ⟨pm_fbT, fun U hU hW => ⟨rfl, trivial⟩⟩ rfl rfl hl.1 rfl (lv_room (Nat.le_of_ble_eq_true rfl)) dX9_real_84 ⟨Nat.le_refl 0, Nat.le_refl 0⟩) hS (fun H locs _ hk9 hS => ?_)
        replace hP := P_keep hP hk9
        refine pm_callL (va_runS (As := [.double (s_X9_sumOf (s_X9_realBits p1) (s_X9_realBits p2))]) (rest := []) ⟨hx, hb, hml, hown, hts⟩ (pm_X9_doubleBits l (s_X9_sumOf (s_X9_realBits p1) (s_X9_realBits p2))) (va_cwS 1 hts gX9_real_X9_doubleBits rfl rfl rfl hd_X9_doubleBits ⟨Nat.le_of_ble_eq_true rfl, Nat.le_of_ble_eq_true rfl⟩) ⟨pm_fbT, fun U hU hW => ⟨rfl, trivial⟩⟩ rfl rfl hl.1 rfl (lv_room (Nat.le_of_ble_eq_true rfl)) dX9_real_87 ⟨Nat.le_refl 0, Nat.le_refl 0⟩) hS (fun H locs _ hk9 hS => ?_)
        replace hP := P_keep hP hk9
        rw [hZ]
        exact hm_lret hx hb hr hlocks hS hP hK hnd hE (((if_neg c_11).trans (if_pos c_36_0))) dX9_real_90
      ·
        have hok := (hok).2 c_36_0
        by_cases c_36_1 : p0 = 1
        ·
          have hok := (hok).1 c_36_1
          refine lv_tableIn (off := 55) (tgt := 91) hx hb dX9_real_36 (by rw [c_36_1]; decide) (by rw [c_36_1]; decide) (by rw [c_36_1]; decide) (by decide) ?_
          refine lv_dload hx hb dX9_real_91 (lv_at hl 1 rfl) ?_
          refine lv_dload hx hb dX9_real_93 (lv_at hl 0 rfl) ?_
          refine pm_callD (va_runS (As := [.double (s_X9_realBits p1), .double (s_X9_realBits p2)]) (rest := []) ⟨hx, hb, hml, hown, hts⟩ (pm_X9_lessOf l (s_X9_realBits p1) (s_X9_realBits p2)) (va_cwS 2 hts gX9_real_X9_lessOf rfl rfl rfl hd_X9_lessOf ⟨Nat.le_of_ble_eq_true rfl, Nat.le_of_ble_eq_true rfl⟩) ⟨pm_fbT, fun U hU hW => ⟨rfl, trivial⟩⟩ rfl rfl hl.1 rfl (lv_room (Nat.le_of_ble_eq_true rfl)) dX9_real_95 ⟨Nat.le_refl 0, Nat.le_refl 0⟩) hS (fun H locs _ hk9 hS => ?_)
          replace hP := P_keep hP hk9
          refine pm_callL (va_runS (As := [.double (s_X9_lessOf (s_X9_realBits p1) (s_X9_realBits p2))]) (rest := []) ⟨hx, hb, hml, hown, hts⟩ (pm_X9_doubleBits l (s_X9_lessOf (s_X9_realBits p1) (s_X9_realBits p2))) (va_cwS 1 hts gX9_real_X9_doubleBits rfl rfl rfl hd_X9_doubleBits ⟨Nat.le_of_ble_eq_true rfl, Nat.le_of_ble_eq_true rfl⟩) ⟨pm_fbT, fun U hU hW => ⟨rfl, trivial⟩⟩ rfl rfl hl.1 rfl (lv_room (Nat.le_of_ble_eq_true rfl)) dX9_real_98 ⟨Nat.le_refl 0, Nat.le_refl 0⟩) hS (fun H locs _ hk9 hS => ?_)
          replace hP := P_keep hP hk9
          rw [hZ]
          exact hm_lret hx hb hr hlocks hS hP hK hnd hE (((if_neg c_11).trans ((if_neg c_36_0).trans (if_pos c_36_1)))) dX9_real_101
        ·
          have hok := (hok).2 c_36_1
          by_cases c_36_2 : p0 = 2
          ·
            have hok := (hok).1 c_36_2
            refine lv_tableIn (off := 66) (tgt := 102) hx hb dX9_real_36 (by rw [c_36_2]; decide) (by rw [c_36_2]; decide) (by rw [c_36_2]; decide) (by decide) ?_
            refine lv_dload hx hb dX9_real_102 (lv_at hl 1 rfl) ?_
            refine lv_dload hx hb dX9_real_104 (lv_at hl 0 rfl) ?_
            refine pm_callD (va_runS (As := [.double (s_X9_realBits p1), .double (s_X9_realBits p2)]) (rest := []) ⟨hx, hb, hml, hown, hts⟩ (pm_X9_timesOf l (s_X9_realBits p1) (s_X9_realBits p2)) (va_cwS 2 hts gX9_real_X9_timesOf rfl rfl rfl hd_X9_timesOf ⟨Nat.le_of_ble_eq_true rfl, Nat.le_of_ble_eq_true rfl⟩) ⟨pm_fbT, fun U hU hW => ⟨rfl, trivial⟩⟩ rfl rfl hl.1 rfl (lv_room (Nat.le_of_ble_eq_true rfl)) dX9_real_106 ⟨Nat.le_refl 0, Nat.le_refl 0⟩) hS (fun H locs _ hk9 hS => ?_)
            replace hP := P_keep hP hk9
            refine pm_callL (va_runS (As := [.double (s_X9_timesOf (s_X9_realBits p1) (s_X9_realBits p2))]) (rest := []) ⟨hx, hb, hml, hown, hts⟩ (pm_X9_doubleBits l (s_X9_timesOf (s_X9_realBits p1) (s_X9_realBits p2))) (va_cwS 1 hts gX9_real_X9_doubleBits rfl rfl rfl hd_X9_doubleBits ⟨Nat.le_of_ble_eq_true rfl, Nat.le_of_ble_eq_true rfl⟩) ⟨pm_fbT, fun U hU hW => ⟨rfl, trivial⟩⟩ rfl rfl hl.1 rfl (lv_room (Nat.le_of_ble_eq_true rfl)) dX9_real_109 ⟨Nat.le_refl 0, Nat.le_refl 0⟩) hS (fun H locs _ hk9 hS => ?_)
            replace hP := P_keep hP hk9
            rw [hZ]
            exact hm_lret hx hb hr hlocks hS hP hK hnd hE (((if_neg c_11).trans ((if_neg c_36_0).trans ((if_neg c_36_1).trans (if_pos c_36_2))))) dX9_real_112
          ·
            have hok := (hok).2 c_36_2
            by_cases c_36_3 : p0 = 3
            ·
              have hok := (hok).1 c_36_3
              refine lv_tableIn (off := 77) (tgt := 113) hx hb dX9_real_36 (by rw [c_36_3]; decide) (by rw [c_36_3]; decide) (by rw [c_36_3]; decide) (by decide) ?_
              refine lv_dload hx hb dX9_real_113 (lv_at hl 1 rfl) ?_
              refine lv_dload hx hb dX9_real_115 (lv_at hl 0 rfl) ?_
              refine pm_callD (va_runS (As := [.double (s_X9_realBits p1), .double (s_X9_realBits p2)]) (rest := []) ⟨hx, hb, hml, hown, hts⟩ (pm_X9_overOf l (s_X9_realBits p1) (s_X9_realBits p2)) (va_cwS 2 hts gX9_real_X9_overOf rfl rfl rfl hd_X9_overOf ⟨Nat.le_of_ble_eq_true rfl, Nat.le_of_ble_eq_true rfl⟩) ⟨pm_fbT, fun U hU hW => ⟨rfl, trivial⟩⟩ rfl rfl hl.1 rfl (lv_room (Nat.le_of_ble_eq_true rfl)) dX9_real_117 ⟨Nat.le_refl 0, Nat.le_refl 0⟩) hS (fun H locs _ hk9 hS => ?_)
              replace hP := P_keep hP hk9
              refine pm_callL (va_runS (As := [.double (s_X9_overOf (s_X9_realBits p1) (s_X9_realBits p2))]) (rest := []) ⟨hx, hb, hml, hown, hts⟩ (pm_X9_doubleBits l (s_X9_overOf (s_X9_realBits p1) (s_X9_realBits p2))) (va_cwS 1 hts gX9_real_X9_doubleBits rfl rfl rfl hd_X9_doubleBits ⟨Nat.le_of_ble_eq_true rfl, Nat.le_of_ble_eq_true rfl⟩) ⟨pm_fbT, fun U hU hW => ⟨rfl, trivial⟩⟩ rfl rfl hl.1 rfl (lv_room (Nat.le_of_ble_eq_true rfl)) dX9_real_120 ⟨Nat.le_refl 0, Nat.le_refl 0⟩) hS (fun H locs _ hk9 hS => ?_)
              replace hP := P_keep hP hk9
              rw [hZ]
              exact hm_lret hx hb hr hlocks hS hP hK hnd hE (((if_neg c_11).trans ((if_neg c_36_0).trans ((if_neg c_36_1).trans ((if_neg c_36_2).trans (if_pos c_36_3)))))) dX9_real_123
            ·
              have hok := (hok).2 c_36_3
              by_cases c_36_4 : p0 = 4
              ·
                have hok := (hok).1 c_36_4
                refine lv_tableIn (off := 88) (tgt := 124) hx hb dX9_real_36 (by rw [c_36_4]; decide) (by rw [c_36_4]; decide) (by rw [c_36_4]; decide) (by decide) ?_
                refine lv_dload hx hb dX9_real_124 (lv_at hl 1 rfl) ?_
                refine lv_dload hx hb dX9_real_126 (lv_at hl 1 rfl) ?_
                refine lf_d_lne (tgt := 155) hx hb dX9_real_128 dX9_real_129 (by decide) (fun c_128 => ?_) (fun c_128 => ?_)
                ·
                  have hok := (hok).2 c_128
                  refine lv_ldc2d hx hb hown (hts _ (List.mem_of_getElem? (i := 1) rfl)) dX9_real_155 ?_
                  refine lv_goto (tgt := 166) hx hb dX9_real_158 (by decide) ?_
                  refine pm_callL (va_runS (As := [.double (9221120237041090560)]) (rest := []) ⟨hx, hb, hml, hown, hts⟩ (pm_X9_doubleBits l (9221120237041090560)) (va_cwS 1 hts gX9_real_X9_doubleBits rfl rfl rfl hd_X9_doubleBits ⟨Nat.le_of_ble_eq_true rfl, Nat.le_of_ble_eq_true rfl⟩) ⟨pm_fbT, fun U hU hW => ⟨rfl, trivial⟩⟩ rfl rfl hl.1 rfl (lv_room (Nat.le_of_ble_eq_true rfl)) dX9_real_166 ⟨Nat.le_refl 0, Nat.le_refl 0⟩) hS (fun H locs _ hk9 hS => ?_)
                  replace hP := P_keep hP hk9
                  rw [hZ]
                  exact hm_lret hx hb hr hlocks hS hP hK hnd hE (((if_neg c_11).trans ((if_neg c_36_0).trans ((if_neg c_36_1).trans ((if_neg c_36_2).trans ((if_neg c_36_3).trans ((if_pos c_36_4).trans (if_neg c_128)))))))) dX9_real_169
                ·
                  have hok := (hok).1 c_128
                  refine lv_dload hx hb dX9_real_132 (lv_at hl 0 rfl) ?_
                  refine lv_dload hx hb dX9_real_134 (lv_at hl 0 rfl) ?_
                  refine lf_d_lne (tgt := 155) hx hb dX9_real_136 dX9_real_137 (by decide) (fun c_136 => ?_) (fun c_136 => ?_)
                  ·
                    have hok := (hok).2 c_136
                    refine lv_ldc2d hx hb hown (hts _ (List.mem_of_getElem? (i := 1) rfl)) dX9_real_155 ?_
                    refine lv_goto (tgt := 166) hx hb dX9_real_158 (by decide) ?_
                    refine pm_callL (va_runS (As := [.double (9221120237041090560)]) (rest := []) ⟨hx, hb, hml, hown, hts⟩ (pm_X9_doubleBits l (9221120237041090560)) (va_cwS 1 hts gX9_real_X9_doubleBits rfl rfl rfl hd_X9_doubleBits ⟨Nat.le_of_ble_eq_true rfl, Nat.le_of_ble_eq_true rfl⟩) ⟨pm_fbT, fun U hU hW => ⟨rfl, trivial⟩⟩ rfl rfl hl.1 rfl (lv_room (Nat.le_of_ble_eq_true rfl)) dX9_real_166 ⟨Nat.le_refl 0, Nat.le_refl 0⟩) hS (fun H locs _ hk9 hS => ?_)
                    replace hP := P_keep hP hk9
                    rw [hZ]
                    exact hm_lret hx hb hr hlocks hS hP hK hnd hE (((if_neg c_11).trans ((if_neg c_36_0).trans ((if_neg c_36_1).trans ((if_neg c_36_2).trans ((if_neg c_36_3).trans ((if_pos c_36_4).trans ((if_pos c_128).trans (if_neg c_136))))))))) dX9_real_169
                  ·
                    have hok := (hok).1 c_136
                    refine lv_dload hx hb dX9_real_140 (lv_at hl 0 rfl) ?_
                    refine lv_dconst0 hx hb dX9_real_142 ?_
                    refine lf_d_leq (tgt := 155) hx hb dX9_real_143 dX9_real_144 (by decide) (fun c_143 => ?_) (fun c_143 => ?_)
                    ·
                      have hok := (hok).1 c_143
                      refine lv_ldc2d hx hb hown (hts _ (List.mem_of_getElem? (i := 1) rfl)) dX9_real_155 ?_
                      refine lv_goto (tgt := 166) hx hb dX9_real_158 (by decide) ?_
                      refine pm_callL (va_runS (As := [.double (9221120237041090560)]) (rest := []) ⟨hx, hb, hml, hown, hts⟩ (pm_X9_doubleBits l (9221120237041090560)) (va_cwS 1 hts gX9_real_X9_doubleBits rfl rfl rfl hd_X9_doubleBits ⟨Nat.le_of_ble_eq_true rfl, Nat.le_of_ble_eq_true rfl⟩) ⟨pm_fbT, fun U hU hW => ⟨rfl, trivial⟩⟩ rfl rfl hl.1 rfl (lv_room (Nat.le_of_ble_eq_true rfl)) dX9_real_166 ⟨Nat.le_refl 0, Nat.le_refl 0⟩) hS (fun H locs _ hk9 hS => ?_)
                      replace hP := P_keep hP hk9
                      rw [hZ]
                      exact hm_lret hx hb hr hlocks hS hP hK hnd hE (((if_neg c_11).trans ((if_neg c_36_0).trans ((if_neg c_36_1).trans ((if_neg c_36_2).trans ((if_neg c_36_3).trans ((if_pos c_36_4).trans ((if_pos c_128).trans ((if_pos c_136).trans (if_pos c_143)))))))))) dX9_real_169
                    ·
                      have hok := (hok).2 c_143
                      refine lv_dload hx hb dX9_real_147 (lv_at hl 1 rfl) ?_
                      refine pm_callI (va_runS (As := [.double (s_X9_realBits p1)]) (rest := []) ⟨hx, hb, hml, hown, hts⟩ (pm_X9_isEndless l (s_X9_realBits p1)) (va_cwS 1 hts gX9_real_X9_isEndless rfl rfl rfl hd_X9_isEndless ⟨Nat.le_of_ble_eq_true rfl, Nat.le_of_ble_eq_true rfl⟩) ⟨pm_fbT, fun U hU hW => ⟨rfl, trivial⟩⟩ rfl rfl hl.1 rfl (lv_room (Nat.le_of_ble_eq_true rfl)) dX9_real_149 ⟨Nat.le_refl 0, Nat.le_refl 0⟩) hS (fun H locs _ hk9 hS => ?_)
                      replace hP := P_keep hP hk9
                      refine lv_if_eq (tgt := 161) hx hb dX9_real_152 (by decide) (fun c_152 => ?_) (fun c_152 => ?_)
                      ·
                        have hok := (hok).1 c_152
                        refine lv_dload hx hb dX9_real_161 (lv_at hl 1 rfl) ?_
                        refine lv_dload hx hb dX9_real_163 (lv_at hl 0 rfl) ?_
                        refine lv_drem hx hb dX9_real_165 (nan_rem c_128 c_136 c_143 c_152) ?_
                        refine pm_callL (va_runS (As := [.double (FP.drem (s_X9_realBits p1) (s_X9_realBits p2))]) (rest := []) ⟨hx, hb, hml, hown, hts⟩ (pm_X9_doubleBits l (FP.drem (s_X9_realBits p1) (s_X9_realBits p2))) (va_cwS 1 hts gX9_real_X9_doubleBits rfl rfl rfl hd_X9_doubleBits ⟨Nat.le_of_ble_eq_true rfl, Nat.le_of_ble_eq_true rfl⟩) ⟨pm_fbT, fun U hU hW => ⟨rfl, trivial⟩⟩ rfl rfl hl.1 rfl (lv_room (Nat.le_of_ble_eq_true rfl)) dX9_real_166 ⟨Nat.le_refl 0, Nat.le_refl 0⟩) hS (fun H locs _ hk9 hS => ?_)
                        replace hP := P_keep hP hk9
                        rw [hZ]
                        exact hm_lret hx hb hr hlocks hS hP hK hnd hE (((if_neg c_11).trans ((if_neg c_36_0).trans ((if_neg c_36_1).trans ((if_neg c_36_2).trans ((if_neg c_36_3).trans ((if_pos c_36_4).trans ((if_pos c_128).trans ((if_pos c_136).trans ((if_neg c_143).trans (if_pos c_152))))))))))) dX9_real_169
                      ·
                        have hok := (hok).2 c_152
                        refine lv_ldc2d hx hb hown (hts _ (List.mem_of_getElem? (i := 1) rfl)) dX9_real_155 ?_
                        refine lv_goto (tgt := 166) hx hb dX9_real_158 (by decide) ?_
                        refine pm_callL (va_runS (As := [.double (9221120237041090560)]) (rest := []) ⟨hx, hb, hml, hown, hts⟩ (pm_X9_doubleBits l (9221120237041090560)) (va_cwS 1 hts gX9_real_X9_doubleBits rfl rfl rfl hd_X9_doubleBits ⟨Nat.le_of_ble_eq_true rfl, Nat.le_of_ble_eq_true rfl⟩) ⟨pm_fbT, fun U hU hW => ⟨rfl, trivial⟩⟩ rfl rfl hl.1 rfl (lv_room (Nat.le_of_ble_eq_true rfl)) dX9_real_166 ⟨Nat.le_refl 0, Nat.le_refl 0⟩) hS (fun H locs _ hk9 hS => ?_)
                        replace hP := P_keep hP hk9
                        rw [hZ]
                        exact hm_lret hx hb hr hlocks hS hP hK hnd hE (((if_neg c_11).trans ((if_neg c_36_0).trans ((if_neg c_36_1).trans ((if_neg c_36_2).trans ((if_neg c_36_3).trans ((if_pos c_36_4).trans ((if_pos c_128).trans ((if_pos c_136).trans ((if_neg c_143).trans (if_neg c_152))))))))))) dX9_real_169
              ·
                have hok := (hok).2 c_36_4
                by_cases c_36_5 : p0 = 5
                ·
                  have hok := (hok).1 c_36_5
                  refine lv_tableIn (off := 134) (tgt := 170) hx hb dX9_real_36 (by rw [c_36_5]; decide) (by rw [c_36_5]; decide) (by rw [c_36_5]; decide) (by decide) ?_
                  refine lv_dload hx hb dX9_real_170 (lv_at hl 1 rfl) ?_
                  refine lv_dload hx hb dX9_real_172 (lv_at hl 1 rfl) ?_
                  refine lf_d_lne (tgt := 186) hx hb dX9_real_174 dX9_real_175 (by decide) (fun c_174 => ?_) (fun c_174 => ?_)
                  ·
                    have hok := (hok).2 c_174
                    refine lv_ldc2 (v := (9221120237041090560)) hx hb hown (hts _ (List.mem_of_getElem? (i := 2) rfl)) dX9_real_186 ?_
                    refine lv_goto (tgt := 220) hx hb dX9_real_189 (by decide) ?_
                    rw [hZ]
                    exact hm_lret hx hb hr hlocks hS hP hK hnd hE (((if_neg c_11).trans ((if_neg c_36_0).trans ((if_neg c_36_1).trans ((if_neg c_36_2).trans ((if_neg c_36_3).trans ((if_neg c_36_4).trans ((if_pos c_36_5).trans (if_neg c_174))))))))) dX9_real_220
                  ·
                    have hok := (hok).1 c_174
                    refine lv_dload hx hb dX9_real_178 (lv_at hl 0 rfl) ?_
                    refine lv_dload hx hb dX9_real_180 (lv_at hl 0 rfl) ?_
                    refine lf_d_leq (tgt := 192) hx hb dX9_real_182 dX9_real_183 (by decide) (fun c_182 => ?_) (fun c_182 => ?_)
                    ·
                      have hok := (hok).1 c_182
                      refine lv_dload hx hb dX9_real_192 (lv_at hl 1 rfl) ?_
                      refine lv_dload hx hb dX9_real_194 (lv_at hl 0 rfl) ?_
                      refine lf_d_lgt (tgt := 214) hx hb dX9_real_196 dX9_real_197 (by decide) (fun c_196 => ?_) (fun c_196 => ?_)
                      ·
                        have hok := (hok).1 c_196
                        refine lv_lload_n hx hb dX9_real_214 rfl (lv_at hl 4 rfl) ?_
                        refine lv_goto (tgt := 220) hx hb dX9_real_215 (by decide) ?_
                        rw [hZ]
                        exact hm_lret hx hb hr hlocks hS hP hK hnd hE (((if_neg c_11).trans ((if_neg c_36_0).trans ((if_neg c_36_1).trans ((if_neg c_36_2).trans ((if_neg c_36_3).trans ((if_neg c_36_4).trans ((if_pos c_36_5).trans ((if_pos c_174).trans ((if_pos c_182).trans (if_pos c_196))))))))))) dX9_real_220
                      ·
                        have hok := (hok).2 c_196
                        refine lv_dload hx hb dX9_real_200 (lv_at hl 1 rfl) ?_
                        refine lv_dload hx hb dX9_real_202 (lv_at hl 0 rfl) ?_
                        refine lf_d_lne (tgt := 218) hx hb dX9_real_204 dX9_real_205 (by decide) (fun c_204 => ?_) (fun c_204 => ?_)
                        ·
                          have hok := (hok).2 c_204
                          refine lv_lload hx hb dX9_real_218 (lv_at hl 5 rfl) ?_
                          rw [hZ]
                          exact hm_lret hx hb hr hlocks hS hP hK hnd hE (((if_neg c_11).trans ((if_neg c_36_0).trans ((if_neg c_36_1).trans ((if_neg c_36_2).trans ((if_neg c_36_3).trans ((if_neg c_36_4).trans ((if_pos c_36_5).trans ((if_pos c_174).trans ((if_pos c_182).trans ((if_neg c_196).trans (if_neg c_204)))))))))))) dX9_real_220
                        ·
                          have hok := (hok).1 c_204
                          refine lv_lload_n hx hb dX9_real_208 rfl (lv_at hl 4 rfl) ?_
                          refine lv_lconst (v := 0) hx hb dX9_real_209 (by decide) ?_
                          refine lp_lt (tgt := 218) hx hb dX9_real_210 dX9_real_211 (by decide) (fun c_210 => ?_) (fun c_210 => ?_)
                          ·
                            have hok := (hok).1 c_210
                            refine lv_lload hx hb dX9_real_218 (lv_at hl 5 rfl) ?_
                            rw [hZ]
                            exact hm_lret hx hb hr hlocks hS hP hK hnd hE (((if_neg c_11).trans ((if_neg c_36_0).trans ((if_neg c_36_1).trans ((if_neg c_36_2).trans ((if_neg c_36_3).trans ((if_neg c_36_4).trans ((if_pos c_36_5).trans ((if_pos c_174).trans ((if_pos c_182).trans ((if_neg c_196).trans ((if_pos c_204).trans (if_pos c_210))))))))))))) dX9_real_220
                          ·
                            have hok := (hok).2 c_210
                            refine lv_lload_n hx hb dX9_real_214 rfl (lv_at hl 4 rfl) ?_
                            refine lv_goto (tgt := 220) hx hb dX9_real_215 (by decide) ?_
                            rw [hZ]
                            exact hm_lret hx hb hr hlocks hS hP hK hnd hE (((if_neg c_11).trans ((if_neg c_36_0).trans ((if_neg c_36_1).trans ((if_neg c_36_2).trans ((if_neg c_36_3).trans ((if_neg c_36_4).trans ((if_pos c_36_5).trans ((if_pos c_174).trans ((if_pos c_182).trans ((if_neg c_196).trans ((if_pos c_204).trans (if_neg c_210))))))))))))) dX9_real_220
                    ·
                      have hok := (hok).2 c_182
                      refine lv_ldc2 (v := (9221120237041090560)) hx hb hown (hts _ (List.mem_of_getElem? (i := 2) rfl)) dX9_real_186 ?_
                      refine lv_goto (tgt := 220) hx hb dX9_real_189 (by decide) ?_
                      rw [hZ]
                      exact hm_lret hx hb hr hlocks hS hP hK hnd hE (((if_neg c_11).trans ((if_neg c_36_0).trans ((if_neg c_36_1).trans ((if_neg c_36_2).trans ((if_neg c_36_3).trans ((if_neg c_36_4).trans ((if_pos c_36_5).trans ((if_pos c_174).trans (if_neg c_182)))))))))) dX9_real_220
                ·
                  have hok := (hok).2 c_36_5
                  by_cases c_36_6 : p0 = 6
                  ·
                    have hok := (hok).1 c_36_6
                    refine lv_tableIn (off := 185) (tgt := 221) hx hb dX9_real_36 (by rw [c_36_6]; decide) (by rw [c_36_6]; decide) (by rw [c_36_6]; decide) (by decide) ?_
                    refine lv_dload hx hb dX9_real_221 (lv_at hl 1 rfl) ?_
                    refine lv_dload hx hb dX9_real_223 (lv_at hl 1 rfl) ?_
                    refine lf_d_lne (tgt := 237) hx hb dX9_real_225 dX9_real_226 (by decide) (fun c_225 => ?_) (fun c_225 => ?_)
                    ·
                      have hok := (hok).2 c_225
                      refine lv_ldc2 (v := (9221120237041090560)) hx hb hown (hts _ (List.mem_of_getElem? (i := 2) rfl)) dX9_real_237 ?_
                      refine lv_goto (tgt := 271) hx hb dX9_real_240 (by decide) ?_
                      rw [hZ]
                      exact hm_lret hx hb hr hlocks hS hP hK hnd hE (((if_neg c_11).trans ((if_neg c_36_0).trans ((if_neg c_36_1).trans ((if_neg c_36_2).trans ((if_neg c_36_3).trans ((if_neg c_36_4).trans ((if_neg c_36_5).trans ((if_pos c_36_6).trans (if_neg c_225)))))))))) dX9_real_271
                    ·
                      have hok := (hok).1 c_225
                      refine lv_dload hx hb dX9_real_229 (lv_at hl 0 rfl) ?_
                      refine lv_dload hx hb dX9_real_231 (lv_at hl 0 rfl) ?_
                      refine lf_d_leq (tgt := 243) hx hb dX9_real_233 dX9_real_234 (by decide) (fun c_233 => ?_) (fun c_233 => ?_)
                      ·
                        have hok := (hok).1 c_233
                        refine lv_dload hx hb dX9_real_243 (lv_at hl 1 rfl) ?_
                        refine lv_dload hx hb dX9_real_245 (lv_at hl 0 rfl) ?_
                        refine lf_d_glt (tgt := 265) hx hb dX9_real_247 dX9_real_248 (by decide) (fun c_247 => ?_) (fun c_247 => ?_)
                        ·
                          have hok := (hok).1 c_247
                          refine lv_lload_n hx hb dX9_real_265 rfl (lv_at hl 4 rfl) ?_
                          refine lv_goto (tgt := 271) hx hb dX9_real_266 (by decide) ?_
                          rw [hZ]
                          exact hm_lret hx hb hr hlocks hS hP hK hnd hE (((if_neg c_11).trans ((if_neg c_36_0).trans ((if_neg c_36_1).trans ((if_neg c_36_2).trans ((if_neg c_36_3).trans ((if_neg c_36_4).trans ((if_neg c_36_5).trans ((if_pos c_36_6).trans ((if_pos c_225).trans ((if_pos c_233).trans (if_pos c_247)))))))))))) dX9_real_271
                        ·
                          have hok := (hok).2 c_247
                          refine lv_dload hx hb dX9_real_251 (lv_at hl 1 rfl) ?_
                          refine lv_dload hx hb dX9_real_253 (lv_at hl 0 rfl) ?_
                          refine lf_d_lne (tgt := 269) hx hb dX9_real_255 dX9_real_256 (by decide) (fun c_255 => ?_) (fun c_255 => ?_)
                          ·
                            have hok := (hok).2 c_255
                            refine lv_lload hx hb dX9_real_269 (lv_at hl 5 rfl) ?_
                            rw [hZ]
                            exact hm_lret hx hb hr hlocks hS hP hK hnd hE (((if_neg c_11).trans ((if_neg c_36_0).trans ((if_neg c_36_1).trans ((if_neg c_36_2).trans ((if_neg c_36_3).trans ((if_neg c_36_4).trans ((if_neg c_36_5).trans ((if_pos c_36_6).trans ((if_pos c_225).trans ((if_pos c_233).trans ((if_neg c_247).trans (if_neg c_255))))))))))))) dX9_real_271
                          ·
                            have hok := (hok).1 c_255
                            refine lv_lload_n hx hb dX9_real_259 rfl (lv_at hl 4 rfl) ?_
                            refine lv_lconst (v := 0) hx hb dX9_real_260 (by decide) ?_
                            refine lp_ge (tgt := 269) hx hb dX9_real_261 dX9_real_262 (by decide) (fun c_261 => ?_) (fun c_261 => ?_)
                            ·
                              have hok := (hok).1 c_261
                              refine lv_lload hx hb dX9_real_269 (lv_at hl 5 rfl) ?_
                              rw [hZ]
                              exact hm_lret hx hb hr hlocks hS hP hK hnd hE (((if_neg c_11).trans ((if_neg c_36_0).trans ((if_neg c_36_1).trans ((if_neg c_36_2).trans ((if_neg c_36_3).trans ((if_neg c_36_4).trans ((if_neg c_36_5).trans ((if_pos c_36_6).trans ((if_pos c_225).trans ((if_pos c_233).trans ((if_neg c_247).trans ((if_pos c_255).trans (if_pos c_261)))))))))))))) dX9_real_271
                            ·
                              have hok := (hok).2 c_261
                              refine lv_lload_n hx hb dX9_real_265 rfl (lv_at hl 4 rfl) ?_
                              refine lv_goto (tgt := 271) hx hb dX9_real_266 (by decide) ?_
                              rw [hZ]
                              exact hm_lret hx hb hr hlocks hS hP hK hnd hE (((if_neg c_11).trans ((if_neg c_36_0).trans ((if_neg c_36_1).trans ((if_neg c_36_2).trans ((if_neg c_36_3).trans ((if_neg c_36_4).trans ((if_neg c_36_5).trans ((if_pos c_36_6).trans ((if_pos c_225).trans ((if_pos c_233).trans ((if_neg c_247).trans ((if_pos c_255).trans (if_neg c_261)))))))))))))) dX9_real_271
                      ·
                        have hok := (hok).2 c_233
                        refine lv_ldc2 (v := (9221120237041090560)) hx hb hown (hts _ (List.mem_of_getElem? (i := 2) rfl)) dX9_real_237 ?_
                        refine lv_goto (tgt := 271) hx hb dX9_real_240 (by decide) ?_
                        rw [hZ]
                        exact hm_lret hx hb hr hlocks hS hP hK hnd hE (((if_neg c_11).trans ((if_neg c_36_0).trans ((if_neg c_36_1).trans ((if_neg c_36_2).trans ((if_neg c_36_3).trans ((if_neg c_36_4).trans ((if_neg c_36_5).trans ((if_pos c_36_6).trans ((if_pos c_225).trans (if_neg c_233))))))))))) dX9_real_271
                  ·
                    have hok := (hok).2 c_36_6
                    have nc_36_0 : (p0).toInt ≠ 0 := fun h => c_36_0 (Int32.toInt.inj (h.trans (by decide)))
                    have nc_36_1 : (p0).toInt ≠ 1 := fun h => c_36_1 (Int32.toInt.inj (h.trans (by decide)))
                    have nc_36_2 : (p0).toInt ≠ 2 := fun h => c_36_2 (Int32.toInt.inj (h.trans (by decide)))
                    have nc_36_3 : (p0).toInt ≠ 3 := fun h => c_36_3 (Int32.toInt.inj (h.trans (by decide)))
                    have nc_36_4 : (p0).toInt ≠ 4 := fun h => c_36_4 (Int32.toInt.inj (h.trans (by decide)))
                    have nc_36_5 : (p0).toInt ≠ 5 := fun h => c_36_5 (Int32.toInt.inj (h.trans (by decide)))
                    have nc_36_6 : (p0).toInt ≠ 6 := fun h => c_36_6 (Int32.toInt.inj (h.trans (by decide)))
                    refine lv_tableOut (tgt := 272) hx hb dX9_real_36 (by omega) (by decide) ?_
                    refine lv_dload hx hb dX9_real_272 (lv_at hl 1 rfl) ?_
                    refine lv_dload hx hb dX9_real_274 (lv_at hl 1 rfl) ?_
                    refine lf_d_leq (tgt := 288) hx hb dX9_real_276 dX9_real_277 (by decide) (fun c_276 => ?_) (fun c_276 => ?_)
                    ·
                      have hok := (hok).1 c_276
                      refine lv_lload_n hx hb dX9_real_288 rfl (lv_at hl 4 rfl) ?_
                      refine lv_ldc2 (v := (9223372036854775807)) hx hb hown (hts _ (List.mem_of_getElem? (i := 3) rfl)) dX9_real_289 ?_
                      refine lv_land hx hb dX9_real_292 ?_
                      refine lv_dload hx hb dX9_real_293 (lv_at hl 0 rfl) ?_
                      refine lv_dload hx hb dX9_real_295 (lv_at hl 0 rfl) ?_
                      refine lf_d_leq (tgt := 305) hx hb dX9_real_297 dX9_real_298 (by decide) (fun c_297 => ?_) (fun c_297 => ?_)
                      ·
                        have hok := (hok).1 c_297
                        refine lv_lload hx hb dX9_real_305 (lv_at hl 5 rfl) ?_
                        refine lv_ldc2 (v := (-9223372036854775808)) hx hb hown (hts _ (List.mem_of_getElem? (i := 4) rfl)) dX9_real_307 ?_
                        refine lv_land hx hb dX9_real_310 ?_
                        refine lv_lor hx hb dX9_real_311 ?_
                        rw [hZ]
                        exact hm_lret hx hb hr hlocks hS hP hK hnd hE (((if_neg c_11).trans ((if_neg c_36_0).trans ((if_neg c_36_1).trans ((if_neg c_36_2).trans ((if_neg c_36_3).trans ((if_neg c_36_4).trans ((if_neg c_36_5).trans ((if_neg c_36_6).trans ((if_pos c_276).trans (if_pos c_297))))))))))) dX9_real_312
                      ·
                        have hok := (hok).2 c_297
                        refine lv_lconst (v := 0) hx hb dX9_real_301 (by decide) ?_
                        refine lv_goto (tgt := 311) hx hb dX9_real_302 (by decide) ?_
                        refine lv_lor hx hb dX9_real_311 ?_
                        rw [hZ]
                        exact hm_lret hx hb hr hlocks hS hP hK hnd hE (((if_neg c_11).trans ((if_neg c_36_0).trans ((if_neg c_36_1).trans ((if_neg c_36_2).trans ((if_neg c_36_3).trans ((if_neg c_36_4).trans ((if_neg c_36_5).trans ((if_neg c_36_6).trans ((if_pos c_276).trans (if_neg c_297))))))))))) dX9_real_312
                    ·
                      have hok := (hok).2 c_276
                      refine lv_dload hx hb dX9_real_280 (lv_at hl 1 rfl) ?_
                      refine pm_callL (va_runS (As := [.double (s_X9_realBits p1)]) (rest := []) ⟨hx, hb, hml, hown, hts⟩ (pm_X9_doubleBits l (s_X9_realBits p1)) (va_cwS 1 hts gX9_real_X9_doubleBits rfl rfl rfl hd_X9_doubleBits ⟨Nat.le_of_ble_eq_true rfl, Nat.le_of_ble_eq_true rfl⟩) ⟨pm_fbT, fun U hU hW => ⟨rfl, trivial⟩⟩ rfl rfl hl.1 rfl (lv_room (Nat.le_of_ble_eq_true rfl)) dX9_real_282 ⟨Nat.le_refl 0, Nat.le_refl 0⟩) hS (fun H locs _ hk9 hS => ?_)
                      replace hP := P_keep hP hk9
                      refine lv_goto (tgt := 312) hx hb dX9_real_285 (by decide) ?_
                      rw [hZ]
                      exact hm_lret hx hb hr hlocks hS hP hK hnd hE (((if_neg c_11).trans ((if_neg c_36_0).trans ((if_neg c_36_1).trans ((if_neg c_36_2).trans ((if_neg c_36_3).trans ((if_neg c_36_4).trans ((if_neg c_36_5).trans ((if_neg c_36_6).trans (if_neg c_276)))))))))) dX9_real_312
    ·
      have hok := (hok).1 c_11
      refine lv_aload_n hx hb dX9_real_14 rfl (lv_at hl 0 rfl) ?_
      refine lv_bipush (v := 8) hx hb dX9_real_15 (by decide) ?_
      obtain ⟨h_17k, hok⟩ := hok
      obtain ⟨h_17, hok⟩ := hok
      refine hm_callI (G := G) (a := ([.ref x, .int 8] : List Value).toArray) (pr := (h_X9_fails x 8 (h_X9_begin x S))) (rest := []) ?_ hS (fun H locs hP hS => ?_)
      ·
        exact va_runV (As := [.int 8]) (rest := []) ⟨hx, hb, hml, hown, hts⟩ (hm_X9_fails l G L (h_X9_begin x S) x 8 h_17) (cwV 1 hts gX9_real_X9_fails rfl rfl rfl hdv_X9_fails ⟨Nat.le_of_ble_eq_true rfl, Nat.le_of_ble_eq_true rfl⟩) ⟨HW.fb, hp_recv hK hP h_17k.1 (PF_7 h_17k.2) rfl, fun U hU hW => ⟨rfl, HW.call hP hK hnd hE hS U hU hW⟩⟩ rfl rfl hl.1 rfl (lv_room (Nat.le_of_ble_eq_true rfl)) dX9_real_17 ⟨Nat.le_refl 0, Nat.le_refl 0⟩
      ·
        refine lv_i2l (v := ((h_X9_fails x 8 (h_X9_begin x S)).1).toInt64) hx hb dX9_real_20 rfl ?_
        rw [hZ]
        exact hm_lret hx hb hr hlocks hS hP hK hnd hE ((if_pos c_11)) dX9_real_21
theorem hdv_X9_math : yX9_math.cls = RX9 ∧ yX9_math.cls ≠ "java/lang/invoke/MethodHandle" ∧ yX9_math.cls ≠ "java/lang/invoke/VarHandle" ∧ (parseMethodDescriptor yX9_math.desc).map (fun d => d.parameters.length) = some 2 := by decide +kernel
def h_X9_math (x : Nat) (p0 : Int32) (p1 : Int64) (S : HS) : Int64 × HS :=
  if (s_X9_in p0 0 9) = 0 then (((h_X9_fails x 8 (h_X9_begin x S)).1).toInt64, (h_X9_fails x 8 (h_X9_begin x S)).2)
  else if p0 = 9 then if (((lUshr p1 52) &&& (2047)).toInt32) = 2047 then ((1024), h_X9_begin x S)
    else (((((lUshr p1 52) &&& (2047)).toInt32) - 1023).toInt64, h_X9_begin x S)
   else if dEq (s_X9_realBits p1) (s_X9_realBits p1) then if p0 = 0 then if (s_X9_isWhole (s_X9_realBits p1)) = 0 then (s_X9_signed (s_X9_rounded (s_X9_realBits p1) p0) p1, h_X9_begin x S)
      else (p1, h_X9_begin x S)
     else if p0 = 1 then if (s_X9_isWhole (s_X9_realBits p1)) = 0 then (s_X9_signed (s_X9_rounded (s_X9_realBits p1) p0) p1, h_X9_begin x S)
       else (p1, h_X9_begin x S)
      else if p0 = 2 then if (s_X9_isWhole (s_X9_realBits p1)) = 0 then (s_X9_signed (s_X9_rounded (s_X9_realBits p1) p0) p1, h_X9_begin x S)
        else (p1, h_X9_begin x S)
       else if p0 = 3 then if dEq (s_X9_realBits p1) FP.dconst0 then (p1, h_X9_begin x S)
         else (s_X9_signed FP.dconst1 p1, h_X9_begin x S)
        else if p0 = 4 then (p1 &&& (9223372036854775807), h_X9_begin x S)
         else if p0 = 5 then if (((lUshr p1 52) &&& (2047)).toInt32) = 2047 then ((9218868437227405312), h_X9_begin x S)
           else if 2 ≤ (((lUshr p1 52) &&& (2047)).toInt32) then if (((lUshr p1 52) &&& (2047)).toInt32) ≤ 52 then (lShl 1 ((((lUshr p1 52) &&& (2047)).toInt32) - 1), h_X9_begin x S)
             else (lShl (((((lUshr p1 52) &&& (2047)).toInt32) - 52).toInt64) 52, h_X9_begin x S)
            else (1, h_X9_begin x S)
          else if p0 = 6 then if p1 = (9218868437227405312) then (p1, h_X9_begin x S)
            else if dEq (s_X9_realBits p1) FP.dconst0 then (1, h_X9_begin x S)
             else if p1 < 0 then (p1 - 1, h_X9_begin x S)
              else (p1 + 1, h_X9_begin x S)
           else if p0 = 7 then (s_X9_doubleBits (FP.dmul (s_X9_realBits p1) (4620693217682128896)), h_X9_begin x S)
            else (s_X9_doubleBits (FP.dmul (s_X9_realBits p1) (4593671619917905920)), h_X9_begin x S)
    else (s_X9_doubleBits (s_X9_realBits p1), h_X9_begin x S)
def ok_X9_math (L : List Nat) (x : Nat) (p0 : Int32) (p1 : Int64) (S : HS) : Prop :=
  (x ∈ L ∧ hsK S x = 7) ∧ ((ok_X9_begin L x S) ∧ ((((s_X9_in p0 0 9) = 0) → ((x ∈ L ∧ hsK (h_X9_begin x S) x = 7) ∧ ((ok_X9_fails L x 8 (h_X9_begin x S)) ∧ (True)))) ∧
  (¬ ((s_X9_in p0 0 9) = 0) → (((p0 = 9) → ((((((lUshr p1 52) &&& (2047)).toInt32) = 2047) → (True)) ∧
    (¬ ((((lUshr p1 52) &&& (2047)).toInt32) = 2047) → (True)))) ∧
   (¬ (p0 = 9) → (((dEq (s_X9_realBits p1) (s_X9_realBits p1)) → (((p0 = 0) → ((((s_X9_isWhole (s_X9_realBits p1)) = 0) → (True)) ∧
      (¬ ((s_X9_isWhole (s_X9_realBits p1)) = 0) → (True)))) ∧
     (¬ (p0 = 0) → (((p0 = 1) → ((((s_X9_isWhole (s_X9_realBits p1)) = 0) → (True)) ∧
       (¬ ((s_X9_isWhole (s_X9_realBits p1)) = 0) → (True)))) ∧
      (¬ (p0 = 1) → (((p0 = 2) → ((((s_X9_isWhole (s_X9_realBits p1)) = 0) → (True)) ∧
        (¬ ((s_X9_isWhole (s_X9_realBits p1)) = 0) → (True)))) ∧
       (¬ (p0 = 2) → (((p0 = 3) → (((dEq (s_X9_realBits p1) FP.dconst0) → (True)) ∧
         (¬ (dEq (s_X9_realBits p1) FP.dconst0) → (True)))) ∧
        (¬ (p0 = 3) → (((p0 = 4) → (True)) ∧
         (¬ (p0 = 4) → (((p0 = 5) → ((((((lUshr p1 52) &&& (2047)).toInt32) = 2047) → (True)) ∧
           (¬ ((((lUshr p1 52) &&& (2047)).toInt32) = 2047) → (((2 ≤ (((lUshr p1 52) &&& (2047)).toInt32)) → ((((((lUshr p1 52) &&& (2047)).toInt32) ≤ 52) → (True)) ∧
             (¬ ((((lUshr p1 52) &&& (2047)).toInt32) ≤ 52) → (True)))) ∧
            (¬ (2 ≤ (((lUshr p1 52) &&& (2047)).toInt32)) → (True)))))) ∧
          (¬ (p0 = 5) → (((p0 = 6) → (((p1 = (9218868437227405312)) → (True)) ∧
            (¬ (p1 = (9218868437227405312)) → (((dEq (s_X9_realBits p1) FP.dconst0) → (True)) ∧
             (¬ (dEq (s_X9_realBits p1) FP.dconst0) → (((p1 < 0) → (True)) ∧
              (¬ (p1 < 0) → (True)))))))) ∧
           (¬ (p0 = 6) → (((p0 = 7) → (True)) ∧
            (¬ (p0 = 7) → (True)))))))))))))))))) ∧
    (¬ (dEq (s_X9_realBits p1) (s_X9_realBits p1)) → (True))))))))
set_option maxHeartbeats 4000000 in
set_option maxRecDepth 100000 in
theorem hm_X9_math (l : Launch) (G : GE) (L : List Nat) (S : HS) (x : Nat) (p0 : Int32) (p1 : Int64) (hok : ok_X9_math L x p0 p1 S) : HmL l G yX9_math wsX9_math 3 65 [.ref x, .int p0, .long p1] L S (h_X9_math x p0 p1 S) := by
  refine Met.ofW (cc := cX9_math) (maxL := 7) (ret := (some .long)) (by decide) rfl ?_
  intro p e s m args below meth c s₁ B hml hv
  obtain ⟨rfl, hP, hK, hnd, hE⟩ := hv
  have hx := B.exec
  have hb := B.bytes
  have hr := B.returns
  have hts := atoms_spec (ws := wsX9_math) B.pre
  have hown : s.vm.findClass RX9 = some m.cls := findClass_of_methodNamed B.named
  have hlocks := B.notSynchronized
  have hD := nd_D hnd
  have hS : va_S (AL L) s.heap s.heap [] := va_S.rf
  have hl := lv_entry ([.ref x, .int p0, .long p1]) (n := 7) (Nat.le_of_ble_eq_true rfl)
  rw [lg_entry_eq]
  generalize (lg_sl ([.ref x, .int p0, .long p1]) ++ List.replicate (7 - (lg_sl ([.ref x, .int p0, .long p1])).length) Slot.unset).toArray = ls at hl ⊢
  have hl : lv_has ls 7 [(0, .ref x), (1, .int p0), (2, .long p1)] := hl
  obtain ⟨Z, hZ⟩ : ∃ z, z = MQ below (hm_QL G L (h_X9_math x p0 p1 S)) ([.ref x, .int p0, .long p1] : List Value).toArray s 0 0 (AL L) := ⟨_, rfl⟩
  rw [← hZ]
  refine lv_aload_n hx hb dX9_math_0 rfl (lv_at hl 0 rfl) ?_
  obtain ⟨h_1k, hok⟩ := hok
  obtain ⟨h_1, hok⟩ := hok
  refine hm_callV (G := G) (a := ([.ref x] : List Value).toArray) (pr := (h_X9_begin x S)) (rest := []) ?_ hS (fun H locs hP hS => ?_)
  ·
    exact va_runV (As := []) (rest := []) ⟨hx, hb, hml, hown, hts⟩ (hm_X9_begin l G L S x h_1) (cwV 0 hts gX9_math_X9_begin rfl rfl rfl hdv_X9_begin ⟨Nat.le_of_ble_eq_true rfl, Nat.le_of_ble_eq_true rfl⟩) ⟨HW.fb, hp_recv hK hP h_1k.1 (PF_7 h_1k.2) rfl, fun U hU hW => ⟨rfl, HW.call hP hK hnd hE hS U hU hW⟩⟩ rfl rfl hl.1 rfl (lv_room (Nat.le_of_ble_eq_true rfl)) dX9_math_1 ⟨Nat.le_refl 0, Nat.le_refl 0⟩
  ·
    refine lv_iload_n hx hb dX9_math_4 rfl (lv_at hl 1 rfl) ?_
    refine lv_iconst (v := 0) hx hb dX9_math_5 (by decide) ?_
    refine lv_bipush (v := 9) hx hb dX9_math_6 (by decide) ?_
    refine pm_callI (va_runS (As := [.int p0, .int 0, .int 9]) (rest := []) ⟨hx, hb, hml, hown, hts⟩ (pm_X9_in l p0 0 9) (va_cwS 3 hts gX9_math_X9_in rfl rfl rfl hd_X9_in ⟨Nat.le_of_ble_eq_true rfl, Nat.le_of_ble_eq_true rfl⟩) ⟨pm_fbT, fun U hU hW => ⟨rfl, trivial⟩⟩ rfl rfl hl.1 rfl (lv_room (Nat.le_of_ble_eq_true rfl)) dX9_math_8 ⟨Nat.le_refl 0, Nat.le_refl 0⟩) hS (fun H locs _ hk9 hS => ?_)
    replace hP := P_keep hP hk9
    refine lv_if_ne (tgt := 22) hx hb dX9_math_11 (by decide) (fun c_11 => ?_) (fun c_11 => ?_)
    ·
      have hok := (hok).2 c_11
      refine lv_lload_n hx hb dX9_math_22 rfl (lv_at hl 2 rfl) ?_
      refine pm_callD (va_runS (As := [.long p1]) (rest := []) ⟨hx, hb, hml, hown, hts⟩ (pm_X9_realBits l p1) (va_cwS 1 hts gX9_math_X9_realBits rfl rfl rfl hd_X9_realBits ⟨Nat.le_of_ble_eq_true rfl, Nat.le_of_ble_eq_true rfl⟩) ⟨pm_fbT, fun U hU hW => ⟨rfl, trivial⟩⟩ rfl rfl hl.1 rfl (lv_room (Nat.le_of_ble_eq_true rfl)) dX9_math_23 ⟨Nat.le_refl 0, Nat.le_refl 0⟩) hS (fun H locs _ hk9 hS => ?_)
      replace hP := P_keep hP hk9
      refine lv_dstore (lv' := [(4, .double (s_X9_realBits p1)), (0, .ref x), (1, .int p0), (2, .long p1)]) hx hb dX9_math_26 hl (by decide) rfl (fun ls hl => ?_)
      refine lv_lload_n hx hb dX9_math_28 rfl (lv_at hl 3 rfl) ?_
      refine lv_bipush (v := 52) hx hb dX9_math_29 (by decide) ?_
      refine lv_lushr (v := lUshr p1 52) hx hb dX9_math_31 rfl ?_
      refine lv_ldc2 (v := (2047)) hx hb hown (hts _ (List.mem_of_getElem? (i := 1) rfl)) dX9_math_32 ?_
      refine lv_land hx hb dX9_math_35 ?_
      refine lv_l2i (v := ((lUshr p1 52) &&& (2047)).toInt32) hx hb dX9_math_36 rfl ?_
      refine lv_istore (lv' := [(6, .int (((lUshr p1 52) &&& (2047)).toInt32)), (4, .double (s_X9_realBits p1)), (0, .ref x), (1, .int p0), (2, .long p1)]) hx hb dX9_math_37 hl (by decide) rfl (fun ls hl => ?_)
      refine lv_iload_n hx hb dX9_math_39 rfl (lv_at hl 3 rfl) ?_
      refine lv_bipush (v := 9) hx hb dX9_math_40 (by decide) ?_
      refine lv_icmp_ne (tgt := 67) hx hb dX9_math_42 (by decide) (fun c_42 => ?_) (fun c_42 => ?_)
      ·
        have hok := (hok).2 c_42
        refine lv_dload hx hb dX9_math_67 (lv_at hl 1 rfl) ?_
        refine lv_dload hx hb dX9_math_69 (lv_at hl 1 rfl) ?_
        refine lf_d_leq (tgt := 81) hx hb dX9_math_71 dX9_math_72 (by decide) (fun c_71 => ?_) (fun c_71 => ?_)
        ·
          have hok := (hok).1 c_71
          refine lv_iload_n hx hb dX9_math_81 rfl (lv_at hl 3 rfl) ?_
          by_cases c_82_0 : p0 = 0
          ·
            have hok := (hok).1 c_82_0
            refine lv_tableIn (off := 46) (tgt := 128) hx hb dX9_math_82 (by rw [c_82_0]; decide) (by rw [c_82_0]; decide) (by rw [c_82_0]; decide) (by decide) ?_
            refine lv_dload hx hb dX9_math_128 (lv_at hl 1 rfl) ?_
            refine pm_callI (va_runS (As := [.double (s_X9_realBits p1)]) (rest := []) ⟨hx, hb, hml, hown, hts⟩ (pm_X9_isWhole l (s_X9_realBits p1)) (va_cwS 1 hts gX9_math_X9_isWhole rfl rfl rfl hd_X9_isWhole ⟨Nat.le_of_ble_eq_true rfl, Nat.le_of_ble_eq_true rfl⟩) ⟨pm_fbT, fun U hU hW => ⟨rfl, trivial⟩⟩ rfl rfl hl.1 rfl (lv_room (Nat.le_of_ble_eq_true rfl)) dX9_math_130 ⟨Nat.le_refl 0, Nat.le_refl 0⟩) hS (fun H locs _ hk9 hS => ?_)
            replace hP := P_keep hP hk9
            refine lv_if_eq (tgt := 140) hx hb dX9_math_133 (by decide) (fun c_133 => ?_) (fun c_133 => ?_)
            ·
              have hok := (hok).1 c_133
              refine lv_dload hx hb dX9_math_140 (lv_at hl 1 rfl) ?_
              refine lv_iload_n hx hb dX9_math_142 rfl (lv_at hl 3 rfl) ?_
              refine pm_callD (va_runS (As := [.double (s_X9_realBits p1), .int p0]) (rest := []) ⟨hx, hb, hml, hown, hts⟩ (pm_X9_rounded l (s_X9_realBits p1) p0 (of_dEq c_71)) (va_cwS 2 hts gX9_math_X9_rounded rfl rfl rfl hd_X9_rounded ⟨Nat.le_of_ble_eq_true rfl, Nat.le_of_ble_eq_true rfl⟩) ⟨pm_fbT, fun U hU hW => ⟨rfl, trivial⟩⟩ rfl rfl hl.1 rfl (lv_room (Nat.le_of_ble_eq_true rfl)) dX9_math_143 ⟨Nat.le_refl 0, Nat.le_refl 0⟩) hS (fun H locs _ hk9 hS => ?_)
              replace hP := P_keep hP hk9
              refine lv_lload_n hx hb dX9_math_146 rfl (lv_at hl 4 rfl) ?_
              refine pm_callL (va_runS (As := [.double (s_X9_rounded (s_X9_realBits p1) p0), .long p1]) (rest := []) ⟨hx, hb, hml, hown, hts⟩ (pm_X9_signed l (s_X9_rounded (s_X9_realBits p1) p0) p1) (va_cwS 2 hts gX9_math_X9_signed rfl rfl rfl hd_X9_signed ⟨Nat.le_of_ble_eq_true rfl, Nat.le_of_ble_eq_true rfl⟩) ⟨pm_fbT, fun U hU hW => ⟨rfl, trivial⟩⟩ rfl rfl hl.1 rfl (lv_room (Nat.le_of_ble_eq_true rfl)) dX9_math_147 ⟨Nat.le_refl 0, Nat.le_refl 0⟩) hS (fun H locs _ hk9 hS => ?_)
              replace hP := P_keep hP hk9
              rw [hZ]
              exact hm_lret hx hb hr hlocks hS hP hK hnd hE (((if_neg c_11).trans ((if_neg c_42).trans ((if_pos c_71).trans ((if_pos c_82_0).trans (if_pos c_133)))))) dX9_math_150
            ·
              have hok := (hok).2 c_133
              refine lv_lload_n hx hb dX9_math_136 rfl (lv_at hl 4 rfl) ?_
              refine lv_goto (tgt := 150) hx hb dX9_math_137 (by decide) ?_
              rw [hZ]
              exact hm_lret hx hb hr hlocks hS hP hK hnd hE (((if_neg c_11).trans ((if_neg c_42).trans ((if_pos c_71).trans ((if_pos c_82_0).trans (if_neg c_133)))))) dX9_math_150
          ·
            have hok := (hok).2 c_82_0
            by_cases c_82_1 : p0 = 1
            ·
              have hok := (hok).1 c_82_1
              refine lv_tableIn (off := 46) (tgt := 128) hx hb dX9_math_82 (by rw [c_82_1]; decide) (by rw [c_82_1]; decide) (by rw [c_82_1]; decide) (by decide) ?_
              refine lv_dload hx hb dX9_math_128 (lv_at hl 1 rfl) ?_
              refine pm_callI (va_runS (As := [.double (s_X9_realBits p1)]) (rest := []) ⟨hx, hb, hml, hown, hts⟩ (pm_X9_isWhole l (s_X9_realBits p1)) (va_cwS 1 hts gX9_math_X9_isWhole rfl rfl rfl hd_X9_isWhole ⟨Nat.le_of_ble_eq_true rfl, Nat.le_of_ble_eq_true rfl⟩) ⟨pm_fbT, fun U hU hW => ⟨rfl, trivial⟩⟩ rfl rfl hl.1 rfl (lv_room (Nat.le_of_ble_eq_true rfl)) dX9_math_130 ⟨Nat.le_refl 0, Nat.le_refl 0⟩) hS (fun H locs _ hk9 hS => ?_)
              replace hP := P_keep hP hk9
              refine lv_if_eq (tgt := 140) hx hb dX9_math_133 (by decide) (fun c_133 => ?_) (fun c_133 => ?_)
              ·
                have hok := (hok).1 c_133
                refine lv_dload hx hb dX9_math_140 (lv_at hl 1 rfl) ?_
                refine lv_iload_n hx hb dX9_math_142 rfl (lv_at hl 3 rfl) ?_
                refine pm_callD (va_runS (As := [.double (s_X9_realBits p1), .int p0]) (rest := []) ⟨hx, hb, hml, hown, hts⟩ (pm_X9_rounded l (s_X9_realBits p1) p0 (of_dEq c_71)) (va_cwS 2 hts gX9_math_X9_rounded rfl rfl rfl hd_X9_rounded ⟨Nat.le_of_ble_eq_true rfl, Nat.le_of_ble_eq_true rfl⟩) ⟨pm_fbT, fun U hU hW => ⟨rfl, trivial⟩⟩ rfl rfl hl.1 rfl (lv_room (Nat.le_of_ble_eq_true rfl)) dX9_math_143 ⟨Nat.le_refl 0, Nat.le_refl 0⟩) hS (fun H locs _ hk9 hS => ?_)
                replace hP := P_keep hP hk9
                refine lv_lload_n hx hb dX9_math_146 rfl (lv_at hl 4 rfl) ?_
                refine pm_callL (va_runS (As := [.double (s_X9_rounded (s_X9_realBits p1) p0), .long p1]) (rest := []) ⟨hx, hb, hml, hown, hts⟩ (pm_X9_signed l (s_X9_rounded (s_X9_realBits p1) p0) p1) (va_cwS 2 hts gX9_math_X9_signed rfl rfl rfl hd_X9_signed ⟨Nat.le_of_ble_eq_true rfl, Nat.le_of_ble_eq_true rfl⟩) ⟨pm_fbT, fun U hU hW => ⟨rfl, trivial⟩⟩ rfl rfl hl.1 rfl (lv_room (Nat.le_of_ble_eq_true rfl)) dX9_math_147 ⟨Nat.le_refl 0, Nat.le_refl 0⟩) hS (fun H locs _ hk9 hS => ?_)
                replace hP := P_keep hP hk9
                rw [hZ]
                exact hm_lret hx hb hr hlocks hS hP hK hnd hE (((if_neg c_11).trans ((if_neg c_42).trans ((if_pos c_71).trans ((if_neg c_82_0).trans ((if_pos c_82_1).trans (if_pos c_133))))))) dX9_math_150
              ·
                have hok := (hok).2 c_133
                refine lv_lload_n hx hb dX9_math_136 rfl (lv_at hl 4 rfl) ?_
                refine lv_goto (tgt := 150) hx hb dX9_math_137 (by decide) ?_
                rw [hZ]
                exact hm_lret hx hb hr hlocks hS hP hK hnd hE (((if_neg c_11).trans ((if_neg c_42).trans ((if_pos c_71).trans ((if_neg c_82_0).trans ((if_pos c_82_1).trans (if_neg c_133))))))) dX9_math_150
            ·
              have hok := (hok).2 c_82_1
              by_cases c_82_2 : p0 = 2
              ·
                have hok := (hok).1 c_82_2
                refine lv_tableIn (off := 46) (tgt := 128) hx hb dX9_math_82 (by rw [c_82_2]; decide) (by rw [c_82_2]; decide) (by rw [c_82_2]; decide) (by decide) ?_
                refine lv_dload hx hb dX9_math_128 (lv_at hl 1 rfl) ?_
                refine pm_callI (va_runS (As := [.double (s_X9_realBits p1)]) (rest := []) ⟨hx, hb, hml, hown, hts⟩ (pm_X9_isWhole l (s_X9_realBits p1)) (va_cwS 1 hts gX9_math_X9_isWhole rfl rfl rfl hd_X9_isWhole ⟨Nat.le_of_ble_eq_true rfl, Nat.le_of_ble_eq_true rfl⟩) ⟨pm_fbT, fun U hU hW => ⟨rfl, trivial⟩⟩ rfl rfl hl.1 rfl (lv_room (Nat.le_of_ble_eq_true rfl)) dX9_math_130 ⟨Nat.le_refl 0, Nat.le_refl 0⟩) hS (fun H locs _ hk9 hS => ?_)
                replace hP := P_keep hP hk9
                refine lv_if_eq (tgt := 140) hx hb dX9_math_133 (by decide) (fun c_133 => ?_) (fun c_133 => ?_)
                ·
                  have hok := (hok).1 c_133
                  refine lv_dload hx hb dX9_math_140 (lv_at hl 1 rfl) ?_
                  refine lv_iload_n hx hb dX9_math_142 rfl (lv_at hl 3 rfl) ?_
                  refine pm_callD (va_runS (As := [.double (s_X9_realBits p1), .int p0]) (rest := []) ⟨hx, hb, hml, hown, hts⟩ (pm_X9_rounded l (s_X9_realBits p1) p0 (of_dEq c_71)) (va_cwS 2 hts gX9_math_X9_rounded rfl rfl rfl hd_X9_rounded ⟨Nat.le_of_ble_eq_true rfl, Nat.le_of_ble_eq_true rfl⟩) ⟨pm_fbT, fun U hU hW => ⟨rfl, trivial⟩⟩ rfl rfl hl.1 rfl (lv_room (Nat.le_of_ble_eq_true rfl)) dX9_math_143 ⟨Nat.le_refl 0, Nat.le_refl 0⟩) hS (fun H locs _ hk9 hS => ?_)
                  replace hP := P_keep hP hk9
                  refine lv_lload_n hx hb dX9_math_146 rfl (lv_at hl 4 rfl) ?_
                  refine pm_callL (va_runS (As := [.double (s_X9_rounded (s_X9_realBits p1) p0), .long p1]) (rest := []) ⟨hx, hb, hml, hown, hts⟩ (pm_X9_signed l (s_X9_rounded (s_X9_realBits p1) p0) p1) (va_cwS 2 hts gX9_math_X9_signed rfl rfl rfl hd_X9_signed ⟨Nat.le_of_ble_eq_true rfl, Nat.le_of_ble_eq_true rfl⟩) ⟨pm_fbT, fun U hU hW => ⟨rfl, trivial⟩⟩ rfl rfl hl.1 rfl (lv_room (Nat.le_of_ble_eq_true rfl)) dX9_math_147 ⟨Nat.le_refl 0, Nat.le_refl 0⟩) hS (fun H locs _ hk9 hS => ?_)
                  replace hP := P_keep hP hk9
                  rw [hZ]
                  exact hm_lret hx hb hr hlocks hS hP hK hnd hE (((if_neg c_11).trans ((if_neg c_42).trans ((if_pos c_71).trans ((if_neg c_82_0).trans ((if_neg c_82_1).trans ((if_pos c_82_2).trans (if_pos c_133)))))))) dX9_math_150
                ·
                  have hok := (hok).2 c_133
                  refine lv_lload_n hx hb dX9_math_136 rfl (lv_at hl 4 rfl) ?_
                  refine lv_goto (tgt := 150) hx hb dX9_math_137 (by decide) ?_
                  rw [hZ]
                  exact hm_lret hx hb hr hlocks hS hP hK hnd hE (((if_neg c_11).trans ((if_neg c_42).trans ((if_pos c_71).trans ((if_neg c_82_0).trans ((if_neg c_82_1).trans ((if_pos c_82_2).trans (if_neg c_133)))))))) dX9_math_150
              ·
                have hok := (hok).2 c_82_2
                by_cases c_82_3 : p0 = 3
                ·
                  have hok := (hok).1 c_82_3
                  refine lv_tableIn (off := 69) (tgt := 151) hx hb dX9_math_82 (by rw [c_82_3]; decide) (by rw [c_82_3]; decide) (by rw [c_82_3]; decide) (by decide) ?_
                  refine lv_dload hx hb dX9_math_151 (lv_at hl 1 rfl) ?_
                  refine lv_dconst0 hx hb dX9_math_153 ?_
                  refine lf_d_lne (tgt := 162) hx hb dX9_math_154 dX9_math_155 (by decide) (fun c_154 => ?_) (fun c_154 => ?_)
                  ·
                    have hok := (hok).2 c_154
                    refine lv_dconst1 hx hb dX9_math_162 ?_
                    refine lv_lload_n hx hb dX9_math_163 rfl (lv_at hl 4 rfl) ?_
                    refine pm_callL (va_runS (As := [.double FP.dconst1, .long p1]) (rest := []) ⟨hx, hb, hml, hown, hts⟩ (pm_X9_signed l FP.dconst1 p1) (va_cwS 2 hts gX9_math_X9_signed rfl rfl rfl hd_X9_signed ⟨Nat.le_of_ble_eq_true rfl, Nat.le_of_ble_eq_true rfl⟩) ⟨pm_fbT, fun U hU hW => ⟨rfl, trivial⟩⟩ rfl rfl hl.1 rfl (lv_room (Nat.le_of_ble_eq_true rfl)) dX9_math_164 ⟨Nat.le_refl 0, Nat.le_refl 0⟩) hS (fun H locs _ hk9 hS => ?_)
                    replace hP := P_keep hP hk9
                    rw [hZ]
                    exact hm_lret hx hb hr hlocks hS hP hK hnd hE (((if_neg c_11).trans ((if_neg c_42).trans ((if_pos c_71).trans ((if_neg c_82_0).trans ((if_neg c_82_1).trans ((if_neg c_82_2).trans ((if_pos c_82_3).trans (if_neg c_154))))))))) dX9_math_167
                  ·
                    have hok := (hok).1 c_154
                    refine lv_lload_n hx hb dX9_math_158 rfl (lv_at hl 4 rfl) ?_
                    refine lv_goto (tgt := 167) hx hb dX9_math_159 (by decide) ?_
                    rw [hZ]
                    exact hm_lret hx hb hr hlocks hS hP hK hnd hE (((if_neg c_11).trans ((if_neg c_42).trans ((if_pos c_71).trans ((if_neg c_82_0).trans ((if_neg c_82_1).trans ((if_neg c_82_2).trans ((if_pos c_82_3).trans (if_pos c_154))))))))) dX9_math_167
                ·
                  have hok := (hok).2 c_82_3
                  by_cases c_82_4 : p0 = 4
                  ·
                    have hok := (hok).1 c_82_4
                    refine lv_tableIn (off := 86) (tgt := 168) hx hb dX9_math_82 (by rw [c_82_4]; decide) (by rw [c_82_4]; decide) (by rw [c_82_4]; decide) (by decide) ?_
                    refine lv_lload_n hx hb dX9_math_168 rfl (lv_at hl 4 rfl) ?_
                    refine lv_ldc2 (v := (9223372036854775807)) hx hb hown (hts _ (List.mem_of_getElem? (i := 3) rfl)) dX9_math_169 ?_
                    refine lv_land hx hb dX9_math_172 ?_
                    rw [hZ]
                    exact hm_lret hx hb hr hlocks hS hP hK hnd hE (((if_neg c_11).trans ((if_neg c_42).trans ((if_pos c_71).trans ((if_neg c_82_0).trans ((if_neg c_82_1).trans ((if_neg c_82_2).trans ((if_neg c_82_3).trans (if_pos c_82_4))))))))) dX9_math_173
                  ·
                    have hok := (hok).2 c_82_4
                    by_cases c_82_5 : p0 = 5
                    ·
                      have hok := (hok).1 c_82_5
                      refine lv_tableIn (off := 92) (tgt := 174) hx hb dX9_math_82 (by rw [c_82_5]; decide) (by rw [c_82_5]; decide) (by rw [c_82_5]; decide) (by decide) ?_
                      refine lv_iload hx hb dX9_math_174 (lv_at hl 0 rfl) ?_
                      refine lv_sipush (v := 2047) hx hb dX9_math_176 (by decide) ?_
                      refine lv_icmp_ne (tgt := 188) hx hb dX9_math_179 (by decide) (fun c_179 => ?_) (fun c_179 => ?_)
                      ·
                        have hok := (hok).2 c_179
                        refine lv_iload hx hb dX9_math_188 (lv_at hl 0 rfl) ?_
                        refine lv_iconst (v := 2) hx hb dX9_math_190 (by decide) ?_
                        refine lv_icmp_ge (tgt := 198) hx hb dX9_math_191 (by decide) (fun c_191 => ?_) (fun c_191 => ?_)
                        ·
                          have hok := (hok).1 c_191
                          refine lv_iload hx hb dX9_math_198 (lv_at hl 0 rfl) ?_
                          refine lv_bipush (v := 52) hx hb dX9_math_200 (by decide) ?_
                          refine lv_icmp_le (tgt := 217) hx hb dX9_math_202 (by decide) (fun c_202 => ?_) (fun c_202 => ?_)
                          ·
                            have hok := (hok).1 c_202
                            refine lv_lconst (v := 1) hx hb dX9_math_217 (by decide) ?_
                            refine lv_iload hx hb dX9_math_218 (lv_at hl 0 rfl) ?_
                            refine lv_iconst (v := 1) hx hb dX9_math_220 (by decide) ?_
                            refine lv_isub hx hb dX9_math_221 ?_
                            refine lv_lshl (v := lShl 1 ((((lUshr p1 52) &&& (2047)).toInt32) - 1)) hx hb dX9_math_222 rfl ?_
                            rw [hZ]
                            exact hm_lret hx hb hr hlocks hS hP hK hnd hE (((if_neg c_11).trans ((if_neg c_42).trans ((if_pos c_71).trans ((if_neg c_82_0).trans ((if_neg c_82_1).trans ((if_neg c_82_2).trans ((if_neg c_82_3).trans ((if_neg c_82_4).trans ((if_pos c_82_5).trans ((if_neg c_179).trans ((if_pos c_191).trans (if_pos c_202))))))))))))) dX9_math_223
                          ·
                            have hok := (hok).2 c_202
                            refine lv_iload hx hb dX9_math_205 (lv_at hl 0 rfl) ?_
                            refine lv_bipush (v := 52) hx hb dX9_math_207 (by decide) ?_
                            refine lv_isub hx hb dX9_math_209 ?_
                            refine lv_i2l (v := ((((lUshr p1 52) &&& (2047)).toInt32) - 52).toInt64) hx hb dX9_math_210 rfl ?_
                            refine lv_bipush (v := 52) hx hb dX9_math_211 (by decide) ?_
                            refine lv_lshl (v := lShl (((((lUshr p1 52) &&& (2047)).toInt32) - 52).toInt64) 52) hx hb dX9_math_213 rfl ?_
                            refine lv_goto (tgt := 223) hx hb dX9_math_214 (by decide) ?_
                            rw [hZ]
                            exact hm_lret hx hb hr hlocks hS hP hK hnd hE (((if_neg c_11).trans ((if_neg c_42).trans ((if_pos c_71).trans ((if_neg c_82_0).trans ((if_neg c_82_1).trans ((if_neg c_82_2).trans ((if_neg c_82_3).trans ((if_neg c_82_4).trans ((if_pos c_82_5).trans ((if_neg c_179).trans ((if_pos c_191).trans (if_neg c_202))))))))))))) dX9_math_223
                        ·
                          have hok := (hok).2 c_191
                          refine lv_lconst (v := 1) hx hb dX9_math_194 (by decide) ?_
                          refine lv_goto (tgt := 223) hx hb dX9_math_195 (by decide) ?_
                          rw [hZ]
                          exact hm_lret hx hb hr hlocks hS hP hK hnd hE (((if_neg c_11).trans ((if_neg c_42).trans ((if_pos c_71).trans ((if_neg c_82_0).trans ((if_neg c_82_1).trans ((if_neg c_82_2).trans ((if_neg c_82_3).trans ((if_neg c_82_4).trans ((if_pos c_82_5).trans ((if_neg c_179).trans (if_neg c_191)))))))))))) dX9_math_223
                      ·
                        have hok := (hok).1 c_179
                        refine lv_ldc2 (v := (9218868437227405312)) hx hb hown (hts _ (List.mem_of_getElem? (i := 4) rfl)) dX9_math_182 ?_
                        refine lv_goto (tgt := 223) hx hb dX9_math_185 (by decide) ?_
                        rw [hZ]
                        exact hm_lret hx hb hr hlocks hS hP hK hnd hE (((if_neg c_11).trans ((if_neg c_42).trans ((if_pos c_71).trans ((if_neg c_82_0).trans ((if_neg c_82_1).trans ((if_neg c_82_2).trans ((if_neg c_82_3).trans ((if_neg c_82_4).trans ((if_pos c_82_5).trans (if_pos c_179))))))))))) dX9_math_223
                    ·
                      have hok := (hok).2 c_82_5
                      by_cases c_82_6 : p0 = 6
                      ·
                        have hok := (hok).1 c_82_6
                        refine lv_tableIn (off := 142) (tgt := 224) hx hb dX9_math_82 (by rw [c_82_6]; decide) (by rw [c_82_6]; decide) (by rw [c_82_6]; decide) (by decide) ?_
                        refine lv_lload_n hx hb dX9_math_224 rfl (lv_at hl 4 rfl) ?_
                        refine lv_ldc2 (v := (9218868437227405312)) hx hb hown (hts _ (List.mem_of_getElem? (i := 4) rfl)) dX9_math_225 ?_
                        refine lp_ne (tgt := 236) hx hb dX9_math_228 dX9_math_229 (by decide) (fun c_228 => ?_) (fun c_228 => ?_)
                        ·
                          have hok := (hok).2 c_228
                          refine lv_dload hx hb dX9_math_236 (lv_at hl 1 rfl) ?_
                          refine lv_dconst0 hx hb dX9_math_238 ?_
                          refine lf_d_lne (tgt := 247) hx hb dX9_math_239 dX9_math_240 (by decide) (fun c_239 => ?_) (fun c_239 => ?_)
                          ·
                            have hok := (hok).2 c_239
                            refine lv_lload_n hx hb dX9_math_247 rfl (lv_at hl 4 rfl) ?_
                            refine lv_lconst (v := 0) hx hb dX9_math_248 (by decide) ?_
                            refine lp_lt (tgt := 259) hx hb dX9_math_249 dX9_math_250 (by decide) (fun c_249 => ?_) (fun c_249 => ?_)
                            ·
                              have hok := (hok).1 c_249
                              refine lv_lload_n hx hb dX9_math_259 rfl (lv_at hl 4 rfl) ?_
                              refine lv_lconst (v := 1) hx hb dX9_math_260 (by decide) ?_
                              refine lv_lsub hx hb dX9_math_261 ?_
                              rw [hZ]
                              exact hm_lret hx hb hr hlocks hS hP hK hnd hE (((if_neg c_11).trans ((if_neg c_42).trans ((if_pos c_71).trans ((if_neg c_82_0).trans ((if_neg c_82_1).trans ((if_neg c_82_2).trans ((if_neg c_82_3).trans ((if_neg c_82_4).trans ((if_neg c_82_5).trans ((if_pos c_82_6).trans ((if_neg c_228).trans ((if_neg c_239).trans (if_pos c_249)))))))))))))) dX9_math_262
                            ·
                              have hok := (hok).2 c_249
                              refine lv_lload_n hx hb dX9_math_253 rfl (lv_at hl 4 rfl) ?_
                              refine lv_lconst (v := 1) hx hb dX9_math_254 (by decide) ?_
                              refine lv_ladd hx hb dX9_math_255 ?_
                              refine lv_goto (tgt := 262) hx hb dX9_math_256 (by decide) ?_
                              rw [hZ]
                              exact hm_lret hx hb hr hlocks hS hP hK hnd hE (((if_neg c_11).trans ((if_neg c_42).trans ((if_pos c_71).trans ((if_neg c_82_0).trans ((if_neg c_82_1).trans ((if_neg c_82_2).trans ((if_neg c_82_3).trans ((if_neg c_82_4).trans ((if_neg c_82_5).trans ((if_pos c_82_6).trans ((if_neg c_228).trans ((if_neg c_239).trans (if_neg c_249)))))))))))))) dX9_math_262
                          ·
                            have hok := (hok).1 c_239
                            refine lv_lconst (v := 1) hx hb dX9_math_243 (by decide) ?_
                            refine lv_goto (tgt := 262) hx hb dX9_math_244 (by decide) ?_
                            rw [hZ]
                            exact hm_lret hx hb hr hlocks hS hP hK hnd hE (((if_neg c_11).trans ((if_neg c_42).trans ((if_pos c_71).trans ((if_neg c_82_0).trans ((if_neg c_82_1).trans ((if_neg c_82_2).trans ((if_neg c_82_3).trans ((if_neg c_82_4).trans ((if_neg c_82_5).trans ((if_pos c_82_6).trans ((if_neg c_228).trans (if_pos c_239))))))))))))) dX9_math_262
                        ·
                          have hok := (hok).1 c_228
                          refine lv_lload_n hx hb dX9_math_232 rfl (lv_at hl 4 rfl) ?_
                          refine lv_goto (tgt := 262) hx hb dX9_math_233 (by decide) ?_
                          rw [hZ]
                          exact hm_lret hx hb hr hlocks hS hP hK hnd hE (((if_neg c_11).trans ((if_neg c_42).trans ((if_pos c_71).trans ((if_neg c_82_0).trans ((if_neg c_82_1).trans ((if_neg c_82_2).trans ((if_neg c_82_3).trans ((if_neg c_82_4).trans ((if_neg c_82_5).trans ((if_pos c_82_6).trans (if_pos c_228)))))))))))) dX9_math_262
                      ·
                        have hok := (hok).2 c_82_6
                        by_cases c_82_7 : p0 = 7
                        ·
                          have hok := (hok).1 c_82_7
                          refine lv_tableIn (off := 181) (tgt := 263) hx hb dX9_math_82 (by rw [c_82_7]; decide) (by rw [c_82_7]; decide) (by rw [c_82_7]; decide) (by decide) ?_
                          refine lv_dload hx hb dX9_math_263 (lv_at hl 1 rfl) ?_
                          refine lv_ldc2d hx hb hown (hts _ (List.mem_of_getElem? (i := 5) rfl)) dX9_math_265 ?_
                          refine lv_dmul hx hb dX9_math_268 (vf_of (nan_mulc (of_dEq c_71) (by decide) (by decide))) ?_
                          refine pm_callL (va_runS (As := [.double (FP.dmul (s_X9_realBits p1) (4620693217682128896))]) (rest := []) ⟨hx, hb, hml, hown, hts⟩ (pm_X9_doubleBits l (FP.dmul (s_X9_realBits p1) (4620693217682128896))) (va_cwS 1 hts gX9_math_X9_doubleBits rfl rfl rfl hd_X9_doubleBits ⟨Nat.le_of_ble_eq_true rfl, Nat.le_of_ble_eq_true rfl⟩) ⟨pm_fbT, fun U hU hW => ⟨rfl, trivial⟩⟩ rfl rfl hl.1 rfl (lv_room (Nat.le_of_ble_eq_true rfl)) dX9_math_269 ⟨Nat.le_refl 0, Nat.le_refl 0⟩) hS (fun H locs _ hk9 hS => ?_)
                          replace hP := P_keep hP hk9
                          rw [hZ]
                          exact hm_lret hx hb hr hlocks hS hP hK hnd hE (((if_neg c_11).trans ((if_neg c_42).trans ((if_pos c_71).trans ((if_neg c_82_0).trans ((if_neg c_82_1).trans ((if_neg c_82_2).trans ((if_neg c_82_3).trans ((if_neg c_82_4).trans ((if_neg c_82_5).trans ((if_neg c_82_6).trans (if_pos c_82_7)))))))))))) dX9_math_272
                        ·
                          have hok := (hok).2 c_82_7
                          have nc_82_0 : (p0).toInt ≠ 0 := fun h => c_82_0 (Int32.toInt.inj (h.trans (by decide)))
                          have nc_82_1 : (p0).toInt ≠ 1 := fun h => c_82_1 (Int32.toInt.inj (h.trans (by decide)))
                          have nc_82_2 : (p0).toInt ≠ 2 := fun h => c_82_2 (Int32.toInt.inj (h.trans (by decide)))
                          have nc_82_3 : (p0).toInt ≠ 3 := fun h => c_82_3 (Int32.toInt.inj (h.trans (by decide)))
                          have nc_82_4 : (p0).toInt ≠ 4 := fun h => c_82_4 (Int32.toInt.inj (h.trans (by decide)))
                          have nc_82_5 : (p0).toInt ≠ 5 := fun h => c_82_5 (Int32.toInt.inj (h.trans (by decide)))
                          have nc_82_6 : (p0).toInt ≠ 6 := fun h => c_82_6 (Int32.toInt.inj (h.trans (by decide)))
                          have nc_82_7 : (p0).toInt ≠ 7 := fun h => c_82_7 (Int32.toInt.inj (h.trans (by decide)))
                          refine lv_tableOut (tgt := 273) hx hb dX9_math_82 (by omega) (by decide) ?_
                          refine lv_dload hx hb dX9_math_273 (lv_at hl 1 rfl) ?_
                          refine lv_ldc2d hx hb hown (hts _ (List.mem_of_getElem? (i := 6) rfl)) dX9_math_275 ?_
                          refine lv_dmul hx hb dX9_math_278 (vf_of (nan_mulc (of_dEq c_71) (by decide) (by decide))) ?_
                          refine pm_callL (va_runS (As := [.double (FP.dmul (s_X9_realBits p1) (4593671619917905920))]) (rest := []) ⟨hx, hb, hml, hown, hts⟩ (pm_X9_doubleBits l (FP.dmul (s_X9_realBits p1) (4593671619917905920))) (va_cwS 1 hts gX9_math_X9_doubleBits rfl rfl rfl hd_X9_doubleBits ⟨Nat.le_of_ble_eq_true rfl, Nat.le_of_ble_eq_true rfl⟩) ⟨pm_fbT, fun U hU hW => ⟨rfl, trivial⟩⟩ rfl rfl hl.1 rfl (lv_room (Nat.le_of_ble_eq_true rfl)) dX9_math_279 ⟨Nat.le_refl 0, Nat.le_refl 0⟩) hS (fun H locs _ hk9 hS => ?_)
                          replace hP := P_keep hP hk9
                          rw [hZ]
                          exact hm_lret hx hb hr hlocks hS hP hK hnd hE (((if_neg c_11).trans ((if_neg c_42).trans ((if_pos c_71).trans ((if_neg c_82_0).trans ((if_neg c_82_1).trans ((if_neg c_82_2).trans ((if_neg c_82_3).trans ((if_neg c_82_4).trans ((if_neg c_82_5).trans ((if_neg c_82_6).trans (if_neg c_82_7)))))))))))) dX9_math_282
        ·
          have hok := (hok).2 c_71
          refine lv_dload hx hb dX9_math_75 (lv_at hl 1 rfl) ?_
          refine pm_callL (va_runS (As := [.double (s_X9_realBits p1)]) (rest := []) ⟨hx, hb, hml, hown, hts⟩ (pm_X9_doubleBits l (s_X9_realBits p1)) (va_cwS 1 hts gX9_math_X9_doubleBits rfl rfl rfl hd_X9_doubleBits ⟨Nat.le_of_ble_eq_true rfl, Nat.le_of_ble_eq_true rfl⟩) ⟨pm_fbT, fun U hU hW => ⟨rfl, trivial⟩⟩ rfl rfl hl.1 rfl (lv_room (Nat.le_of_ble_eq_true rfl)) dX9_math_77 ⟨Nat.le_refl 0, Nat.le_refl 0⟩) hS (fun H locs _ hk9 hS => ?_)
          replace hP := P_keep hP hk9
          rw [hZ]
          exact hm_lret hx hb hr hlocks hS hP hK hnd hE (((if_neg c_11).trans ((if_neg c_42).trans (if_neg c_71)))) dX9_math_80
      ·
        have hok := (hok).1 c_42
        refine lv_iload hx hb dX9_math_45 (lv_at hl 0 rfl) ?_
        refine lv_sipush (v := 2047) hx hb dX9_math_47 (by decide) ?_
        refine lv_icmp_ne (tgt := 59) hx hb dX9_math_50 (by decide) (fun c_50 => ?_) (fun c_50 => ?_)
        ·
          have hok := (hok).2 c_50
          refine lv_iload hx hb dX9_math_59 (lv_at hl 0 rfl) ?_
          refine lv_sipush (v := 1023) hx hb dX9_math_61 (by decide) ?_
          refine lv_isub hx hb dX9_math_64 ?_
          refine lv_i2l (v := ((((lUshr p1 52) &&& (2047)).toInt32) - 1023).toInt64) hx hb dX9_math_65 rfl ?_
          rw [hZ]
          exact hm_lret hx hb hr hlocks hS hP hK hnd hE (((if_neg c_11).trans ((if_pos c_42).trans (if_neg c_50)))) dX9_math_66
        ·
          have hok := (hok).1 c_50
          refine lv_ldc2 (v := (1024)) hx hb hown (hts _ (List.mem_of_getElem? (i := 2) rfl)) dX9_math_53 ?_
          refine lv_goto (tgt := 66) hx hb dX9_math_56 (by decide) ?_
          rw [hZ]
          exact hm_lret hx hb hr hlocks hS hP hK hnd hE (((if_neg c_11).trans ((if_pos c_42).trans (if_pos c_50)))) dX9_math_66
    ·
      have hok := (hok).1 c_11
      refine lv_aload_n hx hb dX9_math_14 rfl (lv_at hl 0 rfl) ?_
      refine lv_bipush (v := 8) hx hb dX9_math_15 (by decide) ?_
      obtain ⟨h_17k, hok⟩ := hok
      obtain ⟨h_17, hok⟩ := hok
      refine hm_callI (G := G) (a := ([.ref x, .int 8] : List Value).toArray) (pr := (h_X9_fails x 8 (h_X9_begin x S))) (rest := []) ?_ hS (fun H locs hP hS => ?_)
      ·
        exact va_runV (As := [.int 8]) (rest := []) ⟨hx, hb, hml, hown, hts⟩ (hm_X9_fails l G L (h_X9_begin x S) x 8 h_17) (cwV 1 hts gX9_math_X9_fails rfl rfl rfl hdv_X9_fails ⟨Nat.le_of_ble_eq_true rfl, Nat.le_of_ble_eq_true rfl⟩) ⟨HW.fb, hp_recv hK hP h_17k.1 (PF_7 h_17k.2) rfl, fun U hU hW => ⟨rfl, HW.call hP hK hnd hE hS U hU hW⟩⟩ rfl rfl hl.1 rfl (lv_room (Nat.le_of_ble_eq_true rfl)) dX9_math_17 ⟨Nat.le_refl 0, Nat.le_refl 0⟩
      ·
        refine lv_i2l (v := ((h_X9_fails x 8 (h_X9_begin x S)).1).toInt64) hx hb dX9_math_20 rfl ?_
        rw [hZ]
        exact hm_lret hx hb hr hlocks hS hP hK hnd hE ((if_pos c_11)) dX9_math_21
theorem hdv_X9_narrow : yX9_narrow.cls = RX9 ∧ yX9_narrow.cls ≠ "java/lang/invoke/MethodHandle" ∧ yX9_narrow.cls ≠ "java/lang/invoke/VarHandle" ∧ (parseMethodDescriptor yX9_narrow.desc).map (fun d => d.parameters.length) = some 2 := by decide +kernel
def h_X9_narrow (x : Nat) (p0 : Int32) (p1 : Int64) (S : HS) : Int64 × HS :=
  if (s_X9_in p0 0 5) = 0 then (((h_X9_fails x 8 (h_X9_begin x S)).1).toInt64, (h_X9_fails x 8 (h_X9_begin x S)).2)
  else if p0 = 0 then ((FP.d2i (s_X9_realBits p1)).toInt64, h_X9_begin x S)
   else if p0 = 1 then (FP.d2l (s_X9_realBits p1), h_X9_begin x S)
    else if p0 = 2 then if dEq (s_X9_realBits p1) (s_X9_realBits p1) then (s_X9_floatBits (FP.d2f (s_X9_realBits p1)), h_X9_begin x S)
      else ((2143289344), h_X9_begin x S)
     else if p0 = 3 then (((FP.d2i (s_X9_realBits p1)).toInt8.toInt32).toInt64, h_X9_begin x S)
      else if p0 = 4 then ((((FP.d2i (s_X9_realBits p1)).toUInt32 % 65536).toInt32).toInt64, h_X9_begin x S)
       else (((FP.d2i (s_X9_realBits p1)).toInt16.toInt32).toInt64, h_X9_begin x S)
def ok_X9_narrow (L : List Nat) (x : Nat) (p0 : Int32) (p1 : Int64) (S : HS) : Prop :=
  (x ∈ L ∧ hsK S x = 7) ∧ ((ok_X9_begin L x S) ∧ ((((s_X9_in p0 0 5) = 0) → ((x ∈ L ∧ hsK (h_X9_begin x S) x = 7) ∧ ((ok_X9_fails L x 8 (h_X9_begin x S)) ∧ (True)))) ∧
  (¬ ((s_X9_in p0 0 5) = 0) → (((p0 = 0) → (True)) ∧
   (¬ (p0 = 0) → (((p0 = 1) → (True)) ∧
    (¬ (p0 = 1) → (((p0 = 2) → (((dEq (s_X9_realBits p1) (s_X9_realBits p1)) → (True)) ∧
      (¬ (dEq (s_X9_realBits p1) (s_X9_realBits p1)) → (True)))) ∧
     (¬ (p0 = 2) → (((p0 = 3) → (True)) ∧
      (¬ (p0 = 3) → (((p0 = 4) → (True)) ∧
       (¬ (p0 = 4) → (True))))))))))))))
set_option maxHeartbeats 4000000 in
set_option maxRecDepth 100000 in
theorem hm_X9_narrow (l : Launch) (G : GE) (L : List Nat) (S : HS) (x : Nat) (p0 : Int32) (p1 : Int64) (hok : ok_X9_narrow L x p0 p1 S) : HmL l G yX9_narrow wsX9_narrow 3 60 [.ref x, .int p0, .long p1] L S (h_X9_narrow x p0 p1 S) := by
  refine Met.ofW (cc := cX9_narrow) (maxL := 6) (ret := (some .long)) (by decide) rfl ?_
  intro p e s m args below meth c s₁ B hml hv
  obtain ⟨rfl, hP, hK, hnd, hE⟩ := hv
  have hx := B.exec
  have hb := B.bytes
  have hr := B.returns
  have hts := atoms_spec (ws := wsX9_narrow) B.pre
  have hown : s.vm.findClass RX9 = some m.cls := findClass_of_methodNamed B.named
  have hlocks := B.notSynchronized
  have hD := nd_D hnd
  have hS : va_S (AL L) s.heap s.heap [] := va_S.rf
  have hl := lv_entry ([.ref x, .int p0, .long p1]) (n := 6) (Nat.le_of_ble_eq_true rfl)
  rw [lg_entry_eq]
  generalize (lg_sl ([.ref x, .int p0, .long p1]) ++ List.replicate (6 - (lg_sl ([.ref x, .int p0, .long p1])).length) Slot.unset).toArray = ls at hl ⊢
  have hl : lv_has ls 6 [(0, .ref x), (1, .int p0), (2, .long p1)] := hl
  obtain ⟨Z, hZ⟩ : ∃ z, z = MQ below (hm_QL G L (h_X9_narrow x p0 p1 S)) ([.ref x, .int p0, .long p1] : List Value).toArray s 0 0 (AL L) := ⟨_, rfl⟩
  rw [← hZ]
  refine lv_aload_n hx hb dX9_narrow_0 rfl (lv_at hl 0 rfl) ?_
  obtain ⟨h_1k, hok⟩ := hok
  obtain ⟨h_1, hok⟩ := hok
  refine hm_callV (G := G) (a := ([.ref x] : List Value).toArray) (pr := (h_X9_begin x S)) (rest := []) ?_ hS (fun H locs hP hS => ?_)
  ·
    exact va_runV (As := []) (rest := []) ⟨hx, hb, hml, hown, hts⟩ (hm_X9_begin l G L S x h_1) (cwV 0 hts gX9_narrow_X9_begin rfl rfl rfl hdv_X9_begin ⟨Nat.le_of_ble_eq_true rfl, Nat.le_of_ble_eq_true rfl⟩) ⟨HW.fb, hp_recv hK hP h_1k.1 (PF_7 h_1k.2) rfl, fun U hU hW => ⟨rfl, HW.call hP hK hnd hE hS U hU hW⟩⟩ rfl rfl hl.1 rfl (lv_room (Nat.le_of_ble_eq_true rfl)) dX9_narrow_1 ⟨Nat.le_refl 0, Nat.le_refl 0⟩
  ·
    refine lv_iload_n hx hb dX9_narrow_4 rfl (lv_at hl 1 rfl) ?_
    refine lv_iconst (v := 0) hx hb dX9_narrow_5 (by decide) ?_
    refine lv_iconst (v := 5) hx hb dX9_narrow_6 (by decide) ?_
    refine pm_callI (va_runS (As := [.int p0, .int 0, .int 5]) (rest := []) ⟨hx, hb, hml, hown, hts⟩ (pm_X9_in l p0 0 5) (va_cwS 3 hts gX9_narrow_X9_in rfl rfl rfl hd_X9_in ⟨Nat.le_of_ble_eq_true rfl, Nat.le_of_ble_eq_true rfl⟩) ⟨pm_fbT, fun U hU hW => ⟨rfl, trivial⟩⟩ rfl rfl hl.1 rfl (lv_room (Nat.le_of_ble_eq_true rfl)) dX9_narrow_7 ⟨Nat.le_refl 0, Nat.le_refl 0⟩) hS (fun H locs _ hk9 hS => ?_)
    replace hP := P_keep hP hk9
    refine lv_if_ne (tgt := 21) hx hb dX9_narrow_10 (by decide) (fun c_10 => ?_) (fun c_10 => ?_)
    ·
      have hok := (hok).2 c_10
      refine lv_lload_n hx hb dX9_narrow_21 rfl (lv_at hl 2 rfl) ?_
      refine pm_callD (va_runS (As := [.long p1]) (rest := []) ⟨hx, hb, hml, hown, hts⟩ (pm_X9_realBits l p1) (va_cwS 1 hts gX9_narrow_X9_realBits rfl rfl rfl hd_X9_realBits ⟨Nat.le_of_ble_eq_true rfl, Nat.le_of_ble_eq_true rfl⟩) ⟨pm_fbT, fun U hU hW => ⟨rfl, trivial⟩⟩ rfl rfl hl.1 rfl (lv_room (Nat.le_of_ble_eq_true rfl)) dX9_narrow_22 ⟨Nat.le_refl 0, Nat.le_refl 0⟩) hS (fun H locs _ hk9 hS => ?_)
      replace hP := P_keep hP hk9
      refine lv_dstore (lv' := [(4, .double (s_X9_realBits p1)), (0, .ref x), (1, .int p0), (2, .long p1)]) hx hb dX9_narrow_25 hl (by decide) rfl (fun ls hl => ?_)
      refine lv_iload_n hx hb dX9_narrow_27 rfl (lv_at hl 2 rfl) ?_
      by_cases c_28_0 : p0 = 0
      ·
        have hok := (hok).1 c_28_0
        refine lv_tableIn (off := 36) (tgt := 64) hx hb dX9_narrow_28 (by rw [c_28_0]; decide) (by rw [c_28_0]; decide) (by rw [c_28_0]; decide) (by decide) ?_
        refine lv_dload hx hb dX9_narrow_64 (lv_at hl 0 rfl) ?_
        refine lv_d2i hx hb dX9_narrow_66 ?_
        refine lv_i2l (v := (FP.d2i (s_X9_realBits p1)).toInt64) hx hb dX9_narrow_67 rfl ?_
        rw [hZ]
        exact hm_lret hx hb hr hlocks hS hP hK hnd hE (((if_neg c_10).trans (if_pos c_28_0))) dX9_narrow_68
      ·
        have hok := (hok).2 c_28_0
        by_cases c_28_1 : p0 = 1
        ·
          have hok := (hok).1 c_28_1
          refine lv_tableIn (off := 41) (tgt := 69) hx hb dX9_narrow_28 (by rw [c_28_1]; decide) (by rw [c_28_1]; decide) (by rw [c_28_1]; decide) (by decide) ?_
          refine lv_dload hx hb dX9_narrow_69 (lv_at hl 0 rfl) ?_
          refine lv_d2l hx hb dX9_narrow_71 ?_
          rw [hZ]
          exact hm_lret hx hb hr hlocks hS hP hK hnd hE (((if_neg c_10).trans ((if_neg c_28_0).trans (if_pos c_28_1)))) dX9_narrow_72
        ·
          have hok := (hok).2 c_28_1
          by_cases c_28_2 : p0 = 2
          ·
            have hok := (hok).1 c_28_2
            refine lv_tableIn (off := 45) (tgt := 73) hx hb dX9_narrow_28 (by rw [c_28_2]; decide) (by rw [c_28_2]; decide) (by rw [c_28_2]; decide) (by decide) ?_
            refine lv_dload hx hb dX9_narrow_73 (lv_at hl 0 rfl) ?_
            refine lv_dload hx hb dX9_narrow_75 (lv_at hl 0 rfl) ?_
            refine lf_d_leq (tgt := 87) hx hb dX9_narrow_77 dX9_narrow_78 (by decide) (fun c_77 => ?_) (fun c_77 => ?_)
            ·
              have hok := (hok).1 c_77
              refine lv_dload hx hb dX9_narrow_87 (lv_at hl 0 rfl) ?_
              refine lv_d2f hx hb dX9_narrow_89 (nan_d2f c_77) ?_
              refine pm_callL (va_runS (As := [.float (FP.d2f (s_X9_realBits p1))]) (rest := []) ⟨hx, hb, hml, hown, hts⟩ (pm_X9_floatBits l (FP.d2f (s_X9_realBits p1))) (va_cwS 1 hts gX9_narrow_X9_floatBits rfl rfl rfl hd_X9_floatBits ⟨Nat.le_of_ble_eq_true rfl, Nat.le_of_ble_eq_true rfl⟩) ⟨pm_fbT, fun U hU hW => ⟨rfl, trivial⟩⟩ rfl rfl hl.1 rfl (lv_room (Nat.le_of_ble_eq_true rfl)) dX9_narrow_90 ⟨Nat.le_refl 0, Nat.le_refl 0⟩) hS (fun H locs _ hk9 hS => ?_)
              replace hP := P_keep hP hk9
              rw [hZ]
              exact hm_lret hx hb hr hlocks hS hP hK hnd hE (((if_neg c_10).trans ((if_neg c_28_0).trans ((if_neg c_28_1).trans ((if_pos c_28_2).trans (if_pos c_77)))))) dX9_narrow_93
            ·
              have hok := (hok).2 c_77
              refine lv_ldc2 (v := (2143289344)) hx hb hown (hts _ (List.mem_of_getElem? (i := 1) rfl)) dX9_narrow_81 ?_
              refine lv_goto (tgt := 93) hx hb dX9_narrow_84 (by decide) ?_
              rw [hZ]
              exact hm_lret hx hb hr hlocks hS hP hK hnd hE (((if_neg c_10).trans ((if_neg c_28_0).trans ((if_neg c_28_1).trans ((if_pos c_28_2).trans (if_neg c_77)))))) dX9_narrow_93
          ·
            have hok := (hok).2 c_28_2
            by_cases c_28_3 : p0 = 3
            ·
              have hok := (hok).1 c_28_3
              refine lv_tableIn (off := 66) (tgt := 94) hx hb dX9_narrow_28 (by rw [c_28_3]; decide) (by rw [c_28_3]; decide) (by rw [c_28_3]; decide) (by decide) ?_
              refine lv_dload hx hb dX9_narrow_94 (lv_at hl 0 rfl) ?_
              refine lv_d2i hx hb dX9_narrow_96 ?_
              refine lv_i2b (v := (FP.d2i (s_X9_realBits p1)).toInt8.toInt32) hx hb dX9_narrow_97 rfl ?_
              refine lv_i2l (v := ((FP.d2i (s_X9_realBits p1)).toInt8.toInt32).toInt64) hx hb dX9_narrow_98 rfl ?_
              rw [hZ]
              exact hm_lret hx hb hr hlocks hS hP hK hnd hE (((if_neg c_10).trans ((if_neg c_28_0).trans ((if_neg c_28_1).trans ((if_neg c_28_2).trans (if_pos c_28_3)))))) dX9_narrow_99
            ·
              have hok := (hok).2 c_28_3
              by_cases c_28_4 : p0 = 4
              ·
                have hok := (hok).1 c_28_4
                refine lv_tableIn (off := 72) (tgt := 100) hx hb dX9_narrow_28 (by rw [c_28_4]; decide) (by rw [c_28_4]; decide) (by rw [c_28_4]; decide) (by decide) ?_
                refine lv_dload hx hb dX9_narrow_100 (lv_at hl 0 rfl) ?_
                refine lv_d2i hx hb dX9_narrow_102 ?_
                refine lv_i2c (v := ((FP.d2i (s_X9_realBits p1)).toUInt32 % 65536).toInt32) hx hb dX9_narrow_103 rfl ?_
                refine lv_i2l (v := (((FP.d2i (s_X9_realBits p1)).toUInt32 % 65536).toInt32).toInt64) hx hb dX9_narrow_104 rfl ?_
                rw [hZ]
                exact hm_lret hx hb hr hlocks hS hP hK hnd hE (((if_neg c_10).trans ((if_neg c_28_0).trans ((if_neg c_28_1).trans ((if_neg c_28_2).trans ((if_neg c_28_3).trans (if_pos c_28_4))))))) dX9_narrow_105
              ·
                have hok := (hok).2 c_28_4
                have nc_28_0 : (p0).toInt ≠ 0 := fun h => c_28_0 (Int32.toInt.inj (h.trans (by decide)))
                have nc_28_1 : (p0).toInt ≠ 1 := fun h => c_28_1 (Int32.toInt.inj (h.trans (by decide)))
                have nc_28_2 : (p0).toInt ≠ 2 := fun h => c_28_2 (Int32.toInt.inj (h.trans (by decide)))
                have nc_28_3 : (p0).toInt ≠ 3 := fun h => c_28_3 (Int32.toInt.inj (h.trans (by decide)))
                have nc_28_4 : (p0).toInt ≠ 4 := fun h => c_28_4 (Int32.toInt.inj (h.trans (by decide)))
                refine lv_tableOut (tgt := 106) hx hb dX9_narrow_28 (by omega) (by decide) ?_
                refine lv_dload hx hb dX9_narrow_106 (lv_at hl 0 rfl) ?_
                refine lv_d2i hx hb dX9_narrow_108 ?_
                refine lv_i2s (v := (FP.d2i (s_X9_realBits p1)).toInt16.toInt32) hx hb dX9_narrow_109 rfl ?_
                refine lv_i2l (v := ((FP.d2i (s_X9_realBits p1)).toInt16.toInt32).toInt64) hx hb dX9_narrow_110 rfl ?_
                rw [hZ]
                exact hm_lret hx hb hr hlocks hS hP hK hnd hE (((if_neg c_10).trans ((if_neg c_28_0).trans ((if_neg c_28_1).trans ((if_neg c_28_2).trans ((if_neg c_28_3).trans (if_neg c_28_4))))))) dX9_narrow_111
    ·
      have hok := (hok).1 c_10
      refine lv_aload_n hx hb dX9_narrow_13 rfl (lv_at hl 0 rfl) ?_
      refine lv_bipush (v := 8) hx hb dX9_narrow_14 (by decide) ?_
      obtain ⟨h_16k, hok⟩ := hok
      obtain ⟨h_16, hok⟩ := hok
      refine hm_callI (G := G) (a := ([.ref x, .int 8] : List Value).toArray) (pr := (h_X9_fails x 8 (h_X9_begin x S))) (rest := []) ?_ hS (fun H locs hP hS => ?_)
      ·
        exact va_runV (As := [.int 8]) (rest := []) ⟨hx, hb, hml, hown, hts⟩ (hm_X9_fails l G L (h_X9_begin x S) x 8 h_16) (cwV 1 hts gX9_narrow_X9_fails rfl rfl rfl hdv_X9_fails ⟨Nat.le_of_ble_eq_true rfl, Nat.le_of_ble_eq_true rfl⟩) ⟨HW.fb, hp_recv hK hP h_16k.1 (PF_7 h_16k.2) rfl, fun U hU hW => ⟨rfl, HW.call hP hK hnd hE hS U hU hW⟩⟩ rfl rfl hl.1 rfl (lv_room (Nat.le_of_ble_eq_true rfl)) dX9_narrow_16 ⟨Nat.le_refl 0, Nat.le_refl 0⟩
      ·
        refine lv_i2l (v := ((h_X9_fails x 8 (h_X9_begin x S)).1).toInt64) hx hb dX9_narrow_19 rfl ?_
        rw [hZ]
        exact hm_lret hx hb hr hlocks hS hP hK hnd hE ((if_pos c_10)) dX9_narrow_20
theorem hdv_X9_widen : yX9_widen.cls = RX9 ∧ yX9_widen.cls ≠ "java/lang/invoke/MethodHandle" ∧ yX9_widen.cls ≠ "java/lang/invoke/VarHandle" ∧ (parseMethodDescriptor yX9_widen.desc).map (fun d => d.parameters.length) = some 2 := by decide +kernel
def h_X9_widen (x : Nat) (p0 : Int32) (p1 : Int64) (S : HS) : Int64 × HS :=
  if (s_X9_in p0 0 3) = 0 then (((h_X9_fails x 8 (h_X9_begin x S)).1).toInt64, (h_X9_fails x 8 (h_X9_begin x S)).2)
  else if p0 = 0 then (s_X9_doubleBits (FP.l2d p1), h_X9_begin x S)
   else if p0 = 1 then (s_X9_floatBits (FP.l2f p1), h_X9_begin x S)
    else if p0 = 2 then (s_X9_doubleBits (s_X9_wide p1.toInt32), h_X9_begin x S)
     else (s_X9_floatBits (FP.i2f p1.toInt32), h_X9_begin x S)
def ok_X9_widen (L : List Nat) (x : Nat) (p0 : Int32) (p1 : Int64) (S : HS) : Prop :=
  (x ∈ L ∧ hsK S x = 7) ∧ ((ok_X9_begin L x S) ∧ ((((s_X9_in p0 0 3) = 0) → ((x ∈ L ∧ hsK (h_X9_begin x S) x = 7) ∧ ((ok_X9_fails L x 8 (h_X9_begin x S)) ∧ (True)))) ∧
  (¬ ((s_X9_in p0 0 3) = 0) → (((p0 = 0) → (True)) ∧
   (¬ (p0 = 0) → (((p0 = 1) → (True)) ∧
    (¬ (p0 = 1) → (((p0 = 2) → (True)) ∧
     (¬ (p0 = 2) → (True))))))))))
set_option maxHeartbeats 4000000 in
set_option maxRecDepth 100000 in
theorem hm_X9_widen (l : Launch) (G : GE) (L : List Nat) (S : HS) (x : Nat) (p0 : Int32) (p1 : Int64) (hok : ok_X9_widen L x p0 p1 S) : HmL l G yX9_widen wsX9_widen 3 63 [.ref x, .int p0, .long p1] L S (h_X9_widen x p0 p1 S) := by
  refine Met.ofW (cc := cX9_widen) (maxL := 4) (ret := (some .long)) (by decide) rfl ?_
  intro p e s m args below meth c s₁ B hml hv
  obtain ⟨rfl, hP, hK, hnd, hE⟩ := hv
  have hx := B.exec
  have hb := B.bytes
  have hr := B.returns
  have hts := atoms_spec (ws := wsX9_widen) B.pre
  have hown : s.vm.findClass RX9 = some m.cls := findClass_of_methodNamed B.named
  have hlocks := B.notSynchronized
  have hD := nd_D hnd
  have hS : va_S (AL L) s.heap s.heap [] := va_S.rf
  have hl := lv_entry ([.ref x, .int p0, .long p1]) (n := 4) (Nat.le_of_ble_eq_true rfl)
  rw [lg_entry_eq]
  generalize (lg_sl ([.ref x, .int p0, .long p1]) ++ List.replicate (4 - (lg_sl ([.ref x, .int p0, .long p1])).length) Slot.unset).toArray = ls at hl ⊢
  have hl : lv_has ls 4 [(0, .ref x), (1, .int p0), (2, .long p1)] := hl
  obtain ⟨Z, hZ⟩ : ∃ z, z = MQ below (hm_QL G L (h_X9_widen x p0 p1 S)) ([.ref x, .int p0, .long p1] : List Value).toArray s 0 0 (AL L) := ⟨_, rfl⟩
  rw [← hZ]
  refine lv_aload_n hx hb dX9_widen_0 rfl (lv_at hl 0 rfl) ?_
  obtain ⟨h_1k, hok⟩ := hok
  obtain ⟨h_1, hok⟩ := hok
  refine hm_callV (G := G) (a := ([.ref x] : List Value).toArray) (pr := (h_X9_begin x S)) (rest := []) ?_ hS (fun H locs hP hS => ?_)
  ·
    exact va_runV (As := []) (rest := []) ⟨hx, hb, hml, hown, hts⟩ (hm_X9_begin l G L S x h_1) (cwV 0 hts gX9_widen_X9_begin rfl rfl rfl hdv_X9_begin ⟨Nat.le_of_ble_eq_true rfl, Nat.le_of_ble_eq_true rfl⟩) ⟨HW.fb, hp_recv hK hP h_1k.1 (PF_7 h_1k.2) rfl, fun U hU hW => ⟨rfl, HW.call hP hK hnd hE hS U hU hW⟩⟩ rfl rfl hl.1 rfl (lv_room (Nat.le_of_ble_eq_true rfl)) dX9_widen_1 ⟨Nat.le_refl 0, Nat.le_refl 0⟩
  ·
    refine lv_iload_n hx hb dX9_widen_4 rfl (lv_at hl 1 rfl) ?_
    refine lv_iconst (v := 0) hx hb dX9_widen_5 (by decide) ?_
    refine lv_iconst (v := 3) hx hb dX9_widen_6 (by decide) ?_
    refine pm_callI (va_runS (As := [.int p0, .int 0, .int 3]) (rest := []) ⟨hx, hb, hml, hown, hts⟩ (pm_X9_in l p0 0 3) (va_cwS 3 hts gX9_widen_X9_in rfl rfl rfl hd_X9_in ⟨Nat.le_of_ble_eq_true rfl, Nat.le_of_ble_eq_true rfl⟩) ⟨pm_fbT, fun U hU hW => ⟨rfl, trivial⟩⟩ rfl rfl hl.1 rfl (lv_room (Nat.le_of_ble_eq_true rfl)) dX9_widen_7 ⟨Nat.le_refl 0, Nat.le_refl 0⟩) hS (fun H locs _ hk9 hS => ?_)
    replace hP := P_keep hP hk9
    refine lv_if_ne (tgt := 21) hx hb dX9_widen_10 (by decide) (fun c_10 => ?_) (fun c_10 => ?_)
    ·
      have hok := (hok).2 c_10
      refine lv_iload_n hx hb dX9_widen_21 rfl (lv_at hl 1 rfl) ?_
      by_cases c_22_0 : p0 = 0
      ·
        have hok := (hok).1 c_22_0
        refine lv_tableIn (off := 26) (tgt := 48) hx hb dX9_widen_22 (by rw [c_22_0]; decide) (by rw [c_22_0]; decide) (by rw [c_22_0]; decide) (by decide) ?_
        refine lv_lload_n hx hb dX9_widen_48 rfl (lv_at hl 2 rfl) ?_
        refine lv_l2d hx hb dX9_widen_49 ?_
        refine pm_callL (va_runS (As := [.double (FP.l2d p1)]) (rest := []) ⟨hx, hb, hml, hown, hts⟩ (pm_X9_doubleBits l (FP.l2d p1)) (va_cwS 1 hts gX9_widen_X9_doubleBits rfl rfl rfl hd_X9_doubleBits ⟨Nat.le_of_ble_eq_true rfl, Nat.le_of_ble_eq_true rfl⟩) ⟨pm_fbT, fun U hU hW => ⟨rfl, trivial⟩⟩ rfl rfl hl.1 rfl (lv_room (Nat.le_of_ble_eq_true rfl)) dX9_widen_50 ⟨Nat.le_refl 0, Nat.le_refl 0⟩) hS (fun H locs _ hk9 hS => ?_)
        replace hP := P_keep hP hk9
        rw [hZ]
        exact hm_lret hx hb hr hlocks hS hP hK hnd hE (((if_neg c_10).trans (if_pos c_22_0))) dX9_widen_53
      ·
        have hok := (hok).2 c_22_0
        by_cases c_22_1 : p0 = 1
        ·
          have hok := (hok).1 c_22_1
          refine lv_tableIn (off := 32) (tgt := 54) hx hb dX9_widen_22 (by rw [c_22_1]; decide) (by rw [c_22_1]; decide) (by rw [c_22_1]; decide) (by decide) ?_
          refine lv_lload_n hx hb dX9_widen_54 rfl (lv_at hl 2 rfl) ?_
          refine lv_l2f hx hb dX9_widen_55 ?_
          refine pm_callL (va_runS (As := [.float (FP.l2f p1)]) (rest := []) ⟨hx, hb, hml, hown, hts⟩ (pm_X9_floatBits l (FP.l2f p1)) (va_cwS 1 hts gX9_widen_X9_floatBits rfl rfl rfl hd_X9_floatBits ⟨Nat.le_of_ble_eq_true rfl, Nat.le_of_ble_eq_true rfl⟩) ⟨pm_fbT, fun U hU hW => ⟨rfl, trivial⟩⟩ rfl rfl hl.1 rfl (lv_room (Nat.le_of_ble_eq_true rfl)) dX9_widen_56 ⟨Nat.le_refl 0, Nat.le_refl 0⟩) hS (fun H locs _ hk9 hS => ?_)
          replace hP := P_keep hP hk9
          rw [hZ]
          exact hm_lret hx hb hr hlocks hS hP hK hnd hE (((if_neg c_10).trans ((if_neg c_22_0).trans (if_pos c_22_1)))) dX9_widen_59
        ·
          have hok := (hok).2 c_22_1
          by_cases c_22_2 : p0 = 2
          ·
            have hok := (hok).1 c_22_2
            refine lv_tableIn (off := 38) (tgt := 60) hx hb dX9_widen_22 (by rw [c_22_2]; decide) (by rw [c_22_2]; decide) (by rw [c_22_2]; decide) (by decide) ?_
            refine lv_lload_n hx hb dX9_widen_60 rfl (lv_at hl 2 rfl) ?_
            refine lv_l2i (v := p1.toInt32) hx hb dX9_widen_61 rfl ?_
            refine pm_callD (va_runS (As := [.int p1.toInt32]) (rest := []) ⟨hx, hb, hml, hown, hts⟩ (pm_X9_wide l p1.toInt32) (va_cwS 1 hts gX9_widen_X9_wide rfl rfl rfl hd_X9_wide ⟨Nat.le_of_ble_eq_true rfl, Nat.le_of_ble_eq_true rfl⟩) ⟨pm_fbT, fun U hU hW => ⟨rfl, trivial⟩⟩ rfl rfl hl.1 rfl (lv_room (Nat.le_of_ble_eq_true rfl)) dX9_widen_62 ⟨Nat.le_refl 0, Nat.le_refl 0⟩) hS (fun H locs _ hk9 hS => ?_)
            replace hP := P_keep hP hk9
            refine pm_callL (va_runS (As := [.double (s_X9_wide p1.toInt32)]) (rest := []) ⟨hx, hb, hml, hown, hts⟩ (pm_X9_doubleBits l (s_X9_wide p1.toInt32)) (va_cwS 1 hts gX9_widen_X9_doubleBits rfl rfl rfl hd_X9_doubleBits ⟨Nat.le_of_ble_eq_true rfl, Nat.le_of_ble_eq_true rfl⟩) ⟨pm_fbT, fun U hU hW => ⟨rfl, trivial⟩⟩ rfl rfl hl.1 rfl (lv_room (Nat.le_of_ble_eq_true rfl)) dX9_widen_65 ⟨Nat.le_refl 0, Nat.le_refl 0⟩) hS (fun H locs _ hk9 hS => ?_)
            replace hP := P_keep hP hk9
            rw [hZ]
            exact hm_lret hx hb hr hlocks hS hP hK hnd hE (((if_neg c_10).trans ((if_neg c_22_0).trans ((if_neg c_22_1).trans (if_pos c_22_2))))) dX9_widen_68
          ·
            have hok := (hok).2 c_22_2
            have nc_22_0 : (p0).toInt ≠ 0 := fun h => c_22_0 (Int32.toInt.inj (h.trans (by decide)))
            have nc_22_1 : (p0).toInt ≠ 1 := fun h => c_22_1 (Int32.toInt.inj (h.trans (by decide)))
            have nc_22_2 : (p0).toInt ≠ 2 := fun h => c_22_2 (Int32.toInt.inj (h.trans (by decide)))
            refine lv_tableOut (tgt := 69) hx hb dX9_widen_22 (by omega) (by decide) ?_
            refine lv_lload_n hx hb dX9_widen_69 rfl (lv_at hl 2 rfl) ?_
            refine lv_l2i (v := p1.toInt32) hx hb dX9_widen_70 rfl ?_
            refine lv_i2f hx hb dX9_widen_71 ?_
            refine pm_callL (va_runS (As := [.float (FP.i2f p1.toInt32)]) (rest := []) ⟨hx, hb, hml, hown, hts⟩ (pm_X9_floatBits l (FP.i2f p1.toInt32)) (va_cwS 1 hts gX9_widen_X9_floatBits rfl rfl rfl hd_X9_floatBits ⟨Nat.le_of_ble_eq_true rfl, Nat.le_of_ble_eq_true rfl⟩) ⟨pm_fbT, fun U hU hW => ⟨rfl, trivial⟩⟩ rfl rfl hl.1 rfl (lv_room (Nat.le_of_ble_eq_true rfl)) dX9_widen_72 ⟨Nat.le_refl 0, Nat.le_refl 0⟩) hS (fun H locs _ hk9 hS => ?_)
            replace hP := P_keep hP hk9
            rw [hZ]
            exact hm_lret hx hb hr hlocks hS hP hK hnd hE (((if_neg c_10).trans ((if_neg c_22_0).trans ((if_neg c_22_1).trans (if_neg c_22_2))))) dX9_widen_75
    ·
      have hok := (hok).1 c_10
      refine lv_aload_n hx hb dX9_widen_13 rfl (lv_at hl 0 rfl) ?_
      refine lv_bipush (v := 8) hx hb dX9_widen_14 (by decide) ?_
      obtain ⟨h_16k, hok⟩ := hok
      obtain ⟨h_16, hok⟩ := hok
      refine hm_callI (G := G) (a := ([.ref x, .int 8] : List Value).toArray) (pr := (h_X9_fails x 8 (h_X9_begin x S))) (rest := []) ?_ hS (fun H locs hP hS => ?_)
      ·
        exact va_runV (As := [.int 8]) (rest := []) ⟨hx, hb, hml, hown, hts⟩ (hm_X9_fails l G L (h_X9_begin x S) x 8 h_16) (cwV 1 hts gX9_widen_X9_fails rfl rfl rfl hdv_X9_fails ⟨Nat.le_of_ble_eq_true rfl, Nat.le_of_ble_eq_true rfl⟩) ⟨HW.fb, hp_recv hK hP h_16k.1 (PF_7 h_16k.2) rfl, fun U hU hW => ⟨rfl, HW.call hP hK hnd hE hS U hU hW⟩⟩ rfl rfl hl.1 rfl (lv_room (Nat.le_of_ble_eq_true rfl)) dX9_widen_16 ⟨Nat.le_refl 0, Nat.le_refl 0⟩
      ·
        refine lv_i2l (v := ((h_X9_fails x 8 (h_X9_begin x S)).1).toInt64) hx hb dX9_widen_19 rfl ?_
        rw [hZ]
        exact hm_lret hx hb hr hlocks hS hP hK hnd hE ((if_pos c_10)) dX9_widen_20
theorem hdv_X9_compare : yX9_compare.cls = RX9 ∧ yX9_compare.cls ≠ "java/lang/invoke/MethodHandle" ∧ yX9_compare.cls ≠ "java/lang/invoke/VarHandle" ∧ (parseMethodDescriptor yX9_compare.desc).map (fun d => d.parameters.length) = some 3 := by decide +kernel
def h_X9_compare_j61 (x : Nat) (p0 : Int32) (p1 : Int64) (p2 : Int64) (z_39_0 : UInt64) (z_61_0 : UInt64) (S : HS) : Int32 × HS :=
  if (s_X9_holds (p0 - p0 / 6 * 6) z_39_0 z_61_0) = 0 then (0, h_X9_begin x S)
  else (1, h_X9_begin x S)
def ok_X9_compare_j61 (L : List Nat) (x : Nat) (p0 : Int32) (p1 : Int64) (p2 : Int64) (z_39_0 : UInt64) (z_61_0 : UInt64) (S : HS) : Prop :=
  (((s_X9_holds (p0 - p0 / 6 * 6) z_39_0 z_61_0) = 0) → (True)) ∧
  (¬ ((s_X9_holds (p0 - p0 / 6 * 6) z_39_0 z_61_0) = 0) → (True))
def h_X9_compare_j39 (x : Nat) (p0 : Int32) (p1 : Int64) (p2 : Int64) (z_39_0 : UInt64) (S : HS) : Int32 × HS :=
  if 6 ≤ p0 then h_X9_compare_j61 x p0 p1 p2 z_39_0 (s_X9_wide p2.toInt32) S
  else h_X9_compare_j61 x p0 p1 p2 z_39_0 (s_X9_realBits p2) S
def ok_X9_compare_j39 (L : List Nat) (x : Nat) (p0 : Int32) (p1 : Int64) (p2 : Int64) (z_39_0 : UInt64) (S : HS) : Prop :=
  ((6 ≤ p0) → (ok_X9_compare_j61 L x p0 p1 p2 z_39_0 (s_X9_wide p2.toInt32) S)) ∧
  (¬ (6 ≤ p0) → (ok_X9_compare_j61 L x p0 p1 p2 z_39_0 (s_X9_realBits p2) S))
def h_X9_compare (x : Nat) (p0 : Int32) (p1 : Int64) (p2 : Int64) (S : HS) : Int32 × HS :=
  if (s_X9_in p0 0 11) = 0 then ((h_X9_fails x 8 (h_X9_begin x S)).1, (h_X9_fails x 8 (h_X9_begin x S)).2)
  else if 6 ≤ p0 then h_X9_compare_j39 x p0 p1 p2 (s_X9_wide p1.toInt32) S
   else h_X9_compare_j39 x p0 p1 p2 (s_X9_realBits p1) S
def ok_X9_compare (L : List Nat) (x : Nat) (p0 : Int32) (p1 : Int64) (p2 : Int64) (S : HS) : Prop :=
  (x ∈ L ∧ hsK S x = 7) ∧ ((ok_X9_begin L x S) ∧ ((((s_X9_in p0 0 11) = 0) → ((x ∈ L ∧ hsK (h_X9_begin x S) x = 7) ∧ ((ok_X9_fails L x 8 (h_X9_begin x S)) ∧ (True)))) ∧
  (¬ ((s_X9_in p0 0 11) = 0) → (((6 ≤ p0) → (ok_X9_compare_j39 L x p0 p1 p2 (s_X9_wide p1.toInt32) S)) ∧
   (¬ (6 ≤ p0) → (ok_X9_compare_j39 L x p0 p1 p2 (s_X9_realBits p1) S))))))
set_option maxHeartbeats 4000000 in
set_option maxRecDepth 100000 in
theorem hm_X9_compare (l : Launch) (G : GE) (L : List Nat) (S : HS) (x : Nat) (p0 : Int32) (p1 : Int64) (p2 : Int64) (hok : ok_X9_compare L x p0 p1 p2 S) : HmI l G yX9_compare wsX9_compare 3 56 [.ref x, .int p0, .long p1, .long p2] L S (h_X9_compare x p0 p1 p2 S) := by
  refine Met.ofW (cc := cX9_compare) (maxL := 10) (ret := (some .int)) (by decide) rfl ?_
  intro p e s m args below meth c s₁ B hml hv
  obtain ⟨rfl, hP, hK, hnd, hE⟩ := hv
  have hx := B.exec
  have hb := B.bytes
  have hr := B.returns
  have hts := atoms_spec (ws := wsX9_compare) B.pre
  have hown : s.vm.findClass RX9 = some m.cls := findClass_of_methodNamed B.named
  have hlocks := B.notSynchronized
  have hD := nd_D hnd
  have hS : va_S (AL L) s.heap s.heap [] := va_S.rf
  have hl := lv_entry ([.ref x, .int p0, .long p1, .long p2]) (n := 10) (Nat.le_of_ble_eq_true rfl)
  rw [lg_entry_eq]
  generalize (lg_sl ([.ref x, .int p0, .long p1, .long p2]) ++ List.replicate (10 - (lg_sl ([.ref x, .int p0, .long p1, .long p2])).length) Slot.unset).toArray = ls at hl ⊢
  have hl : lv_has ls 10 [(0, .ref x), (1, .int p0), (2, .long p1), (4, .long p2)] := hl
  obtain ⟨Z, hZ⟩ : ∃ z, z = MQ below (hm_QI G L (h_X9_compare x p0 p1 p2 S)) ([.ref x, .int p0, .long p1, .long p2] : List Value).toArray s 0 0 (AL L) := ⟨_, rfl⟩
  rw [← hZ]
  refine lv_aload_n hx hb dX9_compare_0 rfl (lv_at hl 0 rfl) ?_
  obtain ⟨h_1k, hok⟩ := hok
  obtain ⟨h_1, hok⟩ := hok
  refine hm_callV (G := G) (a := ([.ref x] : List Value).toArray) (pr := (h_X9_begin x S)) (rest := []) ?_ hS (fun H locs hP hS => ?_)
  ·
    exact va_runV (As := []) (rest := []) ⟨hx, hb, hml, hown, hts⟩ (hm_X9_begin l G L S x h_1) (cwV 0 hts gX9_compare_X9_begin rfl rfl rfl hdv_X9_begin ⟨Nat.le_of_ble_eq_true rfl, Nat.le_of_ble_eq_true rfl⟩) ⟨HW.fb, hp_recv hK hP h_1k.1 (PF_7 h_1k.2) rfl, fun U hU hW => ⟨rfl, HW.call hP hK hnd hE hS U hU hW⟩⟩ rfl rfl hl.1 rfl (lv_room (Nat.le_of_ble_eq_true rfl)) dX9_compare_1 ⟨Nat.le_refl 0, Nat.le_refl 0⟩
  ·
    refine lv_iload_n hx hb dX9_compare_4 rfl (lv_at hl 1 rfl) ?_
    refine lv_iconst (v := 0) hx hb dX9_compare_5 (by decide) ?_
    refine lv_bipush (v := 11) hx hb dX9_compare_6 (by decide) ?_
    refine pm_callI (va_runS (As := [.int p0, .int 0, .int 11]) (rest := []) ⟨hx, hb, hml, hown, hts⟩ (pm_X9_in l p0 0 11) (va_cwS 3 hts gX9_compare_X9_in rfl rfl rfl hd_X9_in ⟨Nat.le_of_ble_eq_true rfl, Nat.le_of_ble_eq_true rfl⟩) ⟨pm_fbT, fun U hU hW => ⟨rfl, trivial⟩⟩ rfl rfl hl.1 rfl (lv_room (Nat.le_of_ble_eq_true rfl)) dX9_compare_8 ⟨Nat.le_refl 0, Nat.le_refl 0⟩) hS (fun H locs _ hk9 hS => ?_)
    replace hP := P_keep hP hk9
    refine lv_if_ne (tgt := 21) hx hb dX9_compare_11 (by decide) (fun c_11 => ?_) (fun c_11 => ?_)
    ·
      have hok := (hok).2 c_11
      refine lv_iload_n hx hb dX9_compare_21 rfl (lv_at hl 1 rfl) ?_
      refine lv_bipush (v := 6) hx hb dX9_compare_22 (by decide) ?_
      have K_39 : ∀ (z_39_0 : UInt64) (H : Heap) (locs : List Loc), va_P (gD G) vwCl (va_pl L (PF G (h_X9_begin x S))) H → va_S (AL L) s.heap H locs → ∀ (ls : Array Slot), lv_has ls 10 [(1, .int p0), (4, .long p2)] → ok_X9_compare_j39 L x p0 p1 p2 z_39_0 S → h_X9_compare x p0 p1 p2 S = h_X9_compare_j39 x p0 p1 p2 z_39_0 S → W p l e (pm_R 3 56) s m ([.ref x, .int p0, .long p1, .long p2] : List Value).toArray below meth c H locs 0 0 Z (F0 m 39 ls [.double z_39_0]) := by
        intro z_39_0 H locs hP hS ls hl hok hK_39
        refine lv_dstore (lv' := [(6, .double z_39_0), (1, .int p0), (4, .long p2)]) hx hb dX9_compare_39 hl (by decide) rfl (fun ls hl => ?_)
        refine lv_iload_n hx hb dX9_compare_41 rfl (lv_at hl 1 rfl) ?_
        refine lv_bipush (v := 6) hx hb dX9_compare_42 (by decide) ?_
        have K_61 : ∀ (z_61_0 : UInt64) (H : Heap) (locs : List Loc), va_P (gD G) vwCl (va_pl L (PF G (h_X9_begin x S))) H → va_S (AL L) s.heap H locs → ∀ (ls : Array Slot), lv_has ls 10 [(1, .int p0), (6, .double z_39_0)] → ok_X9_compare_j61 L x p0 p1 p2 z_39_0 z_61_0 S → h_X9_compare x p0 p1 p2 S = h_X9_compare_j61 x p0 p1 p2 z_39_0 z_61_0 S → W p l e (pm_R 3 56) s m ([.ref x, .int p0, .long p1, .long p2] : List Value).toArray below meth c H locs 0 0 Z (F0 m 61 ls [.double z_61_0]) := by
          intro z_61_0 H locs hP hS ls hl hok hK_61
          refine lv_dstore (lv' := [(8, .double z_61_0), (1, .int p0), (6, .double z_39_0)]) hx hb dX9_compare_61 hl (by decide) rfl (fun ls hl => ?_)
          refine lv_iload_n hx hb dX9_compare_63 rfl (lv_at hl 1 rfl) ?_
          refine lv_bipush (v := 6) hx hb dX9_compare_64 (by decide) ?_
          refine lv_irem hx hb dX9_compare_66 (by decide) ?_
          refine lv_dload hx hb dX9_compare_67 (lv_at hl 2 rfl) ?_
          refine lv_dload hx hb dX9_compare_69 (lv_at hl 0 rfl) ?_
          refine pm_callI (va_runS (As := [.int (p0 - p0 / 6 * 6), .double z_39_0, .double z_61_0]) (rest := []) ⟨hx, hb, hml, hown, hts⟩ (pm_X9_holds l (p0 - p0 / 6 * 6) z_39_0 z_61_0) (va_cwS 3 hts gX9_compare_X9_holds rfl rfl rfl hd_X9_holds ⟨Nat.le_of_ble_eq_true rfl, Nat.le_of_ble_eq_true rfl⟩) ⟨pm_fbT, fun U hU hW => ⟨rfl, trivial⟩⟩ rfl rfl hl.1 rfl (lv_room (Nat.le_of_ble_eq_true rfl)) dX9_compare_71 ⟨Nat.le_refl 0, Nat.le_refl 0⟩) hS (fun H locs _ hk9 hS => ?_)
          replace hP := P_keep hP hk9
          refine lv_if_eq (tgt := 81) hx hb dX9_compare_74 (by decide) (fun c_74 => ?_) (fun c_74 => ?_)
          ·
            have hok := (hok).1 c_74
            refine lv_iconst (v := 0) hx hb dX9_compare_81 (by decide) ?_
            rw [hZ]
            exact hm_iret hx hb hr hlocks hS hP hK hnd hE (((hK_61).trans (if_pos c_74))) dX9_compare_82
          ·
            have hok := (hok).2 c_74
            refine lv_iconst (v := 1) hx hb dX9_compare_77 (by decide) ?_
            refine lv_goto (tgt := 82) hx hb dX9_compare_78 (by decide) ?_
            rw [hZ]
            exact hm_iret hx hb hr hlocks hS hP hK hnd hE (((hK_61).trans (if_neg c_74))) dX9_compare_82
        refine lv_icmp_ge (tgt := 55) hx hb dX9_compare_44 (by decide) (fun c_44 => ?_) (fun c_44 => ?_)
        ·
          have hok := (hok).1 c_44
          refine lv_lload hx hb dX9_compare_55 (lv_at hl 2 rfl) ?_
          refine lv_l2i (v := p2.toInt32) hx hb dX9_compare_57 rfl ?_
          refine pm_callD (va_runS (As := [.int p2.toInt32]) (rest := []) ⟨hx, hb, hml, hown, hts⟩ (pm_X9_wide l p2.toInt32) (va_cwS 1 hts gX9_compare_X9_wide rfl rfl rfl hd_X9_wide ⟨Nat.le_of_ble_eq_true rfl, Nat.le_of_ble_eq_true rfl⟩) ⟨pm_fbT, fun U hU hW => ⟨rfl, trivial⟩⟩ rfl rfl hl.1 rfl (lv_room (Nat.le_of_ble_eq_true rfl)) dX9_compare_58 ⟨Nat.le_refl 0, Nat.le_refl 0⟩) hS (fun H locs _ hk9 hS => ?_)
          replace hP := P_keep hP hk9
          exact K_61 (s_X9_wide p2.toInt32) _ _ hP hS ls (lv_sub hl [1, 0] rfl) hok (((hK_39).trans (if_pos c_44)))
        ·
          have hok := (hok).2 c_44
          refine lv_lload hx hb dX9_compare_47 (lv_at hl 2 rfl) ?_
          refine pm_callD (va_runS (As := [.long p2]) (rest := []) ⟨hx, hb, hml, hown, hts⟩ (pm_X9_realBits l p2) (va_cwS 1 hts gX9_compare_X9_realBits rfl rfl rfl hd_X9_realBits ⟨Nat.le_of_ble_eq_true rfl, Nat.le_of_ble_eq_true rfl⟩) ⟨pm_fbT, fun U hU hW => ⟨rfl, trivial⟩⟩ rfl rfl hl.1 rfl (lv_room (Nat.le_of_ble_eq_true rfl)) dX9_compare_49 ⟨Nat.le_refl 0, Nat.le_refl 0⟩) hS (fun H locs _ hk9 hS => ?_)
          replace hP := P_keep hP hk9
          refine lv_goto (tgt := 61) hx hb dX9_compare_52 (by decide) ?_
          exact K_61 (s_X9_realBits p2) _ _ hP hS ls (lv_sub hl [1, 0] rfl) hok (((hK_39).trans (if_neg c_44)))
      refine lv_icmp_ge (tgt := 34) hx hb dX9_compare_24 (by decide) (fun c_24 => ?_) (fun c_24 => ?_)
      ·
        have hok := (hok).1 c_24
        refine lv_lload_n hx hb dX9_compare_34 rfl (lv_at hl 2 rfl) ?_
        refine lv_l2i (v := p1.toInt32) hx hb dX9_compare_35 rfl ?_
        refine pm_callD (va_runS (As := [.int p1.toInt32]) (rest := []) ⟨hx, hb, hml, hown, hts⟩ (pm_X9_wide l p1.toInt32) (va_cwS 1 hts gX9_compare_X9_wide rfl rfl rfl hd_X9_wide ⟨Nat.le_of_ble_eq_true rfl, Nat.le_of_ble_eq_true rfl⟩) ⟨pm_fbT, fun U hU hW => ⟨rfl, trivial⟩⟩ rfl rfl hl.1 rfl (lv_room (Nat.le_of_ble_eq_true rfl)) dX9_compare_36 ⟨Nat.le_refl 0, Nat.le_refl 0⟩) hS (fun H locs _ hk9 hS => ?_)
        replace hP := P_keep hP hk9
        exact K_39 (s_X9_wide p1.toInt32) _ _ hP hS ls (lv_sub hl [1, 3] rfl) hok (((if_neg c_11).trans (if_pos c_24)))
      ·
        have hok := (hok).2 c_24
        refine lv_lload_n hx hb dX9_compare_27 rfl (lv_at hl 2 rfl) ?_
        refine pm_callD (va_runS (As := [.long p1]) (rest := []) ⟨hx, hb, hml, hown, hts⟩ (pm_X9_realBits l p1) (va_cwS 1 hts gX9_compare_X9_realBits rfl rfl rfl hd_X9_realBits ⟨Nat.le_of_ble_eq_true rfl, Nat.le_of_ble_eq_true rfl⟩) ⟨pm_fbT, fun U hU hW => ⟨rfl, trivial⟩⟩ rfl rfl hl.1 rfl (lv_room (Nat.le_of_ble_eq_true rfl)) dX9_compare_28 ⟨Nat.le_refl 0, Nat.le_refl 0⟩) hS (fun H locs _ hk9 hS => ?_)
        replace hP := P_keep hP hk9
        refine lv_goto (tgt := 39) hx hb dX9_compare_31 (by decide) ?_
        exact K_39 (s_X9_realBits p1) _ _ hP hS ls (lv_sub hl [1, 3] rfl) hok (((if_neg c_11).trans (if_neg c_24)))
    ·
      have hok := (hok).1 c_11
      refine lv_aload_n hx hb dX9_compare_14 rfl (lv_at hl 0 rfl) ?_
      refine lv_bipush (v := 8) hx hb dX9_compare_15 (by decide) ?_
      obtain ⟨h_17k, hok⟩ := hok
      obtain ⟨h_17, hok⟩ := hok
      refine hm_callI (G := G) (a := ([.ref x, .int 8] : List Value).toArray) (pr := (h_X9_fails x 8 (h_X9_begin x S))) (rest := []) ?_ hS (fun H locs hP hS => ?_)
      ·
        exact va_runV (As := [.int 8]) (rest := []) ⟨hx, hb, hml, hown, hts⟩ (hm_X9_fails l G L (h_X9_begin x S) x 8 h_17) (cwV 1 hts gX9_compare_X9_fails rfl rfl rfl hdv_X9_fails ⟨Nat.le_of_ble_eq_true rfl, Nat.le_of_ble_eq_true rfl⟩) ⟨HW.fb, hp_recv hK hP h_17k.1 (PF_7 h_17k.2) rfl, fun U hU hW => ⟨rfl, HW.call hP hK hnd hE hS U hU hW⟩⟩ rfl rfl hl.1 rfl (lv_room (Nat.le_of_ble_eq_true rfl)) dX9_compare_17 ⟨Nat.le_refl 0, Nat.le_refl 0⟩
      ·
        rw [hZ]
        exact hm_iret hx hb hr hlocks hS hP hK hnd hE ((if_pos c_11)) dX9_compare_20
theorem hdv_X9_pass : yX9_pass.cls = RX9 ∧ yX9_pass.cls ≠ "java/lang/invoke/MethodHandle" ∧ yX9_pass.cls ≠ "java/lang/invoke/VarHandle" ∧ (parseMethodDescriptor yX9_pass.desc).map (fun d => d.parameters.length) = some 3 := by decide +kernel
theorem iw_X9_pass_X9 : ∀ w ∈ u_ws RX9 TX9 12, w ∈ wsX9_pass := by decide +kernel
def h_X9_pass_j21 (x : Nat) (p0 : Int32) (p1 : Int32) (p2 : Int32) (S : HS) : Int64 × HS :=
  (((h_X9_fails x 8 (h_X9_begin x S)).1).toInt64, (h_X9_fails x 8 (h_X9_begin x S)).2)
def ok_X9_pass_j21 (L : List Nat) (x : Nat) (p0 : Int32) (p1 : Int32) (p2 : Int32) (S : HS) : Prop :=
  (x ∈ L ∧ hsK (h_X9_begin x S) x = 7) ∧ ((ok_X9_fails L x 8 (h_X9_begin x S)) ∧ (True))
def h_X9_pass (x : Nat) (p0 : Int32) (p1 : Int32) (p2 : Int32) (S : HS) : Int64 × HS :=
  if (s_X9_in p0 0 6) = 0 then h_X9_pass_j21 x p0 p1 p2 S
  else if (s_X9_isCell p1) = 0 then h_X9_pass_j21 x p0 p1 p2 S
   else if (h_X9_against x p0 (hsA (h_X9_begin x S) ((hsQ (h_X9_begin x S) x 8).getD 0) p1.toNatClampNeg) p2 (h_X9_begin x S)) = 1 then (((h_X9_fails x 1 (hwI (h_X9_begin x S) x 11 41)).1).toInt64, (h_X9_fails x 1 (hwI (h_X9_begin x S) x 11 41)).2)
    else if (h_X9_against x p0 (hsA (h_X9_begin x S) ((hsQ (h_X9_begin x S) x 8).getD 0) p1.toNatClampNeg) p2 (h_X9_begin x S)) = 2 then ((-102), (hwI (h_X9_begin x S) x 11 25))
     else if (h_X9_against x p0 (hsA (h_X9_begin x S) ((hsQ (h_X9_begin x S) x 8).getD 0) p1.toNatClampNeg) p2 (h_X9_begin x S)) = 3 then (h_X9_element x (hsA (hwI (h_X9_begin x S) x 11 75) ((hsQ (hwI (h_X9_begin x S) x 11 75) x 8).getD 0) p1.toNatClampNeg) p2 (hwI (h_X9_begin x S) x 11 75), (hwI (h_X9_begin x S) x 11 75))
      else if (h_X9_against x p0 (hsA (h_X9_begin x S) ((hsQ (h_X9_begin x S) x 8).getD 0) p1.toNatClampNeg) p2 (h_X9_begin x S)) = 4 then ((-104), (hwI (h_X9_begin x S) x 11 77))
       else (h_X9_element x (hsA (hwI (h_X9_begin x S) x 11 75) ((hsQ (hwI (h_X9_begin x S) x 11 75) x 8).getD 0) p1.toNatClampNeg) p2 (hwI (h_X9_begin x S) x 11 75), (hwI (h_X9_begin x S) x 11 75))
def ok_X9_pass (L : List Nat) (x : Nat) (p0 : Int32) (p1 : Int32) (p2 : Int32) (S : HS) : Prop :=
  (x ∈ L ∧ hsK S x = 7) ∧ ((ok_X9_begin L x S) ∧ ((((s_X9_in p0 0 6) = 0) → (ok_X9_pass_j21 L x p0 p1 p2 S)) ∧
  (¬ ((s_X9_in p0 0 6) = 0) → ((((s_X9_isCell p1) = 0) → (ok_X9_pass_j21 L x p0 p1 p2 S)) ∧
   (¬ ((s_X9_isCell p1) = 0) → ((x ∈ L ∧ hsK (h_X9_begin x S) x = 7 ∧ hsQ (h_X9_begin x S) x 8 ≠ none) ∧ ((((hsQ (h_X9_begin x S) x 8).getD 0) ∈ L ∧ hsK (h_X9_begin x S) ((hsQ (h_X9_begin x S) x 8).getD 0) = 8 ∧ vp_in p1 (hsN (h_X9_begin x S) ((hsQ (h_X9_begin x S) x 8).getD 0))) ∧ ((x ∈ L ∧ hsK (h_X9_begin x S) x = 7) ∧ ((ok_X9_against L x p0 (hsA (h_X9_begin x S) ((hsQ (h_X9_begin x S) x 8).getD 0) p1.toNatClampNeg) p2 (h_X9_begin x S)) ∧ ((((h_X9_against x p0 (hsA (h_X9_begin x S) ((hsQ (h_X9_begin x S) x 8).getD 0) p1.toNatClampNeg) p2 (h_X9_begin x S)) = 1) → ((x ∈ L ∧ hsK (h_X9_begin x S) x = 7) ∧ ((x ∈ L ∧ hsK (hwI (h_X9_begin x S) x 11 41) x = 7) ∧ ((ok_X9_fails L x 1 (hwI (h_X9_begin x S) x 11 41)) ∧ (True))))) ∧
    (¬ ((h_X9_against x p0 (hsA (h_X9_begin x S) ((hsQ (h_X9_begin x S) x 8).getD 0) p1.toNatClampNeg) p2 (h_X9_begin x S)) = 1) → ((((h_X9_against x p0 (hsA (h_X9_begin x S) ((hsQ (h_X9_begin x S) x 8).getD 0) p1.toNatClampNeg) p2 (h_X9_begin x S)) = 2) → ((x ∈ L ∧ hsK (h_X9_begin x S) x = 7) ∧ (True))) ∧
     (¬ ((h_X9_against x p0 (hsA (h_X9_begin x S) ((hsQ (h_X9_begin x S) x 8).getD 0) p1.toNatClampNeg) p2 (h_X9_begin x S)) = 2) → ((((h_X9_against x p0 (hsA (h_X9_begin x S) ((hsQ (h_X9_begin x S) x 8).getD 0) p1.toNatClampNeg) p2 (h_X9_begin x S)) = 3) → ((x ∈ L ∧ hsK (h_X9_begin x S) x = 7) ∧ ((x ∈ L ∧ hsK (hwI (h_X9_begin x S) x 11 75) x = 7 ∧ hsQ (hwI (h_X9_begin x S) x 11 75) x 8 ≠ none) ∧ ((((hsQ (hwI (h_X9_begin x S) x 11 75) x 8).getD 0) ∈ L ∧ hsK (hwI (h_X9_begin x S) x 11 75) ((hsQ (hwI (h_X9_begin x S) x 11 75) x 8).getD 0) = 8 ∧ vp_in p1 (hsN (hwI (h_X9_begin x S) x 11 75) ((hsQ (hwI (h_X9_begin x S) x 11 75) x 8).getD 0))) ∧ ((x ∈ L ∧ hsK (hwI (h_X9_begin x S) x 11 75) x = 7) ∧ ((ok_X9_element L x (hsA (hwI (h_X9_begin x S) x 11 75) ((hsQ (hwI (h_X9_begin x S) x 11 75) x 8).getD 0) p1.toNatClampNeg) p2 (hwI (h_X9_begin x S) x 11 75)) ∧ (True))))))) ∧
      (¬ ((h_X9_against x p0 (hsA (h_X9_begin x S) ((hsQ (h_X9_begin x S) x 8).getD 0) p1.toNatClampNeg) p2 (h_X9_begin x S)) = 3) → ((((h_X9_against x p0 (hsA (h_X9_begin x S) ((hsQ (h_X9_begin x S) x 8).getD 0) p1.toNatClampNeg) p2 (h_X9_begin x S)) = 4) → ((x ∈ L ∧ hsK (h_X9_begin x S) x = 7) ∧ (True))) ∧
       (¬ ((h_X9_against x p0 (hsA (h_X9_begin x S) ((hsQ (h_X9_begin x S) x 8).getD 0) p1.toNatClampNeg) p2 (h_X9_begin x S)) = 4) → ((x ∈ L ∧ hsK (h_X9_begin x S) x = 7) ∧ ((x ∈ L ∧ hsK (hwI (h_X9_begin x S) x 11 75) x = 7 ∧ hsQ (hwI (h_X9_begin x S) x 11 75) x 8 ≠ none) ∧ ((((hsQ (hwI (h_X9_begin x S) x 11 75) x 8).getD 0) ∈ L ∧ hsK (hwI (h_X9_begin x S) x 11 75) ((hsQ (hwI (h_X9_begin x S) x 11 75) x 8).getD 0) = 8 ∧ vp_in p1 (hsN (hwI (h_X9_begin x S) x 11 75) ((hsQ (hwI (h_X9_begin x S) x 11 75) x 8).getD 0))) ∧ ((x ∈ L ∧ hsK (hwI (h_X9_begin x S) x 11 75) x = 7) ∧ ((ok_X9_element L x (hsA (hwI (h_X9_begin x S) x 11 75) ((hsQ (hwI (h_X9_begin x S) x 11 75) x 8).getD 0) p1.toNatClampNeg) p2 (hwI (h_X9_begin x S) x 11 75)) ∧ (True)))))))))))))))))))))))
set_option maxHeartbeats 4000000 in
set_option maxRecDepth 100000 in
theorem hm_X9_pass (l : Launch) (G : GE) (L : List Nat) (S : HS) (x : Nat) (p0 : Int32) (p1 : Int32) (p2 : Int32) (hok : ok_X9_pass L x p0 p1 p2 S) : HmL l G yX9_pass wsX9_pass 3 66 [.ref x, .int p0, .int p1, .int p2] L S (h_X9_pass x p0 p1 p2 S) := by
  refine Met.ofW (cc := cX9_pass) (maxL := 5) (ret := (some .long)) (by decide) rfl ?_
  intro p e s m args below meth c s₁ B hml hv
  obtain ⟨rfl, hP, hK, hnd, hE⟩ := hv
  have hx := B.exec
  have hb := B.bytes
  have hr := B.returns
  have hts := atoms_spec (ws := wsX9_pass) B.pre
  have hown : s.vm.findClass RX9 = some m.cls := findClass_of_methodNamed B.named
  have hlocks := B.notSynchronized
  have hD := nd_D hnd
  have hS : va_S (AL L) s.heap s.heap [] := va_S.rf
  have hl := lv_entry ([.ref x, .int p0, .int p1, .int p2]) (n := 5) (Nat.le_of_ble_eq_true rfl)
  rw [lg_entry_eq]
  generalize (lg_sl ([.ref x, .int p0, .int p1, .int p2]) ++ List.replicate (5 - (lg_sl ([.ref x, .int p0, .int p1, .int p2])).length) Slot.unset).toArray = ls at hl ⊢
  have hl : lv_has ls 5 [(0, .ref x), (1, .int p0), (2, .int p1), (3, .int p2)] := hl
  obtain ⟨Z, hZ⟩ : ∃ z, z = MQ below (hm_QL G L (h_X9_pass x p0 p1 p2 S)) ([.ref x, .int p0, .int p1, .int p2] : List Value).toArray s 0 0 (AL L) := ⟨_, rfl⟩
  rw [← hZ]
  refine lv_aload_n hx hb dX9_pass_0 rfl (lv_at hl 0 rfl) ?_
  obtain ⟨h_1k, hok⟩ := hok
  obtain ⟨h_1, hok⟩ := hok
  refine hm_callV (G := G) (a := ([.ref x] : List Value).toArray) (pr := (h_X9_begin x S)) (rest := []) ?_ hS (fun H locs hP hS => ?_)
  ·
    exact va_runV (As := []) (rest := []) ⟨hx, hb, hml, hown, hts⟩ (hm_X9_begin l G L S x h_1) (cwV 0 hts gX9_pass_X9_begin rfl rfl rfl hdv_X9_begin ⟨Nat.le_of_ble_eq_true rfl, Nat.le_of_ble_eq_true rfl⟩) ⟨HW.fb, hp_recv hK hP h_1k.1 (PF_7 h_1k.2) rfl, fun U hU hW => ⟨rfl, HW.call hP hK hnd hE hS U hU hW⟩⟩ rfl rfl hl.1 rfl (lv_room (Nat.le_of_ble_eq_true rfl)) dX9_pass_1 ⟨Nat.le_refl 0, Nat.le_refl 0⟩
  ·
    refine lv_iload_n hx hb dX9_pass_4 rfl (lv_at hl 1 rfl) ?_
    refine lv_iconst (v := 0) hx hb dX9_pass_5 (by decide) ?_
    refine lv_bipush (v := 6) hx hb dX9_pass_6 (by decide) ?_
    refine pm_callI (va_runS (As := [.int p0, .int 0, .int 6]) (rest := []) ⟨hx, hb, hml, hown, hts⟩ (pm_X9_in l p0 0 6) (va_cwS 3 hts gX9_pass_X9_in rfl rfl rfl hd_X9_in ⟨Nat.le_of_ble_eq_true rfl, Nat.le_of_ble_eq_true rfl⟩) ⟨pm_fbT, fun U hU hW => ⟨rfl, trivial⟩⟩ rfl rfl hl.1 rfl (lv_room (Nat.le_of_ble_eq_true rfl)) dX9_pass_8 ⟨Nat.le_refl 0, Nat.le_refl 0⟩) hS (fun H locs _ hk9 hS => ?_)
    replace hP := P_keep hP hk9
    have K_21 : ∀ (H : Heap) (locs : List Loc), va_P (gD G) vwCl (va_pl L (PF G (h_X9_begin x S))) H → va_S (AL L) s.heap H locs → ∀ (ls : Array Slot), lv_has ls 5 [(0, .ref x)] → ok_X9_pass_j21 L x p0 p1 p2 S → h_X9_pass x p0 p1 p2 S = h_X9_pass_j21 x p0 p1 p2 S → W p l e (pm_R 3 66) s m ([.ref x, .int p0, .int p1, .int p2] : List Value).toArray below meth c H locs 0 0 Z (F0 m 21 ls []) := by
      intro H locs hP hS ls hl hok hK_21
      refine lv_aload_n hx hb dX9_pass_21 rfl (lv_at hl 0 rfl) ?_
      refine lv_bipush (v := 8) hx hb dX9_pass_22 (by decide) ?_
      obtain ⟨h_24k, hok⟩ := hok
      obtain ⟨h_24, hok⟩ := hok
      refine hm_callI (G := G) (a := ([.ref x, .int 8] : List Value).toArray) (pr := (h_X9_fails x 8 (h_X9_begin x S))) (rest := []) ?_ hS (fun H locs hP hS => ?_)
      ·
        exact va_runV (As := [.int 8]) (rest := []) ⟨hx, hb, hml, hown, hts⟩ (hm_X9_fails l G L (h_X9_begin x S) x 8 h_24) (cwV 1 hts gX9_pass_X9_fails rfl rfl rfl hdv_X9_fails ⟨Nat.le_of_ble_eq_true rfl, Nat.le_of_ble_eq_true rfl⟩) ⟨HW.fb, hp_recv hK hP h_24k.1 (PF_7 h_24k.2) rfl, fun U hU hW => ⟨rfl, HW.call hP hK hnd hE hS U hU hW⟩⟩ rfl rfl hl.1 rfl (lv_room (Nat.le_of_ble_eq_true rfl)) dX9_pass_24 ⟨Nat.le_refl 0, Nat.le_refl 0⟩
      ·
        refine lv_i2l (v := ((h_X9_fails x 8 (h_X9_begin x S)).1).toInt64) hx hb dX9_pass_27 rfl ?_
        rw [hZ]
        exact hm_lret hx hb hr hlocks hS hP hK hnd hE ((hK_21)) dX9_pass_28
    refine lv_if_eq (tgt := 21) hx hb dX9_pass_11 (by decide) (fun c_11 => ?_) (fun c_11 => ?_)
    ·
      have hok := (hok).1 c_11
      exact K_21 _ _ hP hS ls (lv_sub hl [0] rfl) hok ((if_pos c_11))
    ·
      have hok := (hok).2 c_11
      refine lv_iload_n hx hb dX9_pass_14 rfl (lv_at hl 2 rfl) ?_
      refine pm_callI (va_runS (As := [.int p1]) (rest := []) ⟨hx, hb, hml, hown, hts⟩ (pm_X9_isCell l p1) (va_cwS 1 hts gX9_pass_X9_isCell rfl rfl rfl hd_X9_isCell ⟨Nat.le_of_ble_eq_true rfl, Nat.le_of_ble_eq_true rfl⟩) ⟨pm_fbT, fun U hU hW => ⟨rfl, trivial⟩⟩ rfl rfl hl.1 rfl (lv_room (Nat.le_of_ble_eq_true rfl)) dX9_pass_15 ⟨Nat.le_refl 0, Nat.le_refl 0⟩) hS (fun H locs _ hk9 hS => ?_)
      replace hP := P_keep hP hk9
      refine lv_if_ne (tgt := 29) hx hb dX9_pass_18 (by decide) (fun c_18 => ?_) (fun c_18 => ?_)
      ·
        have hok := (hok).2 c_18
        refine lv_aload_n hx hb dX9_pass_29 rfl (lv_at hl 0 rfl) ?_
        refine lv_iload_n hx hb dX9_pass_30 rfl (lv_at hl 1 rfl) ?_
        refine lv_aload_n hx hb dX9_pass_31 rfl (lv_at hl 0 rfl) ?_
        obtain ⟨h_32, hok⟩ := hok
        refine hp_getR (ci := 7) (C := RX9) (T := TX9) (N := 12) hx hb hts iw_X9_pass_X9 hown hK hP h_32.1 (PF_7 h_32.2.1) rfl 8 (by decide) (hts _ (List.mem_of_getElem? (i := 1) rfl)) (fun _ h9 => h9) rfl h_32.2.2 dX9_pass_32 ?_
        refine lv_iload_n hx hb dX9_pass_35 rfl (lv_at hl 2 rfl) ?_
        obtain ⟨h_36, hok⟩ := hok
        refine hp_iald hx hb hK hP h_36.1 0 (PF_8 h_36.2.1) rfl h_36.2.2 dX9_pass_36 ?_
        refine lv_iload_n hx hb dX9_pass_37 rfl (lv_at hl 3 rfl) ?_
        obtain ⟨h_38k, hok⟩ := hok
        obtain ⟨h_38, hok⟩ := hok
        refine hm_callIr (G := G) (S1 := h_X9_begin x S) (a := ([.ref x, .int p0, .int (hsA (h_X9_begin x S) ((hsQ (h_X9_begin x S) x 8).getD 0) p1.toNatClampNeg), .int p2] : List Value).toArray) (rest := []) (h_X9_against x p0 (hsA (h_X9_begin x S) ((hsQ (h_X9_begin x S) x 8).getD 0) p1.toNatClampNeg) p2 (h_X9_begin x S)) ?_ hS (fun H locs hP hS => ?_)
        ·
          exact va_runV (As := [.int p0, .int (hsA (h_X9_begin x S) ((hsQ (h_X9_begin x S) x 8).getD 0) p1.toNatClampNeg), .int p2]) (rest := []) ⟨hx, hb, hml, hown, hts⟩ (hm_X9_against l G L (h_X9_begin x S) x p0 (hsA (h_X9_begin x S) ((hsQ (h_X9_begin x S) x 8).getD 0) p1.toNatClampNeg) p2 h_38) (cwV 3 hts gX9_pass_X9_against rfl rfl rfl hdv_X9_against ⟨Nat.le_of_ble_eq_true rfl, Nat.le_of_ble_eq_true rfl⟩) ⟨HW.fb, hp_recv hK hP h_38k.1 (PF_7 h_38k.2) rfl, fun U hU hW => ⟨rfl, HW.call hP hK hnd hE hS U hU hW⟩⟩ rfl rfl hl.1 rfl (lv_room (Nat.le_of_ble_eq_true rfl)) dX9_pass_38 ⟨Nat.le_refl 0, Nat.le_refl 0⟩
        ·
          refine lv_istore (lv' := [(4, .int (h_X9_against x p0 (hsA (h_X9_begin x S) ((hsQ (h_X9_begin x S) x 8).getD 0) p1.toNatClampNeg) p2 (h_X9_begin x S))), (0, .ref x), (1, .int p0), (2, .int p1), (3, .int p2)]) hx hb dX9_pass_41 hl (by decide) rfl (fun ls hl => ?_)
          refine lv_iload hx hb dX9_pass_43 (lv_at hl 0 rfl) ?_
          by_cases c_45_1 : (h_X9_against x p0 (hsA (h_X9_begin x S) ((hsQ (h_X9_begin x S) x 8).getD 0) p1.toNatClampNeg) p2 (h_X9_begin x S)) = 1
          ·
            have hok := (hok).1 c_45_1
            refine lv_tableIn (off := 51) (tgt := 96) hx hb dX9_pass_45 (by rw [c_45_1]; decide) (by rw [c_45_1]; decide) (by rw [c_45_1]; decide) (by decide) ?_
            refine lv_aload_n hx hb dX9_pass_96 rfl (lv_at hl 1 rfl) ?_
            refine lv_bipush (v := 41) hx hb dX9_pass_97 (by decide) ?_
            obtain ⟨h_99, hok⟩ := hok
            refine hp_put (ci := 7) (C := RX9) (T := TX9) (N := 12) (ty := .int) (v := .int 41) (g := PF G (hwI (h_X9_begin x S) x 11 41)) hx hb hts iw_X9_pass_X9 tyX9 tyX9_ok nmX9 hown hK hP (hD _) hS h_99.1 (PF_7 h_99.2) rfl 11 (by decide) (hts _ (List.mem_of_getElem? (i := 2) rfl)) (fun _ h9 => h9) rfl (by decide +kernel) rfl rfl (Nat.le_of_ble_eq_true rfl) (PF_s7_11 h_99.2) (fun _ hb9 => PF_wI hb9) dX9_pass_99 (fun H locs hP hS => ?_)
            refine lv_aload_n hx hb dX9_pass_102 rfl (lv_at hl 1 rfl) ?_
            refine lv_iconst (v := 1) hx hb dX9_pass_103 (by decide) ?_
            obtain ⟨h_104k, hok⟩ := hok
            obtain ⟨h_104, hok⟩ := hok
            refine hm_callI (G := G) (a := ([.ref x, .int 1] : List Value).toArray) (pr := (h_X9_fails x 1 (hwI (h_X9_begin x S) x 11 41))) (rest := []) ?_ hS (fun H locs hP hS => ?_)
            ·
              exact va_runV (As := [.int 1]) (rest := []) ⟨hx, hb, hml, hown, hts⟩ (hm_X9_fails l G L (hwI (h_X9_begin x S) x 11 41) x 1 h_104) (cwV 1 hts gX9_pass_X9_fails rfl rfl rfl hdv_X9_fails ⟨Nat.le_of_ble_eq_true rfl, Nat.le_of_ble_eq_true rfl⟩) ⟨HW.fb, hp_recv hK hP h_104k.1 (PF_7 h_104k.2) rfl, fun U hU hW => ⟨rfl, HW.call hP hK hnd hE hS U hU hW⟩⟩ rfl rfl hl.1 rfl (lv_room (Nat.le_of_ble_eq_true rfl)) dX9_pass_104 ⟨Nat.le_refl 0, Nat.le_refl 0⟩
            ·
              refine lv_i2l (v := ((h_X9_fails x 1 (hwI (h_X9_begin x S) x 11 41)).1).toInt64) hx hb dX9_pass_107 rfl ?_
              rw [hZ]
              exact hm_lret hx hb hr hlocks hS hP hK hnd hE (((if_neg c_11).trans ((if_neg c_18).trans (if_pos c_45_1)))) dX9_pass_108
          ·
            have hok := (hok).2 c_45_1
            by_cases c_45_2 : (h_X9_against x p0 (hsA (h_X9_begin x S) ((hsQ (h_X9_begin x S) x 8).getD 0) p1.toNatClampNeg) p2 (h_X9_begin x S)) = 2
            ·
              have hok := (hok).1 c_45_2
              refine lv_tableIn (off := 41) (tgt := 86) hx hb dX9_pass_45 (by rw [c_45_2]; decide) (by rw [c_45_2]; decide) (by rw [c_45_2]; decide) (by decide) ?_
              refine lv_aload_n hx hb dX9_pass_86 rfl (lv_at hl 1 rfl) ?_
              refine lv_bipush (v := 25) hx hb dX9_pass_87 (by decide) ?_
              obtain ⟨h_89, hok⟩ := hok
              refine hp_put (ci := 7) (C := RX9) (T := TX9) (N := 12) (ty := .int) (v := .int 25) (g := PF G (hwI (h_X9_begin x S) x 11 25)) hx hb hts iw_X9_pass_X9 tyX9 tyX9_ok nmX9 hown hK hP (hD _) hS h_89.1 (PF_7 h_89.2) rfl 11 (by decide) (hts _ (List.mem_of_getElem? (i := 2) rfl)) (fun _ h9 => h9) rfl (by decide +kernel) rfl rfl (Nat.le_of_ble_eq_true rfl) (PF_s7_11 h_89.2) (fun _ hb9 => PF_wI hb9) dX9_pass_89 (fun H locs hP hS => ?_)
              refine lv_ldc2 (v := (-102)) hx hb hown (hts _ (List.mem_of_getElem? (i := 4) rfl)) dX9_pass_92 ?_
              rw [hZ]
              exact hm_lret hx hb hr hlocks hS hP hK hnd hE (((if_neg c_11).trans ((if_neg c_18).trans ((if_neg c_45_1).trans (if_pos c_45_2))))) dX9_pass_95
            ·
              have hok := (hok).2 c_45_2
              by_cases c_45_3 : (h_X9_against x p0 (hsA (h_X9_begin x S) ((hsQ (h_X9_begin x S) x 8).getD 0) p1.toNatClampNeg) p2 (h_X9_begin x S)) = 3
              ·
                have hok := (hok).1 c_45_3
                refine lv_tableIn (off := 64) (tgt := 109) hx hb dX9_pass_45 (by rw [c_45_3]; decide) (by rw [c_45_3]; decide) (by rw [c_45_3]; decide) (by decide) ?_
                refine lv_aload_n hx hb dX9_pass_109 rfl (lv_at hl 1 rfl) ?_
                refine lv_bipush (v := 75) hx hb dX9_pass_110 (by decide) ?_
                obtain ⟨h_112, hok⟩ := hok
                refine hp_put (ci := 7) (C := RX9) (T := TX9) (N := 12) (ty := .int) (v := .int 75) (g := PF G (hwI (h_X9_begin x S) x 11 75)) hx hb hts iw_X9_pass_X9 tyX9 tyX9_ok nmX9 hown hK hP (hD _) hS h_112.1 (PF_7 h_112.2) rfl 11 (by decide) (hts _ (List.mem_of_getElem? (i := 2) rfl)) (fun _ h9 => h9) rfl (by decide +kernel) rfl rfl (Nat.le_of_ble_eq_true rfl) (PF_s7_11 h_112.2) (fun _ hb9 => PF_wI hb9) dX9_pass_112 (fun H locs hP hS => ?_)
                refine lv_aload_n hx hb dX9_pass_115 rfl (lv_at hl 1 rfl) ?_
                refine lv_aload_n hx hb dX9_pass_116 rfl (lv_at hl 1 rfl) ?_
                obtain ⟨h_117, hok⟩ := hok
                refine hp_getR (ci := 7) (C := RX9) (T := TX9) (N := 12) hx hb hts iw_X9_pass_X9 hown hK hP h_117.1 (PF_7 h_117.2.1) rfl 8 (by decide) (hts _ (List.mem_of_getElem? (i := 1) rfl)) (fun _ h9 => h9) rfl h_117.2.2 dX9_pass_117 ?_
                refine lv_iload_n hx hb dX9_pass_120 rfl (lv_at hl 3 rfl) ?_
                obtain ⟨h_121, hok⟩ := hok
                refine hp_iald hx hb hK hP h_121.1 0 (PF_8 h_121.2.1) rfl h_121.2.2 dX9_pass_121 ?_
                refine lv_iload_n hx hb dX9_pass_122 rfl (lv_at hl 4 rfl) ?_
                obtain ⟨h_123k, hok⟩ := hok
                obtain ⟨h_123, hok⟩ := hok
                refine hm_callLr (G := G) (S1 := (hwI (h_X9_begin x S) x 11 75)) (a := ([.ref x, .int (hsA (hwI (h_X9_begin x S) x 11 75) ((hsQ (hwI (h_X9_begin x S) x 11 75) x 8).getD 0) p1.toNatClampNeg), .int p2] : List Value).toArray) (rest := []) (h_X9_element x (hsA (hwI (h_X9_begin x S) x 11 75) ((hsQ (hwI (h_X9_begin x S) x 11 75) x 8).getD 0) p1.toNatClampNeg) p2 (hwI (h_X9_begin x S) x 11 75)) ?_ hS (fun H locs hP hS => ?_)
                ·
                  exact va_runV (As := [.int (hsA (hwI (h_X9_begin x S) x 11 75) ((hsQ (hwI (h_X9_begin x S) x 11 75) x 8).getD 0) p1.toNatClampNeg), .int p2]) (rest := []) ⟨hx, hb, hml, hown, hts⟩ (hm_X9_element l G L (hwI (h_X9_begin x S) x 11 75) x (hsA (hwI (h_X9_begin x S) x 11 75) ((hsQ (hwI (h_X9_begin x S) x 11 75) x 8).getD 0) p1.toNatClampNeg) p2 h_123) (cwV 2 hts gX9_pass_X9_element rfl rfl rfl hdv_X9_element ⟨Nat.le_of_ble_eq_true rfl, Nat.le_of_ble_eq_true rfl⟩) ⟨HW.fb, hp_recv hK hP h_123k.1 (PF_7 h_123k.2) rfl, fun U hU hW => ⟨rfl, HW.call hP hK hnd hE hS U hU hW⟩⟩ rfl rfl hl.1 rfl (lv_room (Nat.le_of_ble_eq_true rfl)) dX9_pass_123 ⟨Nat.le_refl 0, Nat.le_refl 0⟩
                ·
                  rw [hZ]
                  exact hm_lret hx hb hr hlocks hS hP hK hnd hE (((if_neg c_11).trans ((if_neg c_18).trans ((if_neg c_45_1).trans ((if_neg c_45_2).trans (if_pos c_45_3)))))) dX9_pass_126
              ·
                have hok := (hok).2 c_45_3
                by_cases c_45_4 : (h_X9_against x p0 (hsA (h_X9_begin x S) ((hsQ (h_X9_begin x S) x 8).getD 0) p1.toNatClampNeg) p2 (h_X9_begin x S)) = 4
                ·
                  have hok := (hok).1 c_45_4
                  refine lv_tableIn (off := 31) (tgt := 76) hx hb dX9_pass_45 (by rw [c_45_4]; decide) (by rw [c_45_4]; decide) (by rw [c_45_4]; decide) (by decide) ?_
                  refine lv_aload_n hx hb dX9_pass_76 rfl (lv_at hl 1 rfl) ?_
                  refine lv_bipush (v := 77) hx hb dX9_pass_77 (by decide) ?_
                  obtain ⟨h_79, hok⟩ := hok
                  refine hp_put (ci := 7) (C := RX9) (T := TX9) (N := 12) (ty := .int) (v := .int 77) (g := PF G (hwI (h_X9_begin x S) x 11 77)) hx hb hts iw_X9_pass_X9 tyX9 tyX9_ok nmX9 hown hK hP (hD _) hS h_79.1 (PF_7 h_79.2) rfl 11 (by decide) (hts _ (List.mem_of_getElem? (i := 2) rfl)) (fun _ h9 => h9) rfl (by decide +kernel) rfl rfl (Nat.le_of_ble_eq_true rfl) (PF_s7_11 h_79.2) (fun _ hb9 => PF_wI hb9) dX9_pass_79 (fun H locs hP hS => ?_)
                  refine lv_ldc2 (v := (-104)) hx hb hown (hts _ (List.mem_of_getElem? (i := 3) rfl)) dX9_pass_82 ?_
                  rw [hZ]
                  exact hm_lret hx hb hr hlocks hS hP hK hnd hE (((if_neg c_11).trans ((if_neg c_18).trans ((if_neg c_45_1).trans ((if_neg c_45_2).trans ((if_neg c_45_3).trans (if_pos c_45_4))))))) dX9_pass_85
                ·
                  have hok := (hok).2 c_45_4
                  have nc_45_1 : ((h_X9_against x p0 (hsA (h_X9_begin x S) ((hsQ (h_X9_begin x S) x 8).getD 0) p1.toNatClampNeg) p2 (h_X9_begin x S))).toInt ≠ 1 := fun h => c_45_1 (Int32.toInt.inj (h.trans (by decide)))
                  have nc_45_2 : ((h_X9_against x p0 (hsA (h_X9_begin x S) ((hsQ (h_X9_begin x S) x 8).getD 0) p1.toNatClampNeg) p2 (h_X9_begin x S))).toInt ≠ 2 := fun h => c_45_2 (Int32.toInt.inj (h.trans (by decide)))
                  have nc_45_3 : ((h_X9_against x p0 (hsA (h_X9_begin x S) ((hsQ (h_X9_begin x S) x 8).getD 0) p1.toNatClampNeg) p2 (h_X9_begin x S))).toInt ≠ 3 := fun h => c_45_3 (Int32.toInt.inj (h.trans (by decide)))
                  have nc_45_4 : ((h_X9_against x p0 (hsA (h_X9_begin x S) ((hsQ (h_X9_begin x S) x 8).getD 0) p1.toNatClampNeg) p2 (h_X9_begin x S))).toInt ≠ 4 := fun h => c_45_4 (Int32.toInt.inj (h.trans (by decide)))
                  refine lv_tableOut (tgt := 109) hx hb dX9_pass_45 (by omega) (by decide) ?_
                  refine lv_aload_n hx hb dX9_pass_109 rfl (lv_at hl 1 rfl) ?_
                  refine lv_bipush (v := 75) hx hb dX9_pass_110 (by decide) ?_
                  obtain ⟨h_112, hok⟩ := hok
                  refine hp_put (ci := 7) (C := RX9) (T := TX9) (N := 12) (ty := .int) (v := .int 75) (g := PF G (hwI (h_X9_begin x S) x 11 75)) hx hb hts iw_X9_pass_X9 tyX9 tyX9_ok nmX9 hown hK hP (hD _) hS h_112.1 (PF_7 h_112.2) rfl 11 (by decide) (hts _ (List.mem_of_getElem? (i := 2) rfl)) (fun _ h9 => h9) rfl (by decide +kernel) rfl rfl (Nat.le_of_ble_eq_true rfl) (PF_s7_11 h_112.2) (fun _ hb9 => PF_wI hb9) dX9_pass_112 (fun H locs hP hS => ?_)
                  refine lv_aload_n hx hb dX9_pass_115 rfl (lv_at hl 1 rfl) ?_
                  refine lv_aload_n hx hb dX9_pass_116 rfl (lv_at hl 1 rfl) ?_
                  obtain ⟨h_117, hok⟩ := hok
                  refine hp_getR (ci := 7) (C := RX9) (T := TX9) (N := 12) hx hb hts iw_X9_pass_X9 hown hK hP h_117.1 (PF_7 h_117.2.1) rfl 8 (by decide) (hts _ (List.mem_of_getElem? (i := 1) rfl)) (fun _ h9 => h9) rfl h_117.2.2 dX9_pass_117 ?_
                  refine lv_iload_n hx hb dX9_pass_120 rfl (lv_at hl 3 rfl) ?_
                  obtain ⟨h_121, hok⟩ := hok
                  refine hp_iald hx hb hK hP h_121.1 0 (PF_8 h_121.2.1) rfl h_121.2.2 dX9_pass_121 ?_
                  refine lv_iload_n hx hb dX9_pass_122 rfl (lv_at hl 4 rfl) ?_
                  obtain ⟨h_123k, hok⟩ := hok
                  obtain ⟨h_123, hok⟩ := hok
                  refine hm_callLr (G := G) (S1 := (hwI (h_X9_begin x S) x 11 75)) (a := ([.ref x, .int (hsA (hwI (h_X9_begin x S) x 11 75) ((hsQ (hwI (h_X9_begin x S) x 11 75) x 8).getD 0) p1.toNatClampNeg), .int p2] : List Value).toArray) (rest := []) (h_X9_element x (hsA (hwI (h_X9_begin x S) x 11 75) ((hsQ (hwI (h_X9_begin x S) x 11 75) x 8).getD 0) p1.toNatClampNeg) p2 (hwI (h_X9_begin x S) x 11 75)) ?_ hS (fun H locs hP hS => ?_)
                  ·
                    exact va_runV (As := [.int (hsA (hwI (h_X9_begin x S) x 11 75) ((hsQ (hwI (h_X9_begin x S) x 11 75) x 8).getD 0) p1.toNatClampNeg), .int p2]) (rest := []) ⟨hx, hb, hml, hown, hts⟩ (hm_X9_element l G L (hwI (h_X9_begin x S) x 11 75) x (hsA (hwI (h_X9_begin x S) x 11 75) ((hsQ (hwI (h_X9_begin x S) x 11 75) x 8).getD 0) p1.toNatClampNeg) p2 h_123) (cwV 2 hts gX9_pass_X9_element rfl rfl rfl hdv_X9_element ⟨Nat.le_of_ble_eq_true rfl, Nat.le_of_ble_eq_true rfl⟩) ⟨HW.fb, hp_recv hK hP h_123k.1 (PF_7 h_123k.2) rfl, fun U hU hW => ⟨rfl, HW.call hP hK hnd hE hS U hU hW⟩⟩ rfl rfl hl.1 rfl (lv_room (Nat.le_of_ble_eq_true rfl)) dX9_pass_123 ⟨Nat.le_refl 0, Nat.le_refl 0⟩
                  ·
                    rw [hZ]
                    exact hm_lret hx hb hr hlocks hS hP hK hnd hE (((if_neg c_11).trans ((if_neg c_18).trans ((if_neg c_45_1).trans ((if_neg c_45_2).trans ((if_neg c_45_3).trans (if_neg c_45_4))))))) dX9_pass_126
      ·
        have hok := (hok).1 c_18
        exact K_21 _ _ hP hS ls (lv_sub hl [0] rfl) hok (((if_neg c_11).trans (if_pos c_18)))
