/-! ===== numbers and frames (laid by program) ===== -/
theorem hdv_X8_divide : yX8_divide.cls = RX8 ∧ yX8_divide.cls ≠ "java/lang/invoke/MethodHandle" ∧ yX8_divide.cls ≠ "java/lang/invoke/VarHandle" ∧ (parseMethodDescriptor yX8_divide.desc).map (fun d => d.parameters.length) = some 3 := by decide +kernel
def h_X8_divide (x : Nat) (p0 : Int32) (p1 : Int64) (p2 : Int64) (S : HS) : Int64 × HS :=
  if ((h_X8_stops x (s_X8_divideCause p0 p2) S).1) = 0 then if p0 = 0 then ((p1.toInt32 / p2.toInt32).toInt64, (h_X8_stops x (s_X8_divideCause p0 p2) S).2)
   else if p0 = 1 then ((p1.toInt32 - p1.toInt32 / p2.toInt32 * p2.toInt32).toInt64, (h_X8_stops x (s_X8_divideCause p0 p2) S).2)
    else if p0 = 2 then (p1 / p2, (h_X8_stops x (s_X8_divideCause p0 p2) S).2)
     else (p1 - p1 / p2 * p2, (h_X8_stops x (s_X8_divideCause p0 p2) S).2)
  else (0, (h_X8_stops x (s_X8_divideCause p0 p2) S).2)
def ok_X8_divide (L : List Nat) (x : Nat) (p0 : Int32) (p1 : Int64) (p2 : Int64) (S : HS) : Prop :=
  (x ∈ L ∧ hsK S x = 6) ∧ ((ok_X8_stops L x (s_X8_divideCause p0 p2) S) ∧ (((((h_X8_stops x (s_X8_divideCause p0 p2) S).1) = 0) → (((p0 = 0) → ((¬ p2.toInt32 = 0) ∧ (True))) ∧
   (¬ (p0 = 0) → (((p0 = 1) → ((¬ p2.toInt32 = 0) ∧ (True))) ∧
    (¬ (p0 = 1) → (((p0 = 2) → ((¬ p2 = 0) ∧ (True))) ∧
     (¬ (p0 = 2) → ((¬ p2 = 0) ∧ (True))))))))) ∧
  (¬ (((h_X8_stops x (s_X8_divideCause p0 p2) S).1) = 0) → (True))))
set_option maxHeartbeats 4000000 in
set_option maxRecDepth 100000 in
theorem hm_X8_divide (l : Launch) (G : GE) (L : List Nat) (S : HS) (x : Nat) (p0 : Int32) (p1 : Int64) (p2 : Int64) (hok : ok_X8_divide L x p0 p1 p2 S) : HmL l G yX8_divide wsX8_divide 1 23 [.ref x, .int p0, .long p1, .long p2] L S (h_X8_divide x p0 p1 p2 S) := by
  refine Met.ofW (cc := cX8_divide) (maxL := 6) (ret := (some .long)) (by decide) rfl ?_
  intro p e s m args below meth c s₁ B hml hv
  obtain ⟨rfl, hP, hK, hnd, hE⟩ := hv
  have hx := B.exec
  have hb := B.bytes
  have hr := B.returns
  have hts := atoms_spec (ws := wsX8_divide) B.pre
  have hown : s.vm.findClass RX8 = some m.cls := findClass_of_methodNamed B.named
  have hlocks := B.notSynchronized
  have hD := nd_D hnd
  have hS : va_S (AL L) s.heap s.heap [] := va_S.rf
  have hl := lv_entry ([.ref x, .int p0, .long p1, .long p2]) (n := 6) (Nat.le_of_ble_eq_true rfl)
  rw [lg_entry_eq]
  generalize (lg_sl ([.ref x, .int p0, .long p1, .long p2]) ++ List.replicate (6 - (lg_sl ([.ref x, .int p0, .long p1, .long p2])).length) Slot.unset).toArray = ls at hl ⊢
  have hl : lv_has ls 6 [(0, .ref x), (1, .int p0), (2, .long p1), (4, .long p2)] := hl
  obtain ⟨Z, hZ⟩ : ∃ z, z = MQ below (hm_QL G L (h_X8_divide x p0 p1 p2 S)) ([.ref x, .int p0, .long p1, .long p2] : List Value).toArray s 0 0 (AL L) := ⟨_, rfl⟩
  rw [← hZ]
  refine lv_aload_n hx hb dX8_divide_0 rfl (lv_at hl 0 rfl) ?_
  refine lv_iload_n hx hb dX8_divide_1 rfl (lv_at hl 1 rfl) ?_
  refine lv_lload hx hb dX8_divide_2 (lv_at hl 3 rfl) ?_
  refine pm_callI (va_runS (As := [.int p0, .long p2]) (rest := [.ref x]) ⟨hx, hb, hml, hown, hts⟩ (pm_X8_divideCause l p0 p2) (va_cwS 2 hts gX8_divide_X8_divideCause rfl rfl rfl hd_X8_divideCause ⟨Nat.le_of_ble_eq_true rfl, Nat.le_of_ble_eq_true rfl⟩) ⟨pm_fbT, fun U hU hW => ⟨rfl, trivial⟩⟩ rfl rfl hl.1 rfl (lv_room (Nat.le_of_ble_eq_true rfl)) dX8_divide_4 ⟨Nat.le_refl 0, Nat.le_refl 0⟩) hS (fun H locs _ hk9 hS => ?_)
  replace hP := P_keep hP hk9
  obtain ⟨h_7k, hok⟩ := hok
  obtain ⟨h_7, hok⟩ := hok
  refine hm_callI (G := G) (a := ([.ref x, .int (s_X8_divideCause p0 p2)] : List Value).toArray) (pr := (h_X8_stops x (s_X8_divideCause p0 p2) S)) (rest := []) ?_ hS (fun H locs hP hS => ?_)
  ·
    exact va_runV (As := [.int (s_X8_divideCause p0 p2)]) (rest := []) ⟨hx, hb, hml, hown, hts⟩ (hm_X8_stops l G L S x (s_X8_divideCause p0 p2) h_7) (cwV 1 hts gX8_divide_X8_stops rfl rfl rfl hdv_X8_stops ⟨Nat.le_of_ble_eq_true rfl, Nat.le_of_ble_eq_true rfl⟩) ⟨HW.fb, hp_recv hK hP h_7k.1 (PF_6 h_7k.2) rfl, fun U hU hW => ⟨rfl, HW.call hP hK hnd hE hS U hU hW⟩⟩ rfl rfl hl.1 rfl (lv_room (Nat.le_of_ble_eq_true rfl)) dX8_divide_7 ⟨Nat.le_refl 0, Nat.le_refl 0⟩
  ·
    refine lv_if_eq (tgt := 15) hx hb dX8_divide_10 (by decide) (fun c_10 => ?_) (fun c_10 => ?_)
    ·
      have hok := (hok).1 c_10
      refine lv_iload_n hx hb dX8_divide_15 rfl (lv_at hl 1 rfl) ?_
      by_cases c_16_0 : p0 = 0
      ·
        have hok := (hok).1 c_16_0
        refine lv_tableIn (off := 28) (tgt := 44) hx hb dX8_divide_16 (by rw [c_16_0]; decide) (by rw [c_16_0]; decide) (by rw [c_16_0]; decide) (by decide) ?_
        refine lv_lload_n hx hb dX8_divide_44 rfl (lv_at hl 2 rfl) ?_
        refine lv_l2i (v := p1.toInt32) hx hb dX8_divide_45 rfl ?_
        refine lv_lload hx hb dX8_divide_46 (lv_at hl 3 rfl) ?_
        refine lv_l2i (v := p2.toInt32) hx hb dX8_divide_48 rfl ?_
        obtain ⟨h_49, hok⟩ := hok
        refine lv_idiv hx hb dX8_divide_49 (h_49) ?_
        refine lv_i2l (v := (p1.toInt32 / p2.toInt32).toInt64) hx hb dX8_divide_50 rfl ?_
        rw [hZ]
        exact hm_lret hx hb hr hlocks hS hP hK hnd hE (((if_pos c_10).trans (if_pos c_16_0))) dX8_divide_51
      ·
        have hok := (hok).2 c_16_0
        by_cases c_16_1 : p0 = 1
        ·
          have hok := (hok).1 c_16_1
          refine lv_tableIn (off := 36) (tgt := 52) hx hb dX8_divide_16 (by rw [c_16_1]; decide) (by rw [c_16_1]; decide) (by rw [c_16_1]; decide) (by decide) ?_
          refine lv_lload_n hx hb dX8_divide_52 rfl (lv_at hl 2 rfl) ?_
          refine lv_l2i (v := p1.toInt32) hx hb dX8_divide_53 rfl ?_
          refine lv_lload hx hb dX8_divide_54 (lv_at hl 3 rfl) ?_
          refine lv_l2i (v := p2.toInt32) hx hb dX8_divide_56 rfl ?_
          obtain ⟨h_57, hok⟩ := hok
          refine lv_irem hx hb dX8_divide_57 (h_57) ?_
          refine lv_i2l (v := (p1.toInt32 - p1.toInt32 / p2.toInt32 * p2.toInt32).toInt64) hx hb dX8_divide_58 rfl ?_
          rw [hZ]
          exact hm_lret hx hb hr hlocks hS hP hK hnd hE (((if_pos c_10).trans ((if_neg c_16_0).trans (if_pos c_16_1)))) dX8_divide_59
        ·
          have hok := (hok).2 c_16_1
          by_cases c_16_2 : p0 = 2
          ·
            have hok := (hok).1 c_16_2
            refine lv_tableIn (off := 44) (tgt := 60) hx hb dX8_divide_16 (by rw [c_16_2]; decide) (by rw [c_16_2]; decide) (by rw [c_16_2]; decide) (by decide) ?_
            refine lv_lload_n hx hb dX8_divide_60 rfl (lv_at hl 2 rfl) ?_
            refine lv_lload hx hb dX8_divide_61 (lv_at hl 3 rfl) ?_
            obtain ⟨h_63, hok⟩ := hok
            refine lv_ldiv hx hb dX8_divide_63 (h_63) ?_
            rw [hZ]
            exact hm_lret hx hb hr hlocks hS hP hK hnd hE (((if_pos c_10).trans ((if_neg c_16_0).trans ((if_neg c_16_1).trans (if_pos c_16_2))))) dX8_divide_64
          ·
            have hok := (hok).2 c_16_2
            have nc_16_0 : (p0).toInt ≠ 0 := fun h => c_16_0 (Int32.toInt.inj (h.trans (by decide)))
            have nc_16_1 : (p0).toInt ≠ 1 := fun h => c_16_1 (Int32.toInt.inj (h.trans (by decide)))
            have nc_16_2 : (p0).toInt ≠ 2 := fun h => c_16_2 (Int32.toInt.inj (h.trans (by decide)))
            refine lv_tableOut (tgt := 65) hx hb dX8_divide_16 (by omega) (by decide) ?_
            refine lv_lload_n hx hb dX8_divide_65 rfl (lv_at hl 2 rfl) ?_
            refine lv_lload hx hb dX8_divide_66 (lv_at hl 3 rfl) ?_
            obtain ⟨h_68, hok⟩ := hok
            refine lv_lrem hx hb dX8_divide_68 (h_68) ?_
            rw [hZ]
            exact hm_lret hx hb hr hlocks hS hP hK hnd hE (((if_pos c_10).trans ((if_neg c_16_0).trans ((if_neg c_16_1).trans (if_neg c_16_2))))) dX8_divide_69
    ·
      have hok := (hok).2 c_10
      refine lv_lconst (v := 0) hx hb dX8_divide_13 (by decide) ?_
      rw [hZ]
      exact hm_lret hx hb hr hlocks hS hP hK hnd hE ((if_neg c_10)) dX8_divide_14
theorem hdv_X8_real : yX8_real.cls = RX8 ∧ yX8_real.cls ≠ "java/lang/invoke/MethodHandle" ∧ yX8_real.cls ≠ "java/lang/invoke/VarHandle" ∧ (parseMethodDescriptor yX8_real.desc).map (fun d => d.parameters.length) = some 3 := by decide +kernel
def h_X8_real_j17 (x : Nat) (p0 : Int32) (p1 : Int64) (p2 : Int64) (z_17_0 : Int32) (S : HS) : Int64 × HS :=
  if ((h_X8_stops x z_17_0 S).1) = 0 then if p0 = 0 then (s_X3_sum p1 p2, (h_X8_stops x z_17_0 S).2)
   else if p0 = 1 then (s_X3_difference p1 p2, (h_X8_stops x z_17_0 S).2)
    else if p0 = 2 then (s_X3_product p1 p2, (h_X8_stops x z_17_0 S).2)
     else if p0 = 3 then (s_X3_quotient p1 p2, (h_X8_stops x z_17_0 S).2)
      else if p0 = 4 then (s_X3_remainder p1 p2, (h_X8_stops x z_17_0 S).2)
       else if p0 = 5 then (s_X3_greater p1 p2, (h_X8_stops x z_17_0 S).2)
        else if p0 = 6 then (s_X3_lesser p1 p2, (h_X8_stops x z_17_0 S).2)
         else (s_X3_withSignOf p1 p2, (h_X8_stops x z_17_0 S).2)
  else (0, (h_X8_stops x z_17_0 S).2)
def ok_X8_real_j17 (L : List Nat) (x : Nat) (p0 : Int32) (p1 : Int64) (p2 : Int64) (z_17_0 : Int32) (S : HS) : Prop :=
  (x ∈ L ∧ hsK S x = 6) ∧ ((ok_X8_stops L x z_17_0 S) ∧ (((((h_X8_stops x z_17_0 S).1) = 0) → (((p0 = 0) → (True)) ∧
   (¬ (p0 = 0) → (((p0 = 1) → (True)) ∧
    (¬ (p0 = 1) → (((p0 = 2) → (True)) ∧
     (¬ (p0 = 2) → (((p0 = 3) → (True)) ∧
      (¬ (p0 = 3) → (((p0 = 4) → (True)) ∧
       (¬ (p0 = 4) → (((p0 = 5) → (True)) ∧
        (¬ (p0 = 5) → (((p0 = 6) → (True)) ∧
         (¬ (p0 = 6) → (True)))))))))))))))) ∧
  (¬ (((h_X8_stops x z_17_0 S).1) = 0) → (True))))
def h_X8_real (x : Nat) (p0 : Int32) (p1 : Int64) (p2 : Int64) (S : HS) : Int64 × HS :=
  if p0 < 0 then h_X8_real_j17 x p0 p1 p2 8 S
  else if p0 ≤ 7 then h_X8_real_j17 x p0 p1 p2 0 S
   else h_X8_real_j17 x p0 p1 p2 8 S
def ok_X8_real (L : List Nat) (x : Nat) (p0 : Int32) (p1 : Int64) (p2 : Int64) (S : HS) : Prop :=
  ((p0 < 0) → (ok_X8_real_j17 L x p0 p1 p2 8 S)) ∧
  (¬ (p0 < 0) → (((p0 ≤ 7) → (ok_X8_real_j17 L x p0 p1 p2 0 S)) ∧
   (¬ (p0 ≤ 7) → (ok_X8_real_j17 L x p0 p1 p2 8 S))))
set_option maxHeartbeats 4000000 in
set_option maxRecDepth 100000 in
theorem hm_X8_real (l : Launch) (G : GE) (L : List Nat) (S : HS) (x : Nat) (p0 : Int32) (p1 : Int64) (p2 : Int64) (hok : ok_X8_real L x p0 p1 p2 S) : HmL l G yX8_real wsX8_real 6 156 [.ref x, .int p0, .long p1, .long p2] L S (h_X8_real x p0 p1 p2 S) := by
  refine Met.ofW (cc := cX8_real) (maxL := 6) (ret := (some .long)) (by decide) rfl ?_
  intro p e s m args below meth c s₁ B hml hv
  obtain ⟨rfl, hP, hK, hnd, hE⟩ := hv
  have hx := B.exec
  have hb := B.bytes
  have hr := B.returns
  have hts := atoms_spec (ws := wsX8_real) B.pre
  have hown : s.vm.findClass RX8 = some m.cls := findClass_of_methodNamed B.named
  have hlocks := B.notSynchronized
  have hD := nd_D hnd
  have hS : va_S (AL L) s.heap s.heap [] := va_S.rf
  have hl := lv_entry ([.ref x, .int p0, .long p1, .long p2]) (n := 6) (Nat.le_of_ble_eq_true rfl)
  rw [lg_entry_eq]
  generalize (lg_sl ([.ref x, .int p0, .long p1, .long p2]) ++ List.replicate (6 - (lg_sl ([.ref x, .int p0, .long p1, .long p2])).length) Slot.unset).toArray = ls at hl ⊢
  have hl : lv_has ls 6 [(0, .ref x), (1, .int p0), (2, .long p1), (4, .long p2)] := hl
  obtain ⟨Z, hZ⟩ : ∃ z, z = MQ below (hm_QL G L (h_X8_real x p0 p1 p2 S)) ([.ref x, .int p0, .long p1, .long p2] : List Value).toArray s 0 0 (AL L) := ⟨_, rfl⟩
  rw [← hZ]
  refine lv_aload_n hx hb dX8_real_0 rfl (lv_at hl 0 rfl) ?_
  refine lv_iload_n hx hb dX8_real_1 rfl (lv_at hl 1 rfl) ?_
  have K_17 : ∀ (z_17_0 : Int32) (H : Heap) (locs : List Loc), va_P (gD G) vwCl (va_pl L (PF G S)) H → va_S (AL L) s.heap H locs → ∀ (ls : Array Slot), lv_has ls 6 [(1, .int p0), (2, .long p1), (4, .long p2)] → ok_X8_real_j17 L x p0 p1 p2 z_17_0 S → h_X8_real x p0 p1 p2 S = h_X8_real_j17 x p0 p1 p2 z_17_0 S → W p l e (pm_R 6 156) s m ([.ref x, .int p0, .long p1, .long p2] : List Value).toArray below meth c H locs 0 0 Z (F0 m 17 ls [.int z_17_0, .ref x]) := by
    intro z_17_0 H locs hP hS ls hl hok hK_17
    obtain ⟨h_17k, hok⟩ := hok
    obtain ⟨h_17, hok⟩ := hok
    refine hm_callI (G := G) (a := ([.ref x, .int z_17_0] : List Value).toArray) (pr := (h_X8_stops x z_17_0 S)) (rest := []) ?_ hS (fun H locs hP hS => ?_)
    ·
      exact va_runV (As := [.int z_17_0]) (rest := []) ⟨hx, hb, hml, hown, hts⟩ (hm_X8_stops l G L S x z_17_0 h_17) (cwV 1 hts gX8_real_X8_stops rfl rfl rfl hdv_X8_stops ⟨Nat.le_of_ble_eq_true rfl, Nat.le_of_ble_eq_true rfl⟩) ⟨HW.fb, hp_recv hK hP h_17k.1 (PF_6 h_17k.2) rfl, fun U hU hW => ⟨rfl, HW.call hP hK hnd hE hS U hU hW⟩⟩ rfl rfl hl.1 rfl (lv_room (Nat.le_of_ble_eq_true rfl)) dX8_real_17 ⟨Nat.le_refl 0, Nat.le_refl 0⟩
    ·
      refine lv_if_eq (tgt := 25) hx hb dX8_real_20 (by decide) (fun c_20 => ?_) (fun c_20 => ?_)
      ·
        have hok := (hok).1 c_20
        refine lv_iload_n hx hb dX8_real_25 rfl (lv_at hl 0 rfl) ?_
        by_cases c_26_0 : p0 = 0
        ·
          have hok := (hok).1 c_26_0
          refine lv_tableIn (off := 42) (tgt := 68) hx hb dX8_real_26 (by rw [c_26_0]; decide) (by rw [c_26_0]; decide) (by rw [c_26_0]; decide) (by decide) ?_
          refine lv_lload_n hx hb dX8_real_68 rfl (lv_at hl 1 rfl) ?_
          refine lv_lload hx hb dX8_real_69 (lv_at hl 2 rfl) ?_
          refine pm_callL (va_runS (As := [.long p1, .long p2]) (rest := []) ⟨hx, hb, hml, hown, hts⟩ (pm_X3_sum l (gd G) (gf G) p1 p2) (va_cwS 2 hts gX8_real_X3_sum rfl rfl rfl hd_X3_sum ⟨Nat.le_of_ble_eq_true rfl, Nat.le_of_ble_eq_true rfl⟩) ⟨KF.fb, fun U hU hW => ⟨rfl, (KF.call hE.1 hS U hU hW)⟩⟩ rfl rfl hl.1 rfl (lv_room (Nat.le_of_ble_eq_true rfl)) dX8_real_71 ⟨Nat.le_refl 0, Nat.le_refl 0⟩) hS (fun H locs _ hk9 hS => ?_)
          replace hP := P_keep hP hk9
          rw [hZ]
          exact hm_lret hx hb hr hlocks hS hP hK hnd hE (((hK_17).trans ((if_pos c_20).trans (if_pos c_26_0)))) dX8_real_74
        ·
          have hok := (hok).2 c_26_0
          by_cases c_26_1 : p0 = 1
          ·
            have hok := (hok).1 c_26_1
            refine lv_tableIn (off := 49) (tgt := 75) hx hb dX8_real_26 (by rw [c_26_1]; decide) (by rw [c_26_1]; decide) (by rw [c_26_1]; decide) (by decide) ?_
            refine lv_lload_n hx hb dX8_real_75 rfl (lv_at hl 1 rfl) ?_
            refine lv_lload hx hb dX8_real_76 (lv_at hl 2 rfl) ?_
            refine pm_callL (va_runS (As := [.long p1, .long p2]) (rest := []) ⟨hx, hb, hml, hown, hts⟩ (pm_X3_difference l (gd G) (gf G) p1 p2) (va_cwS 2 hts gX8_real_X3_difference rfl rfl rfl hd_X3_difference ⟨Nat.le_of_ble_eq_true rfl, Nat.le_of_ble_eq_true rfl⟩) ⟨KF.fb, fun U hU hW => ⟨rfl, (KF.call hE.1 hS U hU hW)⟩⟩ rfl rfl hl.1 rfl (lv_room (Nat.le_of_ble_eq_true rfl)) dX8_real_78 ⟨Nat.le_refl 0, Nat.le_refl 0⟩) hS (fun H locs _ hk9 hS => ?_)
            replace hP := P_keep hP hk9
            rw [hZ]
            exact hm_lret hx hb hr hlocks hS hP hK hnd hE (((hK_17).trans ((if_pos c_20).trans ((if_neg c_26_0).trans (if_pos c_26_1))))) dX8_real_81
          ·
            have hok := (hok).2 c_26_1
            by_cases c_26_2 : p0 = 2
            ·
              have hok := (hok).1 c_26_2
              refine lv_tableIn (off := 56) (tgt := 82) hx hb dX8_real_26 (by rw [c_26_2]; decide) (by rw [c_26_2]; decide) (by rw [c_26_2]; decide) (by decide) ?_
              refine lv_lload_n hx hb dX8_real_82 rfl (lv_at hl 1 rfl) ?_
              refine lv_lload hx hb dX8_real_83 (lv_at hl 2 rfl) ?_
              refine pm_callL (va_runS (As := [.long p1, .long p2]) (rest := []) ⟨hx, hb, hml, hown, hts⟩ (pm_X3_product l (gd G) (gf G) p1 p2) (va_cwS 2 hts gX8_real_X3_product rfl rfl rfl hd_X3_product ⟨Nat.le_of_ble_eq_true rfl, Nat.le_of_ble_eq_true rfl⟩) ⟨KF.fb, fun U hU hW => ⟨rfl, (KF.call hE.1 hS U hU hW)⟩⟩ rfl rfl hl.1 rfl (lv_room (Nat.le_of_ble_eq_true rfl)) dX8_real_85 ⟨Nat.le_refl 0, Nat.le_refl 0⟩) hS (fun H locs _ hk9 hS => ?_)
              replace hP := P_keep hP hk9
              rw [hZ]
              exact hm_lret hx hb hr hlocks hS hP hK hnd hE (((hK_17).trans ((if_pos c_20).trans ((if_neg c_26_0).trans ((if_neg c_26_1).trans (if_pos c_26_2)))))) dX8_real_88
            ·
              have hok := (hok).2 c_26_2
              by_cases c_26_3 : p0 = 3
              ·
                have hok := (hok).1 c_26_3
                refine lv_tableIn (off := 63) (tgt := 89) hx hb dX8_real_26 (by rw [c_26_3]; decide) (by rw [c_26_3]; decide) (by rw [c_26_3]; decide) (by decide) ?_
                refine lv_lload_n hx hb dX8_real_89 rfl (lv_at hl 1 rfl) ?_
                refine lv_lload hx hb dX8_real_90 (lv_at hl 2 rfl) ?_
                refine pm_callL (va_runS (As := [.long p1, .long p2]) (rest := []) ⟨hx, hb, hml, hown, hts⟩ (pm_X3_quotient l (gd G) (gf G) p1 p2) (va_cwS 2 hts gX8_real_X3_quotient rfl rfl rfl hd_X3_quotient ⟨Nat.le_of_ble_eq_true rfl, Nat.le_of_ble_eq_true rfl⟩) ⟨KF.fb, fun U hU hW => ⟨rfl, (KF.call hE.1 hS U hU hW)⟩⟩ rfl rfl hl.1 rfl (lv_room (Nat.le_of_ble_eq_true rfl)) dX8_real_92 ⟨Nat.le_refl 0, Nat.le_refl 0⟩) hS (fun H locs _ hk9 hS => ?_)
                replace hP := P_keep hP hk9
                rw [hZ]
                exact hm_lret hx hb hr hlocks hS hP hK hnd hE (((hK_17).trans ((if_pos c_20).trans ((if_neg c_26_0).trans ((if_neg c_26_1).trans ((if_neg c_26_2).trans (if_pos c_26_3))))))) dX8_real_95
              ·
                have hok := (hok).2 c_26_3
                by_cases c_26_4 : p0 = 4
                ·
                  have hok := (hok).1 c_26_4
                  refine lv_tableIn (off := 70) (tgt := 96) hx hb dX8_real_26 (by rw [c_26_4]; decide) (by rw [c_26_4]; decide) (by rw [c_26_4]; decide) (by decide) ?_
                  refine lv_lload_n hx hb dX8_real_96 rfl (lv_at hl 1 rfl) ?_
                  refine lv_lload hx hb dX8_real_97 (lv_at hl 2 rfl) ?_
                  refine pm_callL (va_runS (As := [.long p1, .long p2]) (rest := []) ⟨hx, hb, hml, hown, hts⟩ (pm_X3_remainder l (gd G) (gf G) p1 p2) (va_cwS 2 hts gX8_real_X3_remainder rfl rfl rfl hd_X3_remainder ⟨Nat.le_of_ble_eq_true rfl, Nat.le_of_ble_eq_true rfl⟩) ⟨KF.fb, fun U hU hW => ⟨rfl, (KF.call hE.1 hS U hU hW)⟩⟩ rfl rfl hl.1 rfl (lv_room (Nat.le_of_ble_eq_true rfl)) dX8_real_99 ⟨Nat.le_refl 0, Nat.le_refl 0⟩) hS (fun H locs _ hk9 hS => ?_)
                  replace hP := P_keep hP hk9
                  rw [hZ]
                  exact hm_lret hx hb hr hlocks hS hP hK hnd hE (((hK_17).trans ((if_pos c_20).trans ((if_neg c_26_0).trans ((if_neg c_26_1).trans ((if_neg c_26_2).trans ((if_neg c_26_3).trans (if_pos c_26_4)))))))) dX8_real_102
                ·
                  have hok := (hok).2 c_26_4
                  by_cases c_26_5 : p0 = 5
                  ·
                    have hok := (hok).1 c_26_5
                    refine lv_tableIn (off := 77) (tgt := 103) hx hb dX8_real_26 (by rw [c_26_5]; decide) (by rw [c_26_5]; decide) (by rw [c_26_5]; decide) (by decide) ?_
                    refine lv_lload_n hx hb dX8_real_103 rfl (lv_at hl 1 rfl) ?_
                    refine lv_lload hx hb dX8_real_104 (lv_at hl 2 rfl) ?_
                    refine pm_callL (va_runS (As := [.long p1, .long p2]) (rest := []) ⟨hx, hb, hml, hown, hts⟩ (pm_X3_greater l (gd G) (gf G) p1 p2) (va_cwS 2 hts gX8_real_X3_greater rfl rfl rfl hd_X3_greater ⟨Nat.le_of_ble_eq_true rfl, Nat.le_of_ble_eq_true rfl⟩) ⟨KF.fb, fun U hU hW => ⟨rfl, (KF.call hE.1 hS U hU hW)⟩⟩ rfl rfl hl.1 rfl (lv_room (Nat.le_of_ble_eq_true rfl)) dX8_real_106 ⟨Nat.le_refl 0, Nat.le_refl 0⟩) hS (fun H locs _ hk9 hS => ?_)
                    replace hP := P_keep hP hk9
                    rw [hZ]
                    exact hm_lret hx hb hr hlocks hS hP hK hnd hE (((hK_17).trans ((if_pos c_20).trans ((if_neg c_26_0).trans ((if_neg c_26_1).trans ((if_neg c_26_2).trans ((if_neg c_26_3).trans ((if_neg c_26_4).trans (if_pos c_26_5))))))))) dX8_real_109
                  ·
                    have hok := (hok).2 c_26_5
                    by_cases c_26_6 : p0 = 6
                    ·
                      have hok := (hok).1 c_26_6
                      refine lv_tableIn (off := 84) (tgt := 110) hx hb dX8_real_26 (by rw [c_26_6]; decide) (by rw [c_26_6]; decide) (by rw [c_26_6]; decide) (by decide) ?_
                      refine lv_lload_n hx hb dX8_real_110 rfl (lv_at hl 1 rfl) ?_
                      refine lv_lload hx hb dX8_real_111 (lv_at hl 2 rfl) ?_
                      refine pm_callL (va_runS (As := [.long p1, .long p2]) (rest := []) ⟨hx, hb, hml, hown, hts⟩ (pm_X3_lesser l (gd G) (gf G) p1 p2) (va_cwS 2 hts gX8_real_X3_lesser rfl rfl rfl hd_X3_lesser ⟨Nat.le_of_ble_eq_true rfl, Nat.le_of_ble_eq_true rfl⟩) ⟨KF.fb, fun U hU hW => ⟨rfl, (KF.call hE.1 hS U hU hW)⟩⟩ rfl rfl hl.1 rfl (lv_room (Nat.le_of_ble_eq_true rfl)) dX8_real_113 ⟨Nat.le_refl 0, Nat.le_refl 0⟩) hS (fun H locs _ hk9 hS => ?_)
                      replace hP := P_keep hP hk9
                      rw [hZ]
                      exact hm_lret hx hb hr hlocks hS hP hK hnd hE (((hK_17).trans ((if_pos c_20).trans ((if_neg c_26_0).trans ((if_neg c_26_1).trans ((if_neg c_26_2).trans ((if_neg c_26_3).trans ((if_neg c_26_4).trans ((if_neg c_26_5).trans (if_pos c_26_6)))))))))) dX8_real_116
                    ·
                      have hok := (hok).2 c_26_6
                      have nc_26_0 : (p0).toInt ≠ 0 := fun h => c_26_0 (Int32.toInt.inj (h.trans (by decide)))
                      have nc_26_1 : (p0).toInt ≠ 1 := fun h => c_26_1 (Int32.toInt.inj (h.trans (by decide)))
                      have nc_26_2 : (p0).toInt ≠ 2 := fun h => c_26_2 (Int32.toInt.inj (h.trans (by decide)))
                      have nc_26_3 : (p0).toInt ≠ 3 := fun h => c_26_3 (Int32.toInt.inj (h.trans (by decide)))
                      have nc_26_4 : (p0).toInt ≠ 4 := fun h => c_26_4 (Int32.toInt.inj (h.trans (by decide)))
                      have nc_26_5 : (p0).toInt ≠ 5 := fun h => c_26_5 (Int32.toInt.inj (h.trans (by decide)))
                      have nc_26_6 : (p0).toInt ≠ 6 := fun h => c_26_6 (Int32.toInt.inj (h.trans (by decide)))
                      refine lv_tableOut (tgt := 117) hx hb dX8_real_26 (by omega) (by decide) ?_
                      refine lv_lload_n hx hb dX8_real_117 rfl (lv_at hl 1 rfl) ?_
                      refine lv_lload hx hb dX8_real_118 (lv_at hl 2 rfl) ?_
                      refine pm_callL (va_runS (As := [.long p1, .long p2]) (rest := []) ⟨hx, hb, hml, hown, hts⟩ (pm_X3_withSignOf l (gd G) (gf G) p1 p2) (va_cwS 2 hts gX8_real_X3_withSignOf rfl rfl rfl hd_X3_withSignOf ⟨Nat.le_of_ble_eq_true rfl, Nat.le_of_ble_eq_true rfl⟩) ⟨KF.fb, fun U hU hW => ⟨rfl, (KF.call hE.1 hS U hU hW)⟩⟩ rfl rfl hl.1 rfl (lv_room (Nat.le_of_ble_eq_true rfl)) dX8_real_120 ⟨Nat.le_refl 0, Nat.le_refl 0⟩) hS (fun H locs _ hk9 hS => ?_)
                      replace hP := P_keep hP hk9
                      rw [hZ]
                      exact hm_lret hx hb hr hlocks hS hP hK hnd hE (((hK_17).trans ((if_pos c_20).trans ((if_neg c_26_0).trans ((if_neg c_26_1).trans ((if_neg c_26_2).trans ((if_neg c_26_3).trans ((if_neg c_26_4).trans ((if_neg c_26_5).trans (if_neg c_26_6)))))))))) dX8_real_123
      ·
        have hok := (hok).2 c_20
        refine lv_lconst (v := 0) hx hb dX8_real_23 (by decide) ?_
        rw [hZ]
        exact hm_lret hx hb hr hlocks hS hP hK hnd hE (((hK_17).trans (if_neg c_20))) dX8_real_24
  refine lv_if_lt (tgt := 11) hx hb dX8_real_2 (by decide) (fun c_2 => ?_) (fun c_2 => ?_)
  ·
    have hok := (hok).1 c_2
    refine lv_bipush (v := 8) hx hb dX8_real_11 (by decide) ?_
    refine lv_goto (tgt := 17) hx hb dX8_real_13 (by decide) ?_
    exact K_17 8 _ _ hP hS ls (lv_sub hl [1, 2, 3] rfl) hok ((if_pos c_2))
  ·
    have hok := (hok).2 c_2
    refine lv_iload_n hx hb dX8_real_5 rfl (lv_at hl 1 rfl) ?_
    refine lv_bipush (v := 7) hx hb dX8_real_6 (by decide) ?_
    refine lv_icmp_le (tgt := 16) hx hb dX8_real_8 (by decide) (fun c_8 => ?_) (fun c_8 => ?_)
    ·
      have hok := (hok).1 c_8
      refine lv_iconst (v := 0) hx hb dX8_real_16 (by decide) ?_
      exact K_17 0 _ _ hP hS ls (lv_sub hl [1, 2, 3] rfl) hok (((if_neg c_2).trans (if_pos c_8)))
    ·
      have hok := (hok).2 c_8
      refine lv_bipush (v := 8) hx hb dX8_real_11 (by decide) ?_
      refine lv_goto (tgt := 17) hx hb dX8_real_13 (by decide) ?_
      exact K_17 8 _ _ hP hS ls (lv_sub hl [1, 2, 3] rfl) hok (((if_neg c_2).trans (if_neg c_8)))
theorem hdv_X8_math : yX8_math.cls = RX8 ∧ yX8_math.cls ≠ "java/lang/invoke/MethodHandle" ∧ yX8_math.cls ≠ "java/lang/invoke/VarHandle" ∧ (parseMethodDescriptor yX8_math.desc).map (fun d => d.parameters.length) = some 2 := by decide +kernel
def h_X8_math_j17 (x : Nat) (p0 : Int32) (p1 : Int64) (z_17_0 : Int32) (S : HS) : Int64 × HS :=
  if ((h_X8_stops x z_17_0 S).1) = 0 then if p0 = 9 then ((s_X3_power p1).toInt64, (h_X8_stops x z_17_0 S).2)
   else if (s_X0_isNaN 52 (-1074) 9218868437227405312 (-9223372036854775808) p1) = 0 then (s_X3_mathOfNumber p0 p1, (h_X8_stops x z_17_0 S).2)
    else (s_X0_plainNaN 52 (-1074) 9218868437227405312 (-9223372036854775808), (h_X8_stops x z_17_0 S).2)
  else (0, (h_X8_stops x z_17_0 S).2)
def ok_X8_math_j17 (L : List Nat) (x : Nat) (p0 : Int32) (p1 : Int64) (z_17_0 : Int32) (S : HS) : Prop :=
  (x ∈ L ∧ hsK S x = 6) ∧ ((ok_X8_stops L x z_17_0 S) ∧ (((((h_X8_stops x z_17_0 S).1) = 0) → (((p0 = 9) → (True)) ∧
   (¬ (p0 = 9) → ((((s_X0_isNaN 52 (-1074) 9218868437227405312 (-9223372036854775808) p1) = 0) → (True)) ∧
    (¬ ((s_X0_isNaN 52 (-1074) 9218868437227405312 (-9223372036854775808) p1) = 0) → (True)))))) ∧
  (¬ (((h_X8_stops x z_17_0 S).1) = 0) → (True))))
def h_X8_math (x : Nat) (p0 : Int32) (p1 : Int64) (S : HS) : Int64 × HS :=
  if p0 < 0 then h_X8_math_j17 x p0 p1 8 S
  else if p0 ≤ 9 then h_X8_math_j17 x p0 p1 0 S
   else h_X8_math_j17 x p0 p1 8 S
def ok_X8_math (L : List Nat) (x : Nat) (p0 : Int32) (p1 : Int64) (S : HS) : Prop :=
  ((p0 < 0) → (ok_X8_math_j17 L x p0 p1 8 S)) ∧
  (¬ (p0 < 0) → (((p0 ≤ 9) → (ok_X8_math_j17 L x p0 p1 0 S)) ∧
   (¬ (p0 ≤ 9) → (ok_X8_math_j17 L x p0 p1 8 S))))
set_option maxHeartbeats 4000000 in
set_option maxRecDepth 100000 in
theorem hm_X8_math (l : Launch) (G : GE) (L : List Nat) (S : HS) (x : Nat) (p0 : Int32) (p1 : Int64) (hok : ok_X8_math L x p0 p1 S) : HmL l G yX8_math wsX8_math 5 118 [.ref x, .int p0, .long p1] L S (h_X8_math x p0 p1 S) := by
  refine Met.ofW (cc := cX8_math) (maxL := 4) (ret := (some .long)) (by decide) rfl ?_
  intro p e s m args below meth c s₁ B hml hv
  obtain ⟨rfl, hP, hK, hnd, hE⟩ := hv
  have hx := B.exec
  have hb := B.bytes
  have hr := B.returns
  have hts := atoms_spec (ws := wsX8_math) B.pre
  have hown : s.vm.findClass RX8 = some m.cls := findClass_of_methodNamed B.named
  have hlocks := B.notSynchronized
  have hD := nd_D hnd
  have hS : va_S (AL L) s.heap s.heap [] := va_S.rf
  have hl := lv_entry ([.ref x, .int p0, .long p1]) (n := 4) (Nat.le_of_ble_eq_true rfl)
  rw [lg_entry_eq]
  generalize (lg_sl ([.ref x, .int p0, .long p1]) ++ List.replicate (4 - (lg_sl ([.ref x, .int p0, .long p1])).length) Slot.unset).toArray = ls at hl ⊢
  have hl : lv_has ls 4 [(0, .ref x), (1, .int p0), (2, .long p1)] := hl
  obtain ⟨Z, hZ⟩ : ∃ z, z = MQ below (hm_QL G L (h_X8_math x p0 p1 S)) ([.ref x, .int p0, .long p1] : List Value).toArray s 0 0 (AL L) := ⟨_, rfl⟩
  rw [← hZ]
  refine lv_aload_n hx hb dX8_math_0 rfl (lv_at hl 0 rfl) ?_
  refine lv_iload_n hx hb dX8_math_1 rfl (lv_at hl 1 rfl) ?_
  have K_17 : ∀ (z_17_0 : Int32) (H : Heap) (locs : List Loc), va_P (gD G) vwCl (va_pl L (PF G S)) H → va_S (AL L) s.heap H locs → ∀ (ls : Array Slot), lv_has ls 4 [(1, .int p0), (2, .long p1)] → ok_X8_math_j17 L x p0 p1 z_17_0 S → h_X8_math x p0 p1 S = h_X8_math_j17 x p0 p1 z_17_0 S → W p l e (pm_R 5 118) s m ([.ref x, .int p0, .long p1] : List Value).toArray below meth c H locs 0 0 Z (F0 m 17 ls [.int z_17_0, .ref x]) := by
    intro z_17_0 H locs hP hS ls hl hok hK_17
    obtain ⟨h_17k, hok⟩ := hok
    obtain ⟨h_17, hok⟩ := hok
    refine hm_callI (G := G) (a := ([.ref x, .int z_17_0] : List Value).toArray) (pr := (h_X8_stops x z_17_0 S)) (rest := []) ?_ hS (fun H locs hP hS => ?_)
    ·
      exact va_runV (As := [.int z_17_0]) (rest := []) ⟨hx, hb, hml, hown, hts⟩ (hm_X8_stops l G L S x z_17_0 h_17) (cwV 1 hts gX8_math_X8_stops rfl rfl rfl hdv_X8_stops ⟨Nat.le_of_ble_eq_true rfl, Nat.le_of_ble_eq_true rfl⟩) ⟨HW.fb, hp_recv hK hP h_17k.1 (PF_6 h_17k.2) rfl, fun U hU hW => ⟨rfl, HW.call hP hK hnd hE hS U hU hW⟩⟩ rfl rfl hl.1 rfl (lv_room (Nat.le_of_ble_eq_true rfl)) dX8_math_17 ⟨Nat.le_refl 0, Nat.le_refl 0⟩
    ·
      refine lv_if_eq (tgt := 25) hx hb dX8_math_20 (by decide) (fun c_20 => ?_) (fun c_20 => ?_)
      ·
        have hok := (hok).1 c_20
        refine lv_iload_n hx hb dX8_math_25 rfl (lv_at hl 0 rfl) ?_
        refine lv_bipush (v := 9) hx hb dX8_math_26 (by decide) ?_
        refine lv_icmp_ne (tgt := 37) hx hb dX8_math_28 (by decide) (fun c_28 => ?_) (fun c_28 => ?_)
        ·
          have hok := (hok).2 c_28
          refine va_gets hx hb hE.1.1 hS hown (hts _ (List.mem_of_getElem? (i := 1) rfl)) (fun _ h9 => h9) dX8_math_37 ?_
          refine lv_lload_n hx hb dX8_math_40 rfl (lv_at hl 1 rfl) ?_
          refine pm_callI (va_runV (As := [.long p1]) (rest := []) ⟨hx, hb, hml, hown, hts⟩ (pm_X0_isNaN l 52 (-1074) 9218868437227405312 (-9223372036854775808) (gd G) p1) (cwV 1 hts gX8_math_X0_isNaN rfl rfl rfl hdv_X0_isNaN ⟨Nat.le_of_ble_eq_true rfl, Nat.le_of_ble_eq_true rfl⟩) ⟨KQ.fb, va_Orecv hE.1.2.2.1.1 hS, fun U hU hW => ⟨rfl, (KQ.call hE.1.2.2.1 hS U hU hW)⟩⟩ rfl rfl hl.1 rfl (lv_room (Nat.le_of_ble_eq_true rfl)) dX8_math_41 ⟨Nat.le_refl 0, Nat.le_refl 0⟩) hS (fun H locs _ hk9 hS => ?_)
          replace hP := P_keep hP hk9
          refine lv_if_eq (tgt := 56) hx hb dX8_math_44 (by decide) (fun c_44 => ?_) (fun c_44 => ?_)
          ·
            have hok := (hok).1 c_44
            refine lv_iload_n hx hb dX8_math_56 rfl (lv_at hl 0 rfl) ?_
            refine lv_lload_n hx hb dX8_math_57 rfl (lv_at hl 1 rfl) ?_
            refine pm_callL (va_runS (As := [.int p0, .long p1]) (rest := []) ⟨hx, hb, hml, hown, hts⟩ (pm_X3_mathOfNumber l (gd G) (gf G) p0 p1) (va_cwS 2 hts gX8_math_X3_mathOfNumber rfl rfl rfl hd_X3_mathOfNumber ⟨Nat.le_of_ble_eq_true rfl, Nat.le_of_ble_eq_true rfl⟩) ⟨KF.fb, fun U hU hW => ⟨rfl, (KF.call hE.1 hS U hU hW)⟩⟩ rfl rfl hl.1 rfl (lv_room (Nat.le_of_ble_eq_true rfl)) dX8_math_58 ⟨Nat.le_refl 0, Nat.le_refl 0⟩) hS (fun H locs _ hk9 hS => ?_)
            replace hP := P_keep hP hk9
            rw [hZ]
            exact hm_lret hx hb hr hlocks hS hP hK hnd hE (((hK_17).trans ((if_pos c_20).trans ((if_neg c_28).trans (if_pos c_44))))) dX8_math_61
          ·
            have hok := (hok).2 c_44
            refine va_gets hx hb hE.1.1 hS hown (hts _ (List.mem_of_getElem? (i := 1) rfl)) (fun _ h9 => h9) dX8_math_47 ?_
            refine pm_callL (va_runV (As := []) (rest := []) ⟨hx, hb, hml, hown, hts⟩ (pm_X0_plainNaN l 52 (-1074) 9218868437227405312 (-9223372036854775808) (gd G)) (cwV 0 hts gX8_math_X0_plainNaN rfl rfl rfl hdv_X0_plainNaN ⟨Nat.le_of_ble_eq_true rfl, Nat.le_of_ble_eq_true rfl⟩) ⟨KQ.fb, va_Orecv hE.1.2.2.1.1 hS, fun U hU hW => ⟨rfl, (KQ.call hE.1.2.2.1 hS U hU hW)⟩⟩ rfl rfl hl.1 rfl (lv_room (Nat.le_of_ble_eq_true rfl)) dX8_math_50 ⟨Nat.le_refl 0, Nat.le_refl 0⟩) hS (fun H locs _ hk9 hS => ?_)
            replace hP := P_keep hP hk9
            refine lv_goto (tgt := 61) hx hb dX8_math_53 (by decide) ?_
            rw [hZ]
            exact hm_lret hx hb hr hlocks hS hP hK hnd hE (((hK_17).trans ((if_pos c_20).trans ((if_neg c_28).trans (if_neg c_44))))) dX8_math_61
        ·
          have hok := (hok).1 c_28
          refine lv_lload_n hx hb dX8_math_31 rfl (lv_at hl 1 rfl) ?_
          refine pm_callI (va_runS (As := [.long p1]) (rest := []) ⟨hx, hb, hml, hown, hts⟩ (pm_X3_power l (gd G) (gf G) p1) (va_cwS 1 hts gX8_math_X3_power rfl rfl rfl hd_X3_power ⟨Nat.le_of_ble_eq_true rfl, Nat.le_of_ble_eq_true rfl⟩) ⟨KF.fb, fun U hU hW => ⟨rfl, (KF.call hE.1 hS U hU hW)⟩⟩ rfl rfl hl.1 rfl (lv_room (Nat.le_of_ble_eq_true rfl)) dX8_math_32 ⟨Nat.le_refl 0, Nat.le_refl 0⟩) hS (fun H locs _ hk9 hS => ?_)
          replace hP := P_keep hP hk9
          refine lv_i2l (v := (s_X3_power p1).toInt64) hx hb dX8_math_35 rfl ?_
          rw [hZ]
          exact hm_lret hx hb hr hlocks hS hP hK hnd hE (((hK_17).trans ((if_pos c_20).trans (if_pos c_28)))) dX8_math_36
      ·
        have hok := (hok).2 c_20
        refine lv_lconst (v := 0) hx hb dX8_math_23 (by decide) ?_
        rw [hZ]
        exact hm_lret hx hb hr hlocks hS hP hK hnd hE (((hK_17).trans (if_neg c_20))) dX8_math_24
  refine lv_if_lt (tgt := 11) hx hb dX8_math_2 (by decide) (fun c_2 => ?_) (fun c_2 => ?_)
  ·
    have hok := (hok).1 c_2
    refine lv_bipush (v := 8) hx hb dX8_math_11 (by decide) ?_
    refine lv_goto (tgt := 17) hx hb dX8_math_13 (by decide) ?_
    exact K_17 8 _ _ hP hS ls (lv_sub hl [1, 2] rfl) hok ((if_pos c_2))
  ·
    have hok := (hok).2 c_2
    refine lv_iload_n hx hb dX8_math_5 rfl (lv_at hl 1 rfl) ?_
    refine lv_bipush (v := 9) hx hb dX8_math_6 (by decide) ?_
    refine lv_icmp_le (tgt := 16) hx hb dX8_math_8 (by decide) (fun c_8 => ?_) (fun c_8 => ?_)
    ·
      have hok := (hok).1 c_8
      refine lv_iconst (v := 0) hx hb dX8_math_16 (by decide) ?_
      exact K_17 0 _ _ hP hS ls (lv_sub hl [1, 2] rfl) hok (((if_neg c_2).trans (if_pos c_8)))
    ·
      have hok := (hok).2 c_8
      refine lv_bipush (v := 8) hx hb dX8_math_11 (by decide) ?_
      refine lv_goto (tgt := 17) hx hb dX8_math_13 (by decide) ?_
      exact K_17 8 _ _ hP hS ls (lv_sub hl [1, 2] rfl) hok (((if_neg c_2).trans (if_neg c_8)))
theorem hdv_X8_narrow : yX8_narrow.cls = RX8 ∧ yX8_narrow.cls ≠ "java/lang/invoke/MethodHandle" ∧ yX8_narrow.cls ≠ "java/lang/invoke/VarHandle" ∧ (parseMethodDescriptor yX8_narrow.desc).map (fun d => d.parameters.length) = some 2 := by decide +kernel
def h_X8_narrow_j16 (x : Nat) (p0 : Int32) (p1 : Int64) (z_16_0 : Int32) (S : HS) : Int64 × HS :=
  if ((h_X8_stops x z_16_0 S).1) = 0 then if p0 = 0 then ((s_X3_toInt p1).toInt64, (h_X8_stops x z_16_0 S).2)
   else if p0 = 1 then (s_X3_toLong p1, (h_X8_stops x z_16_0 S).2)
    else if p0 = 2 then (((s_X3_converted 52 (-1074) 9218868437227405312 (-9223372036854775808) 23 (-149) 2139095040 2147483648 p1).toInt32).toInt64, (h_X8_stops x z_16_0 S).2)
     else if p0 = 3 then (((s_X3_toInt p1).toInt8.toInt32).toInt64, (h_X8_stops x z_16_0 S).2)
      else if p0 = 4 then ((((s_X3_toInt p1).toUInt32 % 65536).toInt32).toInt64, (h_X8_stops x z_16_0 S).2)
       else (((s_X3_toInt p1).toInt16.toInt32).toInt64, (h_X8_stops x z_16_0 S).2)
  else (0, (h_X8_stops x z_16_0 S).2)
def ok_X8_narrow_j16 (L : List Nat) (x : Nat) (p0 : Int32) (p1 : Int64) (z_16_0 : Int32) (S : HS) : Prop :=
  (x ∈ L ∧ hsK S x = 6) ∧ ((ok_X8_stops L x z_16_0 S) ∧ (((((h_X8_stops x z_16_0 S).1) = 0) → (((p0 = 0) → (True)) ∧
   (¬ (p0 = 0) → (((p0 = 1) → (True)) ∧
    (¬ (p0 = 1) → (((p0 = 2) → (True)) ∧
     (¬ (p0 = 2) → (((p0 = 3) → (True)) ∧
      (¬ (p0 = 3) → (((p0 = 4) → (True)) ∧
       (¬ (p0 = 4) → (True)))))))))))) ∧
  (¬ (((h_X8_stops x z_16_0 S).1) = 0) → (True))))
def h_X8_narrow (x : Nat) (p0 : Int32) (p1 : Int64) (S : HS) : Int64 × HS :=
  if p0 < 0 then h_X8_narrow_j16 x p0 p1 8 S
  else if p0 ≤ 5 then h_X8_narrow_j16 x p0 p1 0 S
   else h_X8_narrow_j16 x p0 p1 8 S
def ok_X8_narrow (L : List Nat) (x : Nat) (p0 : Int32) (p1 : Int64) (S : HS) : Prop :=
  ((p0 < 0) → (ok_X8_narrow_j16 L x p0 p1 8 S)) ∧
  (¬ (p0 < 0) → (((p0 ≤ 5) → (ok_X8_narrow_j16 L x p0 p1 0 S)) ∧
   (¬ (p0 ≤ 5) → (ok_X8_narrow_j16 L x p0 p1 8 S))))
set_option maxHeartbeats 4000000 in
set_option maxRecDepth 100000 in
theorem hm_X8_narrow (l : Launch) (G : GE) (L : List Nat) (S : HS) (x : Nat) (p0 : Int32) (p1 : Int64) (hok : ok_X8_narrow L x p0 p1 S) : HmL l G yX8_narrow wsX8_narrow 5 120 [.ref x, .int p0, .long p1] L S (h_X8_narrow x p0 p1 S) := by
  refine Met.ofW (cc := cX8_narrow) (maxL := 4) (ret := (some .long)) (by decide) rfl ?_
  intro p e s m args below meth c s₁ B hml hv
  obtain ⟨rfl, hP, hK, hnd, hE⟩ := hv
  have hx := B.exec
  have hb := B.bytes
  have hr := B.returns
  have hts := atoms_spec (ws := wsX8_narrow) B.pre
  have hown : s.vm.findClass RX8 = some m.cls := findClass_of_methodNamed B.named
  have hlocks := B.notSynchronized
  have hD := nd_D hnd
  have hS : va_S (AL L) s.heap s.heap [] := va_S.rf
  have hl := lv_entry ([.ref x, .int p0, .long p1]) (n := 4) (Nat.le_of_ble_eq_true rfl)
  rw [lg_entry_eq]
  generalize (lg_sl ([.ref x, .int p0, .long p1]) ++ List.replicate (4 - (lg_sl ([.ref x, .int p0, .long p1])).length) Slot.unset).toArray = ls at hl ⊢
  have hl : lv_has ls 4 [(0, .ref x), (1, .int p0), (2, .long p1)] := hl
  obtain ⟨Z, hZ⟩ : ∃ z, z = MQ below (hm_QL G L (h_X8_narrow x p0 p1 S)) ([.ref x, .int p0, .long p1] : List Value).toArray s 0 0 (AL L) := ⟨_, rfl⟩
  rw [← hZ]
  refine lv_aload_n hx hb dX8_narrow_0 rfl (lv_at hl 0 rfl) ?_
  refine lv_iload_n hx hb dX8_narrow_1 rfl (lv_at hl 1 rfl) ?_
  have K_16 : ∀ (z_16_0 : Int32) (H : Heap) (locs : List Loc), va_P (gD G) vwCl (va_pl L (PF G S)) H → va_S (AL L) s.heap H locs → ∀ (ls : Array Slot), lv_has ls 4 [(1, .int p0), (2, .long p1)] → ok_X8_narrow_j16 L x p0 p1 z_16_0 S → h_X8_narrow x p0 p1 S = h_X8_narrow_j16 x p0 p1 z_16_0 S → W p l e (pm_R 5 120) s m ([.ref x, .int p0, .long p1] : List Value).toArray below meth c H locs 0 0 Z (F0 m 16 ls [.int z_16_0, .ref x]) := by
    intro z_16_0 H locs hP hS ls hl hok hK_16
    obtain ⟨h_16k, hok⟩ := hok
    obtain ⟨h_16, hok⟩ := hok
    refine hm_callI (G := G) (a := ([.ref x, .int z_16_0] : List Value).toArray) (pr := (h_X8_stops x z_16_0 S)) (rest := []) ?_ hS (fun H locs hP hS => ?_)
    ·
      exact va_runV (As := [.int z_16_0]) (rest := []) ⟨hx, hb, hml, hown, hts⟩ (hm_X8_stops l G L S x z_16_0 h_16) (cwV 1 hts gX8_narrow_X8_stops rfl rfl rfl hdv_X8_stops ⟨Nat.le_of_ble_eq_true rfl, Nat.le_of_ble_eq_true rfl⟩) ⟨HW.fb, hp_recv hK hP h_16k.1 (PF_6 h_16k.2) rfl, fun U hU hW => ⟨rfl, HW.call hP hK hnd hE hS U hU hW⟩⟩ rfl rfl hl.1 rfl (lv_room (Nat.le_of_ble_eq_true rfl)) dX8_narrow_16 ⟨Nat.le_refl 0, Nat.le_refl 0⟩
    ·
      refine lv_if_eq (tgt := 24) hx hb dX8_narrow_19 (by decide) (fun c_19 => ?_) (fun c_19 => ?_)
      ·
        have hok := (hok).1 c_19
        refine lv_iload_n hx hb dX8_narrow_24 rfl (lv_at hl 0 rfl) ?_
        by_cases c_25_0 : p0 = 0
        ·
          have hok := (hok).1 c_25_0
          refine lv_tableIn (off := 35) (tgt := 60) hx hb dX8_narrow_25 (by rw [c_25_0]; decide) (by rw [c_25_0]; decide) (by rw [c_25_0]; decide) (by decide) ?_
          refine lv_lload_n hx hb dX8_narrow_60 rfl (lv_at hl 1 rfl) ?_
          refine pm_callI (va_runS (As := [.long p1]) (rest := []) ⟨hx, hb, hml, hown, hts⟩ (pm_X3_toInt l (gd G) (gf G) p1) (va_cwS 1 hts gX8_narrow_X3_toInt rfl rfl rfl hd_X3_toInt ⟨Nat.le_of_ble_eq_true rfl, Nat.le_of_ble_eq_true rfl⟩) ⟨KF.fb, fun U hU hW => ⟨rfl, (KF.call hE.1 hS U hU hW)⟩⟩ rfl rfl hl.1 rfl (lv_room (Nat.le_of_ble_eq_true rfl)) dX8_narrow_61 ⟨Nat.le_refl 0, Nat.le_refl 0⟩) hS (fun H locs _ hk9 hS => ?_)
          replace hP := P_keep hP hk9
          refine lv_i2l (v := (s_X3_toInt p1).toInt64) hx hb dX8_narrow_64 rfl ?_
          rw [hZ]
          exact hm_lret hx hb hr hlocks hS hP hK hnd hE (((hK_16).trans ((if_pos c_19).trans (if_pos c_25_0)))) dX8_narrow_65
        ·
          have hok := (hok).2 c_25_0
          by_cases c_25_1 : p0 = 1
          ·
            have hok := (hok).1 c_25_1
            refine lv_tableIn (off := 41) (tgt := 66) hx hb dX8_narrow_25 (by rw [c_25_1]; decide) (by rw [c_25_1]; decide) (by rw [c_25_1]; decide) (by decide) ?_
            refine lv_lload_n hx hb dX8_narrow_66 rfl (lv_at hl 1 rfl) ?_
            refine pm_callL (va_runS (As := [.long p1]) (rest := []) ⟨hx, hb, hml, hown, hts⟩ (pm_X3_toLong l (gd G) (gf G) p1) (va_cwS 1 hts gX8_narrow_X3_toLong rfl rfl rfl hd_X3_toLong ⟨Nat.le_of_ble_eq_true rfl, Nat.le_of_ble_eq_true rfl⟩) ⟨KF.fb, fun U hU hW => ⟨rfl, (KF.call hE.1 hS U hU hW)⟩⟩ rfl rfl hl.1 rfl (lv_room (Nat.le_of_ble_eq_true rfl)) dX8_narrow_67 ⟨Nat.le_refl 0, Nat.le_refl 0⟩) hS (fun H locs _ hk9 hS => ?_)
            replace hP := P_keep hP hk9
            rw [hZ]
            exact hm_lret hx hb hr hlocks hS hP hK hnd hE (((hK_16).trans ((if_pos c_19).trans ((if_neg c_25_0).trans (if_pos c_25_1))))) dX8_narrow_70
          ·
            have hok := (hok).2 c_25_1
            by_cases c_25_2 : p0 = 2
            ·
              have hok := (hok).1 c_25_2
              refine lv_tableIn (off := 46) (tgt := 71) hx hb dX8_narrow_25 (by rw [c_25_2]; decide) (by rw [c_25_2]; decide) (by rw [c_25_2]; decide) (by decide) ?_
              refine va_gets hx hb hE.1.1 hS hown (hts _ (List.mem_of_getElem? (i := 1) rfl)) (fun _ h9 => h9) dX8_narrow_71 ?_
              refine va_gets hx hb hE.1.2.1 hS hown (hts _ (List.mem_of_getElem? (i := 2) rfl)) (fun _ h9 => h9) dX8_narrow_74 ?_
              refine lv_lload_n hx hb dX8_narrow_77 rfl (lv_at hl 1 rfl) ?_
              refine pm_callL (va_runS (As := [.ref (gd G), .ref (gf G), .long p1]) (rest := []) ⟨hx, hb, hml, hown, hts⟩ (pm_X3_converted l 52 (-1074) 9218868437227405312 (-9223372036854775808) (gd G) 23 (-149) 2139095040 2147483648 (gf G) p1) (va_cwS 3 hts gX8_narrow_X3_converted rfl rfl rfl hd_X3_converted ⟨Nat.le_of_ble_eq_true rfl, Nat.le_of_ble_eq_true rfl⟩) ⟨KQ.fb2, fun U hU hW => ⟨rfl, ⟨KQ.call hE.1.2.2.1 hS U hU hW, KQ.call hE.1.2.2.2 hS U hU hW⟩⟩⟩ rfl rfl hl.1 rfl (lv_room (Nat.le_of_ble_eq_true rfl)) dX8_narrow_78 ⟨Nat.le_refl 0, Nat.le_refl 0⟩) hS (fun H locs _ hk9 hS => ?_)
              replace hP := P_keep hP hk9
              refine lv_l2i (v := (s_X3_converted 52 (-1074) 9218868437227405312 (-9223372036854775808) 23 (-149) 2139095040 2147483648 p1).toInt32) hx hb dX8_narrow_81 rfl ?_
              refine lv_i2l (v := ((s_X3_converted 52 (-1074) 9218868437227405312 (-9223372036854775808) 23 (-149) 2139095040 2147483648 p1).toInt32).toInt64) hx hb dX8_narrow_82 rfl ?_
              rw [hZ]
              exact hm_lret hx hb hr hlocks hS hP hK hnd hE (((hK_16).trans ((if_pos c_19).trans ((if_neg c_25_0).trans ((if_neg c_25_1).trans (if_pos c_25_2)))))) dX8_narrow_83
            ·
              have hok := (hok).2 c_25_2
              by_cases c_25_3 : p0 = 3
              ·
                have hok := (hok).1 c_25_3
                refine lv_tableIn (off := 59) (tgt := 84) hx hb dX8_narrow_25 (by rw [c_25_3]; decide) (by rw [c_25_3]; decide) (by rw [c_25_3]; decide) (by decide) ?_
                refine lv_lload_n hx hb dX8_narrow_84 rfl (lv_at hl 1 rfl) ?_
                refine pm_callI (va_runS (As := [.long p1]) (rest := []) ⟨hx, hb, hml, hown, hts⟩ (pm_X3_toInt l (gd G) (gf G) p1) (va_cwS 1 hts gX8_narrow_X3_toInt rfl rfl rfl hd_X3_toInt ⟨Nat.le_of_ble_eq_true rfl, Nat.le_of_ble_eq_true rfl⟩) ⟨KF.fb, fun U hU hW => ⟨rfl, (KF.call hE.1 hS U hU hW)⟩⟩ rfl rfl hl.1 rfl (lv_room (Nat.le_of_ble_eq_true rfl)) dX8_narrow_85 ⟨Nat.le_refl 0, Nat.le_refl 0⟩) hS (fun H locs _ hk9 hS => ?_)
                replace hP := P_keep hP hk9
                refine lv_i2b (v := (s_X3_toInt p1).toInt8.toInt32) hx hb dX8_narrow_88 rfl ?_
                refine lv_i2l (v := ((s_X3_toInt p1).toInt8.toInt32).toInt64) hx hb dX8_narrow_89 rfl ?_
                rw [hZ]
                exact hm_lret hx hb hr hlocks hS hP hK hnd hE (((hK_16).trans ((if_pos c_19).trans ((if_neg c_25_0).trans ((if_neg c_25_1).trans ((if_neg c_25_2).trans (if_pos c_25_3))))))) dX8_narrow_90
              ·
                have hok := (hok).2 c_25_3
                by_cases c_25_4 : p0 = 4
                ·
                  have hok := (hok).1 c_25_4
                  refine lv_tableIn (off := 66) (tgt := 91) hx hb dX8_narrow_25 (by rw [c_25_4]; decide) (by rw [c_25_4]; decide) (by rw [c_25_4]; decide) (by decide) ?_
                  refine lv_lload_n hx hb dX8_narrow_91 rfl (lv_at hl 1 rfl) ?_
                  refine pm_callI (va_runS (As := [.long p1]) (rest := []) ⟨hx, hb, hml, hown, hts⟩ (pm_X3_toInt l (gd G) (gf G) p1) (va_cwS 1 hts gX8_narrow_X3_toInt rfl rfl rfl hd_X3_toInt ⟨Nat.le_of_ble_eq_true rfl, Nat.le_of_ble_eq_true rfl⟩) ⟨KF.fb, fun U hU hW => ⟨rfl, (KF.call hE.1 hS U hU hW)⟩⟩ rfl rfl hl.1 rfl (lv_room (Nat.le_of_ble_eq_true rfl)) dX8_narrow_92 ⟨Nat.le_refl 0, Nat.le_refl 0⟩) hS (fun H locs _ hk9 hS => ?_)
                  replace hP := P_keep hP hk9
                  refine lv_i2c (v := ((s_X3_toInt p1).toUInt32 % 65536).toInt32) hx hb dX8_narrow_95 rfl ?_
                  refine lv_i2l (v := (((s_X3_toInt p1).toUInt32 % 65536).toInt32).toInt64) hx hb dX8_narrow_96 rfl ?_
                  rw [hZ]
                  exact hm_lret hx hb hr hlocks hS hP hK hnd hE (((hK_16).trans ((if_pos c_19).trans ((if_neg c_25_0).trans ((if_neg c_25_1).trans ((if_neg c_25_2).trans ((if_neg c_25_3).trans (if_pos c_25_4)))))))) dX8_narrow_97
                ·
                  have hok := (hok).2 c_25_4
                  have nc_25_0 : (p0).toInt ≠ 0 := fun h => c_25_0 (Int32.toInt.inj (h.trans (by decide)))
                  have nc_25_1 : (p0).toInt ≠ 1 := fun h => c_25_1 (Int32.toInt.inj (h.trans (by decide)))
                  have nc_25_2 : (p0).toInt ≠ 2 := fun h => c_25_2 (Int32.toInt.inj (h.trans (by decide)))
                  have nc_25_3 : (p0).toInt ≠ 3 := fun h => c_25_3 (Int32.toInt.inj (h.trans (by decide)))
                  have nc_25_4 : (p0).toInt ≠ 4 := fun h => c_25_4 (Int32.toInt.inj (h.trans (by decide)))
                  refine lv_tableOut (tgt := 98) hx hb dX8_narrow_25 (by omega) (by decide) ?_
                  refine lv_lload_n hx hb dX8_narrow_98 rfl (lv_at hl 1 rfl) ?_
                  refine pm_callI (va_runS (As := [.long p1]) (rest := []) ⟨hx, hb, hml, hown, hts⟩ (pm_X3_toInt l (gd G) (gf G) p1) (va_cwS 1 hts gX8_narrow_X3_toInt rfl rfl rfl hd_X3_toInt ⟨Nat.le_of_ble_eq_true rfl, Nat.le_of_ble_eq_true rfl⟩) ⟨KF.fb, fun U hU hW => ⟨rfl, (KF.call hE.1 hS U hU hW)⟩⟩ rfl rfl hl.1 rfl (lv_room (Nat.le_of_ble_eq_true rfl)) dX8_narrow_99 ⟨Nat.le_refl 0, Nat.le_refl 0⟩) hS (fun H locs _ hk9 hS => ?_)
                  replace hP := P_keep hP hk9
                  refine lv_i2s (v := (s_X3_toInt p1).toInt16.toInt32) hx hb dX8_narrow_102 rfl ?_
                  refine lv_i2l (v := ((s_X3_toInt p1).toInt16.toInt32).toInt64) hx hb dX8_narrow_103 rfl ?_
                  rw [hZ]
                  exact hm_lret hx hb hr hlocks hS hP hK hnd hE (((hK_16).trans ((if_pos c_19).trans ((if_neg c_25_0).trans ((if_neg c_25_1).trans ((if_neg c_25_2).trans ((if_neg c_25_3).trans (if_neg c_25_4)))))))) dX8_narrow_104
      ·
        have hok := (hok).2 c_19
        refine lv_lconst (v := 0) hx hb dX8_narrow_22 (by decide) ?_
        rw [hZ]
        exact hm_lret hx hb hr hlocks hS hP hK hnd hE (((hK_16).trans (if_neg c_19))) dX8_narrow_23
  refine lv_if_lt (tgt := 10) hx hb dX8_narrow_2 (by decide) (fun c_2 => ?_) (fun c_2 => ?_)
  ·
    have hok := (hok).1 c_2
    refine lv_bipush (v := 8) hx hb dX8_narrow_10 (by decide) ?_
    refine lv_goto (tgt := 16) hx hb dX8_narrow_12 (by decide) ?_
    exact K_16 8 _ _ hP hS ls (lv_sub hl [1, 2] rfl) hok ((if_pos c_2))
  ·
    have hok := (hok).2 c_2
    refine lv_iload_n hx hb dX8_narrow_5 rfl (lv_at hl 1 rfl) ?_
    refine lv_iconst (v := 5) hx hb dX8_narrow_6 (by decide) ?_
    refine lv_icmp_le (tgt := 15) hx hb dX8_narrow_7 (by decide) (fun c_7 => ?_) (fun c_7 => ?_)
    ·
      have hok := (hok).1 c_7
      refine lv_iconst (v := 0) hx hb dX8_narrow_15 (by decide) ?_
      exact K_16 0 _ _ hP hS ls (lv_sub hl [1, 2] rfl) hok (((if_neg c_2).trans (if_pos c_7)))
    ·
      have hok := (hok).2 c_7
      refine lv_bipush (v := 8) hx hb dX8_narrow_10 (by decide) ?_
      refine lv_goto (tgt := 16) hx hb dX8_narrow_12 (by decide) ?_
      exact K_16 8 _ _ hP hS ls (lv_sub hl [1, 2] rfl) hok (((if_neg c_2).trans (if_neg c_7)))
theorem hdv_X8_widen : yX8_widen.cls = RX8 ∧ yX8_widen.cls ≠ "java/lang/invoke/MethodHandle" ∧ yX8_widen.cls ≠ "java/lang/invoke/VarHandle" ∧ (parseMethodDescriptor yX8_widen.desc).map (fun d => d.parameters.length) = some 2 := by decide +kernel
def h_X8_widen_j16 (x : Nat) (p0 : Int32) (p1 : Int64) (z_16_0 : Int32) (S : HS) : Int64 × HS :=
  if ((h_X8_stops x z_16_0 S).1) = 0 then if p0 = 0 then (s_X3_fromLong 52 (-1074) 9218868437227405312 (-9223372036854775808) p1, (h_X8_stops x z_16_0 S).2)
   else if p0 = 1 then (((s_X3_fromLong 23 (-149) 2139095040 2147483648 p1).toInt32).toInt64, (h_X8_stops x z_16_0 S).2)
    else if p0 = 2 then (s_X3_converted 23 (-149) 2139095040 2147483648 52 (-1074) 9218868437227405312 (-9223372036854775808) p1, (h_X8_stops x z_16_0 S).2)
     else (((s_X3_fromLong 23 (-149) 2139095040 2147483648 p1.toInt32.toInt64).toInt32).toInt64, (h_X8_stops x z_16_0 S).2)
  else (0, (h_X8_stops x z_16_0 S).2)
def ok_X8_widen_j16 (L : List Nat) (x : Nat) (p0 : Int32) (p1 : Int64) (z_16_0 : Int32) (S : HS) : Prop :=
  (x ∈ L ∧ hsK S x = 6) ∧ ((ok_X8_stops L x z_16_0 S) ∧ (((((h_X8_stops x z_16_0 S).1) = 0) → (((p0 = 0) → (True)) ∧
   (¬ (p0 = 0) → (((p0 = 1) → (True)) ∧
    (¬ (p0 = 1) → (((p0 = 2) → (True)) ∧
     (¬ (p0 = 2) → (True)))))))) ∧
  (¬ (((h_X8_stops x z_16_0 S).1) = 0) → (True))))
def h_X8_widen (x : Nat) (p0 : Int32) (p1 : Int64) (S : HS) : Int64 × HS :=
  if p0 < 0 then h_X8_widen_j16 x p0 p1 8 S
  else if p0 ≤ 3 then h_X8_widen_j16 x p0 p1 0 S
   else h_X8_widen_j16 x p0 p1 8 S
def ok_X8_widen (L : List Nat) (x : Nat) (p0 : Int32) (p1 : Int64) (S : HS) : Prop :=
  ((p0 < 0) → (ok_X8_widen_j16 L x p0 p1 8 S)) ∧
  (¬ (p0 < 0) → (((p0 ≤ 3) → (ok_X8_widen_j16 L x p0 p1 0 S)) ∧
   (¬ (p0 ≤ 3) → (ok_X8_widen_j16 L x p0 p1 8 S))))
set_option maxHeartbeats 4000000 in
set_option maxRecDepth 100000 in
theorem hm_X8_widen (l : Launch) (G : GE) (L : List Nat) (S : HS) (x : Nat) (p0 : Int32) (p1 : Int64) (hok : ok_X8_widen L x p0 p1 S) : HmL l G yX8_widen wsX8_widen 4 97 [.ref x, .int p0, .long p1] L S (h_X8_widen x p0 p1 S) := by
  refine Met.ofW (cc := cX8_widen) (maxL := 4) (ret := (some .long)) (by decide) rfl ?_
  intro p e s m args below meth c s₁ B hml hv
  obtain ⟨rfl, hP, hK, hnd, hE⟩ := hv
  have hx := B.exec
  have hb := B.bytes
  have hr := B.returns
  have hts := atoms_spec (ws := wsX8_widen) B.pre
  have hown : s.vm.findClass RX8 = some m.cls := findClass_of_methodNamed B.named
  have hlocks := B.notSynchronized
  have hD := nd_D hnd
  have hS : va_S (AL L) s.heap s.heap [] := va_S.rf
  have hl := lv_entry ([.ref x, .int p0, .long p1]) (n := 4) (Nat.le_of_ble_eq_true rfl)
  rw [lg_entry_eq]
  generalize (lg_sl ([.ref x, .int p0, .long p1]) ++ List.replicate (4 - (lg_sl ([.ref x, .int p0, .long p1])).length) Slot.unset).toArray = ls at hl ⊢
  have hl : lv_has ls 4 [(0, .ref x), (1, .int p0), (2, .long p1)] := hl
  obtain ⟨Z, hZ⟩ : ∃ z, z = MQ below (hm_QL G L (h_X8_widen x p0 p1 S)) ([.ref x, .int p0, .long p1] : List Value).toArray s 0 0 (AL L) := ⟨_, rfl⟩
  rw [← hZ]
  refine lv_aload_n hx hb dX8_widen_0 rfl (lv_at hl 0 rfl) ?_
  refine lv_iload_n hx hb dX8_widen_1 rfl (lv_at hl 1 rfl) ?_
  have K_16 : ∀ (z_16_0 : Int32) (H : Heap) (locs : List Loc), va_P (gD G) vwCl (va_pl L (PF G S)) H → va_S (AL L) s.heap H locs → ∀ (ls : Array Slot), lv_has ls 4 [(1, .int p0), (2, .long p1)] → ok_X8_widen_j16 L x p0 p1 z_16_0 S → h_X8_widen x p0 p1 S = h_X8_widen_j16 x p0 p1 z_16_0 S → W p l e (pm_R 4 97) s m ([.ref x, .int p0, .long p1] : List Value).toArray below meth c H locs 0 0 Z (F0 m 16 ls [.int z_16_0, .ref x]) := by
    intro z_16_0 H locs hP hS ls hl hok hK_16
    obtain ⟨h_16k, hok⟩ := hok
    obtain ⟨h_16, hok⟩ := hok
    refine hm_callI (G := G) (a := ([.ref x, .int z_16_0] : List Value).toArray) (pr := (h_X8_stops x z_16_0 S)) (rest := []) ?_ hS (fun H locs hP hS => ?_)
    ·
      exact va_runV (As := [.int z_16_0]) (rest := []) ⟨hx, hb, hml, hown, hts⟩ (hm_X8_stops l G L S x z_16_0 h_16) (cwV 1 hts gX8_widen_X8_stops rfl rfl rfl hdv_X8_stops ⟨Nat.le_of_ble_eq_true rfl, Nat.le_of_ble_eq_true rfl⟩) ⟨HW.fb, hp_recv hK hP h_16k.1 (PF_6 h_16k.2) rfl, fun U hU hW => ⟨rfl, HW.call hP hK hnd hE hS U hU hW⟩⟩ rfl rfl hl.1 rfl (lv_room (Nat.le_of_ble_eq_true rfl)) dX8_widen_16 ⟨Nat.le_refl 0, Nat.le_refl 0⟩
    ·
      refine lv_if_eq (tgt := 24) hx hb dX8_widen_19 (by decide) (fun c_19 => ?_) (fun c_19 => ?_)
      ·
        have hok := (hok).1 c_19
        refine lv_iload_n hx hb dX8_widen_24 rfl (lv_at hl 0 rfl) ?_
        by_cases c_25_0 : p0 = 0
        ·
          have hok := (hok).1 c_25_0
          refine lv_tableIn (off := 27) (tgt := 52) hx hb dX8_widen_25 (by rw [c_25_0]; decide) (by rw [c_25_0]; decide) (by rw [c_25_0]; decide) (by decide) ?_
          refine va_gets hx hb hE.1.1 hS hown (hts _ (List.mem_of_getElem? (i := 1) rfl)) (fun _ h9 => h9) dX8_widen_52 ?_
          refine lv_lload_n hx hb dX8_widen_55 rfl (lv_at hl 1 rfl) ?_
          refine pm_callL (va_runS (As := [.ref (gd G), .long p1]) (rest := []) ⟨hx, hb, hml, hown, hts⟩ (pm_X3_fromLong l 52 (-1074) 9218868437227405312 (-9223372036854775808) (gd G) p1) (va_cwS 2 hts gX8_widen_X3_fromLong rfl rfl rfl hd_X3_fromLong ⟨Nat.le_of_ble_eq_true rfl, Nat.le_of_ble_eq_true rfl⟩) ⟨KQ.fb, fun U hU hW => ⟨rfl, (KQ.call hE.1.2.2.1 hS U hU hW)⟩⟩ rfl rfl hl.1 rfl (lv_room (Nat.le_of_ble_eq_true rfl)) dX8_widen_56 ⟨Nat.le_refl 0, Nat.le_refl 0⟩) hS (fun H locs _ hk9 hS => ?_)
          replace hP := P_keep hP hk9
          rw [hZ]
          exact hm_lret hx hb hr hlocks hS hP hK hnd hE (((hK_16).trans ((if_pos c_19).trans (if_pos c_25_0)))) dX8_widen_59
        ·
          have hok := (hok).2 c_25_0
          by_cases c_25_1 : p0 = 1
          ·
            have hok := (hok).1 c_25_1
            refine lv_tableIn (off := 35) (tgt := 60) hx hb dX8_widen_25 (by rw [c_25_1]; decide) (by rw [c_25_1]; decide) (by rw [c_25_1]; decide) (by decide) ?_
            refine va_gets hx hb hE.1.2.1 hS hown (hts _ (List.mem_of_getElem? (i := 2) rfl)) (fun _ h9 => h9) dX8_widen_60 ?_
            refine lv_lload_n hx hb dX8_widen_63 rfl (lv_at hl 1 rfl) ?_
            refine pm_callL (va_runS (As := [.ref (gf G), .long p1]) (rest := []) ⟨hx, hb, hml, hown, hts⟩ (pm_X3_fromLong l 23 (-149) 2139095040 2147483648 (gf G) p1) (va_cwS 2 hts gX8_widen_X3_fromLong rfl rfl rfl hd_X3_fromLong ⟨Nat.le_of_ble_eq_true rfl, Nat.le_of_ble_eq_true rfl⟩) ⟨KQ.fb, fun U hU hW => ⟨rfl, (KQ.call hE.1.2.2.2 hS U hU hW)⟩⟩ rfl rfl hl.1 rfl (lv_room (Nat.le_of_ble_eq_true rfl)) dX8_widen_64 ⟨Nat.le_refl 0, Nat.le_refl 0⟩) hS (fun H locs _ hk9 hS => ?_)
            replace hP := P_keep hP hk9
            refine lv_l2i (v := (s_X3_fromLong 23 (-149) 2139095040 2147483648 p1).toInt32) hx hb dX8_widen_67 rfl ?_
            refine lv_i2l (v := ((s_X3_fromLong 23 (-149) 2139095040 2147483648 p1).toInt32).toInt64) hx hb dX8_widen_68 rfl ?_
            rw [hZ]
            exact hm_lret hx hb hr hlocks hS hP hK hnd hE (((hK_16).trans ((if_pos c_19).trans ((if_neg c_25_0).trans (if_pos c_25_1))))) dX8_widen_69
          ·
            have hok := (hok).2 c_25_1
            by_cases c_25_2 : p0 = 2
            ·
              have hok := (hok).1 c_25_2
              refine lv_tableIn (off := 45) (tgt := 70) hx hb dX8_widen_25 (by rw [c_25_2]; decide) (by rw [c_25_2]; decide) (by rw [c_25_2]; decide) (by decide) ?_
              refine va_gets hx hb hE.1.2.1 hS hown (hts _ (List.mem_of_getElem? (i := 2) rfl)) (fun _ h9 => h9) dX8_widen_70 ?_
              refine va_gets hx hb hE.1.1 hS hown (hts _ (List.mem_of_getElem? (i := 1) rfl)) (fun _ h9 => h9) dX8_widen_73 ?_
              refine lv_lload_n hx hb dX8_widen_76 rfl (lv_at hl 1 rfl) ?_
              refine pm_callL (va_runS (As := [.ref (gf G), .ref (gd G), .long p1]) (rest := []) ⟨hx, hb, hml, hown, hts⟩ (pm_X3_converted l 23 (-149) 2139095040 2147483648 (gf G) 52 (-1074) 9218868437227405312 (-9223372036854775808) (gd G) p1) (va_cwS 3 hts gX8_widen_X3_converted rfl rfl rfl hd_X3_converted ⟨Nat.le_of_ble_eq_true rfl, Nat.le_of_ble_eq_true rfl⟩) ⟨KQ.fb2, fun U hU hW => ⟨rfl, ⟨KQ.call hE.1.2.2.2 hS U hU hW, KQ.call hE.1.2.2.1 hS U hU hW⟩⟩⟩ rfl rfl hl.1 rfl (lv_room (Nat.le_of_ble_eq_true rfl)) dX8_widen_77 ⟨Nat.le_refl 0, Nat.le_refl 0⟩) hS (fun H locs _ hk9 hS => ?_)
              replace hP := P_keep hP hk9
              rw [hZ]
              exact hm_lret hx hb hr hlocks hS hP hK hnd hE (((hK_16).trans ((if_pos c_19).trans ((if_neg c_25_0).trans ((if_neg c_25_1).trans (if_pos c_25_2)))))) dX8_widen_80
            ·
              have hok := (hok).2 c_25_2
              have nc_25_0 : (p0).toInt ≠ 0 := fun h => c_25_0 (Int32.toInt.inj (h.trans (by decide)))
              have nc_25_1 : (p0).toInt ≠ 1 := fun h => c_25_1 (Int32.toInt.inj (h.trans (by decide)))
              have nc_25_2 : (p0).toInt ≠ 2 := fun h => c_25_2 (Int32.toInt.inj (h.trans (by decide)))
              refine lv_tableOut (tgt := 81) hx hb dX8_widen_25 (by omega) (by decide) ?_
              refine va_gets hx hb hE.1.2.1 hS hown (hts _ (List.mem_of_getElem? (i := 2) rfl)) (fun _ h9 => h9) dX8_widen_81 ?_
              refine lv_lload_n hx hb dX8_widen_84 rfl (lv_at hl 1 rfl) ?_
              refine lv_l2i (v := p1.toInt32) hx hb dX8_widen_85 rfl ?_
              refine lv_i2l (v := p1.toInt32.toInt64) hx hb dX8_widen_86 rfl ?_
              refine pm_callL (va_runS (As := [.ref (gf G), .long p1.toInt32.toInt64]) (rest := []) ⟨hx, hb, hml, hown, hts⟩ (pm_X3_fromLong l 23 (-149) 2139095040 2147483648 (gf G) p1.toInt32.toInt64) (va_cwS 2 hts gX8_widen_X3_fromLong rfl rfl rfl hd_X3_fromLong ⟨Nat.le_of_ble_eq_true rfl, Nat.le_of_ble_eq_true rfl⟩) ⟨KQ.fb, fun U hU hW => ⟨rfl, (KQ.call hE.1.2.2.2 hS U hU hW)⟩⟩ rfl rfl hl.1 rfl (lv_room (Nat.le_of_ble_eq_true rfl)) dX8_widen_87 ⟨Nat.le_refl 0, Nat.le_refl 0⟩) hS (fun H locs _ hk9 hS => ?_)
              replace hP := P_keep hP hk9
              refine lv_l2i (v := (s_X3_fromLong 23 (-149) 2139095040 2147483648 p1.toInt32.toInt64).toInt32) hx hb dX8_widen_90 rfl ?_
              refine lv_i2l (v := ((s_X3_fromLong 23 (-149) 2139095040 2147483648 p1.toInt32.toInt64).toInt32).toInt64) hx hb dX8_widen_91 rfl ?_
              rw [hZ]
              exact hm_lret hx hb hr hlocks hS hP hK hnd hE (((hK_16).trans ((if_pos c_19).trans ((if_neg c_25_0).trans ((if_neg c_25_1).trans (if_neg c_25_2)))))) dX8_widen_92
      ·
        have hok := (hok).2 c_19
        refine lv_lconst (v := 0) hx hb dX8_widen_22 (by decide) ?_
        rw [hZ]
        exact hm_lret hx hb hr hlocks hS hP hK hnd hE (((hK_16).trans (if_neg c_19))) dX8_widen_23
  refine lv_if_lt (tgt := 10) hx hb dX8_widen_2 (by decide) (fun c_2 => ?_) (fun c_2 => ?_)
  ·
    have hok := (hok).1 c_2
    refine lv_bipush (v := 8) hx hb dX8_widen_10 (by decide) ?_
    refine lv_goto (tgt := 16) hx hb dX8_widen_12 (by decide) ?_
    exact K_16 8 _ _ hP hS ls (lv_sub hl [1, 2] rfl) hok ((if_pos c_2))
  ·
    have hok := (hok).2 c_2
    refine lv_iload_n hx hb dX8_widen_5 rfl (lv_at hl 1 rfl) ?_
    refine lv_iconst (v := 3) hx hb dX8_widen_6 (by decide) ?_
    refine lv_icmp_le (tgt := 15) hx hb dX8_widen_7 (by decide) (fun c_7 => ?_) (fun c_7 => ?_)
    ·
      have hok := (hok).1 c_7
      refine lv_iconst (v := 0) hx hb dX8_widen_15 (by decide) ?_
      exact K_16 0 _ _ hP hS ls (lv_sub hl [1, 2] rfl) hok (((if_neg c_2).trans (if_pos c_7)))
    ·
      have hok := (hok).2 c_7
      refine lv_bipush (v := 8) hx hb dX8_widen_10 (by decide) ?_
      refine lv_goto (tgt := 16) hx hb dX8_widen_12 (by decide) ?_
      exact K_16 8 _ _ hP hS ls (lv_sub hl [1, 2] rfl) hok (((if_neg c_2).trans (if_neg c_7)))
theorem hdv_X8_compare : yX8_compare.cls = RX8 ∧ yX8_compare.cls ≠ "java/lang/invoke/MethodHandle" ∧ yX8_compare.cls ≠ "java/lang/invoke/VarHandle" ∧ (parseMethodDescriptor yX8_compare.desc).map (fun d => d.parameters.length) = some 3 := by decide +kernel
def h_X8_compare_j17 (x : Nat) (p0 : Int32) (p1 : Int64) (p2 : Int64) (z_17_0 : Int32) (S : HS) : Int32 × HS :=
  if ((h_X8_stops x z_17_0 S).1) = 0 then if 6 ≤ p0 then if (s_X3_isTrue (p0 - 6) (s_X3_converted 23 (-149) 2139095040 2147483648 52 (-1074) 9218868437227405312 (-9223372036854775808) p1) (s_X3_converted 23 (-149) 2139095040 2147483648 52 (-1074) 9218868437227405312 (-9223372036854775808) p2)) = 0 then (0, (h_X8_stops x z_17_0 S).2)
    else (1, (h_X8_stops x z_17_0 S).2)
   else if (s_X3_isTrue p0 p1 p2) = 0 then (0, (h_X8_stops x z_17_0 S).2)
    else (1, (h_X8_stops x z_17_0 S).2)
  else (0, (h_X8_stops x z_17_0 S).2)
def ok_X8_compare_j17 (L : List Nat) (x : Nat) (p0 : Int32) (p1 : Int64) (p2 : Int64) (z_17_0 : Int32) (S : HS) : Prop :=
  (x ∈ L ∧ hsK S x = 6) ∧ ((ok_X8_stops L x z_17_0 S) ∧ (((((h_X8_stops x z_17_0 S).1) = 0) → (((6 ≤ p0) → ((((s_X3_isTrue (p0 - 6) (s_X3_converted 23 (-149) 2139095040 2147483648 52 (-1074) 9218868437227405312 (-9223372036854775808) p1) (s_X3_converted 23 (-149) 2139095040 2147483648 52 (-1074) 9218868437227405312 (-9223372036854775808) p2)) = 0) → (True)) ∧
    (¬ ((s_X3_isTrue (p0 - 6) (s_X3_converted 23 (-149) 2139095040 2147483648 52 (-1074) 9218868437227405312 (-9223372036854775808) p1) (s_X3_converted 23 (-149) 2139095040 2147483648 52 (-1074) 9218868437227405312 (-9223372036854775808) p2)) = 0) → (True)))) ∧
   (¬ (6 ≤ p0) → ((((s_X3_isTrue p0 p1 p2) = 0) → (True)) ∧
    (¬ ((s_X3_isTrue p0 p1 p2) = 0) → (True)))))) ∧
  (¬ (((h_X8_stops x z_17_0 S).1) = 0) → (True))))
def h_X8_compare (x : Nat) (p0 : Int32) (p1 : Int64) (p2 : Int64) (S : HS) : Int32 × HS :=
  if p0 < 0 then h_X8_compare_j17 x p0 p1 p2 8 S
  else if p0 ≤ 11 then h_X8_compare_j17 x p0 p1 p2 0 S
   else h_X8_compare_j17 x p0 p1 p2 8 S
def ok_X8_compare (L : List Nat) (x : Nat) (p0 : Int32) (p1 : Int64) (p2 : Int64) (S : HS) : Prop :=
  ((p0 < 0) → (ok_X8_compare_j17 L x p0 p1 p2 8 S)) ∧
  (¬ (p0 < 0) → (((p0 ≤ 11) → (ok_X8_compare_j17 L x p0 p1 p2 0 S)) ∧
   (¬ (p0 ≤ 11) → (ok_X8_compare_j17 L x p0 p1 p2 8 S))))
set_option maxHeartbeats 4000000 in
set_option maxRecDepth 100000 in
theorem hm_X8_compare (l : Launch) (G : GE) (L : List Nat) (S : HS) (x : Nat) (p0 : Int32) (p1 : Int64) (p2 : Int64) (hok : ok_X8_compare L x p0 p1 p2 S) : HmI l G yX8_compare wsX8_compare 4 97 [.ref x, .int p0, .long p1, .long p2] L S (h_X8_compare x p0 p1 p2 S) := by
  refine Met.ofW (cc := cX8_compare) (maxL := 10) (ret := (some .int)) (by decide) rfl ?_
  intro p e s m args below meth c s₁ B hml hv
  obtain ⟨rfl, hP, hK, hnd, hE⟩ := hv
  have hx := B.exec
  have hb := B.bytes
  have hr := B.returns
  have hts := atoms_spec (ws := wsX8_compare) B.pre
  have hown : s.vm.findClass RX8 = some m.cls := findClass_of_methodNamed B.named
  have hlocks := B.notSynchronized
  have hD := nd_D hnd
  have hS : va_S (AL L) s.heap s.heap [] := va_S.rf
  have hl := lv_entry ([.ref x, .int p0, .long p1, .long p2]) (n := 10) (Nat.le_of_ble_eq_true rfl)
  rw [lg_entry_eq]
  generalize (lg_sl ([.ref x, .int p0, .long p1, .long p2]) ++ List.replicate (10 - (lg_sl ([.ref x, .int p0, .long p1, .long p2])).length) Slot.unset).toArray = ls at hl ⊢
  have hl : lv_has ls 10 [(0, .ref x), (1, .int p0), (2, .long p1), (4, .long p2)] := hl
  obtain ⟨Z, hZ⟩ : ∃ z, z = MQ below (hm_QI G L (h_X8_compare x p0 p1 p2 S)) ([.ref x, .int p0, .long p1, .long p2] : List Value).toArray s 0 0 (AL L) := ⟨_, rfl⟩
  rw [← hZ]
  refine lv_aload_n hx hb dX8_compare_0 rfl (lv_at hl 0 rfl) ?_
  refine lv_iload_n hx hb dX8_compare_1 rfl (lv_at hl 1 rfl) ?_
  have K_17 : ∀ (z_17_0 : Int32) (H : Heap) (locs : List Loc), va_P (gD G) vwCl (va_pl L (PF G S)) H → va_S (AL L) s.heap H locs → ∀ (ls : Array Slot), lv_has ls 10 [(1, .int p0), (2, .long p1), (4, .long p2)] → ok_X8_compare_j17 L x p0 p1 p2 z_17_0 S → h_X8_compare x p0 p1 p2 S = h_X8_compare_j17 x p0 p1 p2 z_17_0 S → W p l e (pm_R 4 97) s m ([.ref x, .int p0, .long p1, .long p2] : List Value).toArray below meth c H locs 0 0 Z (F0 m 17 ls [.int z_17_0, .ref x]) := by
    intro z_17_0 H locs hP hS ls hl hok hK_17
    obtain ⟨h_17k, hok⟩ := hok
    obtain ⟨h_17, hok⟩ := hok
    refine hm_callI (G := G) (a := ([.ref x, .int z_17_0] : List Value).toArray) (pr := (h_X8_stops x z_17_0 S)) (rest := []) ?_ hS (fun H locs hP hS => ?_)
    ·
      exact va_runV (As := [.int z_17_0]) (rest := []) ⟨hx, hb, hml, hown, hts⟩ (hm_X8_stops l G L S x z_17_0 h_17) (cwV 1 hts gX8_compare_X8_stops rfl rfl rfl hdv_X8_stops ⟨Nat.le_of_ble_eq_true rfl, Nat.le_of_ble_eq_true rfl⟩) ⟨HW.fb, hp_recv hK hP h_17k.1 (PF_6 h_17k.2) rfl, fun U hU hW => ⟨rfl, HW.call hP hK hnd hE hS U hU hW⟩⟩ rfl rfl hl.1 rfl (lv_room (Nat.le_of_ble_eq_true rfl)) dX8_compare_17 ⟨Nat.le_refl 0, Nat.le_refl 0⟩
    ·
      refine lv_if_eq (tgt := 25) hx hb dX8_compare_20 (by decide) (fun c_20 => ?_) (fun c_20 => ?_)
      ·
        have hok := (hok).1 c_20
        refine lv_iload_n hx hb dX8_compare_25 rfl (lv_at hl 0 rfl) ?_
        refine lv_bipush (v := 6) hx hb dX8_compare_26 (by decide) ?_
        refine lv_icmp_ge (tgt := 47) hx hb dX8_compare_28 (by decide) (fun c_28 => ?_) (fun c_28 => ?_)
        ·
          have hok := (hok).1 c_28
          refine va_gets hx hb hE.1.2.1 hS hown (hts _ (List.mem_of_getElem? (i := 1) rfl)) (fun _ h9 => h9) dX8_compare_47 ?_
          refine va_gets hx hb hE.1.1 hS hown (hts _ (List.mem_of_getElem? (i := 2) rfl)) (fun _ h9 => h9) dX8_compare_50 ?_
          refine lv_lload_n hx hb dX8_compare_53 rfl (lv_at hl 1 rfl) ?_
          refine pm_callL (va_runS (As := [.ref (gf G), .ref (gd G), .long p1]) (rest := []) ⟨hx, hb, hml, hown, hts⟩ (pm_X3_converted l 23 (-149) 2139095040 2147483648 (gf G) 52 (-1074) 9218868437227405312 (-9223372036854775808) (gd G) p1) (va_cwS 3 hts gX8_compare_X3_converted rfl rfl rfl hd_X3_converted ⟨Nat.le_of_ble_eq_true rfl, Nat.le_of_ble_eq_true rfl⟩) ⟨KQ.fb2, fun U hU hW => ⟨rfl, ⟨KQ.call hE.1.2.2.2 hS U hU hW, KQ.call hE.1.2.2.1 hS U hU hW⟩⟩⟩ rfl rfl hl.1 rfl (lv_room (Nat.le_of_ble_eq_true rfl)) dX8_compare_54 ⟨Nat.le_refl 0, Nat.le_refl 0⟩) hS (fun H locs _ hk9 hS => ?_)
          replace hP := P_keep hP hk9
          refine lv_lstore (lv' := [(6, .long (s_X3_converted 23 (-149) 2139095040 2147483648 52 (-1074) 9218868437227405312 (-9223372036854775808) p1)), (1, .int p0), (2, .long p1), (4, .long p2)]) hx hb dX8_compare_57 hl (by decide) rfl (fun ls hl => ?_)
          refine va_gets hx hb hE.1.2.1 hS hown (hts _ (List.mem_of_getElem? (i := 1) rfl)) (fun _ h9 => h9) dX8_compare_59 ?_
          refine va_gets hx hb hE.1.1 hS hown (hts _ (List.mem_of_getElem? (i := 2) rfl)) (fun _ h9 => h9) dX8_compare_62 ?_
          refine lv_lload hx hb dX8_compare_65 (lv_at hl 3 rfl) ?_
          refine pm_callL (va_runS (As := [.ref (gf G), .ref (gd G), .long p2]) (rest := []) ⟨hx, hb, hml, hown, hts⟩ (pm_X3_converted l 23 (-149) 2139095040 2147483648 (gf G) 52 (-1074) 9218868437227405312 (-9223372036854775808) (gd G) p2) (va_cwS 3 hts gX8_compare_X3_converted rfl rfl rfl hd_X3_converted ⟨Nat.le_of_ble_eq_true rfl, Nat.le_of_ble_eq_true rfl⟩) ⟨KQ.fb2, fun U hU hW => ⟨rfl, ⟨KQ.call hE.1.2.2.2 hS U hU hW, KQ.call hE.1.2.2.1 hS U hU hW⟩⟩⟩ rfl rfl hl.1 rfl (lv_room (Nat.le_of_ble_eq_true rfl)) dX8_compare_67 ⟨Nat.le_refl 0, Nat.le_refl 0⟩) hS (fun H locs _ hk9 hS => ?_)
          replace hP := P_keep hP hk9
          refine lv_lstore (lv' := [(8, .long (s_X3_converted 23 (-149) 2139095040 2147483648 52 (-1074) 9218868437227405312 (-9223372036854775808) p2)), (6, .long (s_X3_converted 23 (-149) 2139095040 2147483648 52 (-1074) 9218868437227405312 (-9223372036854775808) p1)), (1, .int p0), (2, .long p1), (4, .long p2)]) hx hb dX8_compare_70 hl (by decide) rfl (fun ls hl => ?_)
          refine lv_iload_n hx hb dX8_compare_72 rfl (lv_at hl 2 rfl) ?_
          refine lv_bipush (v := 6) hx hb dX8_compare_73 (by decide) ?_
          refine lv_isub hx hb dX8_compare_75 ?_
          refine lv_lload hx hb dX8_compare_76 (lv_at hl 1 rfl) ?_
          refine lv_lload hx hb dX8_compare_78 (lv_at hl 0 rfl) ?_
          refine pm_callI (va_runS (As := [.int (p0 - 6), .long (s_X3_converted 23 (-149) 2139095040 2147483648 52 (-1074) 9218868437227405312 (-9223372036854775808) p1), .long (s_X3_converted 23 (-149) 2139095040 2147483648 52 (-1074) 9218868437227405312 (-9223372036854775808) p2)]) (rest := []) ⟨hx, hb, hml, hown, hts⟩ (pm_X3_isTrue l (gd G) (gf G) (p0 - 6) (s_X3_converted 23 (-149) 2139095040 2147483648 52 (-1074) 9218868437227405312 (-9223372036854775808) p1) (s_X3_converted 23 (-149) 2139095040 2147483648 52 (-1074) 9218868437227405312 (-9223372036854775808) p2)) (va_cwS 3 hts gX8_compare_X3_isTrue rfl rfl rfl hd_X3_isTrue ⟨Nat.le_of_ble_eq_true rfl, Nat.le_of_ble_eq_true rfl⟩) ⟨KF.fb, fun U hU hW => ⟨rfl, (KF.call hE.1 hS U hU hW)⟩⟩ rfl rfl hl.1 rfl (lv_room (Nat.le_of_ble_eq_true rfl)) dX8_compare_80 ⟨Nat.le_refl 0, Nat.le_refl 0⟩) hS (fun H locs _ hk9 hS => ?_)
          replace hP := P_keep hP hk9
          refine lv_if_eq (tgt := 90) hx hb dX8_compare_83 (by decide) (fun c_83 => ?_) (fun c_83 => ?_)
          ·
            have hok := (hok).1 c_83
            refine lv_iconst (v := 0) hx hb dX8_compare_90 (by decide) ?_
            rw [hZ]
            exact hm_iret hx hb hr hlocks hS hP hK hnd hE (((hK_17).trans ((if_pos c_20).trans ((if_pos c_28).trans (if_pos c_83))))) dX8_compare_91
          ·
            have hok := (hok).2 c_83
            refine lv_iconst (v := 1) hx hb dX8_compare_86 (by decide) ?_
            refine lv_goto (tgt := 91) hx hb dX8_compare_87 (by decide) ?_
            rw [hZ]
            exact hm_iret hx hb hr hlocks hS hP hK hnd hE (((hK_17).trans ((if_pos c_20).trans ((if_pos c_28).trans (if_neg c_83))))) dX8_compare_91
        ·
          have hok := (hok).2 c_28
          refine lv_iload_n hx hb dX8_compare_31 rfl (lv_at hl 0 rfl) ?_
          refine lv_lload_n hx hb dX8_compare_32 rfl (lv_at hl 1 rfl) ?_
          refine lv_lload hx hb dX8_compare_33 (lv_at hl 2 rfl) ?_
          refine pm_callI (va_runS (As := [.int p0, .long p1, .long p2]) (rest := []) ⟨hx, hb, hml, hown, hts⟩ (pm_X3_isTrue l (gd G) (gf G) p0 p1 p2) (va_cwS 3 hts gX8_compare_X3_isTrue rfl rfl rfl hd_X3_isTrue ⟨Nat.le_of_ble_eq_true rfl, Nat.le_of_ble_eq_true rfl⟩) ⟨KF.fb, fun U hU hW => ⟨rfl, (KF.call hE.1 hS U hU hW)⟩⟩ rfl rfl hl.1 rfl (lv_room (Nat.le_of_ble_eq_true rfl)) dX8_compare_35 ⟨Nat.le_refl 0, Nat.le_refl 0⟩) hS (fun H locs _ hk9 hS => ?_)
          replace hP := P_keep hP hk9
          refine lv_if_eq (tgt := 45) hx hb dX8_compare_38 (by decide) (fun c_38 => ?_) (fun c_38 => ?_)
          ·
            have hok := (hok).1 c_38
            refine lv_iconst (v := 0) hx hb dX8_compare_45 (by decide) ?_
            rw [hZ]
            exact hm_iret hx hb hr hlocks hS hP hK hnd hE (((hK_17).trans ((if_pos c_20).trans ((if_neg c_28).trans (if_pos c_38))))) dX8_compare_46
          ·
            have hok := (hok).2 c_38
            refine lv_iconst (v := 1) hx hb dX8_compare_41 (by decide) ?_
            refine lv_goto (tgt := 46) hx hb dX8_compare_42 (by decide) ?_
            rw [hZ]
            exact hm_iret hx hb hr hlocks hS hP hK hnd hE (((hK_17).trans ((if_pos c_20).trans ((if_neg c_28).trans (if_neg c_38))))) dX8_compare_46
      ·
        have hok := (hok).2 c_20
        refine lv_iconst (v := 0) hx hb dX8_compare_23 (by decide) ?_
        rw [hZ]
        exact hm_iret hx hb hr hlocks hS hP hK hnd hE (((hK_17).trans (if_neg c_20))) dX8_compare_24
  refine lv_if_lt (tgt := 11) hx hb dX8_compare_2 (by decide) (fun c_2 => ?_) (fun c_2 => ?_)
  ·
    have hok := (hok).1 c_2
    refine lv_bipush (v := 8) hx hb dX8_compare_11 (by decide) ?_
    refine lv_goto (tgt := 17) hx hb dX8_compare_13 (by decide) ?_
    exact K_17 8 _ _ hP hS ls (lv_sub hl [1, 2, 3] rfl) hok ((if_pos c_2))
  ·
    have hok := (hok).2 c_2
    refine lv_iload_n hx hb dX8_compare_5 rfl (lv_at hl 1 rfl) ?_
    refine lv_bipush (v := 11) hx hb dX8_compare_6 (by decide) ?_
    refine lv_icmp_le (tgt := 16) hx hb dX8_compare_8 (by decide) (fun c_8 => ?_) (fun c_8 => ?_)
    ·
      have hok := (hok).1 c_8
      refine lv_iconst (v := 0) hx hb dX8_compare_16 (by decide) ?_
      exact K_17 0 _ _ hP hS ls (lv_sub hl [1, 2, 3] rfl) hok (((if_neg c_2).trans (if_pos c_8)))
    ·
      have hok := (hok).2 c_8
      refine lv_bipush (v := 8) hx hb dX8_compare_11 (by decide) ?_
      refine lv_goto (tgt := 17) hx hb dX8_compare_13 (by decide) ?_
      exact K_17 8 _ _ hP hS ls (lv_sub hl [1, 2, 3] rfl) hok (((if_neg c_2).trans (if_neg c_8)))
theorem hdv_X8_pass : yX8_pass.cls = RX8 ∧ yX8_pass.cls ≠ "java/lang/invoke/MethodHandle" ∧ yX8_pass.cls ≠ "java/lang/invoke/VarHandle" ∧ (parseMethodDescriptor yX8_pass.desc).map (fun d => d.parameters.length) = some 3 := by decide +kernel
theorem iw_X8_pass_X8 : ∀ w ∈ u_ws RX8 TX8 4, w ∈ wsX8_pass := by decide +kernel
def h_X8_pass_j14 (x : Nat) (p0 : Int32) (p1 : Int32) (p2 : Int32) (S : HS) : Int64 × HS :=
  (0, (h_X8_stops x 8 S).2)
def ok_X8_pass_j14 (L : List Nat) (x : Nat) (p0 : Int32) (p1 : Int32) (p2 : Int32) (S : HS) : Prop :=
  (x ∈ L ∧ hsK S x = 6) ∧ ((ok_X8_stops L x 8 S) ∧ (True))
def h_X8_pass_j76 (x : Nat) (p0 : Int32) (p1 : Int32) (p2 : Int32) (z_62_0 : Int32) (z_76_0 : Int32) (S : HS) : Int64 × HS :=
  if ((h_X8_stops x z_76_0 (hwI S x 3 (s_X8_traceOf (h_X8_elementCause_n p0 p2 S)))).1) = 0 then if z_62_0 = 0 then oq (hsR ((h_X8_stops x z_76_0 (hwI S x 3 (s_X8_traceOf (h_X8_elementCause_n p0 p2 S)))).2) ((hsQ ((h_X8_stops x z_76_0 (hwI S x 3 (s_X8_traceOf (h_X8_elementCause_n p0 p2 S)))).2) x 0).getD 0) p1.toNatClampNeg) ((h_X8_numberAt_n p2 ((h_X8_stops x z_76_0 (hwI S x 3 (s_X8_traceOf (h_X8_elementCause_n p0 p2 S)))).2), (h_X8_stops x z_76_0 (hwI S x 3 (s_X8_traceOf (h_X8_elementCause_n p0 p2 S)))).2))
    (fun (a_110 : Nat) => (h_X8_numberAt_s a_110 p2 ((h_X8_stops x z_76_0 (hwI S x 3 (s_X8_traceOf (h_X8_elementCause_n p0 p2 S)))).2), (h_X8_stops x z_76_0 (hwI S x 3 (s_X8_traceOf (h_X8_elementCause_n p0 p2 S)))).2))
   else if (h_X8_elementCause_n p0 p2 S) = 4 then ((-104), (h_X8_stops x z_76_0 (hwI S x 3 (s_X8_traceOf (h_X8_elementCause_n p0 p2 S)))).2)
    else ((-102), (h_X8_stops x z_76_0 (hwI S x 3 (s_X8_traceOf (h_X8_elementCause_n p0 p2 S)))).2)
  else (0, (h_X8_stops x z_76_0 (hwI S x 3 (s_X8_traceOf (h_X8_elementCause_n p0 p2 S)))).2)
def ok_X8_pass_j76 (L : List Nat) (x : Nat) (p0 : Int32) (p1 : Int32) (p2 : Int32) (z_62_0 : Int32) (z_76_0 : Int32) (S : HS) : Prop :=
  (x ∈ L ∧ hsK (hwI S x 3 (s_X8_traceOf (h_X8_elementCause_n p0 p2 S))) x = 6) ∧ ((ok_X8_stops L x z_76_0 (hwI S x 3 (s_X8_traceOf (h_X8_elementCause_n p0 p2 S)))) ∧ (((((h_X8_stops x z_76_0 (hwI S x 3 (s_X8_traceOf (h_X8_elementCause_n p0 p2 S)))).1) = 0) → (((z_62_0 = 0) → ((x ∈ L ∧ hsK ((h_X8_stops x z_76_0 (hwI S x 3 (s_X8_traceOf (h_X8_elementCause_n p0 p2 S)))).2) x = 6 ∧ hsQ ((h_X8_stops x z_76_0 (hwI S x 3 (s_X8_traceOf (h_X8_elementCause_n p0 p2 S)))).2) x 0 ≠ none) ∧ ((((hsQ ((h_X8_stops x z_76_0 (hwI S x 3 (s_X8_traceOf (h_X8_elementCause_n p0 p2 S)))).2) x 0).getD 0) ∈ L ∧ hsK ((h_X8_stops x z_76_0 (hwI S x 3 (s_X8_traceOf (h_X8_elementCause_n p0 p2 S)))).2) ((hsQ ((h_X8_stops x z_76_0 (hwI S x 3 (s_X8_traceOf (h_X8_elementCause_n p0 p2 S)))).2) x 0).getD 0) = 10 ∧ vp_in p1 (hsN ((h_X8_stops x z_76_0 (hwI S x 3 (s_X8_traceOf (h_X8_elementCause_n p0 p2 S)))).2) ((hsQ ((h_X8_stops x z_76_0 (hwI S x 3 (s_X8_traceOf (h_X8_elementCause_n p0 p2 S)))).2) x 0).getD 0))) ∧ (((hsR ((h_X8_stops x z_76_0 (hwI S x 3 (s_X8_traceOf (h_X8_elementCause_n p0 p2 S)))).2) ((hsQ ((h_X8_stops x z_76_0 (hwI S x 3 (s_X8_traceOf (h_X8_elementCause_n p0 p2 S)))).2) x 0).getD 0) p1.toNatClampNeg) = none → ((ok_X8_numberAt_n L p2 ((h_X8_stops x z_76_0 (hwI S x 3 (s_X8_traceOf (h_X8_elementCause_n p0 p2 S)))).2)) ∧ (True))) ∧
    (∀ a_110 : Nat, (hsR ((h_X8_stops x z_76_0 (hwI S x 3 (s_X8_traceOf (h_X8_elementCause_n p0 p2 S)))).2) ((hsQ ((h_X8_stops x z_76_0 (hwI S x 3 (s_X8_traceOf (h_X8_elementCause_n p0 p2 S)))).2) x 0).getD 0) p1.toNatClampNeg) = some a_110 → ((ok_X8_numberAt_s L a_110 p2 ((h_X8_stops x z_76_0 (hwI S x 3 (s_X8_traceOf (h_X8_elementCause_n p0 p2 S)))).2)) ∧ (True))))))) ∧
   (¬ (z_62_0 = 0) → ((((h_X8_elementCause_n p0 p2 S) = 4) → (True)) ∧
    (¬ ((h_X8_elementCause_n p0 p2 S) = 4) → (True)))))) ∧
  (¬ (((h_X8_stops x z_76_0 (hwI S x 3 (s_X8_traceOf (h_X8_elementCause_n p0 p2 S)))).1) = 0) → (True))))
def h_X8_pass_j62 (x : Nat) (p0 : Int32) (p1 : Int32) (p2 : Int32) (z_62_0 : Int32) (S : HS) : Int64 × HS :=
  if z_62_0 = 0 then h_X8_pass_j76 x p0 p1 p2 z_62_0 (h_X8_elementCause_n p0 p2 S) S
  else h_X8_pass_j76 x p0 p1 p2 z_62_0 0 S
def ok_X8_pass_j62 (L : List Nat) (x : Nat) (p0 : Int32) (p1 : Int32) (p2 : Int32) (z_62_0 : Int32) (S : HS) : Prop :=
  ((z_62_0 = 0) → (ok_X8_pass_j76 L x p0 p1 p2 z_62_0 (h_X8_elementCause_n p0 p2 S) S)) ∧
  (¬ (z_62_0 = 0) → (ok_X8_pass_j76 L x p0 p1 p2 z_62_0 0 S))
def h_X8_pass_j76a (x : Nat) (p0 : Int32) (p1 : Int32) (p2 : Int32) (z_62_0 : Int32) (a_29 : Nat) (z_76_0 : Int32) (S : HS) : Int64 × HS :=
  if ((h_X8_stops x z_76_0 (hwI S x 3 (s_X8_traceOf (h_X8_elementCause_s p0 a_29 p2 S)))).1) = 0 then if z_62_0 = 0 then oq (hsR ((h_X8_stops x z_76_0 (hwI S x 3 (s_X8_traceOf (h_X8_elementCause_s p0 a_29 p2 S)))).2) ((hsQ ((h_X8_stops x z_76_0 (hwI S x 3 (s_X8_traceOf (h_X8_elementCause_s p0 a_29 p2 S)))).2) x 0).getD 0) p1.toNatClampNeg) ((h_X8_numberAt_n p2 ((h_X8_stops x z_76_0 (hwI S x 3 (s_X8_traceOf (h_X8_elementCause_s p0 a_29 p2 S)))).2), (h_X8_stops x z_76_0 (hwI S x 3 (s_X8_traceOf (h_X8_elementCause_s p0 a_29 p2 S)))).2))
    (fun (a_110 : Nat) => (h_X8_numberAt_s a_110 p2 ((h_X8_stops x z_76_0 (hwI S x 3 (s_X8_traceOf (h_X8_elementCause_s p0 a_29 p2 S)))).2), (h_X8_stops x z_76_0 (hwI S x 3 (s_X8_traceOf (h_X8_elementCause_s p0 a_29 p2 S)))).2))
   else if (h_X8_elementCause_s p0 a_29 p2 S) = 4 then ((-104), (h_X8_stops x z_76_0 (hwI S x 3 (s_X8_traceOf (h_X8_elementCause_s p0 a_29 p2 S)))).2)
    else ((-102), (h_X8_stops x z_76_0 (hwI S x 3 (s_X8_traceOf (h_X8_elementCause_s p0 a_29 p2 S)))).2)
  else (0, (h_X8_stops x z_76_0 (hwI S x 3 (s_X8_traceOf (h_X8_elementCause_s p0 a_29 p2 S)))).2)
def ok_X8_pass_j76a (L : List Nat) (x : Nat) (p0 : Int32) (p1 : Int32) (p2 : Int32) (z_62_0 : Int32) (a_29 : Nat) (z_76_0 : Int32) (S : HS) : Prop :=
  (x ∈ L ∧ hsK (hwI S x 3 (s_X8_traceOf (h_X8_elementCause_s p0 a_29 p2 S))) x = 6) ∧ ((ok_X8_stops L x z_76_0 (hwI S x 3 (s_X8_traceOf (h_X8_elementCause_s p0 a_29 p2 S)))) ∧ (((((h_X8_stops x z_76_0 (hwI S x 3 (s_X8_traceOf (h_X8_elementCause_s p0 a_29 p2 S)))).1) = 0) → (((z_62_0 = 0) → ((x ∈ L ∧ hsK ((h_X8_stops x z_76_0 (hwI S x 3 (s_X8_traceOf (h_X8_elementCause_s p0 a_29 p2 S)))).2) x = 6 ∧ hsQ ((h_X8_stops x z_76_0 (hwI S x 3 (s_X8_traceOf (h_X8_elementCause_s p0 a_29 p2 S)))).2) x 0 ≠ none) ∧ ((((hsQ ((h_X8_stops x z_76_0 (hwI S x 3 (s_X8_traceOf (h_X8_elementCause_s p0 a_29 p2 S)))).2) x 0).getD 0) ∈ L ∧ hsK ((h_X8_stops x z_76_0 (hwI S x 3 (s_X8_traceOf (h_X8_elementCause_s p0 a_29 p2 S)))).2) ((hsQ ((h_X8_stops x z_76_0 (hwI S x 3 (s_X8_traceOf (h_X8_elementCause_s p0 a_29 p2 S)))).2) x 0).getD 0) = 10 ∧ vp_in p1 (hsN ((h_X8_stops x z_76_0 (hwI S x 3 (s_X8_traceOf (h_X8_elementCause_s p0 a_29 p2 S)))).2) ((hsQ ((h_X8_stops x z_76_0 (hwI S x 3 (s_X8_traceOf (h_X8_elementCause_s p0 a_29 p2 S)))).2) x 0).getD 0))) ∧ (((hsR ((h_X8_stops x z_76_0 (hwI S x 3 (s_X8_traceOf (h_X8_elementCause_s p0 a_29 p2 S)))).2) ((hsQ ((h_X8_stops x z_76_0 (hwI S x 3 (s_X8_traceOf (h_X8_elementCause_s p0 a_29 p2 S)))).2) x 0).getD 0) p1.toNatClampNeg) = none → ((ok_X8_numberAt_n L p2 ((h_X8_stops x z_76_0 (hwI S x 3 (s_X8_traceOf (h_X8_elementCause_s p0 a_29 p2 S)))).2)) ∧ (True))) ∧
    (∀ a_110 : Nat, (hsR ((h_X8_stops x z_76_0 (hwI S x 3 (s_X8_traceOf (h_X8_elementCause_s p0 a_29 p2 S)))).2) ((hsQ ((h_X8_stops x z_76_0 (hwI S x 3 (s_X8_traceOf (h_X8_elementCause_s p0 a_29 p2 S)))).2) x 0).getD 0) p1.toNatClampNeg) = some a_110 → ((ok_X8_numberAt_s L a_110 p2 ((h_X8_stops x z_76_0 (hwI S x 3 (s_X8_traceOf (h_X8_elementCause_s p0 a_29 p2 S)))).2)) ∧ (True))))))) ∧
   (¬ (z_62_0 = 0) → ((((h_X8_elementCause_s p0 a_29 p2 S) = 4) → (True)) ∧
    (¬ ((h_X8_elementCause_s p0 a_29 p2 S) = 4) → (True)))))) ∧
  (¬ (((h_X8_stops x z_76_0 (hwI S x 3 (s_X8_traceOf (h_X8_elementCause_s p0 a_29 p2 S)))).1) = 0) → (True))))
def h_X8_pass_j62a (x : Nat) (p0 : Int32) (p1 : Int32) (p2 : Int32) (a_29 : Nat) (z_62_0 : Int32) (S : HS) : Int64 × HS :=
  if z_62_0 = 0 then h_X8_pass_j76a x p0 p1 p2 z_62_0 a_29 (h_X8_elementCause_s p0 a_29 p2 S) S
  else h_X8_pass_j76a x p0 p1 p2 z_62_0 a_29 0 S
def ok_X8_pass_j62a (L : List Nat) (x : Nat) (p0 : Int32) (p1 : Int32) (p2 : Int32) (a_29 : Nat) (z_62_0 : Int32) (S : HS) : Prop :=
  ((z_62_0 = 0) → (ok_X8_pass_j76a L x p0 p1 p2 z_62_0 a_29 (h_X8_elementCause_s p0 a_29 p2 S) S)) ∧
  (¬ (z_62_0 = 0) → (ok_X8_pass_j76a L x p0 p1 p2 z_62_0 a_29 0 S))
def h_X8_pass (x : Nat) (p0 : Int32) (p1 : Int32) (p2 : Int32) (S : HS) : Int64 × HS :=
  if (s_X8_isNumberType p0) = 0 then h_X8_pass_j14 x p0 p1 p2 S
  else if (s_X8_isCell p1) = 0 then h_X8_pass_j14 x p0 p1 p2 S
   else oq (hsR S ((hsQ S x 0).getD 0) p1.toNatClampNeg) (if (h_X8_elementCause_n p0 p2 S) = 4 then h_X8_pass_j62 x p0 p1 p2 1 S
     else if (h_X8_elementCause_n p0 p2 S) = 2 then h_X8_pass_j62 x p0 p1 p2 1 S
      else h_X8_pass_j62 x p0 p1 p2 0 S)
    (fun (a_29 : Nat) => if (h_X8_elementCause_s p0 a_29 p2 S) = 4 then h_X8_pass_j62a x p0 p1 p2 a_29 1 S
     else if (h_X8_elementCause_s p0 a_29 p2 S) = 2 then h_X8_pass_j62a x p0 p1 p2 a_29 1 S
      else h_X8_pass_j62a x p0 p1 p2 a_29 0 S)
def ok_X8_pass (L : List Nat) (x : Nat) (p0 : Int32) (p1 : Int32) (p2 : Int32) (S : HS) : Prop :=
  (((s_X8_isNumberType p0) = 0) → (ok_X8_pass_j14 L x p0 p1 p2 S)) ∧
  (¬ ((s_X8_isNumberType p0) = 0) → ((((s_X8_isCell p1) = 0) → (ok_X8_pass_j14 L x p0 p1 p2 S)) ∧
   (¬ ((s_X8_isCell p1) = 0) → ((x ∈ L ∧ hsK S x = 6 ∧ hsQ S x 0 ≠ none) ∧ ((((hsQ S x 0).getD 0) ∈ L ∧ hsK S ((hsQ S x 0).getD 0) = 10 ∧ vp_in p1 (hsN S ((hsQ S x 0).getD 0))) ∧ (((hsR S ((hsQ S x 0).getD 0) p1.toNatClampNeg) = none → ((ok_X8_elementCause_n L p0 p2 S) ∧ ((x ∈ L ∧ hsK S x = 6) ∧ ((((h_X8_elementCause_n p0 p2 S) = 4) → (ok_X8_pass_j62 L x p0 p1 p2 1 S)) ∧
     (¬ ((h_X8_elementCause_n p0 p2 S) = 4) → ((((h_X8_elementCause_n p0 p2 S) = 2) → (ok_X8_pass_j62 L x p0 p1 p2 1 S)) ∧
      (¬ ((h_X8_elementCause_n p0 p2 S) = 2) → (ok_X8_pass_j62 L x p0 p1 p2 0 S)))))))) ∧
    (∀ a_29 : Nat, (hsR S ((hsQ S x 0).getD 0) p1.toNatClampNeg) = some a_29 → ((ok_X8_elementCause_s L p0 a_29 p2 S) ∧ ((x ∈ L ∧ hsK S x = 6) ∧ ((((h_X8_elementCause_s p0 a_29 p2 S) = 4) → (ok_X8_pass_j62a L x p0 p1 p2 a_29 1 S)) ∧
     (¬ ((h_X8_elementCause_s p0 a_29 p2 S) = 4) → ((((h_X8_elementCause_s p0 a_29 p2 S) = 2) → (ok_X8_pass_j62a L x p0 p1 p2 a_29 1 S)) ∧
      (¬ ((h_X8_elementCause_s p0 a_29 p2 S) = 2) → (ok_X8_pass_j62a L x p0 p1 p2 a_29 0 S))))))))))))))
set_option maxHeartbeats 4000000 in
set_option maxRecDepth 100000 in
theorem hm_X8_pass (l : Launch) (G : GE) (L : List Nat) (S : HS) (x : Nat) (p0 : Int32) (p1 : Int32) (p2 : Int32) (hok : ok_X8_pass L x p0 p1 p2 S) : HmL l G yX8_pass wsX8_pass 4 86 [.ref x, .int p0, .int p1, .int p2] L S (h_X8_pass x p0 p1 p2 S) := by
  refine Met.ofW (cc := cX8_pass) (maxL := 6) (ret := (some .long)) (by decide) rfl ?_
  intro p e s m args below meth c s₁ B hml hv
  obtain ⟨rfl, hP, hK, hnd, hE⟩ := hv
  have hx := B.exec
  have hb := B.bytes
  have hr := B.returns
  have hts := atoms_spec (ws := wsX8_pass) B.pre
  have hown : s.vm.findClass RX8 = some m.cls := findClass_of_methodNamed B.named
  have hlocks := B.notSynchronized
  have hD := nd_D hnd
  have hS : va_S (AL L) s.heap s.heap [] := va_S.rf
  have hl := lv_entry ([.ref x, .int p0, .int p1, .int p2]) (n := 6) (Nat.le_of_ble_eq_true rfl)
  rw [lg_entry_eq]
  generalize (lg_sl ([.ref x, .int p0, .int p1, .int p2]) ++ List.replicate (6 - (lg_sl ([.ref x, .int p0, .int p1, .int p2])).length) Slot.unset).toArray = ls at hl ⊢
  have hl : lv_has ls 6 [(0, .ref x), (1, .int p0), (2, .int p1), (3, .int p2)] := hl
  obtain ⟨Z, hZ⟩ : ∃ z, z = MQ below (hm_QL G L (h_X8_pass x p0 p1 p2 S)) ([.ref x, .int p0, .int p1, .int p2] : List Value).toArray s 0 0 (AL L) := ⟨_, rfl⟩
  rw [← hZ]
  refine lv_iload_n hx hb dX8_pass_0 rfl (lv_at hl 1 rfl) ?_
  refine pm_callI (va_runS (As := [.int p0]) (rest := []) ⟨hx, hb, hml, hown, hts⟩ (pm_X8_isNumberType l p0) (va_cwS 1 hts gX8_pass_X8_isNumberType rfl rfl rfl hd_X8_isNumberType ⟨Nat.le_of_ble_eq_true rfl, Nat.le_of_ble_eq_true rfl⟩) ⟨pm_fbT, fun U hU hW => ⟨rfl, trivial⟩⟩ rfl rfl hl.1 rfl (lv_room (Nat.le_of_ble_eq_true rfl)) dX8_pass_1 ⟨Nat.le_refl 0, Nat.le_refl 0⟩) hS (fun H locs _ hk9 hS => ?_)
  replace hP := P_keep hP hk9
  have K_14 : ∀ (H : Heap) (locs : List Loc), va_P (gD G) vwCl (va_pl L (PF G S)) H → va_S (AL L) s.heap H locs → ∀ (ls : Array Slot), lv_has ls 6 [(0, .ref x)] → ok_X8_pass_j14 L x p0 p1 p2 S → h_X8_pass x p0 p1 p2 S = h_X8_pass_j14 x p0 p1 p2 S → W p l e (pm_R 4 86) s m ([.ref x, .int p0, .int p1, .int p2] : List Value).toArray below meth c H locs 0 0 Z (F0 m 14 ls []) := by
    intro H locs hP hS ls hl hok hK_14
    refine lv_aload_n hx hb dX8_pass_14 rfl (lv_at hl 0 rfl) ?_
    refine lv_bipush (v := 8) hx hb dX8_pass_15 (by decide) ?_
    obtain ⟨h_17k, hok⟩ := hok
    obtain ⟨h_17, hok⟩ := hok
    refine hm_callI (G := G) (a := ([.ref x, .int 8] : List Value).toArray) (pr := (h_X8_stops x 8 S)) (rest := []) ?_ hS (fun H locs hP hS => ?_)
    ·
      exact va_runV (As := [.int 8]) (rest := []) ⟨hx, hb, hml, hown, hts⟩ (hm_X8_stops l G L S x 8 h_17) (cwV 1 hts gX8_pass_X8_stops rfl rfl rfl hdv_X8_stops ⟨Nat.le_of_ble_eq_true rfl, Nat.le_of_ble_eq_true rfl⟩) ⟨HW.fb, hp_recv hK hP h_17k.1 (PF_6 h_17k.2) rfl, fun U hU hW => ⟨rfl, HW.call hP hK hnd hE hS U hU hW⟩⟩ rfl rfl hl.1 rfl (lv_room (Nat.le_of_ble_eq_true rfl)) dX8_pass_17 ⟨Nat.le_refl 0, Nat.le_refl 0⟩
    ·
      refine lv_pop hx hb dX8_pass_20 rfl ?_
      refine lv_lconst (v := 0) hx hb dX8_pass_21 (by decide) ?_
      rw [hZ]
      exact hm_lret hx hb hr hlocks hS hP hK hnd hE ((hK_14)) dX8_pass_22
  refine lv_if_eq (tgt := 14) hx hb dX8_pass_4 (by decide) (fun c_4 => ?_) (fun c_4 => ?_)
  ·
    have hok := (hok).1 c_4
    exact K_14 _ _ hP hS ls (lv_sub hl [0] rfl) hok ((if_pos c_4))
  ·
    have hok := (hok).2 c_4
    refine lv_iload_n hx hb dX8_pass_7 rfl (lv_at hl 2 rfl) ?_
    refine pm_callI (va_runS (As := [.int p1]) (rest := []) ⟨hx, hb, hml, hown, hts⟩ (pm_X8_isCell l p1) (va_cwS 1 hts gX8_pass_X8_isCell rfl rfl rfl hd_X8_isCell ⟨Nat.le_of_ble_eq_true rfl, Nat.le_of_ble_eq_true rfl⟩) ⟨pm_fbT, fun U hU hW => ⟨rfl, trivial⟩⟩ rfl rfl hl.1 rfl (lv_room (Nat.le_of_ble_eq_true rfl)) dX8_pass_8 ⟨Nat.le_refl 0, Nat.le_refl 0⟩) hS (fun H locs _ hk9 hS => ?_)
    replace hP := P_keep hP hk9
    refine lv_if_ne (tgt := 23) hx hb dX8_pass_11 (by decide) (fun c_11 => ?_) (fun c_11 => ?_)
    ·
      have hok := (hok).2 c_11
      refine lv_iload_n hx hb dX8_pass_23 rfl (lv_at hl 1 rfl) ?_
      refine lv_aload_n hx hb dX8_pass_24 rfl (lv_at hl 0 rfl) ?_
      obtain ⟨h_25, hok⟩ := hok
      refine hp_getR (ci := 6) (C := RX8) (T := TX8) (N := 4) hx hb hts iw_X8_pass_X8 hown hK hP h_25.1 (PF_6 h_25.2.1) rfl 0 (by decide) (hts _ (List.mem_of_getElem? (i := 1) rfl)) (fun _ h9 => h9) rfl h_25.2.2 dX8_pass_25 ?_
      refine lv_iload_n hx hb dX8_pass_28 rfl (lv_at hl 2 rfl) ?_
      obtain ⟨h_29, hok⟩ := hok
      refine hp_aald hx hb hK hP h_29.1 2 (PF_10 h_29.2.1) rfl h_29.2.2 dX8_pass_29 ?_
      refine lv_topq (fun r_29 er_29 => ?_)
      rcases r_29 with _ | a_29
      ·
        have hok := (hok).1 er_29.symm
        refine lv_iload_n hx hb dX8_pass_30 rfl (lv_at hl 3 rfl) ?_
        obtain ⟨h_31, hok⟩ := hok
        refine hm_callIr (G := G) (S1 := S) (a := ([.int p0, .null, .int p2] : List Value).toArray) (rest := []) (h_X8_elementCause_n p0 p2 S) ?_ hS (fun H locs hP hS => ?_)
        ·
          exact va_runS (As := [.int p0, .null, .int p2]) (rest := []) ⟨hx, hb, hml, hown, hts⟩ (hm_X8_elementCause_n l G L S p0 p2 h_31) (va_cwS 3 hts gX8_pass_X8_elementCause rfl rfl rfl hd_X8_elementCause ⟨Nat.le_of_ble_eq_true rfl, Nat.le_of_ble_eq_true rfl⟩) ⟨HW.fb, fun U hU hW => ⟨rfl, HW.call hP hK hnd hE hS U hU hW⟩⟩ rfl rfl hl.1 rfl (lv_room (Nat.le_of_ble_eq_true rfl)) dX8_pass_31 ⟨Nat.le_refl 0, Nat.le_refl 0⟩
        ·
          refine lv_istore (lv' := [(4, .int (h_X8_elementCause_n p0 p2 S)), (0, .ref x), (1, .int p0), (2, .int p1), (3, .int p2)]) hx hb dX8_pass_34 hl (by decide) rfl (fun ls hl => ?_)
          refine lv_aload_n hx hb dX8_pass_36 rfl (lv_at hl 1 rfl) ?_
          refine lv_iload hx hb dX8_pass_37 (lv_at hl 0 rfl) ?_
          refine pm_callI (va_runS (As := [.int (h_X8_elementCause_n p0 p2 S)]) (rest := [.ref x]) ⟨hx, hb, hml, hown, hts⟩ (pm_X8_traceOf l (h_X8_elementCause_n p0 p2 S)) (va_cwS 1 hts gX8_pass_X8_traceOf rfl rfl rfl hd_X8_traceOf ⟨Nat.le_of_ble_eq_true rfl, Nat.le_of_ble_eq_true rfl⟩) ⟨pm_fbT, fun U hU hW => ⟨rfl, trivial⟩⟩ rfl rfl hl.1 rfl (lv_room (Nat.le_of_ble_eq_true rfl)) dX8_pass_39 ⟨Nat.le_refl 0, Nat.le_refl 0⟩) hS (fun H locs _ hk9 hS => ?_)
          replace hP := P_keep hP hk9
          obtain ⟨h_42, hok⟩ := hok
          refine hp_put (ci := 6) (C := RX8) (T := TX8) (N := 4) (ty := .int) (v := .int (s_X8_traceOf (h_X8_elementCause_n p0 p2 S))) (g := PF G (hwI S x 3 (s_X8_traceOf (h_X8_elementCause_n p0 p2 S)))) hx hb hts iw_X8_pass_X8 tyX8 tyX8_ok nmX8 hown hK hP (hD _) hS h_42.1 (PF_6 h_42.2) rfl 3 (by decide) (hts _ (List.mem_of_getElem? (i := 2) rfl)) (fun _ h9 => h9) rfl (by decide +kernel) rfl rfl (Nat.le_of_ble_eq_true rfl) (PF_s6_3 h_42.2) (fun _ hb9 => PF_wI hb9) dX8_pass_42 (fun H locs hP hS => ?_)
          refine lv_iload hx hb dX8_pass_45 (lv_at hl 0 rfl) ?_
          refine lv_iconst (v := 4) hx hb dX8_pass_47 (by decide) ?_
          have K_62 : ∀ (z_62_0 : Int32) (H : Heap) (locs : List Loc), va_P (gD G) vwCl (va_pl L (PF G (hwI S x 3 (s_X8_traceOf (h_X8_elementCause_n p0 p2 S))))) H → va_S (AL L) s.heap H locs → ∀ (ls : Array Slot), lv_has ls 6 [(0, .ref x), (2, .int p1), (3, .int p2), (4, .int (h_X8_elementCause_n p0 p2 S))] → ok_X8_pass_j62 L x p0 p1 p2 z_62_0 S → h_X8_pass x p0 p1 p2 S = h_X8_pass_j62 x p0 p1 p2 z_62_0 S → W p l e (pm_R 4 86) s m ([.ref x, .int p0, .int p1, .int p2] : List Value).toArray below meth c H locs 0 0 Z (F0 m 62 ls [.int z_62_0]) := by
            intro z_62_0 H locs hP hS ls hl hok hK_62
            refine lv_istore (lv' := [(5, .int z_62_0), (0, .ref x), (2, .int p1), (3, .int p2), (4, .int (h_X8_elementCause_n p0 p2 S))]) hx hb dX8_pass_62 hl (by decide) rfl (fun ls hl => ?_)
            refine lv_aload_n hx hb dX8_pass_64 rfl (lv_at hl 1 rfl) ?_
            refine lv_iload hx hb dX8_pass_65 (lv_at hl 0 rfl) ?_
            have K_76 : ∀ (z_76_0 : Int32) (H : Heap) (locs : List Loc), va_P (gD G) vwCl (va_pl L (PF G (hwI S x 3 (s_X8_traceOf (h_X8_elementCause_n p0 p2 S))))) H → va_S (AL L) s.heap H locs → ∀ (ls : Array Slot), lv_has ls 6 [(0, .ref x), (2, .int p1), (3, .int p2), (4, .int (h_X8_elementCause_n p0 p2 S)), (5, .int z_62_0)] → ok_X8_pass_j76 L x p0 p1 p2 z_62_0 z_76_0 S → h_X8_pass x p0 p1 p2 S = h_X8_pass_j76 x p0 p1 p2 z_62_0 z_76_0 S → W p l e (pm_R 4 86) s m ([.ref x, .int p0, .int p1, .int p2] : List Value).toArray below meth c H locs 0 0 Z (F0 m 76 ls [.int z_76_0, .ref x]) := by
              intro z_76_0 H locs hP hS ls hl hok hK_76
              obtain ⟨h_76k, hok⟩ := hok
              obtain ⟨h_76, hok⟩ := hok
              refine hm_callI (G := G) (a := ([.ref x, .int z_76_0] : List Value).toArray) (pr := (h_X8_stops x z_76_0 (hwI S x 3 (s_X8_traceOf (h_X8_elementCause_n p0 p2 S))))) (rest := []) ?_ hS (fun H locs hP hS => ?_)
              ·
                exact va_runV (As := [.int z_76_0]) (rest := []) ⟨hx, hb, hml, hown, hts⟩ (hm_X8_stops l G L (hwI S x 3 (s_X8_traceOf (h_X8_elementCause_n p0 p2 S))) x z_76_0 h_76) (cwV 1 hts gX8_pass_X8_stops rfl rfl rfl hdv_X8_stops ⟨Nat.le_of_ble_eq_true rfl, Nat.le_of_ble_eq_true rfl⟩) ⟨HW.fb, hp_recv hK hP h_76k.1 (PF_6 h_76k.2) rfl, fun U hU hW => ⟨rfl, HW.call hP hK hnd hE hS U hU hW⟩⟩ rfl rfl hl.1 rfl (lv_room (Nat.le_of_ble_eq_true rfl)) dX8_pass_76 ⟨Nat.le_refl 0, Nat.le_refl 0⟩
              ·
                refine lv_if_eq (tgt := 84) hx hb dX8_pass_79 (by decide) (fun c_79 => ?_) (fun c_79 => ?_)
                ·
                  have hok := (hok).1 c_79
                  refine lv_iload hx hb dX8_pass_84 (lv_at hl 4 rfl) ?_
                  refine lv_if_eq (tgt := 105) hx hb dX8_pass_86 (by decide) (fun c_86 => ?_) (fun c_86 => ?_)
                  ·
                    have hok := (hok).1 c_86
                    refine lv_aload_n hx hb dX8_pass_105 rfl (lv_at hl 0 rfl) ?_
                    obtain ⟨h_106, hok⟩ := hok
                    refine hp_getR (ci := 6) (C := RX8) (T := TX8) (N := 4) hx hb hts iw_X8_pass_X8 hown hK hP h_106.1 (PF_6 h_106.2.1) rfl 0 (by decide) (hts _ (List.mem_of_getElem? (i := 1) rfl)) (fun _ h9 => h9) rfl h_106.2.2 dX8_pass_106 ?_
                    refine lv_iload_n hx hb dX8_pass_109 rfl (lv_at hl 1 rfl) ?_
                    obtain ⟨h_110, hok⟩ := hok
                    refine hp_aald hx hb hK hP h_110.1 2 (PF_10 h_110.2.1) rfl h_110.2.2 dX8_pass_110 ?_
                    refine lv_topq (fun r_110 er_110 => ?_)
                    rcases r_110 with _ | a_110
                    ·
                      have hok := (hok).1 er_110.symm
                      refine lv_iload_n hx hb dX8_pass_111 rfl (lv_at hl 2 rfl) ?_
                      obtain ⟨h_112, hok⟩ := hok
                      refine hm_callLr (G := G) (S1 := (h_X8_stops x z_76_0 (hwI S x 3 (s_X8_traceOf (h_X8_elementCause_n p0 p2 S)))).2) (a := ([.null, .int p2] : List Value).toArray) (rest := []) (h_X8_numberAt_n p2 ((h_X8_stops x z_76_0 (hwI S x 3 (s_X8_traceOf (h_X8_elementCause_n p0 p2 S)))).2)) ?_ hS (fun H locs hP hS => ?_)
                      ·
                        exact va_runS (As := [.null, .int p2]) (rest := []) ⟨hx, hb, hml, hown, hts⟩ (hm_X8_numberAt_n l G L ((h_X8_stops x z_76_0 (hwI S x 3 (s_X8_traceOf (h_X8_elementCause_n p0 p2 S)))).2) p2 h_112) (va_cwS 2 hts gX8_pass_X8_numberAt rfl rfl rfl hd_X8_numberAt ⟨Nat.le_of_ble_eq_true rfl, Nat.le_of_ble_eq_true rfl⟩) ⟨HW.fb, fun U hU hW => ⟨rfl, HW.call hP hK hnd hE hS U hU hW⟩⟩ rfl rfl hl.1 rfl (lv_room (Nat.le_of_ble_eq_true rfl)) dX8_pass_112 ⟨Nat.le_refl 0, Nat.le_refl 0⟩
                      ·
                        rw [hZ]
                        exact hm_lret hx hb hr hlocks hS hP hK hnd hE (((hK_76).trans ((if_pos c_79).trans ((if_pos c_86).trans (oq_none er_110.symm))))) dX8_pass_115
                    ·
                      have hok := (hok).2 _ er_110.symm
                      refine lv_iload_n hx hb dX8_pass_111 rfl (lv_at hl 2 rfl) ?_
                      obtain ⟨h_112, hok⟩ := hok
                      refine hm_callLr (G := G) (S1 := (h_X8_stops x z_76_0 (hwI S x 3 (s_X8_traceOf (h_X8_elementCause_n p0 p2 S)))).2) (a := ([.ref a_110, .int p2] : List Value).toArray) (rest := []) (h_X8_numberAt_s a_110 p2 ((h_X8_stops x z_76_0 (hwI S x 3 (s_X8_traceOf (h_X8_elementCause_n p0 p2 S)))).2)) ?_ hS (fun H locs hP hS => ?_)
                      ·
                        exact va_runS (As := [.ref a_110, .int p2]) (rest := []) ⟨hx, hb, hml, hown, hts⟩ (hm_X8_numberAt_s l G L ((h_X8_stops x z_76_0 (hwI S x 3 (s_X8_traceOf (h_X8_elementCause_n p0 p2 S)))).2) a_110 p2 h_112) (va_cwS 2 hts gX8_pass_X8_numberAt rfl rfl rfl hd_X8_numberAt ⟨Nat.le_of_ble_eq_true rfl, Nat.le_of_ble_eq_true rfl⟩) ⟨HW.fb, fun U hU hW => ⟨rfl, HW.call hP hK hnd hE hS U hU hW⟩⟩ rfl rfl hl.1 rfl (lv_room (Nat.le_of_ble_eq_true rfl)) dX8_pass_112 ⟨Nat.le_refl 0, Nat.le_refl 0⟩
                      ·
                        rw [hZ]
                        exact hm_lret hx hb hr hlocks hS hP hK hnd hE (((hK_76).trans ((if_pos c_79).trans ((if_pos c_86).trans (oq_some er_110.symm))))) dX8_pass_115
                  ·
                    have hok := (hok).2 c_86
                    refine lv_iload hx hb dX8_pass_89 (lv_at hl 3 rfl) ?_
                    refine lv_iconst (v := 4) hx hb dX8_pass_91 (by decide) ?_
                    refine lv_icmp_ne (tgt := 101) hx hb dX8_pass_92 (by decide) (fun c_92 => ?_) (fun c_92 => ?_)
                    ·
                      have hok := (hok).2 c_92
                      refine lv_ldc2 (v := (-102)) hx hb hown (hts _ (List.mem_of_getElem? (i := 4) rfl)) dX8_pass_101 ?_
                      rw [hZ]
                      exact hm_lret hx hb hr hlocks hS hP hK hnd hE (((hK_76).trans ((if_pos c_79).trans ((if_neg c_86).trans (if_neg c_92))))) dX8_pass_104
                    ·
                      have hok := (hok).1 c_92
                      refine lv_ldc2 (v := (-104)) hx hb hown (hts _ (List.mem_of_getElem? (i := 3) rfl)) dX8_pass_95 ?_
                      refine lv_goto (tgt := 104) hx hb dX8_pass_98 (by decide) ?_
                      rw [hZ]
                      exact hm_lret hx hb hr hlocks hS hP hK hnd hE (((hK_76).trans ((if_pos c_79).trans ((if_neg c_86).trans (if_pos c_92))))) dX8_pass_104
                ·
                  have hok := (hok).2 c_79
                  refine lv_lconst (v := 0) hx hb dX8_pass_82 (by decide) ?_
                  rw [hZ]
                  exact hm_lret hx hb hr hlocks hS hP hK hnd hE (((hK_76).trans (if_neg c_79))) dX8_pass_83
            refine lv_if_eq (tgt := 74) hx hb dX8_pass_67 (by decide) (fun c_67 => ?_) (fun c_67 => ?_)
            ·
              have hok := (hok).1 c_67
              refine lv_iload hx hb dX8_pass_74 (lv_at hl 4 rfl) ?_
              exact K_76 (h_X8_elementCause_n p0 p2 S) _ _ hP hS ls (lv_sub hl [1, 2, 3, 4, 0] rfl) hok (((hK_62).trans (if_pos c_67)))
            ·
              have hok := (hok).2 c_67
              refine lv_iconst (v := 0) hx hb dX8_pass_70 (by decide) ?_
              refine lv_goto (tgt := 76) hx hb dX8_pass_71 (by decide) ?_
              exact K_76 0 _ _ hP hS ls (lv_sub hl [1, 2, 3, 4, 0] rfl) hok (((hK_62).trans (if_neg c_67)))
          refine lv_icmp_eq (tgt := 57) hx hb dX8_pass_48 (by decide) (fun c_48 => ?_) (fun c_48 => ?_)
          ·
            have hok := (hok).1 c_48
            refine lv_iconst (v := 1) hx hb dX8_pass_57 (by decide) ?_
            refine lv_goto (tgt := 62) hx hb dX8_pass_58 (by decide) ?_
            exact K_62 1 _ _ hP hS ls (lv_sub hl [1, 3, 4, 0] rfl) hok (((if_neg c_4).trans ((if_neg c_11).trans ((oq_none er_29.symm).trans (if_pos c_48)))))
          ·
            have hok := (hok).2 c_48
            refine lv_iload hx hb dX8_pass_51 (lv_at hl 0 rfl) ?_
            refine lv_iconst (v := 2) hx hb dX8_pass_53 (by decide) ?_
            refine lv_icmp_ne (tgt := 61) hx hb dX8_pass_54 (by decide) (fun c_54 => ?_) (fun c_54 => ?_)
            ·
              have hok := (hok).2 c_54
              refine lv_iconst (v := 0) hx hb dX8_pass_61 (by decide) ?_
              exact K_62 0 _ _ hP hS ls (lv_sub hl [1, 3, 4, 0] rfl) hok (((if_neg c_4).trans ((if_neg c_11).trans ((oq_none er_29.symm).trans ((if_neg c_48).trans (if_neg c_54))))))
            ·
              have hok := (hok).1 c_54
              refine lv_iconst (v := 1) hx hb dX8_pass_57 (by decide) ?_
              refine lv_goto (tgt := 62) hx hb dX8_pass_58 (by decide) ?_
              exact K_62 1 _ _ hP hS ls (lv_sub hl [1, 3, 4, 0] rfl) hok (((if_neg c_4).trans ((if_neg c_11).trans ((oq_none er_29.symm).trans ((if_neg c_48).trans (if_pos c_54))))))
      ·
        have hok := (hok).2 _ er_29.symm
        refine lv_iload_n hx hb dX8_pass_30 rfl (lv_at hl 3 rfl) ?_
        obtain ⟨h_31, hok⟩ := hok
        refine hm_callIr (G := G) (S1 := S) (a := ([.int p0, .ref a_29, .int p2] : List Value).toArray) (rest := []) (h_X8_elementCause_s p0 a_29 p2 S) ?_ hS (fun H locs hP hS => ?_)
        ·
          exact va_runS (As := [.int p0, .ref a_29, .int p2]) (rest := []) ⟨hx, hb, hml, hown, hts⟩ (hm_X8_elementCause_s l G L S p0 a_29 p2 h_31) (va_cwS 3 hts gX8_pass_X8_elementCause rfl rfl rfl hd_X8_elementCause ⟨Nat.le_of_ble_eq_true rfl, Nat.le_of_ble_eq_true rfl⟩) ⟨HW.fb, fun U hU hW => ⟨rfl, HW.call hP hK hnd hE hS U hU hW⟩⟩ rfl rfl hl.1 rfl (lv_room (Nat.le_of_ble_eq_true rfl)) dX8_pass_31 ⟨Nat.le_refl 0, Nat.le_refl 0⟩
        ·
          refine lv_istore (lv' := [(4, .int (h_X8_elementCause_s p0 a_29 p2 S)), (0, .ref x), (1, .int p0), (2, .int p1), (3, .int p2)]) hx hb dX8_pass_34 hl (by decide) rfl (fun ls hl => ?_)
          refine lv_aload_n hx hb dX8_pass_36 rfl (lv_at hl 1 rfl) ?_
          refine lv_iload hx hb dX8_pass_37 (lv_at hl 0 rfl) ?_
          refine pm_callI (va_runS (As := [.int (h_X8_elementCause_s p0 a_29 p2 S)]) (rest := [.ref x]) ⟨hx, hb, hml, hown, hts⟩ (pm_X8_traceOf l (h_X8_elementCause_s p0 a_29 p2 S)) (va_cwS 1 hts gX8_pass_X8_traceOf rfl rfl rfl hd_X8_traceOf ⟨Nat.le_of_ble_eq_true rfl, Nat.le_of_ble_eq_true rfl⟩) ⟨pm_fbT, fun U hU hW => ⟨rfl, trivial⟩⟩ rfl rfl hl.1 rfl (lv_room (Nat.le_of_ble_eq_true rfl)) dX8_pass_39 ⟨Nat.le_refl 0, Nat.le_refl 0⟩) hS (fun H locs _ hk9 hS => ?_)
          replace hP := P_keep hP hk9
          obtain ⟨h_42, hok⟩ := hok
          refine hp_put (ci := 6) (C := RX8) (T := TX8) (N := 4) (ty := .int) (v := .int (s_X8_traceOf (h_X8_elementCause_s p0 a_29 p2 S))) (g := PF G (hwI S x 3 (s_X8_traceOf (h_X8_elementCause_s p0 a_29 p2 S)))) hx hb hts iw_X8_pass_X8 tyX8 tyX8_ok nmX8 hown hK hP (hD _) hS h_42.1 (PF_6 h_42.2) rfl 3 (by decide) (hts _ (List.mem_of_getElem? (i := 2) rfl)) (fun _ h9 => h9) rfl (by decide +kernel) rfl rfl (Nat.le_of_ble_eq_true rfl) (PF_s6_3 h_42.2) (fun _ hb9 => PF_wI hb9) dX8_pass_42 (fun H locs hP hS => ?_)
          refine lv_iload hx hb dX8_pass_45 (lv_at hl 0 rfl) ?_
          refine lv_iconst (v := 4) hx hb dX8_pass_47 (by decide) ?_
          have K_62 : ∀ (z_62_0 : Int32) (H : Heap) (locs : List Loc), va_P (gD G) vwCl (va_pl L (PF G (hwI S x 3 (s_X8_traceOf (h_X8_elementCause_s p0 a_29 p2 S))))) H → va_S (AL L) s.heap H locs → ∀ (ls : Array Slot), lv_has ls 6 [(0, .ref x), (2, .int p1), (3, .int p2), (4, .int (h_X8_elementCause_s p0 a_29 p2 S))] → ok_X8_pass_j62a L x p0 p1 p2 a_29 z_62_0 S → h_X8_pass x p0 p1 p2 S = h_X8_pass_j62a x p0 p1 p2 a_29 z_62_0 S → W p l e (pm_R 4 86) s m ([.ref x, .int p0, .int p1, .int p2] : List Value).toArray below meth c H locs 0 0 Z (F0 m 62 ls [.int z_62_0]) := by
            intro z_62_0 H locs hP hS ls hl hok hK_62
            refine lv_istore (lv' := [(5, .int z_62_0), (0, .ref x), (2, .int p1), (3, .int p2), (4, .int (h_X8_elementCause_s p0 a_29 p2 S))]) hx hb dX8_pass_62 hl (by decide) rfl (fun ls hl => ?_)
            refine lv_aload_n hx hb dX8_pass_64 rfl (lv_at hl 1 rfl) ?_
            refine lv_iload hx hb dX8_pass_65 (lv_at hl 0 rfl) ?_
            have K_76 : ∀ (z_76_0 : Int32) (H : Heap) (locs : List Loc), va_P (gD G) vwCl (va_pl L (PF G (hwI S x 3 (s_X8_traceOf (h_X8_elementCause_s p0 a_29 p2 S))))) H → va_S (AL L) s.heap H locs → ∀ (ls : Array Slot), lv_has ls 6 [(0, .ref x), (2, .int p1), (3, .int p2), (4, .int (h_X8_elementCause_s p0 a_29 p2 S)), (5, .int z_62_0)] → ok_X8_pass_j76a L x p0 p1 p2 z_62_0 a_29 z_76_0 S → h_X8_pass x p0 p1 p2 S = h_X8_pass_j76a x p0 p1 p2 z_62_0 a_29 z_76_0 S → W p l e (pm_R 4 86) s m ([.ref x, .int p0, .int p1, .int p2] : List Value).toArray below meth c H locs 0 0 Z (F0 m 76 ls [.int z_76_0, .ref x]) := by
              intro z_76_0 H locs hP hS ls hl hok hK_76
              obtain ⟨h_76k, hok⟩ := hok
              obtain ⟨h_76, hok⟩ := hok
              refine hm_callI (G := G) (a := ([.ref x, .int z_76_0] : List Value).toArray) (pr := (h_X8_stops x z_76_0 (hwI S x 3 (s_X8_traceOf (h_X8_elementCause_s p0 a_29 p2 S))))) (rest := []) ?_ hS (fun H locs hP hS => ?_)
              ·
                exact va_runV (As := [.int z_76_0]) (rest := []) ⟨hx, hb, hml, hown, hts⟩ (hm_X8_stops l G L (hwI S x 3 (s_X8_traceOf (h_X8_elementCause_s p0 a_29 p2 S))) x z_76_0 h_76) (cwV 1 hts gX8_pass_X8_stops rfl rfl rfl hdv_X8_stops ⟨Nat.le_of_ble_eq_true rfl, Nat.le_of_ble_eq_true rfl⟩) ⟨HW.fb, hp_recv hK hP h_76k.1 (PF_6 h_76k.2) rfl, fun U hU hW => ⟨rfl, HW.call hP hK hnd hE hS U hU hW⟩⟩ rfl rfl hl.1 rfl (lv_room (Nat.le_of_ble_eq_true rfl)) dX8_pass_76 ⟨Nat.le_refl 0, Nat.le_refl 0⟩
              ·
                refine lv_if_eq (tgt := 84) hx hb dX8_pass_79 (by decide) (fun c_79 => ?_) (fun c_79 => ?_)
                ·
                  have hok := (hok).1 c_79
                  refine lv_iload hx hb dX8_pass_84 (lv_at hl 4 rfl) ?_
                  refine lv_if_eq (tgt := 105) hx hb dX8_pass_86 (by decide) (fun c_86 => ?_) (fun c_86 => ?_)
                  ·
                    have hok := (hok).1 c_86
                    refine lv_aload_n hx hb dX8_pass_105 rfl (lv_at hl 0 rfl) ?_
                    obtain ⟨h_106, hok⟩ := hok
                    refine hp_getR (ci := 6) (C := RX8) (T := TX8) (N := 4) hx hb hts iw_X8_pass_X8 hown hK hP h_106.1 (PF_6 h_106.2.1) rfl 0 (by decide) (hts _ (List.mem_of_getElem? (i := 1) rfl)) (fun _ h9 => h9) rfl h_106.2.2 dX8_pass_106 ?_
                    refine lv_iload_n hx hb dX8_pass_109 rfl (lv_at hl 1 rfl) ?_
                    obtain ⟨h_110, hok⟩ := hok
                    refine hp_aald hx hb hK hP h_110.1 2 (PF_10 h_110.2.1) rfl h_110.2.2 dX8_pass_110 ?_
                    refine lv_topq (fun r_110 er_110 => ?_)
                    rcases r_110 with _ | a_110
                    ·
                      have hok := (hok).1 er_110.symm
                      refine lv_iload_n hx hb dX8_pass_111 rfl (lv_at hl 2 rfl) ?_
                      obtain ⟨h_112, hok⟩ := hok
                      refine hm_callLr (G := G) (S1 := (h_X8_stops x z_76_0 (hwI S x 3 (s_X8_traceOf (h_X8_elementCause_s p0 a_29 p2 S)))).2) (a := ([.null, .int p2] : List Value).toArray) (rest := []) (h_X8_numberAt_n p2 ((h_X8_stops x z_76_0 (hwI S x 3 (s_X8_traceOf (h_X8_elementCause_s p0 a_29 p2 S)))).2)) ?_ hS (fun H locs hP hS => ?_)
                      ·
                        exact va_runS (As := [.null, .int p2]) (rest := []) ⟨hx, hb, hml, hown, hts⟩ (hm_X8_numberAt_n l G L ((h_X8_stops x z_76_0 (hwI S x 3 (s_X8_traceOf (h_X8_elementCause_s p0 a_29 p2 S)))).2) p2 h_112) (va_cwS 2 hts gX8_pass_X8_numberAt rfl rfl rfl hd_X8_numberAt ⟨Nat.le_of_ble_eq_true rfl, Nat.le_of_ble_eq_true rfl⟩) ⟨HW.fb, fun U hU hW => ⟨rfl, HW.call hP hK hnd hE hS U hU hW⟩⟩ rfl rfl hl.1 rfl (lv_room (Nat.le_of_ble_eq_true rfl)) dX8_pass_112 ⟨Nat.le_refl 0, Nat.le_refl 0⟩
                      ·
                        rw [hZ]
                        exact hm_lret hx hb hr hlocks hS hP hK hnd hE (((hK_76).trans ((if_pos c_79).trans ((if_pos c_86).trans (oq_none er_110.symm))))) dX8_pass_115
                    ·
                      have hok := (hok).2 _ er_110.symm
                      refine lv_iload_n hx hb dX8_pass_111 rfl (lv_at hl 2 rfl) ?_
                      obtain ⟨h_112, hok⟩ := hok
                      refine hm_callLr (G := G) (S1 := (h_X8_stops x z_76_0 (hwI S x 3 (s_X8_traceOf (h_X8_elementCause_s p0 a_29 p2 S)))).2) (a := ([.ref a_110, .int p2] : List Value).toArray) (rest := []) (h_X8_numberAt_s a_110 p2 ((h_X8_stops x z_76_0 (hwI S x 3 (s_X8_traceOf (h_X8_elementCause_s p0 a_29 p2 S)))).2)) ?_ hS (fun H locs hP hS => ?_)
                      ·
                        exact va_runS (As := [.ref a_110, .int p2]) (rest := []) ⟨hx, hb, hml, hown, hts⟩ (hm_X8_numberAt_s l G L ((h_X8_stops x z_76_0 (hwI S x 3 (s_X8_traceOf (h_X8_elementCause_s p0 a_29 p2 S)))).2) a_110 p2 h_112) (va_cwS 2 hts gX8_pass_X8_numberAt rfl rfl rfl hd_X8_numberAt ⟨Nat.le_of_ble_eq_true rfl, Nat.le_of_ble_eq_true rfl⟩) ⟨HW.fb, fun U hU hW => ⟨rfl, HW.call hP hK hnd hE hS U hU hW⟩⟩ rfl rfl hl.1 rfl (lv_room (Nat.le_of_ble_eq_true rfl)) dX8_pass_112 ⟨Nat.le_refl 0, Nat.le_refl 0⟩
                      ·
                        rw [hZ]
                        exact hm_lret hx hb hr hlocks hS hP hK hnd hE (((hK_76).trans ((if_pos c_79).trans ((if_pos c_86).trans (oq_some er_110.symm))))) dX8_pass_115
                  ·
                    have hok := (hok).2 c_86
                    refine lv_iload hx hb dX8_pass_89 (lv_at hl 3 rfl) ?_
                    refine lv_iconst (v := 4) hx hb dX8_pass_91 (by decide) ?_
                    refine lv_icmp_ne (tgt := 101) hx hb dX8_pass_92 (by decide) (fun c_92 => ?_) (fun c_92 => ?_)
                    ·
                      have hok := (hok).2 c_92
                      refine lv_ldc2 (v := (-102)) hx hb hown (hts _ (List.mem_of_getElem? (i := 4) rfl)) dX8_pass_101 ?_
                      rw [hZ]
                      exact hm_lret hx hb hr hlocks hS hP hK hnd hE (((hK_76).trans ((if_pos c_79).trans ((if_neg c_86).trans (if_neg c_92))))) dX8_pass_104
                    ·
                      have hok := (hok).1 c_92
                      refine lv_ldc2 (v := (-104)) hx hb hown (hts _ (List.mem_of_getElem? (i := 3) rfl)) dX8_pass_95 ?_
                      refine lv_goto (tgt := 104) hx hb dX8_pass_98 (by decide) ?_
                      rw [hZ]
                      exact hm_lret hx hb hr hlocks hS hP hK hnd hE (((hK_76).trans ((if_pos c_79).trans ((if_neg c_86).trans (if_pos c_92))))) dX8_pass_104
                ·
                  have hok := (hok).2 c_79
                  refine lv_lconst (v := 0) hx hb dX8_pass_82 (by decide) ?_
                  rw [hZ]
                  exact hm_lret hx hb hr hlocks hS hP hK hnd hE (((hK_76).trans (if_neg c_79))) dX8_pass_83
            refine lv_if_eq (tgt := 74) hx hb dX8_pass_67 (by decide) (fun c_67 => ?_) (fun c_67 => ?_)
            ·
              have hok := (hok).1 c_67
              refine lv_iload hx hb dX8_pass_74 (lv_at hl 4 rfl) ?_
              exact K_76 (h_X8_elementCause_s p0 a_29 p2 S) _ _ hP hS ls (lv_sub hl [1, 2, 3, 4, 0] rfl) hok (((hK_62).trans (if_pos c_67)))
            ·
              have hok := (hok).2 c_67
              refine lv_iconst (v := 0) hx hb dX8_pass_70 (by decide) ?_
              refine lv_goto (tgt := 76) hx hb dX8_pass_71 (by decide) ?_
              exact K_76 0 _ _ hP hS ls (lv_sub hl [1, 2, 3, 4, 0] rfl) hok (((hK_62).trans (if_neg c_67)))
          refine lv_icmp_eq (tgt := 57) hx hb dX8_pass_48 (by decide) (fun c_48 => ?_) (fun c_48 => ?_)
          ·
            have hok := (hok).1 c_48
            refine lv_iconst (v := 1) hx hb dX8_pass_57 (by decide) ?_
            refine lv_goto (tgt := 62) hx hb dX8_pass_58 (by decide) ?_
            exact K_62 1 _ _ hP hS ls (lv_sub hl [1, 3, 4, 0] rfl) hok (((if_neg c_4).trans ((if_neg c_11).trans ((oq_some er_29.symm).trans (if_pos c_48)))))
          ·
            have hok := (hok).2 c_48
            refine lv_iload hx hb dX8_pass_51 (lv_at hl 0 rfl) ?_
            refine lv_iconst (v := 2) hx hb dX8_pass_53 (by decide) ?_
            refine lv_icmp_ne (tgt := 61) hx hb dX8_pass_54 (by decide) (fun c_54 => ?_) (fun c_54 => ?_)
            ·
              have hok := (hok).2 c_54
              refine lv_iconst (v := 0) hx hb dX8_pass_61 (by decide) ?_
              exact K_62 0 _ _ hP hS ls (lv_sub hl [1, 3, 4, 0] rfl) hok (((if_neg c_4).trans ((if_neg c_11).trans ((oq_some er_29.symm).trans ((if_neg c_48).trans (if_neg c_54))))))
            ·
              have hok := (hok).1 c_54
              refine lv_iconst (v := 1) hx hb dX8_pass_57 (by decide) ?_
              refine lv_goto (tgt := 62) hx hb dX8_pass_58 (by decide) ?_
              exact K_62 1 _ _ hP hS ls (lv_sub hl [1, 3, 4, 0] rfl) hok (((if_neg c_4).trans ((if_neg c_11).trans ((oq_some er_29.symm).trans ((if_neg c_48).trans (if_pos c_54))))))
    ·
      have hok := (hok).1 c_11
      exact K_14 _ _ hP hS ls (lv_sub hl [0] rfl) hok (((if_neg c_4).trans (if_pos c_11)))
