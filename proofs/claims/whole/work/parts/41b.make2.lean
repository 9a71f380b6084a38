/-! ===== make of the class anew: a value may be any int ===== -/
set_option maxHeartbeats 4000000 in
theorem hm_X8_newThing2 (l : Launch) (G : GE) (L0 : List Nat) (sz : Nat) (L : List Nat) (S : HS) (p0 p1 p2 : Int32) (h0 : p0 ≠ 10 → p0 ≠ 11 → p0 ≠ 12 → ¬ p1 < 0 ∧ p1.toNatClampNeg ≤ 64) (g : p0 = 7 → ¬ p2 < 0 ∧ p2.toNatClampNeg ≤ 64) : HzR l G yX8_newThing wsX8_newThing 5 99 130 4355 [.int p0, .int p1, .int p2] L0 sz L S (fun q L1 S1 => NThing L S q p0 p1 p2 L1 S1) := by
  refine Met.ofW (cc := cX8_newThing) (maxL := 3) (ret := (some (.object "ThrowModels$Thing"))) (by decide) rfl ?_
  intro p e s m args below meth c s₁ B hml hv
  obtain ⟨rfl, ⟨hP, hK, hnd, hE0⟩, hLz, hSz, hE1⟩ := hv
  have hE : EZ G L0 sz s := ⟨hE1, hE0.2⟩
  have hx := B.exec
  have hb := B.bytes
  have hr := B.returns
  have hts := atoms_spec (ws := wsX8_newThing) B.pre
  have hown : s.vm.findClass RX8 = some m.cls := findClass_of_methodNamed B.named
  have hlocks := B.notSynchronized
  have hS : va_S (AZ L0 sz) s.heap s.heap [] := va_S.rf
  have hl := lv_entry ([.int p0, .int p1, .int p2]) (n := 3) (Nat.le_of_ble_eq_true rfl)
  rw [lg_entry_eq]
  generalize (lg_sl ([.int p0, .int p1, .int p2]) ++ List.replicate (3 - (lg_sl ([.int p0, .int p1, .int p2])).length) Slot.unset).toArray = ls at hl ⊢
  have hl : lv_has ls 3 [(0, .int p0), (1, .int p1), (2, .int p2)] := hl
  obtain ⟨Z, hZ⟩ : ∃ z, z = MQ below (hz_QR G L0 sz (fun q L1 S1 => NThing L S q p0 p1 p2 L1 S1)) ([.int p0, .int p1, .int p2] : List Value).toArray s 130 4355 (AZ L0 sz) := ⟨_, rfl⟩
  rw [← hZ]
  refine lv_iload_n hx hb dX8_newThing_0 rfl (lv_at hl 0 rfl) ?_
  by_cases c_7 : p0 = 7
  ·
    refine lv_tableIn (off := 80) (tgt := 81) hx hb dX8_newThing_1 (by rw [c_7]; decide) (by rw [c_7]; decide) (by rw [c_7]; decide) (by decide) ?_
    refine lv_iload_n hx hb dX8_newThing_81 rfl (lv_at hl 1 rfl) ?_
    refine lv_iload_n hx hb dX8_newThing_82 rfl (lv_at hl 2 rfl) ?_
    refine hz_callR (va_runS (As := [.int p1, .int p2]) (rest := []) ⟨hx, hb, hml, hown, hts⟩ (hm_X8_newRows l G L0 sz L S p1 p2 (h0 (by rw [c_7]; decide) (by rw [c_7]; decide) (by rw [c_7]; decide)).1 (h0 (by rw [c_7]; decide) (by rw [c_7]; decide) (by rw [c_7]; decide)).2 (g c_7).1 (g c_7).2) (va_cwS 2 hts gX8_newThing_X8_newRows rfl rfl rfl (by decide +kernel) ⟨Nat.le_of_ble_eq_true rfl, Nat.le_of_ble_eq_true rfl⟩) ⟨HZ.fb, fun U hU hW => ⟨rfl, HZ.of hP hK hnd hLz hSz hE hS U hU hW⟩⟩ rfl rfl hl.1 rfl (lv_room (Nat.le_of_ble_eq_true rfl)) dX8_newThing_83 ⟨Nat.le_of_ble_eq_true rfl, Nat.le_of_ble_eq_true rfl⟩) hS (fun q L1 S1 H locs hpost hP hnd hLz hS => ?_)
    obtain ⟨qe, ts, ds, hN⟩ := hpost
    refine W.widen (k := 130) (n := 4355) (Nat.le_of_ble_eq_true rfl) (Nat.le_of_ble_eq_true rfl) ?_
    rw [hZ]
    exact hz_aret hx hb hr ⟨_, rfl⟩ hlocks hS hP hK hnd hLz hSz hE ⟨hN.2.1.1, Or.inr (Or.inr (Or.inr (Or.inr (Or.inl ⟨c_7, qe, ts, ds, hN⟩))))⟩ dX8_newThing_86
  ·
    by_cases c_8 : p0 = 8
    ·
      refine lv_tableIn (off := 70) (tgt := 71) hx hb dX8_newThing_1 (by rw [c_8]; decide) (by rw [c_8]; decide) (by rw [c_8]; decide) (by decide) ?_
      refine hz_new (ci := 5) (k := 5) (C := RX7) (T := TX7) (N := 3) (fs := [.int 0, .int 0, .null]) hx hb hts iw_X8_newThing_X7 tyX7 tyX7_ok hown (hts _ (List.mem_of_getElem? (i := 10) rfl)) (hts _ (List.mem_of_getElem? (i := 11) rfl)) (hts _ (List.mem_of_getElem? (i := 12) rfl)) hK hP hnd hLz hSz hS rfl (fun q => PF_nT5) (fun j hj => by rcases (show j = 0 ∨ j = 1 ∨ j = 2 by omega) with rfl | rfl | rfl <;> rfl) (Nat.le_of_ble_eq_true rfl) (Nat.le_of_ble_eq_true rfl) dX8_newThing_71 (fun q H hq hP hnd hLz hS => ?_)
      refine lv_dup hx hb dX8_newThing_74 rfl ?_
      refine lv_iload_n hx hb dX8_newThing_75 rfl (lv_at hl 0 rfl) ?_
      refine lv_iload_n hx hb dX8_newThing_76 rfl (lv_at hl 1 rfl) ?_
      refine hz_callV (va_runI (As := [.int p0, .int p1]) (rest := [.ref q]) ⟨hx, hb, hml, hown, hts⟩ (hm_X7_init l G L0 sz (L ++ [q]) (hnT S q 5) q p0 p1 ⟨mem_l1, va_up_self _ _ _⟩ (h0 (by rw [c_8]; decide) (by rw [c_8]; decide) (by rw [c_8]; decide)).1 (h0 (by rw [c_8]; decide) (by rw [c_8]; decide) (by rw [c_8]; decide)).2) (cwI 2 hts gX8_newThing_X7_init rfl rfl rfl (hts _ (List.mem_of_getElem? (i := 12) rfl)) (hts _ (List.mem_of_getElem? (i := 37) rfl)) (hts _ (List.mem_of_getElem? (i := 38) rfl)) rfl (by decide +kernel) ⟨Nat.le_of_ble_eq_true rfl, Nat.le_of_ble_eq_true rfl⟩) ⟨HZ.fb, fun U hU hW => ⟨rfl, HZ.of hP hK hnd hLz hSz hE hS U hU hW⟩⟩ rfl rfl hl.1 rfl (lv_room (Nat.le_of_ble_eq_true rfl)) dX8_newThing_77 ⟨Nat.le_of_ble_eq_true rfl, Nat.le_of_ble_eq_true rfl⟩) hS (fun L1 S1 H locs hpost hP hnd hLz hS => ?_)
      obtain ⟨d, hd, rfl, rfl⟩ := hpost
      refine W.widen (k := 130) (n := 4355) (Nat.le_of_ble_eq_true rfl) (Nat.le_of_ble_eq_true rfl) ?_
      rw [hZ]
      exact hz_aret hx hb hr ⟨_, rfl⟩ hlocks hS hP hK hnd hLz hSz hE ⟨hq, Or.inr (Or.inr (Or.inr (Or.inl ⟨Or.inl c_8, d, hd, rfl, rfl⟩)))⟩ dX8_newThing_80
    ·
      by_cases c_9 : p0 = 9
      ·
        refine lv_tableIn (off := 70) (tgt := 71) hx hb dX8_newThing_1 (by rw [c_9]; decide) (by rw [c_9]; decide) (by rw [c_9]; decide) (by decide) ?_
        refine hz_new (ci := 5) (k := 5) (C := RX7) (T := TX7) (N := 3) (fs := [.int 0, .int 0, .null]) hx hb hts iw_X8_newThing_X7 tyX7 tyX7_ok hown (hts _ (List.mem_of_getElem? (i := 10) rfl)) (hts _ (List.mem_of_getElem? (i := 11) rfl)) (hts _ (List.mem_of_getElem? (i := 12) rfl)) hK hP hnd hLz hSz hS rfl (fun q => PF_nT5) (fun j hj => by rcases (show j = 0 ∨ j = 1 ∨ j = 2 by omega) with rfl | rfl | rfl <;> rfl) (Nat.le_of_ble_eq_true rfl) (Nat.le_of_ble_eq_true rfl) dX8_newThing_71 (fun q H hq hP hnd hLz hS => ?_)
        refine lv_dup hx hb dX8_newThing_74 rfl ?_
        refine lv_iload_n hx hb dX8_newThing_75 rfl (lv_at hl 0 rfl) ?_
        refine lv_iload_n hx hb dX8_newThing_76 rfl (lv_at hl 1 rfl) ?_
        refine hz_callV (va_runI (As := [.int p0, .int p1]) (rest := [.ref q]) ⟨hx, hb, hml, hown, hts⟩ (hm_X7_init l G L0 sz (L ++ [q]) (hnT S q 5) q p0 p1 ⟨mem_l1, va_up_self _ _ _⟩ (h0 (by rw [c_9]; decide) (by rw [c_9]; decide) (by rw [c_9]; decide)).1 (h0 (by rw [c_9]; decide) (by rw [c_9]; decide) (by rw [c_9]; decide)).2) (cwI 2 hts gX8_newThing_X7_init rfl rfl rfl (hts _ (List.mem_of_getElem? (i := 12) rfl)) (hts _ (List.mem_of_getElem? (i := 37) rfl)) (hts _ (List.mem_of_getElem? (i := 38) rfl)) rfl (by decide +kernel) ⟨Nat.le_of_ble_eq_true rfl, Nat.le_of_ble_eq_true rfl⟩) ⟨HZ.fb, fun U hU hW => ⟨rfl, HZ.of hP hK hnd hLz hSz hE hS U hU hW⟩⟩ rfl rfl hl.1 rfl (lv_room (Nat.le_of_ble_eq_true rfl)) dX8_newThing_77 ⟨Nat.le_of_ble_eq_true rfl, Nat.le_of_ble_eq_true rfl⟩) hS (fun L1 S1 H locs hpost hP hnd hLz hS => ?_)
        obtain ⟨d, hd, rfl, rfl⟩ := hpost
        refine W.widen (k := 130) (n := 4355) (Nat.le_of_ble_eq_true rfl) (Nat.le_of_ble_eq_true rfl) ?_
        rw [hZ]
        exact hz_aret hx hb hr ⟨_, rfl⟩ hlocks hS hP hK hnd hLz hSz hE ⟨hq, Or.inr (Or.inr (Or.inr (Or.inl ⟨Or.inr c_9, d, hd, rfl, rfl⟩)))⟩ dX8_newThing_80
      ·
        by_cases c_10 : p0 = 10
        ·
          refine lv_tableIn (off := 39) (tgt := 40) hx hb dX8_newThing_1 (by rw [c_10]; decide) (by rw [c_10]; decide) (by rw [c_10]; decide) (by decide) ?_
          refine hz_new (ci := 2) (k := 2) (C := RX2) (T := TX2) (N := 3) (fs := [.int 0, .int 0, .int 0]) hx hb hts iw_X8_newThing_X2 tyX2 tyX2_ok hown (hts _ (List.mem_of_getElem? (i := 1) rfl)) (hts _ (List.mem_of_getElem? (i := 2) rfl)) (hts _ (List.mem_of_getElem? (i := 3) rfl)) hK hP hnd hLz hSz hS rfl (fun q => PF_nT2) (fun j hj => by rcases (show j = 0 ∨ j = 1 ∨ j = 2 by omega) with rfl | rfl | rfl <;> rfl) (Nat.le_of_ble_eq_true rfl) (Nat.le_of_ble_eq_true rfl) dX8_newThing_40 (fun q H hq hP hnd hLz hS => ?_)
          refine lv_dup hx hb dX8_newThing_43 rfl ?_
          refine lv_bipush (v := 10) hx hb dX8_newThing_44 (by decide) ?_
          refine lv_iload_n hx hb dX8_newThing_46 rfl (lv_at hl 1 rfl) ?_
          refine hz_rV (va_runI (As := [.int 10, .int p1]) (rest := [.ref q]) ⟨hx, hb, hml, hown, hts⟩ (hm_X2_init l G (L ++ [q]) (hnT S q 2) q 10 p1 ⟨mem_l1, (show 2 ≤ va_up S.1 q 2 q ∧ va_up S.1 q 2 q ≤ 4 by rw [va_up_self]; omega)⟩) (cwI 2 hts gX8_newThing_X2_init rfl rfl rfl (hts _ (List.mem_of_getElem? (i := 3) rfl)) (hts _ (List.mem_of_getElem? (i := 16) rfl)) (hts _ (List.mem_of_getElem? (i := 17) rfl)) rfl (by decide +kernel) ⟨Nat.le_of_ble_eq_true rfl, Nat.le_of_ble_eq_true rfl⟩) ⟨HW.fb, fun U hU hW => ⟨rfl, HZ.hw hP hK hnd hLz hE hS U hU hW⟩⟩ rfl rfl hl.1 rfl (lv_room (Nat.le_of_ble_eq_true rfl)) dX8_newThing_47 ⟨Nat.le_of_ble_eq_true rfl, Nat.le_of_ble_eq_true rfl⟩) hS hLz (fun H locs hP hS => ?_)
          refine W.widen (k := 130) (n := 4355) (Nat.le_of_ble_eq_true rfl) (Nat.le_of_ble_eq_true rfl) ?_
          rw [hZ]
          exact hz_aret hx hb hr ⟨_, rfl⟩ hlocks hS hP hK hnd hLz hSz hE ⟨hq, Or.inl ⟨c_10, rfl, rfl⟩⟩ dX8_newThing_50
        ·
          by_cases c_11 : p0 = 11
          ·
            refine lv_tableIn (off := 50) (tgt := 51) hx hb dX8_newThing_1 (by rw [c_11]; decide) (by rw [c_11]; decide) (by rw [c_11]; decide) (by decide) ?_
            refine hz_new (ci := 3) (k := 3) (C := RX4) (T := TX4) (N := 3) (fs := [.int 0, .int 0, .int 0]) hx hb hts iw_X8_newThing_X4 tyX4 tyX4_ok hown (hts _ (List.mem_of_getElem? (i := 4) rfl)) (hts _ (List.mem_of_getElem? (i := 5) rfl)) (hts _ (List.mem_of_getElem? (i := 6) rfl)) hK hP hnd hLz hSz hS rfl (fun q => PF_nT3) (fun j hj => by rcases (show j = 0 ∨ j = 1 ∨ j = 2 by omega) with rfl | rfl | rfl <;> rfl) (Nat.le_of_ble_eq_true rfl) (Nat.le_of_ble_eq_true rfl) dX8_newThing_51 (fun q H hq hP hnd hLz hS => ?_)
            refine lv_dup hx hb dX8_newThing_54 rfl ?_
            refine lv_bipush (v := 11) hx hb dX8_newThing_55 (by decide) ?_
            refine lv_iload_n hx hb dX8_newThing_57 rfl (lv_at hl 1 rfl) ?_
            refine hz_rV (va_runI (As := [.int 11, .int p1]) (rest := [.ref q]) ⟨hx, hb, hml, hown, hts⟩ (hm_X4_init l G (L ++ [q]) (hnT S q 3) q 11 p1 ⟨mem_l1, (show 2 ≤ va_up S.1 q 3 q ∧ va_up S.1 q 3 q ≤ 4 by rw [va_up_self]; omega)⟩) (cwI 2 hts gX8_newThing_X4_init rfl rfl rfl (hts _ (List.mem_of_getElem? (i := 6) rfl)) (hts _ (List.mem_of_getElem? (i := 29) rfl)) (hts _ (List.mem_of_getElem? (i := 30) rfl)) rfl (by decide +kernel) ⟨Nat.le_of_ble_eq_true rfl, Nat.le_of_ble_eq_true rfl⟩) ⟨HW.fb, fun U hU hW => ⟨rfl, HZ.hw hP hK hnd hLz hE hS U hU hW⟩⟩ rfl rfl hl.1 rfl (lv_room (Nat.le_of_ble_eq_true rfl)) dX8_newThing_58 ⟨Nat.le_of_ble_eq_true rfl, Nat.le_of_ble_eq_true rfl⟩) hS hLz (fun H locs hP hS => ?_)
            refine W.widen (k := 130) (n := 4355) (Nat.le_of_ble_eq_true rfl) (Nat.le_of_ble_eq_true rfl) ?_
            rw [hZ]
            exact hz_aret hx hb hr ⟨_, rfl⟩ hlocks hS hP hK hnd hLz hSz hE ⟨hq, Or.inr (Or.inl ⟨c_11, rfl, rfl⟩)⟩ dX8_newThing_61
          ·
            by_cases c_12 : p0 = 12
            ·
              refine lv_tableIn (off := 61) (tgt := 62) hx hb dX8_newThing_1 (by rw [c_12]; decide) (by rw [c_12]; decide) (by rw [c_12]; decide) (by decide) ?_
              refine hz_new (ci := 4) (k := 4) (C := RX5) (T := TX5) (N := 3) (fs := [.int 0, .int 0, .int 0]) hx hb hts iw_X8_newThing_X5 tyX5 tyX5_ok hown (hts _ (List.mem_of_getElem? (i := 7) rfl)) (hts _ (List.mem_of_getElem? (i := 8) rfl)) (hts _ (List.mem_of_getElem? (i := 9) rfl)) hK hP hnd hLz hSz hS rfl (fun q => PF_nT4) (fun j hj => by rcases (show j = 0 ∨ j = 1 ∨ j = 2 by omega) with rfl | rfl | rfl <;> rfl) (Nat.le_of_ble_eq_true rfl) (Nat.le_of_ble_eq_true rfl) dX8_newThing_62 (fun q H hq hP hnd hLz hS => ?_)
              refine lv_dup hx hb dX8_newThing_65 rfl ?_
              refine lv_iload_n hx hb dX8_newThing_66 rfl (lv_at hl 1 rfl) ?_
              refine hz_rV (va_runI (As := [.int p1]) (rest := [.ref q]) ⟨hx, hb, hml, hown, hts⟩ (hm_X5_init l G (L ++ [q]) (hnT S q 4) q p1 ⟨mem_l1, (show 2 ≤ va_up S.1 q 4 q ∧ va_up S.1 q 4 q ≤ 4 by rw [va_up_self]; omega)⟩) (cwI 1 hts gX8_newThing_X5_init rfl rfl rfl (hts _ (List.mem_of_getElem? (i := 9) rfl)) (hts _ (List.mem_of_getElem? (i := 33) rfl)) (hts _ (List.mem_of_getElem? (i := 34) rfl)) rfl (by decide +kernel) ⟨Nat.le_of_ble_eq_true rfl, Nat.le_of_ble_eq_true rfl⟩) ⟨HW.fb, fun U hU hW => ⟨rfl, HZ.hw hP hK hnd hLz hE hS U hU hW⟩⟩ rfl rfl hl.1 rfl (lv_room (Nat.le_of_ble_eq_true rfl)) dX8_newThing_67 ⟨Nat.le_of_ble_eq_true rfl, Nat.le_of_ble_eq_true rfl⟩) hS hLz (fun H locs hP hS => ?_)
              refine W.widen (k := 130) (n := 4355) (Nat.le_of_ble_eq_true rfl) (Nat.le_of_ble_eq_true rfl) ?_
              rw [hZ]
              exact hz_aret hx hb hr ⟨_, rfl⟩ hlocks hS hP hK hnd hLz hSz hE ⟨hq, Or.inr (Or.inr (Or.inl ⟨c_12, rfl, rfl⟩))⟩ dX8_newThing_70
            ·
              have n_7 : (p0).toInt ≠ 7 := fun h => c_7 (Int32.toInt.inj (h.trans (by decide)))
              have n_8 : (p0).toInt ≠ 8 := fun h => c_8 (Int32.toInt.inj (h.trans (by decide)))
              have n_9 : (p0).toInt ≠ 9 := fun h => c_9 (Int32.toInt.inj (h.trans (by decide)))
              have n_10 : (p0).toInt ≠ 10 := fun h => c_10 (Int32.toInt.inj (h.trans (by decide)))
              have n_11 : (p0).toInt ≠ 11 := fun h => c_11 (Int32.toInt.inj (h.trans (by decide)))
              have n_12 : (p0).toInt ≠ 12 := fun h => c_12 (Int32.toInt.inj (h.trans (by decide)))
              refine lv_tableOut (tgt := 87) hx hb dX8_newThing_1 (by omega) (by decide) ?_
              refine hz_new (ci := 1) (k := 1) (C := RX1) (T := TX1) (N := 3) (fs := [.int 0, .int 0, .null]) hx hb hts iw_X8_newThing_X1 tyX1 tyX1_ok hown (hts _ (List.mem_of_getElem? (i := 13) rfl)) (hts _ (List.mem_of_getElem? (i := 14) rfl)) (hts _ (List.mem_of_getElem? (i := 15) rfl)) hK hP hnd hLz hSz hS rfl (fun q => PF_nT1) (fun j hj => by rcases (show j = 0 ∨ j = 1 ∨ j = 2 by omega) with rfl | rfl | rfl <;> rfl) (Nat.le_of_ble_eq_true rfl) (Nat.le_of_ble_eq_true rfl) dX8_newThing_87 (fun q H hq hP hnd hLz hS => ?_)
              refine lv_dup hx hb dX8_newThing_90 rfl ?_
              refine lv_iload_n hx hb dX8_newThing_91 rfl (lv_at hl 0 rfl) ?_
              refine lv_iload_n hx hb dX8_newThing_92 rfl (lv_at hl 1 rfl) ?_
              refine hz_callV (va_runI (As := [.int p0, .int p1]) (rest := [.ref q]) ⟨hx, hb, hml, hown, hts⟩ (hm_X1_init l G L0 sz (L ++ [q]) (hnT S q 1) q p0 p1 ⟨mem_l1, va_up_self _ _ _⟩ (h0 c_10 c_11 c_12).1 (h0 c_10 c_11 c_12).2) (cwI 2 hts gX8_newThing_X1_init rfl rfl rfl (hts _ (List.mem_of_getElem? (i := 15) rfl)) (hts _ (List.mem_of_getElem? (i := 50) rfl)) (hts _ (List.mem_of_getElem? (i := 51) rfl)) rfl (by decide +kernel) ⟨Nat.le_of_ble_eq_true rfl, Nat.le_of_ble_eq_true rfl⟩) ⟨HZ.fb, fun U hU hW => ⟨rfl, HZ.of hP hK hnd hLz hSz hE hS U hU hW⟩⟩ rfl rfl hl.1 rfl (lv_room (Nat.le_of_ble_eq_true rfl)) dX8_newThing_93 ⟨Nat.le_of_ble_eq_true rfl, Nat.le_of_ble_eq_true rfl⟩) hS (fun L1 S1 H locs hpost hP hnd hLz hS => ?_)
              obtain ⟨d, hd, rfl, rfl⟩ := hpost
              refine W.widen (k := 130) (n := 4355) (Nat.le_of_ble_eq_true rfl) (Nat.le_of_ble_eq_true rfl) ?_
              rw [hZ]
              exact hz_aret hx hb hr ⟨_, rfl⟩ hlocks hS hP hK hnd hLz hSz hE ⟨hq, Or.inr (Or.inr (Or.inr (Or.inr (Or.inr ⟨⟨c_7, c_8, c_9, c_10, c_11, c_12⟩, d, hd, rfl, rfl⟩))))⟩ dX8_newThing_96
/-- what make needs -/
def ok_X8_make2 (L : List Nat) (x : Nat) (p0 p1 p2 p3 : Int32) (S : HS) : Prop := (x ∈ L ∧ hsK S x = 6) ∧ ok_X8_stops L x (s_X8_makeCause p0 p1 p2 p3) S ∧ ((h_X8_stops x (s_X8_makeCause p0 p1 p2 p3) S).1 = 0 → (x ∈ L ∧ hsK (h_X8_stops x (s_X8_makeCause p0 p1 p2 p3) S).2 x = 6 ∧ hsQ (h_X8_stops x (s_X8_makeCause p0 p1 p2 p3) S).2 x 0 ≠ none) ∧ (((hsQ (h_X8_stops x (s_X8_makeCause p0 p1 p2 p3) S).2 x 0).getD 0) ∈ L ∧ hsK (h_X8_stops x (s_X8_makeCause p0 p1 p2 p3) S).2 ((hsQ (h_X8_stops x (s_X8_makeCause p0 p1 p2 p3) S).2 x 0).getD 0) = 10 ∧ vp_in p1 (hsN (h_X8_stops x (s_X8_makeCause p0 p1 p2 p3) S).2 ((hsQ (h_X8_stops x (s_X8_makeCause p0 p1 p2 p3) S).2 x 0).getD 0))) ∧ (p0 ≠ 10 → p0 ≠ 11 → p0 ≠ 12 → ¬ p2 < 0 ∧ p2.toNatClampNeg ≤ 64) ∧ (p0 = 7 → ¬ p3 < 0 ∧ p3.toNatClampNeg ≤ 64))
set_option maxHeartbeats 4000000 in
theorem hm_X8_make2 (l : Launch) (G : GE) (L0 : List Nat) (sz : Nat) (L : List Nat) (S : HS) (x : Nat) (p0 p1 p2 p3 : Int32) (hok : ok_X8_make2 L x p0 p1 p2 p3 S) : HzI l G yX8_make wsX8_make 6 121 130 4355 [.ref x, .int p0, .int p1, .int p2, .int p3] L0 sz L S (fun r L1 S1 => (¬ (h_X8_stops x (s_X8_makeCause p0 p1 p2 p3) S).1 = 0 ∧ r = 0 ∧ L1 = L ∧ S1 = (h_X8_stops x (s_X8_makeCause p0 p1 p2 p3) S).2) ∨ ((h_X8_stops x (s_X8_makeCause p0 p1 p2 p3) S).1 = 0 ∧ r = 1 ∧ ∃ (q : Nat) (S2 : HS), NThing L (h_X8_stops x (s_X8_makeCause p0 p1 p2 p3) S).2 q p0 p2 p3 L1 S2 ∧ S1 = hwR S2 ((hsQ (h_X8_stops x (s_X8_makeCause p0 p1 p2 p3) S).2 x 0).getD 0) p1.toNatClampNeg (some q))) := by
  refine Met.ofW (cc := cX8_make) (maxL := 5) (ret := (some .int)) (by decide) rfl ?_
  intro p e s m args below meth c s₁ B hml hv
  obtain ⟨rfl, ⟨hP, hK, hnd, hE0⟩, hLz, hSz, hE1⟩ := hv
  have hE : EZ G L0 sz s := ⟨hE1, hE0.2⟩
  have hx := B.exec
  have hb := B.bytes
  have hr := B.returns
  have hts := atoms_spec (ws := wsX8_make) B.pre
  have hown : s.vm.findClass RX8 = some m.cls := findClass_of_methodNamed B.named
  have hlocks := B.notSynchronized
  have hS : va_S (AZ L0 sz) s.heap s.heap [] := va_S.rf
  have hl := lv_entry ([.ref x, .int p0, .int p1, .int p2, .int p3]) (n := 5) (Nat.le_of_ble_eq_true rfl)
  rw [lg_entry_eq]
  generalize (lg_sl ([.ref x, .int p0, .int p1, .int p2, .int p3]) ++ List.replicate (5 - (lg_sl ([.ref x, .int p0, .int p1, .int p2, .int p3])).length) Slot.unset).toArray = ls at hl ⊢
  have hl : lv_has ls 5 [(0, .ref x), (1, .int p0), (2, .int p1), (3, .int p2), (4, .int p3)] := hl
  obtain ⟨Z, hZ⟩ : ∃ z, z = MQ below (hz_QI G L0 sz (fun r L1 S1 => (¬ (h_X8_stops x (s_X8_makeCause p0 p1 p2 p3) S).1 = 0 ∧ r = 0 ∧ L1 = L ∧ S1 = (h_X8_stops x (s_X8_makeCause p0 p1 p2 p3) S).2) ∨ ((h_X8_stops x (s_X8_makeCause p0 p1 p2 p3) S).1 = 0 ∧ r = 1 ∧ ∃ (q : Nat) (S2 : HS), NThing L (h_X8_stops x (s_X8_makeCause p0 p1 p2 p3) S).2 q p0 p2 p3 L1 S2 ∧ S1 = hwR S2 ((hsQ (h_X8_stops x (s_X8_makeCause p0 p1 p2 p3) S).2 x 0).getD 0) p1.toNatClampNeg (some q)))) ([.ref x, .int p0, .int p1, .int p2, .int p3] : List Value).toArray s 130 4355 (AZ L0 sz) := ⟨_, rfl⟩
  rw [← hZ]
  obtain ⟨hxk, hstop, hok⟩ := hok
  refine lv_aload_n hx hb dX8_make_0 rfl (lv_at hl 0 rfl) ?_
  refine lv_iload_n hx hb dX8_make_1 rfl (lv_at hl 1 rfl) ?_
  refine lv_iload_n hx hb dX8_make_2 rfl (lv_at hl 2 rfl) ?_
  refine lv_iload_n hx hb dX8_make_3 rfl (lv_at hl 3 rfl) ?_
  refine lv_iload hx hb dX8_make_4 (lv_at hl 4 rfl) ?_
  refine pm_callI (va_runS (As := [.int p0, .int p1, .int p2, .int p3]) (rest := [.ref x]) ⟨hx, hb, hml, hown, hts⟩ (pm_X8_makeCause l p0 p1 p2 p3) (va_cwS 4 hts gX8_make_X8_makeCause rfl rfl rfl (by decide +kernel) ⟨Nat.le_of_ble_eq_true rfl, Nat.le_of_ble_eq_true rfl⟩) ⟨pm_fbT, fun U hU hW => ⟨rfl, trivial⟩⟩ rfl rfl hl.1 rfl (lv_room (Nat.le_of_ble_eq_true rfl)) dX8_make_6 ⟨Nat.le_of_ble_eq_true rfl, Nat.le_of_ble_eq_true rfl⟩) hS (fun H locs _ hk9 hS => ?_)
  replace hP := P_keep hP hk9
  refine hz_rI (pr := (h_X8_stops x (s_X8_makeCause p0 p1 p2 p3) S)) (va_runV (As := [.int (s_X8_makeCause p0 p1 p2 p3)]) (rest := []) ⟨hx, hb, hml, hown, hts⟩ (hm_X8_stops l G L S x (s_X8_makeCause p0 p1 p2 p3) hstop) (cwV 1 hts gX8_make_X8_stops rfl rfl rfl hdv_X8_stops ⟨Nat.le_of_ble_eq_true rfl, Nat.le_of_ble_eq_true rfl⟩) ⟨HW.fb, hp_recv hK hP hxk.1 (PF_6 hxk.2) rfl, fun U hU hW => ⟨rfl, HZ.hw hP hK hnd hLz hE hS U hU hW⟩⟩ rfl rfl hl.1 rfl (lv_room (Nat.le_of_ble_eq_true rfl)) dX8_make_9 ⟨Nat.le_of_ble_eq_true rfl, Nat.le_of_ble_eq_true rfl⟩) hS hLz (fun H locs hP hS => ?_)
  refine lv_if_eq (tgt := 17) hx hb dX8_make_12 (by decide) (fun c_12 => ?_) (fun c_12 => ?_)
  ·
    obtain ⟨hg, ha, hn, hm⟩ := hok c_12
    refine lv_aload_n hx hb dX8_make_17 rfl (lv_at hl 0 rfl) ?_
    refine hp_getR (ci := 6) (C := RX8) (T := TX8) (N := 4) hx hb hts iw_X8_make_X8 hown hK hP hg.1 (PF_6 hg.2.1) rfl 0 (by decide) (hts _ (List.mem_of_getElem? (i := 1) rfl)) (fun _ h9 => h9) rfl hg.2.2 dX8_make_18 ?_
    refine lv_iload_n hx hb dX8_make_21 rfl (lv_at hl 2 rfl) ?_
    refine lv_iload_n hx hb dX8_make_22 rfl (lv_at hl 1 rfl) ?_
    refine lv_iload_n hx hb dX8_make_23 rfl (lv_at hl 3 rfl) ?_
    refine lv_iload hx hb dX8_make_24 (lv_at hl 4 rfl) ?_
    refine hz_callR (va_runS (As := [.int p0, .int p2, .int p3]) (rest := [.int p1, .ref ((hsQ (h_X8_stops x (s_X8_makeCause p0 p1 p2 p3) S).2 x 0).getD 0)]) ⟨hx, hb, hml, hown, hts⟩ (hm_X8_newThing2 l G L0 sz L (h_X8_stops x (s_X8_makeCause p0 p1 p2 p3) S).2 p0 p2 p3 hn hm) (va_cwS 3 hts gX8_make_X8_newThing rfl rfl rfl (by decide +kernel) ⟨Nat.le_of_ble_eq_true rfl, Nat.le_of_ble_eq_true rfl⟩) ⟨HZ.fb, fun U hU hW => ⟨rfl, HZ.of hP hK hnd hLz hSz hE hS U hU hW⟩⟩ rfl rfl hl.1 rfl (lv_room (Nat.le_of_ble_eq_true rfl)) dX8_make_26 ⟨Nat.le_of_ble_eq_true rfl, Nat.le_of_ble_eq_true rfl⟩) hS (fun q L1 S1 H locs hN hP hnd hLz hS => ?_)
    obtain ⟨hold, hq1, hq2, hq3⟩ := hN.old
    obtain ⟨ha1, ha2⟩ := hold _ ha.1
    refine hp_aastT (S := S1) (g2 := PF G (hwR S1 ((hsQ (h_X8_stops x (s_X8_makeCause p0 p1 p2 p3) S).2 x 0).getD 0) p1.toNatClampNeg (some q))) hx hb hE.2 hK hP (nz_D hnd hLz) hS ha1 2 (PF_10 (ha2.1.trans ha.2.1)) rfl ⟨hq1, hq2, hq3⟩ (by rw [ha2.2.2.2.1]; exact ha.2.2) (PF_sR (ha2.1.trans ha.2.1)) (fun _ hb9 => PF_wR hb9) dX8_make_29 (fun H locs hP hS => ?_)
    refine lv_iconst (v := 1) hx hb dX8_make_30 (by decide) ?_
    refine W.widen (k := 130) (n := 4355) (Nat.le_of_ble_eq_true rfl) (Nat.le_of_ble_eq_true rfl) ?_
    rw [hZ]
    exact hz_iret hx hb hr hlocks hS hP hK hnd hLz hSz hE (Or.inr ⟨c_12, rfl, q, S1, hN, rfl⟩) dX8_make_31
  ·
    refine lv_iconst (v := 0) hx hb dX8_make_15 (by decide) ?_
    refine W.widen (k := 130) (n := 4355) (Nat.le_of_ble_eq_true rfl) (Nat.le_of_ble_eq_true rfl) ?_
    rw [hZ]
    exact hz_iret hx hb hr hlocks hS hP hK hnd hLz hSz hE (Or.inl ⟨c_12, rfl, rfl, rfl⟩) dX8_make_16
