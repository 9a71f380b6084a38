/-! ===== the constructors of the class and of the model ===== -/
theorem PF_q6_0 {G : GE} {S : HS} {a v : Nat} (h : hsK S a = 6) : PF G (hwQ S a 0 (some v)) a = .inr (6, ([va_rf (hsQ S a 0), va_rf (hsQ S a 1), .int (hsI S a 2), .int (hsI S a 3)] : List Value).set 0 (.ref v)) := by
  rw [PF_6 (S := hwQ S a 0 (some v)) h]
  simp [hsI, hsQ, hwQ, up2, va_rf]
theorem PF_q6_1 {G : GE} {S : HS} {a v : Nat} (h : hsK S a = 6) : PF G (hwQ S a 1 (some v)) a = .inr (6, ([va_rf (hsQ S a 0), va_rf (hsQ S a 1), .int (hsI S a 2), .int (hsI S a 3)] : List Value).set 1 (.ref v)) := by
  rw [PF_6 (S := hwQ S a 1 (some v)) h]
  simp [hsI, hsQ, hwQ, up2, va_rf]
theorem PF_q7_0 {G : GE} {S : HS} {a v : Nat} (h : hsK S a = 7) : PF G (hwQ S a 0 (some v)) a = .inr (7, ([va_rf (hsQ S a 0), va_rf (hsQ S a 1), va_rf (hsQ S a 2), .int (hsI S a 3), va_rf (hsQ S a 4), .int (hsI S a 5), va_rf (hsQ S a 6), .int (hsI S a 7), va_rf (hsQ S a 8), .int (hsI S a 9), va_rf (hsQ S a 10), .int (hsI S a 11)] : List Value).set 0 (.ref v)) := by
  rw [PF_7 (S := hwQ S a 0 (some v)) h]
  simp [hsI, hsQ, hwQ, up2, va_rf]
theorem PF_q7_1 {G : GE} {S : HS} {a v : Nat} (h : hsK S a = 7) : PF G (hwQ S a 1 (some v)) a = .inr (7, ([va_rf (hsQ S a 0), va_rf (hsQ S a 1), va_rf (hsQ S a 2), .int (hsI S a 3), va_rf (hsQ S a 4), .int (hsI S a 5), va_rf (hsQ S a 6), .int (hsI S a 7), va_rf (hsQ S a 8), .int (hsI S a 9), va_rf (hsQ S a 10), .int (hsI S a 11)] : List Value).set 1 (.ref v)) := by
  rw [PF_7 (S := hwQ S a 1 (some v)) h]
  simp [hsI, hsQ, hwQ, up2, va_rf]
theorem PF_q7_2 {G : GE} {S : HS} {a v : Nat} (h : hsK S a = 7) : PF G (hwQ S a 2 (some v)) a = .inr (7, ([va_rf (hsQ S a 0), va_rf (hsQ S a 1), va_rf (hsQ S a 2), .int (hsI S a 3), va_rf (hsQ S a 4), .int (hsI S a 5), va_rf (hsQ S a 6), .int (hsI S a 7), va_rf (hsQ S a 8), .int (hsI S a 9), va_rf (hsQ S a 10), .int (hsI S a 11)] : List Value).set 2 (.ref v)) := by
  rw [PF_7 (S := hwQ S a 2 (some v)) h]
  simp [hsI, hsQ, hwQ, up2, va_rf]
theorem PF_q7_4 {G : GE} {S : HS} {a v : Nat} (h : hsK S a = 7) : PF G (hwQ S a 4 (some v)) a = .inr (7, ([va_rf (hsQ S a 0), va_rf (hsQ S a 1), va_rf (hsQ S a 2), .int (hsI S a 3), va_rf (hsQ S a 4), .int (hsI S a 5), va_rf (hsQ S a 6), .int (hsI S a 7), va_rf (hsQ S a 8), .int (hsI S a 9), va_rf (hsQ S a 10), .int (hsI S a 11)] : List Value).set 4 (.ref v)) := by
  rw [PF_7 (S := hwQ S a 4 (some v)) h]
  simp [hsI, hsQ, hwQ, up2, va_rf]
theorem PF_q7_6 {G : GE} {S : HS} {a v : Nat} (h : hsK S a = 7) : PF G (hwQ S a 6 (some v)) a = .inr (7, ([va_rf (hsQ S a 0), va_rf (hsQ S a 1), va_rf (hsQ S a 2), .int (hsI S a 3), va_rf (hsQ S a 4), .int (hsI S a 5), va_rf (hsQ S a 6), .int (hsI S a 7), va_rf (hsQ S a 8), .int (hsI S a 9), va_rf (hsQ S a 10), .int (hsI S a 11)] : List Value).set 6 (.ref v)) := by
  rw [PF_7 (S := hwQ S a 6 (some v)) h]
  simp [hsI, hsQ, hwQ, up2, va_rf]
theorem PF_q7_8 {G : GE} {S : HS} {a v : Nat} (h : hsK S a = 7) : PF G (hwQ S a 8 (some v)) a = .inr (7, ([va_rf (hsQ S a 0), va_rf (hsQ S a 1), va_rf (hsQ S a 2), .int (hsI S a 3), va_rf (hsQ S a 4), .int (hsI S a 5), va_rf (hsQ S a 6), .int (hsI S a 7), va_rf (hsQ S a 8), .int (hsI S a 9), va_rf (hsQ S a 10), .int (hsI S a 11)] : List Value).set 8 (.ref v)) := by
  rw [PF_7 (S := hwQ S a 8 (some v)) h]
  simp [hsI, hsQ, hwQ, up2, va_rf]
theorem PF_q7_10 {G : GE} {S : HS} {a v : Nat} (h : hsK S a = 7) : PF G (hwQ S a 10 (some v)) a = .inr (7, ([va_rf (hsQ S a 0), va_rf (hsQ S a 1), va_rf (hsQ S a 2), .int (hsI S a 3), va_rf (hsQ S a 4), .int (hsI S a 5), va_rf (hsQ S a 6), .int (hsI S a 7), va_rf (hsQ S a 8), .int (hsI S a 9), va_rf (hsQ S a 10), .int (hsI S a 11)] : List Value).set 10 (.ref v)) := by
  rw [PF_7 (S := hwQ S a 10 (some v)) h]
  simp [hsI, hsQ, hwQ, up2, va_rf]
theorem iw_X8_init_X8 : ∀ w ∈ u_ws RX8 TX8 4, w ∈ wsX8_init := by decide +kernel
theorem iw_X9_init_X9 : ∀ w ∈ u_ws RX9 TX9 12, w ∈ wsX9_init := by decide +kernel
/-- the world behind X8_init -/
abbrev S_X8_init (x q0 q1 : Nat) (S : HS) : HS := (hwI (hwI (hwQ (hnA (hwQ (hnR S q0 16) x 0 (some q0)) q1 9) x 1 (some q1)) x 2 0) x 3 0)
set_option maxHeartbeats 4000000 in
theorem hm_X8_init (l : Launch) (G : GE) (L0 : List Nat) (sz : Nat) (L : List Nat) (S : HS) (x : Nat) (hok : x ∈ L ∧ hsK S x = 6) : HzV l G yX8_init wsX8_init 1 12 2 25 [.ref x] L0 sz L S (fun L1 S1 => ∃ q0 q1, L1 = (L ++ [q0]) ++ [q1] ∧ S1 = S_X8_init x q0 q1 S) := by
  refine Met.ofW (cc := cX8_init) (maxL := 1) (ret := none) (by decide) rfl ?_
  intro p e s m args below meth c s₁ B hml hv
  obtain ⟨rfl, ⟨hP, hK, hnd, hE0⟩, hLz, hSz, hE1⟩ := hv
  have hE : EZ G L0 sz s := ⟨hE1, hE0.2⟩
  have hx := B.exec
  have hb := B.bytes
  have hr := B.returns
  have hts := atoms_spec (ws := wsX8_init) B.pre
  have hown : s.vm.findClass RX8 = some m.cls := findClass_of_methodNamed B.named
  have hlocks := B.notSynchronized
  have hin2 : meth.name = "<init>" := (name_of_methodNamed B.named B.method).1
  have hS : va_S (AZ L0 sz) s.heap s.heap [] := va_S.rf
  have hl := lv_entry ([.ref x]) (n := 1) (Nat.le_of_ble_eq_true rfl)
  rw [lg_entry_eq]
  generalize (lg_sl ([.ref x]) ++ List.replicate (1 - (lg_sl ([.ref x])).length) Slot.unset).toArray = ls at hl ⊢
  have hl : lv_has ls 1 [(0, .ref x)] := hl
  refine lv_aload_n hx hb dX8_init_0 rfl (lv_at hl 0 rfl) ?_
  refine W.objInit hx hb hown (hts _ (List.mem_of_getElem? (i := 1) rfl)) (hts _ (List.mem_of_getElem? (i := 2) rfl)) (hts _ (List.mem_of_getElem? (i := 3) rfl)) rfl (hl.1.trans hml.symm) rfl dX8_init_1 (Nat.le_of_ble_eq_true rfl) (Nat.le_of_ble_eq_true rfl) ?_
  refine W.eq (g2 := F0 m 4 ls []) rfl ?_
  have hm0 := hok.1
  have hk0 := hok.2
  refine lv_aload_n hx hb dX8_init_4 rfl (lv_at hl 0 rfl) ?_
  refine lv_bipush (v := 16) hx hb dX8_init_5 (by decide) ?_
  refine hz_newR (L := L) (S := S) (N' := 16) hx hb hown (hts _ (List.mem_of_getElem? (i := 4) rfl)) hE.2.2.2.2.2.2.1 hK hP hnd hLz hSz hS (by decide +kernel) (by decide +kernel) (Nat.le_of_ble_eq_true rfl) (Nat.le_of_ble_eq_true rfl) (Nat.le_of_ble_eq_true rfl) dX8_init_7 (fun q0 H hq0 hP hnd hLz hS => ?_)
  have hm1 := List.mem_append_left [q0] hm0
  have hk1 : hsK (hnR S q0 16) x = 6 := (va_up_ne _ _ (fun z : x = q0 => hq0 (z ▸ hm0))).trans hk0
  refine hp_putF (ci := 6) (C := RX8) (T := TX8) (N := 4) (ty := tyX8 0) (v := .ref q0) (g := PF G (hwQ (hnR S q0 16) x 0 (some q0))) hx hb hts iw_X8_init_X8 tyX8 tyX8_ok nmX8 hown hK hP (nz_D hnd hLz) hS hm1 (PF_6 hk1) rfl 0 (by decide) (hts _ (List.mem_of_getElem? (i := 5) rfl)) (fun _ h9 => h9) rfl hin2 rfl (tyX8_ok 0 (by decide)) rfl rfl (Nat.le_of_ble_eq_true rfl) (PF_q6_0 hk1) (fun _ hb9 => PF_wQ hb9) dX8_init_10 (fun H locs hP hS => ?_)
  refine lv_aload_n hx hb dX8_init_13 rfl (lv_at hl 0 rfl) ?_
  refine lv_bipush (v := 9) hx hb dX8_init_14 (by decide) ?_
  refine hz_newI (L := (L ++ [q0])) (S := (hwQ (hnR S q0 16) x 0 (some q0))) (N' := 9) hx hb (hts _ (List.mem_of_getElem? (i := 6) rfl)) hK hP hnd hLz hSz hS (by decide +kernel) (by decide +kernel) (Nat.le_of_ble_eq_true rfl) (Nat.le_of_ble_eq_true rfl) (Nat.le_of_ble_eq_true rfl) dX8_init_16 (fun q1 H hq1 hP hnd hLz hS => ?_)
  have hm2 := List.mem_append_left [q1] hm1
  have hk2 : hsK (hnA (hwQ (hnR S q0 16) x 0 (some q0)) q1 9) x = 6 := (va_up_ne _ _ (fun z : x = q1 => hq1 (z ▸ hm1))).trans hk1
  refine hp_putF (ci := 6) (C := RX8) (T := TX8) (N := 4) (ty := tyX8 1) (v := .ref q1) (g := PF G (hwQ (hnA (hwQ (hnR S q0 16) x 0 (some q0)) q1 9) x 1 (some q1))) hx hb hts iw_X8_init_X8 tyX8 tyX8_ok nmX8 hown hK hP (nz_D hnd hLz) hS hm2 (PF_6 hk2) rfl 1 (by decide) (hts _ (List.mem_of_getElem? (i := 7) rfl)) (fun _ h9 => h9) rfl hin2 rfl (tyX8_ok 1 (by decide)) rfl rfl (Nat.le_of_ble_eq_true rfl) (PF_q6_1 hk2) (fun _ hb9 => PF_wQ hb9) dX8_init_18 (fun H locs hP hS => ?_)
  refine lv_aload_n hx hb dX8_init_21 rfl (lv_at hl 0 rfl) ?_
  refine lv_iconst (v := 0) hx hb dX8_init_22 (by decide) ?_
  refine hp_put (ci := 6) (C := RX8) (T := TX8) (N := 4) (ty := .int) (v := .int 0) (g := PF G (hwI (hwQ (hnA (hwQ (hnR S q0 16) x 0 (some q0)) q1 9) x 1 (some q1)) x 2 0)) hx hb hts iw_X8_init_X8 tyX8 tyX8_ok nmX8 hown hK hP (nz_D hnd hLz) hS hm2 (PF_6 (S := (hwQ (hnA (hwQ (hnR S q0 16) x 0 (some q0)) q1 9) x 1 (some q1))) hk2) rfl 2 (by decide) (hts _ (List.mem_of_getElem? (i := 8) rfl)) (fun _ h9 => h9) rfl (by decide +kernel) rfl rfl (Nat.le_of_ble_eq_true rfl) (PF_s6_2 (S := (hwQ (hnA (hwQ (hnR S q0 16) x 0 (some q0)) q1 9) x 1 (some q1))) hk2) (fun _ hb9 => PF_wI hb9) dX8_init_23 (fun H locs hP hS => ?_)
  refine lv_aload_n hx hb dX8_init_26 rfl (lv_at hl 0 rfl) ?_
  refine lv_iconst (v := 0) hx hb dX8_init_27 (by decide) ?_
  refine hp_put (ci := 6) (C := RX8) (T := TX8) (N := 4) (ty := .int) (v := .int 0) (g := PF G (hwI (hwI (hwQ (hnA (hwQ (hnR S q0 16) x 0 (some q0)) q1 9) x 1 (some q1)) x 2 0) x 3 0)) hx hb hts iw_X8_init_X8 tyX8 tyX8_ok nmX8 hown hK hP (nz_D hnd hLz) hS hm2 (PF_6 (S := (hwI (hwQ (hnA (hwQ (hnR S q0 16) x 0 (some q0)) q1 9) x 1 (some q1)) x 2 0)) hk2) rfl 3 (by decide) (hts _ (List.mem_of_getElem? (i := 9) rfl)) (fun _ h9 => h9) rfl (by decide +kernel) rfl rfl (Nat.le_of_ble_eq_true rfl) (PF_s6_3 (S := (hwI (hwQ (hnA (hwQ (hnR S q0 16) x 0 (some q0)) q1 9) x 1 (some q1)) x 2 0)) hk2) (fun _ hb9 => PF_wI hb9) dX8_init_28 (fun H locs hP hS => ?_)
  exact hz_vret hx hb hr hlocks hS hP hK hnd hLz hSz hE ⟨q0, q1, rfl, rfl⟩ dX8_init_31
/-- the world behind X9_init -/
abbrev S_X9_init (x q0 q1 q2 q3 q4 q5 q6 : Nat) (S : HS) : HS := (hwQ (hnA (hwQ (hnA (hwQ (hnJ (hwQ (hnA (hwQ (hnA (hwQ (hnA (hwQ (hnA S q0 33400) x 0 (some q0)) q1 33400) x 1 (some q1)) q2 33400) x 2 (some q2)) q3 2130000) x 4 (some q3)) q4 33400) x 6 (some q4)) q5 16) x 8 (some q5)) q6 9) x 10 (some q6))
set_option maxHeartbeats 4000000 in
theorem hm_X9_init (l : Launch) (G : GE) (L0 : List Nat) (sz : Nat) (L : List Nat) (S : HS) (x : Nat) (hok : x ∈ L ∧ hsK S x = 7) : HzV l G yX9_init wsX9_init 1 12 7 2263625 [.ref x] L0 sz L S (fun L1 S1 => ∃ q0 q1 q2 q3 q4 q5 q6, L1 = ((((((L ++ [q0]) ++ [q1]) ++ [q2]) ++ [q3]) ++ [q4]) ++ [q5]) ++ [q6] ∧ S1 = S_X9_init x q0 q1 q2 q3 q4 q5 q6 S) := by
  refine Met.ofW (cc := cX9_init) (maxL := 1) (ret := none) (by decide) rfl ?_
  intro p e s m args below meth c s₁ B hml hv
  obtain ⟨rfl, ⟨hP, hK, hnd, hE0⟩, hLz, hSz, hE1⟩ := hv
  have hE : EZ G L0 sz s := ⟨hE1, hE0.2⟩
  have hx := B.exec
  have hb := B.bytes
  have hr := B.returns
  have hts := atoms_spec (ws := wsX9_init) B.pre
  have hown : s.vm.findClass RX9 = some m.cls := findClass_of_methodNamed B.named
  have hlocks := B.notSynchronized
  have hin2 : meth.name = "<init>" := (name_of_methodNamed B.named B.method).1
  have hS : va_S (AZ L0 sz) s.heap s.heap [] := va_S.rf
  have hl := lv_entry ([.ref x]) (n := 1) (Nat.le_of_ble_eq_true rfl)
  rw [lg_entry_eq]
  generalize (lg_sl ([.ref x]) ++ List.replicate (1 - (lg_sl ([.ref x])).length) Slot.unset).toArray = ls at hl ⊢
  have hl : lv_has ls 1 [(0, .ref x)] := hl
  refine lv_aload_n hx hb dX9_init_0 rfl (lv_at hl 0 rfl) ?_
  refine W.objInit hx hb hown (hts _ (List.mem_of_getElem? (i := 1) rfl)) (hts _ (List.mem_of_getElem? (i := 2) rfl)) (hts _ (List.mem_of_getElem? (i := 3) rfl)) rfl (hl.1.trans hml.symm) rfl dX9_init_1 (Nat.le_of_ble_eq_true rfl) (Nat.le_of_ble_eq_true rfl) ?_
  refine W.eq (g2 := F0 m 4 ls []) rfl ?_
  have hm0 := hok.1
  have hk0 := hok.2
  refine lv_aload_n hx hb dX9_init_4 rfl (lv_at hl 0 rfl) ?_
  refine lv_ldc (v := 33400) hx hb hown (hts _ (List.mem_of_getElem? (i := 4) rfl)) dX9_init_5 ?_
  refine hz_newI (L := L) (S := S) (N' := 33400) hx hb (hts _ (List.mem_of_getElem? (i := 5) rfl)) hK hP hnd hLz hSz hS (by decide +kernel) (by decide +kernel) (Nat.le_of_ble_eq_true rfl) (Nat.le_of_ble_eq_true rfl) (Nat.le_of_ble_eq_true rfl) dX9_init_7 (fun q0 H hq0 hP hnd hLz hS => ?_)
  have hm1 := List.mem_append_left [q0] hm0
  have hk1 : hsK (hnA S q0 33400) x = 7 := (va_up_ne _ _ (fun z : x = q0 => hq0 (z ▸ hm0))).trans hk0
  refine hp_putF (ci := 7) (C := RX9) (T := TX9) (N := 12) (ty := tyX9 0) (v := .ref q0) (g := PF G (hwQ (hnA S q0 33400) x 0 (some q0))) hx hb hts iw_X9_init_X9 tyX9 tyX9_ok nmX9 hown hK hP (nz_D hnd hLz) hS hm1 (PF_7 hk1) rfl 0 (by decide) (hts _ (List.mem_of_getElem? (i := 6) rfl)) (fun _ h9 => h9) rfl hin2 rfl (tyX9_ok 0 (by decide)) rfl rfl (Nat.le_of_ble_eq_true rfl) (PF_q7_0 hk1) (fun _ hb9 => PF_wQ hb9) dX9_init_9 (fun H locs hP hS => ?_)
  refine lv_aload_n hx hb dX9_init_12 rfl (lv_at hl 0 rfl) ?_
  refine lv_ldc (v := 33400) hx hb hown (hts _ (List.mem_of_getElem? (i := 4) rfl)) dX9_init_13 ?_
  refine hz_newI (L := (L ++ [q0])) (S := (hwQ (hnA S q0 33400) x 0 (some q0))) (N' := 33400) hx hb (hts _ (List.mem_of_getElem? (i := 5) rfl)) hK hP hnd hLz hSz hS (by decide +kernel) (by decide +kernel) (Nat.le_of_ble_eq_true rfl) (Nat.le_of_ble_eq_true rfl) (Nat.le_of_ble_eq_true rfl) dX9_init_15 (fun q1 H hq1 hP hnd hLz hS => ?_)
  have hm2 := List.mem_append_left [q1] hm1
  have hk2 : hsK (hnA (hwQ (hnA S q0 33400) x 0 (some q0)) q1 33400) x = 7 := (va_up_ne _ _ (fun z : x = q1 => hq1 (z ▸ hm1))).trans hk1
  refine hp_putF (ci := 7) (C := RX9) (T := TX9) (N := 12) (ty := tyX9 1) (v := .ref q1) (g := PF G (hwQ (hnA (hwQ (hnA S q0 33400) x 0 (some q0)) q1 33400) x 1 (some q1))) hx hb hts iw_X9_init_X9 tyX9 tyX9_ok nmX9 hown hK hP (nz_D hnd hLz) hS hm2 (PF_7 hk2) rfl 1 (by decide) (hts _ (List.mem_of_getElem? (i := 7) rfl)) (fun _ h9 => h9) rfl hin2 rfl (tyX9_ok 1 (by decide)) rfl rfl (Nat.le_of_ble_eq_true rfl) (PF_q7_1 hk2) (fun _ hb9 => PF_wQ hb9) dX9_init_17 (fun H locs hP hS => ?_)
  refine lv_aload_n hx hb dX9_init_20 rfl (lv_at hl 0 rfl) ?_
  refine lv_ldc (v := 33400) hx hb hown (hts _ (List.mem_of_getElem? (i := 4) rfl)) dX9_init_21 ?_
  refine hz_newI (L := ((L ++ [q0]) ++ [q1])) (S := (hwQ (hnA (hwQ (hnA S q0 33400) x 0 (some q0)) q1 33400) x 1 (some q1))) (N' := 33400) hx hb (hts _ (List.mem_of_getElem? (i := 5) rfl)) hK hP hnd hLz hSz hS (by decide +kernel) (by decide +kernel) (Nat.le_of_ble_eq_true rfl) (Nat.le_of_ble_eq_true rfl) (Nat.le_of_ble_eq_true rfl) dX9_init_23 (fun q2 H hq2 hP hnd hLz hS => ?_)
  have hm3 := List.mem_append_left [q2] hm2
  have hk3 : hsK (hnA (hwQ (hnA (hwQ (hnA S q0 33400) x 0 (some q0)) q1 33400) x 1 (some q1)) q2 33400) x = 7 := (va_up_ne _ _ (fun z : x = q2 => hq2 (z ▸ hm2))).trans hk2
  refine hp_putF (ci := 7) (C := RX9) (T := TX9) (N := 12) (ty := tyX9 2) (v := .ref q2) (g := PF G (hwQ (hnA (hwQ (hnA (hwQ (hnA S q0 33400) x 0 (some q0)) q1 33400) x 1 (some q1)) q2 33400) x 2 (some q2))) hx hb hts iw_X9_init_X9 tyX9 tyX9_ok nmX9 hown hK hP (nz_D hnd hLz) hS hm3 (PF_7 hk3) rfl 2 (by decide) (hts _ (List.mem_of_getElem? (i := 8) rfl)) (fun _ h9 => h9) rfl hin2 rfl (tyX9_ok 2 (by decide)) rfl rfl (Nat.le_of_ble_eq_true rfl) (PF_q7_2 hk3) (fun _ hb9 => PF_wQ hb9) dX9_init_25 (fun H locs hP hS => ?_)
  refine lv_aload_n hx hb dX9_init_28 rfl (lv_at hl 0 rfl) ?_
  refine lv_ldc (v := 2130000) hx hb hown (hts _ (List.mem_of_getElem? (i := 9) rfl)) dX9_init_29 ?_
  refine hz_newI (L := (((L ++ [q0]) ++ [q1]) ++ [q2])) (S := (hwQ (hnA (hwQ (hnA (hwQ (hnA S q0 33400) x 0 (some q0)) q1 33400) x 1 (some q1)) q2 33400) x 2 (some q2))) (N' := 2130000) hx hb (hts _ (List.mem_of_getElem? (i := 5) rfl)) hK hP hnd hLz hSz hS (by decide +kernel) (by decide +kernel) (Nat.le_of_ble_eq_true rfl) (Nat.le_of_ble_eq_true rfl) (Nat.le_of_ble_eq_true rfl) dX9_init_31 (fun q3 H hq3 hP hnd hLz hS => ?_)
  have hm4 := List.mem_append_left [q3] hm3
  have hk4 : hsK (hnA (hwQ (hnA (hwQ (hnA (hwQ (hnA S q0 33400) x 0 (some q0)) q1 33400) x 1 (some q1)) q2 33400) x 2 (some q2)) q3 2130000) x = 7 := (va_up_ne _ _ (fun z : x = q3 => hq3 (z ▸ hm3))).trans hk3
  refine hp_putF (ci := 7) (C := RX9) (T := TX9) (N := 12) (ty := tyX9 4) (v := .ref q3) (g := PF G (hwQ (hnA (hwQ (hnA (hwQ (hnA (hwQ (hnA S q0 33400) x 0 (some q0)) q1 33400) x 1 (some q1)) q2 33400) x 2 (some q2)) q3 2130000) x 4 (some q3))) hx hb hts iw_X9_init_X9 tyX9 tyX9_ok nmX9 hown hK hP (nz_D hnd hLz) hS hm4 (PF_7 hk4) rfl 4 (by decide) (hts _ (List.mem_of_getElem? (i := 10) rfl)) (fun _ h9 => h9) rfl hin2 rfl (tyX9_ok 4 (by decide)) rfl rfl (Nat.le_of_ble_eq_true rfl) (PF_q7_4 hk4) (fun _ hb9 => PF_wQ hb9) dX9_init_33 (fun H locs hP hS => ?_)
  refine lv_aload_n hx hb dX9_init_36 rfl (lv_at hl 0 rfl) ?_
  refine lv_ldc (v := 33400) hx hb hown (hts _ (List.mem_of_getElem? (i := 4) rfl)) dX9_init_37 ?_
  refine hz_newJ (L := ((((L ++ [q0]) ++ [q1]) ++ [q2]) ++ [q3])) (S := (hwQ (hnA (hwQ (hnA (hwQ (hnA (hwQ (hnA S q0 33400) x 0 (some q0)) q1 33400) x 1 (some q1)) q2 33400) x 2 (some q2)) q3 2130000) x 4 (some q3))) (N' := 33400) hx hb (hts _ (List.mem_of_getElem? (i := 11) rfl)) hK hP hnd hLz hSz hS (by decide +kernel) (by decide +kernel) (Nat.le_of_ble_eq_true rfl) (Nat.le_of_ble_eq_true rfl) (Nat.le_of_ble_eq_true rfl) dX9_init_39 (fun q4 H hq4 hP hnd hLz hS => ?_)
  have hm5 := List.mem_append_left [q4] hm4
  have hk5 : hsK (hnJ (hwQ (hnA (hwQ (hnA (hwQ (hnA (hwQ (hnA S q0 33400) x 0 (some q0)) q1 33400) x 1 (some q1)) q2 33400) x 2 (some q2)) q3 2130000) x 4 (some q3)) q4 33400) x = 7 := (va_up_ne _ _ (fun z : x = q4 => hq4 (z ▸ hm4))).trans hk4
  refine hp_putF (ci := 7) (C := RX9) (T := TX9) (N := 12) (ty := tyX9 6) (v := .ref q4) (g := PF G (hwQ (hnJ (hwQ (hnA (hwQ (hnA (hwQ (hnA (hwQ (hnA S q0 33400) x 0 (some q0)) q1 33400) x 1 (some q1)) q2 33400) x 2 (some q2)) q3 2130000) x 4 (some q3)) q4 33400) x 6 (some q4))) hx hb hts iw_X9_init_X9 tyX9 tyX9_ok nmX9 hown hK hP (nz_D hnd hLz) hS hm5 (PF_7 hk5) rfl 6 (by decide) (hts _ (List.mem_of_getElem? (i := 12) rfl)) (fun _ h9 => h9) rfl hin2 rfl (tyX9_ok 6 (by decide)) rfl rfl (Nat.le_of_ble_eq_true rfl) (PF_q7_6 hk5) (fun _ hb9 => PF_wQ hb9) dX9_init_41 (fun H locs hP hS => ?_)
  refine lv_aload_n hx hb dX9_init_44 rfl (lv_at hl 0 rfl) ?_
  refine lv_bipush (v := 16) hx hb dX9_init_45 (by decide) ?_
  refine hz_newI (L := (((((L ++ [q0]) ++ [q1]) ++ [q2]) ++ [q3]) ++ [q4])) (S := (hwQ (hnJ (hwQ (hnA (hwQ (hnA (hwQ (hnA (hwQ (hnA S q0 33400) x 0 (some q0)) q1 33400) x 1 (some q1)) q2 33400) x 2 (some q2)) q3 2130000) x 4 (some q3)) q4 33400) x 6 (some q4))) (N' := 16) hx hb (hts _ (List.mem_of_getElem? (i := 5) rfl)) hK hP hnd hLz hSz hS (by decide +kernel) (by decide +kernel) (Nat.le_of_ble_eq_true rfl) (Nat.le_of_ble_eq_true rfl) (Nat.le_of_ble_eq_true rfl) dX9_init_47 (fun q5 H hq5 hP hnd hLz hS => ?_)
  have hm6 := List.mem_append_left [q5] hm5
  have hk6 : hsK (hnA (hwQ (hnJ (hwQ (hnA (hwQ (hnA (hwQ (hnA (hwQ (hnA S q0 33400) x 0 (some q0)) q1 33400) x 1 (some q1)) q2 33400) x 2 (some q2)) q3 2130000) x 4 (some q3)) q4 33400) x 6 (some q4)) q5 16) x = 7 := (va_up_ne _ _ (fun z : x = q5 => hq5 (z ▸ hm5))).trans hk5
  refine hp_putF (ci := 7) (C := RX9) (T := TX9) (N := 12) (ty := tyX9 8) (v := .ref q5) (g := PF G (hwQ (hnA (hwQ (hnJ (hwQ (hnA (hwQ (hnA (hwQ (hnA (hwQ (hnA S q0 33400) x 0 (some q0)) q1 33400) x 1 (some q1)) q2 33400) x 2 (some q2)) q3 2130000) x 4 (some q3)) q4 33400) x 6 (some q4)) q5 16) x 8 (some q5))) hx hb hts iw_X9_init_X9 tyX9 tyX9_ok nmX9 hown hK hP (nz_D hnd hLz) hS hm6 (PF_7 hk6) rfl 8 (by decide) (hts _ (List.mem_of_getElem? (i := 13) rfl)) (fun _ h9 => h9) rfl hin2 rfl (tyX9_ok 8 (by decide)) rfl rfl (Nat.le_of_ble_eq_true rfl) (PF_q7_8 hk6) (fun _ hb9 => PF_wQ hb9) dX9_init_49 (fun H locs hP hS => ?_)
  refine lv_aload_n hx hb dX9_init_52 rfl (lv_at hl 0 rfl) ?_
  refine lv_bipush (v := 9) hx hb dX9_init_53 (by decide) ?_
  refine hz_newI (L := ((((((L ++ [q0]) ++ [q1]) ++ [q2]) ++ [q3]) ++ [q4]) ++ [q5])) (S := (hwQ (hnA (hwQ (hnJ (hwQ (hnA (hwQ (hnA (hwQ (hnA (hwQ (hnA S q0 33400) x 0 (some q0)) q1 33400) x 1 (some q1)) q2 33400) x 2 (some q2)) q3 2130000) x 4 (some q3)) q4 33400) x 6 (some q4)) q5 16) x 8 (some q5))) (N' := 9) hx hb (hts _ (List.mem_of_getElem? (i := 5) rfl)) hK hP hnd hLz hSz hS (by decide +kernel) (by decide +kernel) (Nat.le_of_ble_eq_true rfl) (Nat.le_of_ble_eq_true rfl) (Nat.le_of_ble_eq_true rfl) dX9_init_55 (fun q6 H hq6 hP hnd hLz hS => ?_)
  have hm7 := List.mem_append_left [q6] hm6
  have hk7 : hsK (hnA (hwQ (hnA (hwQ (hnJ (hwQ (hnA (hwQ (hnA (hwQ (hnA (hwQ (hnA S q0 33400) x 0 (some q0)) q1 33400) x 1 (some q1)) q2 33400) x 2 (some q2)) q3 2130000) x 4 (some q3)) q4 33400) x 6 (some q4)) q5 16) x 8 (some q5)) q6 9) x = 7 := (va_up_ne _ _ (fun z : x = q6 => hq6 (z ▸ hm6))).trans hk6
  refine hp_putF (ci := 7) (C := RX9) (T := TX9) (N := 12) (ty := tyX9 10) (v := .ref q6) (g := PF G (hwQ (hnA (hwQ (hnA (hwQ (hnJ (hwQ (hnA (hwQ (hnA (hwQ (hnA (hwQ (hnA S q0 33400) x 0 (some q0)) q1 33400) x 1 (some q1)) q2 33400) x 2 (some q2)) q3 2130000) x 4 (some q3)) q4 33400) x 6 (some q4)) q5 16) x 8 (some q5)) q6 9) x 10 (some q6))) hx hb hts iw_X9_init_X9 tyX9 tyX9_ok nmX9 hown hK hP (nz_D hnd hLz) hS hm7 (PF_7 hk7) rfl 10 (by decide) (hts _ (List.mem_of_getElem? (i := 14) rfl)) (fun _ h9 => h9) rfl hin2 rfl (tyX9_ok 10 (by decide)) rfl rfl (Nat.le_of_ble_eq_true rfl) (PF_q7_10 hk7) (fun _ hb9 => PF_wQ hb9) dX9_init_57 (fun H locs hP hS => ?_)
  exact hz_vret hx hb hr hlocks hS hP hK hnd hLz hSz hE ⟨q0, q1, q2, q3, q4, q5, q6, rfl, rfl⟩ dX9_init_60
