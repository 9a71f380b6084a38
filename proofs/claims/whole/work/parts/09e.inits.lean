/-! ===== the constructors of things ===== -/
theorem PF_f1_0 {G : GE} {S : HS} {a : Nat} {v : Int32} (h : hsK S a = 1) : PF G (hwI S a 0 v) a = .inr (1, ([.int (hsI S a 0), .int (hsI S a 1), va_rf (hsQ S a 2)] : List Value).set 0 (.int v)) := by
  rw [PF_1 (S := hwI S a 0 v) h]
  simp [hsI, hsQ, hwI, up2]
theorem PF_f1_1 {G : GE} {S : HS} {a : Nat} {v : Int32} (h : hsK S a = 1) : PF G (hwI S a 1 v) a = .inr (1, ([.int (hsI S a 0), .int (hsI S a 1), va_rf (hsQ S a 2)] : List Value).set 1 (.int v)) := by
  rw [PF_1 (S := hwI S a 1 v) h]
  simp [hsI, hsQ, hwI, up2]
theorem PF_f2_0 {G : GE} {S : HS} {a : Nat} {v : Int32} (h : hsK S a = 2) : PF G (hwI S a 0 v) a = .inr (2, ([.int (hsI S a 0), .int (hsI S a 1), .int (hsI S a 2)] : List Value).set 0 (.int v)) := by
  rw [PF_2 (S := hwI S a 0 v) h]
  simp [hsI, hsQ, hwI, up2]
theorem PF_f2_1 {G : GE} {S : HS} {a : Nat} {v : Int32} (h : hsK S a = 2) : PF G (hwI S a 1 v) a = .inr (2, ([.int (hsI S a 0), .int (hsI S a 1), .int (hsI S a 2)] : List Value).set 1 (.int v)) := by
  rw [PF_2 (S := hwI S a 1 v) h]
  simp [hsI, hsQ, hwI, up2]
theorem PF_f3_0 {G : GE} {S : HS} {a : Nat} {v : Int32} (h : hsK S a = 3) : PF G (hwI S a 0 v) a = .inr (3, ([.int (hsI S a 2), .int (hsI S a 0), .int (hsI S a 1)] : List Value).set 1 (.int v)) := by
  rw [PF_3 (S := hwI S a 0 v) h]
  simp [hsI, hsQ, hwI, up2]
theorem PF_f3_1 {G : GE} {S : HS} {a : Nat} {v : Int32} (h : hsK S a = 3) : PF G (hwI S a 1 v) a = .inr (3, ([.int (hsI S a 2), .int (hsI S a 0), .int (hsI S a 1)] : List Value).set 2 (.int v)) := by
  rw [PF_3 (S := hwI S a 1 v) h]
  simp [hsI, hsQ, hwI, up2]
theorem PF_f4_0 {G : GE} {S : HS} {a : Nat} {v : Int32} (h : hsK S a = 4) : PF G (hwI S a 0 v) a = .inr (4, ([.int (hsI S a 2), .int (hsI S a 0), .int (hsI S a 1)] : List Value).set 1 (.int v)) := by
  rw [PF_4 (S := hwI S a 0 v) h]
  simp [hsI, hsQ, hwI, up2]
theorem PF_f4_1 {G : GE} {S : HS} {a : Nat} {v : Int32} (h : hsK S a = 4) : PF G (hwI S a 1 v) a = .inr (4, ([.int (hsI S a 2), .int (hsI S a 0), .int (hsI S a 1)] : List Value).set 2 (.int v)) := by
  rw [PF_4 (S := hwI S a 1 v) h]
  simp [hsI, hsQ, hwI, up2]
theorem PF_f5_0 {G : GE} {S : HS} {a : Nat} {v : Int32} (h : hsK S a = 5) : PF G (hwI S a 0 v) a = .inr (5, ([.int (hsI S a 0), .int (hsI S a 1), va_rf (hsQ S a 2)] : List Value).set 0 (.int v)) := by
  rw [PF_5 (S := hwI S a 0 v) h]
  simp [hsI, hsQ, hwI, up2]
theorem PF_f5_1 {G : GE} {S : HS} {a : Nat} {v : Int32} (h : hsK S a = 5) : PF G (hwI S a 1 v) a = .inr (5, ([.int (hsI S a 0), .int (hsI S a 1), va_rf (hsQ S a 2)] : List Value).set 1 (.int v)) := by
  rw [PF_5 (S := hwI S a 1 v) h]
  simp [hsI, hsQ, hwI, up2]
theorem PF_q1 {G : GE} {S : HS} {a v : Nat} (h : hsK S a = 1) : PF G (hwQ S a 2 (some v)) a = .inr (1, ([.int (hsI S a 0), .int (hsI S a 1), va_rf (hsQ S a 2)] : List Value).set 2 (.ref v)) := by
  rw [PF_1 (S := hwQ S a 2 (some v)) h]
  simp [hsI, hsQ, hwQ, up2, va_rf]
theorem PF_q5 {G : GE} {S : HS} {a v : Nat} (h : hsK S a = 5) : PF G (hwQ S a 2 (some v)) a = .inr (5, ([.int (hsI S a 0), .int (hsI S a 1), va_rf (hsQ S a 2)] : List Value).set 2 (.ref v)) := by
  rw [PF_5 (S := hwQ S a 2 (some v)) h]
  simp [hsI, hsQ, hwQ, up2, va_rf]
section HPK
variable {p : Program} {l : Launch} {e : Env} {R : Room} {s : State} {m : MethodId} {args : Array Value} {below : List Frame} {meth : Method} {c : Code} {H : Heap} {locs : List Loc} {cells slots : Nat} {Q : State → Prop}
variable {pc : Nat} {ls : Array Slot} {rest : List Value} {G : GE} {L : List Nat} {S : HS} {cc : ByteArray} {tys : List (ClassId × FieldType)} {x : Nat} {A : Nat → Prop} {H0 : Heap}
theorem hp_putK (hexec : p.tables.exec = Jvm.exec) (hb : c.code = cc) {v : Int32} {index : Nat} {Ts : List Cond} (hts : ∀ w ∈ Ts, w.before args s = true) (i1 : ∀ w ∈ u_ws RX1 TX1 3, w ∈ Ts) (i2 : ∀ w ∈ u_ws RX2 TX2 3, w ∈ Ts) (i3 : ∀ w ∈ u_ws RX4 TX4 3, w ∈ Ts) (i4 : ∀ w ∈ u_ws RX5 TX5 3, w ∈ Ts) (i5 : ∀ w ∈ u_ws RX7 TX7 3, w ∈ Ts) (hown : s.vm.findClass RX6 = some m.cls) (hK : va_K (gD G) vwCl tys s) (hP : va_P (gD G) vwCl (va_pl L (PF G S)) H) (hD : va_D A (va_pl L (PF G S))) (hS : va_S A H0 H locs) (hx : x ∈ L ∧ 1 ≤ hsK S x ∧ hsK S x ≤ 5) (hlink : (Cond.fieldLink RX6 index "ThrowModels$Thing" "kind" "I").before args s = true) (hin2 : meth.name = "<init>") (hdg : decode cc pc = .ok (.putfield index, 3))
    (kk : ∀ (H1 : Heap) (locs1 : List Loc), va_P (gD G) vwCl (va_pl L (PF G (hwI S x 0 v))) H1 → va_S A H0 H1 locs1 → W p l e R s m args below meth c H1 locs1 cells slots Q (F0 m (pc + 3) ls rest)) : W p l e R s m args below meth c H locs cells slots Q (F0 m pc ls (.int v :: .ref x :: rest)) := by
  obtain ⟨ha, h1, h5⟩ := hx
  rcases (by omega : hsK S x = 1 ∨ hsK S x = 2 ∨ hsK S x = 3 ∨ hsK S x = 4 ∨ hsK S x = 5) with h | h | h | h | h
  · exact hp_putF (ci := 1) (C := RX1) (T := TX1) (N := 3) (ty := .int) (v := .int v) (g := PF G (hwI S x 0 v)) hexec hb hts i1 tyX1 tyX1_ok nmX1 hown hK hP hD hS ha (PF_1 h) rfl 0 (by decide) hlink (fun _ h9 => h9) rfl hin2 rfl (by decide +kernel) rfl rfl (Nat.le_of_ble_eq_true rfl) (PF_f1_0 h) (fun _ hb9 => PF_wI hb9) hdg kk
  · exact hp_putF (ci := 2) (C := RX2) (T := TX2) (N := 3) (ty := .int) (v := .int v) (g := PF G (hwI S x 0 v)) hexec hb hts i2 tyX2 tyX2_ok nmX2 hown hK hP hD hS ha (PF_2 h) rfl 0 (by decide) hlink (fun _ h9 => h9) rfl hin2 rfl (by decide +kernel) rfl rfl (Nat.le_of_ble_eq_true rfl) (PF_f2_0 h) (fun _ hb9 => PF_wI hb9) hdg kk
  · exact hp_putF (ci := 3) (C := RX4) (T := TX4) (N := 3) (ty := .int) (v := .int v) (g := PF G (hwI S x 0 v)) hexec hb hts i3 tyX4 tyX4_ok nmX4 hown hK hP hD hS ha (PF_3 h) rfl 1 (by decide) hlink (fun _ h9 => h9) rfl hin2 rfl (by decide +kernel) rfl rfl (Nat.le_of_ble_eq_true rfl) (PF_f3_0 h) (fun _ hb9 => PF_wI hb9) hdg kk
  · exact hp_putF (ci := 4) (C := RX5) (T := TX5) (N := 3) (ty := .int) (v := .int v) (g := PF G (hwI S x 0 v)) hexec hb hts i4 tyX5 tyX5_ok nmX5 hown hK hP hD hS ha (PF_4 h) rfl 1 (by decide) hlink (fun _ h9 => h9) rfl hin2 rfl (by decide +kernel) rfl rfl (Nat.le_of_ble_eq_true rfl) (PF_f4_0 h) (fun _ hb9 => PF_wI hb9) hdg kk
  · exact hp_putF (ci := 5) (C := RX7) (T := TX7) (N := 3) (ty := .int) (v := .int v) (g := PF G (hwI S x 0 v)) hexec hb hts i5 tyX7 tyX7_ok nmX7 hown hK hP hD hS ha (PF_5 h) rfl 0 (by decide) hlink (fun _ h9 => h9) rfl hin2 rfl (by decide +kernel) rfl rfl (Nat.le_of_ble_eq_true rfl) (PF_f5_0 h) (fun _ hb9 => PF_wI hb9) hdg kk
theorem hp_putL (hexec : p.tables.exec = Jvm.exec) (hb : c.code = cc) {v : Int32} {index : Nat} {Ts : List Cond} (hts : ∀ w ∈ Ts, w.before args s = true) (i1 : ∀ w ∈ u_ws RX1 TX1 3, w ∈ Ts) (i2 : ∀ w ∈ u_ws RX2 TX2 3, w ∈ Ts) (i3 : ∀ w ∈ u_ws RX4 TX4 3, w ∈ Ts) (i4 : ∀ w ∈ u_ws RX5 TX5 3, w ∈ Ts) (i5 : ∀ w ∈ u_ws RX7 TX7 3, w ∈ Ts) (hown : s.vm.findClass RX6 = some m.cls) (hK : va_K (gD G) vwCl tys s) (hP : va_P (gD G) vwCl (va_pl L (PF G S)) H) (hD : va_D A (va_pl L (PF G S))) (hS : va_S A H0 H locs) (hx : x ∈ L ∧ 1 ≤ hsK S x ∧ hsK S x ≤ 5) (hlink : (Cond.fieldLink RX6 index "ThrowModels$Thing" "length" "I").before args s = true) (hin2 : meth.name = "<init>") (hdg : decode cc pc = .ok (.putfield index, 3))
    (kk : ∀ (H1 : Heap) (locs1 : List Loc), va_P (gD G) vwCl (va_pl L (PF G (hwI S x 1 v))) H1 → va_S A H0 H1 locs1 → W p l e R s m args below meth c H1 locs1 cells slots Q (F0 m (pc + 3) ls rest)) : W p l e R s m args below meth c H locs cells slots Q (F0 m pc ls (.int v :: .ref x :: rest)) := by
  obtain ⟨ha, h1, h5⟩ := hx
  rcases (by omega : hsK S x = 1 ∨ hsK S x = 2 ∨ hsK S x = 3 ∨ hsK S x = 4 ∨ hsK S x = 5) with h | h | h | h | h
  · exact hp_putF (ci := 1) (C := RX1) (T := TX1) (N := 3) (ty := .int) (v := .int v) (g := PF G (hwI S x 1 v)) hexec hb hts i1 tyX1 tyX1_ok nmX1 hown hK hP hD hS ha (PF_1 h) rfl 1 (by decide) hlink (fun _ h9 => h9) rfl hin2 rfl (by decide +kernel) rfl rfl (Nat.le_of_ble_eq_true rfl) (PF_f1_1 h) (fun _ hb9 => PF_wI hb9) hdg kk
  · exact hp_putF (ci := 2) (C := RX2) (T := TX2) (N := 3) (ty := .int) (v := .int v) (g := PF G (hwI S x 1 v)) hexec hb hts i2 tyX2 tyX2_ok nmX2 hown hK hP hD hS ha (PF_2 h) rfl 1 (by decide) hlink (fun _ h9 => h9) rfl hin2 rfl (by decide +kernel) rfl rfl (Nat.le_of_ble_eq_true rfl) (PF_f2_1 h) (fun _ hb9 => PF_wI hb9) hdg kk
  · exact hp_putF (ci := 3) (C := RX4) (T := TX4) (N := 3) (ty := .int) (v := .int v) (g := PF G (hwI S x 1 v)) hexec hb hts i3 tyX4 tyX4_ok nmX4 hown hK hP hD hS ha (PF_3 h) rfl 2 (by decide) hlink (fun _ h9 => h9) rfl hin2 rfl (by decide +kernel) rfl rfl (Nat.le_of_ble_eq_true rfl) (PF_f3_1 h) (fun _ hb9 => PF_wI hb9) hdg kk
  · exact hp_putF (ci := 4) (C := RX5) (T := TX5) (N := 3) (ty := .int) (v := .int v) (g := PF G (hwI S x 1 v)) hexec hb hts i4 tyX5 tyX5_ok nmX5 hown hK hP hD hS ha (PF_4 h) rfl 2 (by decide) hlink (fun _ h9 => h9) rfl hin2 rfl (by decide +kernel) rfl rfl (Nat.le_of_ble_eq_true rfl) (PF_f4_1 h) (fun _ hb9 => PF_wI hb9) hdg kk
  · exact hp_putF (ci := 5) (C := RX7) (T := TX7) (N := 3) (ty := .int) (v := .int v) (g := PF G (hwI S x 1 v)) hexec hb hts i5 tyX7 tyX7_ok nmX7 hown hK hP hD hS ha (PF_5 h) rfl 1 (by decide) hlink (fun _ h9 => h9) rfl hin2 rfl (by decide +kernel) rfl rfl (Nat.le_of_ble_eq_true rfl) (PF_f5_1 h) (fun _ hb9 => PF_wI hb9) hdg kk
end HPK
theorem iw_X6_init_X1 : ∀ w ∈ u_ws RX1 TX1 3, w ∈ wsX6_init := by decide +kernel
theorem iw_X6_init_X2 : ∀ w ∈ u_ws RX2 TX2 3, w ∈ wsX6_init := by decide +kernel
theorem iw_X6_init_X4 : ∀ w ∈ u_ws RX4 TX4 3, w ∈ wsX6_init := by decide +kernel
theorem iw_X6_init_X5 : ∀ w ∈ u_ws RX5 TX5 3, w ∈ wsX6_init := by decide +kernel
theorem iw_X6_init_X7 : ∀ w ∈ u_ws RX7 TX7 3, w ∈ wsX6_init := by decide +kernel
theorem hm_X6_init (l : Launch) (G : GE) (L : List Nat) (S : HS) (x : Nat) (p0 p1 : Int32) (hok : x ∈ L ∧ 1 ≤ hsK S x ∧ hsK S x ≤ 5) : HmV l G yX6_init wsX6_init 1 12 [.ref x, .int p0, .int p1] L S (hwI (hwI S x 0 p0) x 1 p1) := by
  refine Met.ofW (cc := cX6_init) (maxL := 3) (ret := none) (by decide) rfl ?_
  intro p e s m args below meth c s₁ B hml hv
  obtain ⟨rfl, hP, hK, hnd, hE⟩ := hv
  have hx := B.exec
  have hb := B.bytes
  have hr := B.returns
  have hts := atoms_spec (ws := wsX6_init) B.pre
  have hown : s.vm.findClass RX6 = some m.cls := findClass_of_methodNamed B.named
  have hlocks := B.notSynchronized
  have hin2 : meth.name = "<init>" := (name_of_methodNamed B.named B.method).1
  have hD := nd_D hnd
  have hS : va_S (AL L) s.heap s.heap [] := va_S.rf
  have hl := lv_entry ([.ref x, .int p0, .int p1]) (n := 3) (Nat.le_of_ble_eq_true rfl)
  rw [lg_entry_eq]
  generalize (lg_sl ([.ref x, .int p0, .int p1]) ++ List.replicate (3 - (lg_sl ([.ref x, .int p0, .int p1])).length) Slot.unset).toArray = ls at hl ⊢
  have hl : lv_has ls 3 [(0, .ref x), (1, .int p0), (2, .int p1)] := hl
  refine lv_aload_n hx hb dX6_init_0 rfl (lv_at hl 0 rfl) ?_
  refine W.objInit hx hb hown (hts _ (List.mem_of_getElem? (i := 1) rfl)) (hts _ (List.mem_of_getElem? (i := 2) rfl)) (hts _ (List.mem_of_getElem? (i := 3) rfl)) rfl (hl.1.trans hml.symm) rfl dX6_init_1 (Nat.le_of_ble_eq_true rfl) (Nat.le_of_ble_eq_true rfl) ?_
  refine W.eq (g2 := F0 m 4 ls []) rfl ?_
  refine lv_aload_n hx hb dX6_init_4 rfl (lv_at hl 0 rfl) ?_
  refine lv_iload_n hx hb dX6_init_5 rfl (lv_at hl 1 rfl) ?_
  refine hp_putK hx hb hts iw_X6_init_X1 iw_X6_init_X2 iw_X6_init_X4 iw_X6_init_X5 iw_X6_init_X7 hown hK hP (hD _) hS hok (hts _ (List.mem_of_getElem? (i := 4) rfl)) hin2 dX6_init_6 (fun H locs hP hS => ?_)
  refine lv_aload_n hx hb dX6_init_9 rfl (lv_at hl 0 rfl) ?_
  refine lv_iload_n hx hb dX6_init_10 rfl (lv_at hl 2 rfl) ?_
  refine hp_putL (S := hwI S x 0 p0) hx hb hts iw_X6_init_X1 iw_X6_init_X2 iw_X6_init_X4 iw_X6_init_X5 iw_X6_init_X7 hown hK hP (hD _) hS hok (hts _ (List.mem_of_getElem? (i := 5) rfl)) hin2 dX6_init_11 (fun H locs hP hS => ?_)
  exact hm_vret hx hb hr hlocks hS hP hK hnd hE rfl dX6_init_14
theorem iw_X2_init_X2 : ∀ w ∈ u_ws RX2 TX2 3, w ∈ wsX2_init := by decide +kernel
theorem iw_X2_init_X4 : ∀ w ∈ u_ws RX4 TX4 3, w ∈ wsX2_init := by decide +kernel
theorem iw_X2_init_X5 : ∀ w ∈ u_ws RX5 TX5 3, w ∈ wsX2_init := by decide +kernel
theorem hm_X2_init (l : Launch) (G : GE) (L : List Nat) (S : HS) (x : Nat) (p0 p1 : Int32) (hok : x ∈ L ∧ 2 ≤ hsK S x ∧ hsK S x ≤ 4) : HmV l G yX2_init wsX2_init 2 34 [.ref x, .int p0, .int p1] L S (hwI (hwI (hwI S x 0 p0) x 1 0) x 2 p1) := by
  refine Met.ofW (cc := cX2_init) (maxL := 3) (ret := none) (by decide) rfl ?_
  intro p e s m args below meth c s₁ B hml hv
  obtain ⟨rfl, hP, hK, hnd, hE⟩ := hv
  have hx := B.exec
  have hb := B.bytes
  have hr := B.returns
  have hts := atoms_spec (ws := wsX2_init) B.pre
  have hown : s.vm.findClass RX2 = some m.cls := findClass_of_methodNamed B.named
  have hlocks := B.notSynchronized
  have hin2 : meth.name = "<init>" := (name_of_methodNamed B.named B.method).1
  have hD := nd_D hnd
  have hS : va_S (AL L) s.heap s.heap [] := va_S.rf
  have hl := lv_entry ([.ref x, .int p0, .int p1]) (n := 3) (Nat.le_of_ble_eq_true rfl)
  rw [lg_entry_eq]
  generalize (lg_sl ([.ref x, .int p0, .int p1]) ++ List.replicate (3 - (lg_sl ([.ref x, .int p0, .int p1])).length) Slot.unset).toArray = ls at hl ⊢
  have hl : lv_has ls 3 [(0, .ref x), (1, .int p0), (2, .int p1)] := hl
  refine lv_aload_n hx hb dX2_init_0 rfl (lv_at hl 0 rfl) ?_
  refine lv_iload_n hx hb dX2_init_1 rfl (lv_at hl 1 rfl) ?_
  refine lv_iconst (v := 0) hx hb dX2_init_2 (by decide) ?_
  refine hm_callV (va_runI (As := [.int p0, .int 0]) (rest := []) ⟨hx, hb, hml, hown, hts⟩ (hm_X6_init l G L S x p0 0 ⟨hok.1, by omega, by omega⟩) (cwI 2 hts gX2_init_X6_init rfl rfl rfl (hts _ (List.mem_of_getElem? (i := 4) rfl)) (hts _ (List.mem_of_getElem? (i := 2) rfl)) (hts _ (List.mem_of_getElem? (i := 3) rfl)) rfl (by decide +kernel) ⟨Nat.le_of_ble_eq_true rfl, Nat.le_of_ble_eq_true rfl⟩) ⟨HW.fb, fun U hU hW => ⟨rfl, HW.call hP hK hnd hE hS U hU hW⟩⟩ rfl rfl hl.1 rfl (lv_room (Nat.le_of_ble_eq_true rfl)) dX2_init_3 ⟨Nat.le_of_ble_eq_true rfl, Nat.le_of_ble_eq_true rfl⟩) hS (fun H locs hP hS => ?_)
  refine lv_aload_n hx hb dX2_init_6 rfl (lv_at hl 0 rfl) ?_
  refine lv_iload_n hx hb dX2_init_7 rfl (lv_at hl 2 rfl) ?_
  refine hp_putV (S := hwI (hwI S x 0 p0) x 1 0) hx hb hts iw_X2_init_X2 iw_X2_init_X4 iw_X2_init_X5 hown hK hP (hD _) hS hok (hts _ (List.mem_of_getElem? (i := 1) rfl)) (fun _ h9 => h9) dX2_init_8 (fun H locs hP hS => ?_)
  exact hm_vret hx hb hr hlocks hS hP hK hnd hE rfl dX2_init_11
theorem hm_X4_init (l : Launch) (G : GE) (L : List Nat) (S : HS) (x : Nat) (p0 p1 : Int32) (hok : x ∈ L ∧ 2 ≤ hsK S x ∧ hsK S x ≤ 4) : HmV l G yX4_init wsX4_init 3 56 [.ref x, .int p0, .int p1] L S (hwI (hwI (hwI S x 0 p0) x 1 0) x 2 p1) := by
  refine Met.ofW (cc := cX4_init) (maxL := 3) (ret := none) (by decide) rfl ?_
  intro p e s m args below meth c s₁ B hml hv
  obtain ⟨rfl, hP, hK, hnd, hE⟩ := hv
  have hx := B.exec
  have hb := B.bytes
  have hr := B.returns
  have hts := atoms_spec (ws := wsX4_init) B.pre
  have hown : s.vm.findClass RX4 = some m.cls := findClass_of_methodNamed B.named
  have hlocks := B.notSynchronized
  have hin2 : meth.name = "<init>" := (name_of_methodNamed B.named B.method).1
  have hD := nd_D hnd
  have hS : va_S (AL L) s.heap s.heap [] := va_S.rf
  have hl := lv_entry ([.ref x, .int p0, .int p1]) (n := 3) (Nat.le_of_ble_eq_true rfl)
  rw [lg_entry_eq]
  generalize (lg_sl ([.ref x, .int p0, .int p1]) ++ List.replicate (3 - (lg_sl ([.ref x, .int p0, .int p1])).length) Slot.unset).toArray = ls at hl ⊢
  have hl : lv_has ls 3 [(0, .ref x), (1, .int p0), (2, .int p1)] := hl
  refine lv_aload_n hx hb dX4_init_0 rfl (lv_at hl 0 rfl) ?_
  refine lv_iload_n hx hb dX4_init_1 rfl (lv_at hl 1 rfl) ?_
  refine lv_iload_n hx hb dX4_init_2 rfl (lv_at hl 2 rfl) ?_
  refine hm_callV (va_runI (As := [.int p0, .int p1]) (rest := []) ⟨hx, hb, hml, hown, hts⟩ (hm_X2_init l G L S x p0 p1 hok) (cwI 2 hts gX4_init_X2_init rfl rfl rfl (hts _ (List.mem_of_getElem? (i := 3) rfl)) (hts _ (List.mem_of_getElem? (i := 1) rfl)) (hts _ (List.mem_of_getElem? (i := 2) rfl)) rfl (by decide +kernel) ⟨Nat.le_of_ble_eq_true rfl, Nat.le_of_ble_eq_true rfl⟩) ⟨HW.fb, fun U hU hW => ⟨rfl, HW.call hP hK hnd hE hS U hU hW⟩⟩ rfl rfl hl.1 rfl (lv_room (Nat.le_of_ble_eq_true rfl)) dX4_init_3 ⟨Nat.le_of_ble_eq_true rfl, Nat.le_of_ble_eq_true rfl⟩) hS (fun H locs hP hS => ?_)
  exact hm_vret hx hb hr hlocks hS hP hK hnd hE rfl dX4_init_6
theorem hm_X5_init (l : Launch) (G : GE) (L : List Nat) (S : HS) (x : Nat) (p0 : Int32) (hok : x ∈ L ∧ 2 ≤ hsK S x ∧ hsK S x ≤ 4) : HmV l G yX5_init wsX5_init 4 78 [.ref x, .int p0] L S (hwI (hwI (hwI S x 0 12) x 1 0) x 2 p0) := by
  refine Met.ofW (cc := cX5_init) (maxL := 2) (ret := none) (by decide) rfl ?_
  intro p e s m args below meth c s₁ B hml hv
  obtain ⟨rfl, hP, hK, hnd, hE⟩ := hv
  have hx := B.exec
  have hb := B.bytes
  have hr := B.returns
  have hts := atoms_spec (ws := wsX5_init) B.pre
  have hown : s.vm.findClass RX5 = some m.cls := findClass_of_methodNamed B.named
  have hlocks := B.notSynchronized
  have hin2 : meth.name = "<init>" := (name_of_methodNamed B.named B.method).1
  have hD := nd_D hnd
  have hS : va_S (AL L) s.heap s.heap [] := va_S.rf
  have hl := lv_entry ([.ref x, .int p0]) (n := 2) (Nat.le_of_ble_eq_true rfl)
  rw [lg_entry_eq]
  generalize (lg_sl ([.ref x, .int p0]) ++ List.replicate (2 - (lg_sl ([.ref x, .int p0])).length) Slot.unset).toArray = ls at hl ⊢
  have hl : lv_has ls 2 [(0, .ref x), (1, .int p0)] := hl
  refine lv_aload_n hx hb dX5_init_0 rfl (lv_at hl 0 rfl) ?_
  refine lv_bipush (v := 12) hx hb dX5_init_1 (by decide) ?_
  refine lv_iload_n hx hb dX5_init_3 rfl (lv_at hl 1 rfl) ?_
  refine hm_callV (va_runI (As := [.int 12, .int p0]) (rest := []) ⟨hx, hb, hml, hown, hts⟩ (hm_X4_init l G L S x 12 p0 hok) (cwI 2 hts gX5_init_X4_init rfl rfl rfl (hts _ (List.mem_of_getElem? (i := 3) rfl)) (hts _ (List.mem_of_getElem? (i := 1) rfl)) (hts _ (List.mem_of_getElem? (i := 2) rfl)) rfl (by decide +kernel) ⟨Nat.le_of_ble_eq_true rfl, Nat.le_of_ble_eq_true rfl⟩) ⟨HW.fb, fun U hU hW => ⟨rfl, HW.call hP hK hnd hE hS U hU hW⟩⟩ rfl rfl hl.1 rfl (lv_room (Nat.le_of_ble_eq_true rfl)) dX5_init_4 ⟨Nat.le_of_ble_eq_true rfl, Nat.le_of_ble_eq_true rfl⟩) hS (fun H locs hP hS => ?_)
  exact hm_vret hx hb hr hlocks hS hP hK hnd hE rfl dX5_init_7
theorem iw_X1_init_X1 : ∀ w ∈ u_ws RX1 TX1 3, w ∈ wsX1_init := by decide +kernel
/-- the world behind X1_init -/
abbrev S_X1_init (x : Nat) (p0 p1 : Int32) (q : Nat) (S : HS) : HS := hwQ (hnJ (hwI (hwI S x 0 p0) x 1 p1) q p1.toNatClampNeg) x 2 (some q)
theorem hm_X1_init (l : Launch) (G : GE) (L0 : List Nat) (sz : Nat) (L : List Nat) (S : HS) (x : Nat) (p0 p1 : Int32) (hok : x ∈ L ∧ hsK S x = 1) (h0 : ¬ p1 < 0) (h64 : p1.toNatClampNeg ≤ 64) : HzV l G yX1_init wsX1_init 2 34 1 64 [.ref x, .int p0, .int p1] L0 sz L S (fun L1 S1 => ∃ q, q ∉ L ∧ L1 = L ++ [q] ∧ S1 = S_X1_init x p0 p1 q S) := by
  refine Met.ofW (cc := cX1_init) (maxL := 3) (ret := none) (by decide) rfl ?_
  intro p e s m args below meth c s₁ B hml hv
  obtain ⟨rfl, ⟨hP, hK, hnd, hE0⟩, hLz, hSz, hE1⟩ := hv
  have hE : EZ G L0 sz s := ⟨hE1, hE0.2⟩
  have hx := B.exec
  have hb := B.bytes
  have hr := B.returns
  have hts := atoms_spec (ws := wsX1_init) B.pre
  have hown : s.vm.findClass RX1 = some m.cls := findClass_of_methodNamed B.named
  have hlocks := B.notSynchronized
  have hin2 : meth.name = "<init>" := (name_of_methodNamed B.named B.method).1
  have hS : va_S (AZ L0 sz) s.heap s.heap [] := va_S.rf
  have hl := lv_entry ([.ref x, .int p0, .int p1]) (n := 3) (Nat.le_of_ble_eq_true rfl)
  rw [lg_entry_eq]
  generalize (lg_sl ([.ref x, .int p0, .int p1]) ++ List.replicate (3 - (lg_sl ([.ref x, .int p0, .int p1])).length) Slot.unset).toArray = ls at hl ⊢
  have hl : lv_has ls 3 [(0, .ref x), (1, .int p0), (2, .int p1)] := hl
  refine lv_aload_n hx hb dX1_init_0 rfl (lv_at hl 0 rfl) ?_
  refine lv_iload_n hx hb dX1_init_1 rfl (lv_at hl 1 rfl) ?_
  refine lv_iload_n hx hb dX1_init_2 rfl (lv_at hl 2 rfl) ?_
  refine hz_rV (va_runI (As := [.int p0, .int p1]) (rest := []) ⟨hx, hb, hml, hown, hts⟩ (hm_X6_init l G L S x p0 p1 ⟨hok.1, by omega, by omega⟩) (cwI 2 hts gX1_init_X6_init rfl rfl rfl (hts _ (List.mem_of_getElem? (i := 5) rfl)) (hts _ (List.mem_of_getElem? (i := 3) rfl)) (hts _ (List.mem_of_getElem? (i := 4) rfl)) rfl (by decide +kernel) ⟨Nat.le_of_ble_eq_true rfl, Nat.le_of_ble_eq_true rfl⟩) ⟨HW.fb, fun U hU hW => ⟨rfl, HZ.hw hP hK hnd hLz hE hS U hU hW⟩⟩ rfl rfl hl.1 rfl (lv_room (Nat.le_of_ble_eq_true rfl)) dX1_init_3 ⟨Nat.le_of_ble_eq_true rfl, Nat.le_of_ble_eq_true rfl⟩) hS hLz (fun H locs hP hS => ?_)
  refine lv_aload_n hx hb dX1_init_6 rfl (lv_at hl 0 rfl) ?_
  refine lv_iload_n hx hb dX1_init_7 rfl (lv_at hl 2 rfl) ?_
  refine hz_newJ (S := hwI (hwI S x 0 p0) x 1 p1) hx hb (hts _ (List.mem_of_getElem? (i := 1) rfl)) hK hP hnd hLz hSz hS h0 rfl (Nat.le_trans (Nat.mul_le_mul_right 8 h64) (by decide)) (Nat.le_of_ble_eq_true rfl) (Nat.le_trans (Nat.le_of_eq (Nat.zero_add _)) h64) dX1_init_8 (fun q H hq hP hnd hLz hS => ?_)
  refine W.widen (k := 1) (n := 64) (Nat.le_of_ble_eq_true rfl) (Nat.le_trans (Nat.le_of_eq (Nat.zero_add _)) h64) ?_
  have hxq : x ≠ q := fun z => hq (z ▸ hok.1)
  have hk1 : hsK (hnJ (hwI (hwI S x 0 p0) x 1 p1) q p1.toNatClampNeg) x = 1 := (va_up_ne _ _ hxq).trans hok.2
  refine hp_putF (ci := 1) (C := RX1) (T := TX1) (N := 3) (ty := tyX1 2) (v := .ref q) (g := PF G (S_X1_init x p0 p1 q S)) hx hb hts iw_X1_init_X1 tyX1 tyX1_ok nmX1 hown hK hP (nz_D hnd hLz) hS (List.mem_append_left _ hok.1) (PF_1 hk1) rfl 2 (by decide) (hts _ (List.mem_of_getElem? (i := 2) rfl)) (fun _ h9 => h9) rfl hin2 rfl (tyX1_ok 2 (by decide)) rfl rfl (Nat.le_of_ble_eq_true rfl) (PF_q1 hk1) (fun _ hb9 => PF_wQ hb9) dX1_init_10 (fun H locs hP hS => ?_)
  exact hz_vret hx hb hr hlocks hS hP hK hnd hLz hSz hE ⟨q, hq, rfl, rfl⟩ dX1_init_13
theorem iw_X7_init_X7 : ∀ w ∈ u_ws RX7 TX7 3, w ∈ wsX7_init := by decide +kernel
/-- the world behind X7_init -/
abbrev S_X7_init (x : Nat) (p0 p1 : Int32) (q : Nat) (S : HS) : HS := hwQ (hnR (hwI (hwI S x 0 p0) x 1 p1) q p1.toNatClampNeg) x 2 (some q)
theorem hm_X7_init (l : Launch) (G : GE) (L0 : List Nat) (sz : Nat) (L : List Nat) (S : HS) (x : Nat) (p0 p1 : Int32) (hok : x ∈ L ∧ hsK S x = 5) (h0 : ¬ p1 < 0) (h64 : p1.toNatClampNeg ≤ 64) : HzV l G yX7_init wsX7_init 2 34 1 64 [.ref x, .int p0, .int p1] L0 sz L S (fun L1 S1 => ∃ q, q ∉ L ∧ L1 = L ++ [q] ∧ S1 = S_X7_init x p0 p1 q S) := by
  refine Met.ofW (cc := cX7_init) (maxL := 3) (ret := none) (by decide) rfl ?_
  intro p e s m args below meth c s₁ B hml hv
  obtain ⟨rfl, ⟨hP, hK, hnd, hE0⟩, hLz, hSz, hE1⟩ := hv
  have hE : EZ G L0 sz s := ⟨hE1, hE0.2⟩
  have hx := B.exec
  have hb := B.bytes
  have hr := B.returns
  have hts := atoms_spec (ws := wsX7_init) B.pre
  have hown : s.vm.findClass RX7 = some m.cls := findClass_of_methodNamed B.named
  have hlocks := B.notSynchronized
  have hin2 : meth.name = "<init>" := (name_of_methodNamed B.named B.method).1
  have hS : va_S (AZ L0 sz) s.heap s.heap [] := va_S.rf
  have hl := lv_entry ([.ref x, .int p0, .int p1]) (n := 3) (Nat.le_of_ble_eq_true rfl)
  rw [lg_entry_eq]
  generalize (lg_sl ([.ref x, .int p0, .int p1]) ++ List.replicate (3 - (lg_sl ([.ref x, .int p0, .int p1])).length) Slot.unset).toArray = ls at hl ⊢
  have hl : lv_has ls 3 [(0, .ref x), (1, .int p0), (2, .int p1)] := hl
  refine lv_aload_n hx hb dX7_init_0 rfl (lv_at hl 0 rfl) ?_
  refine lv_iload_n hx hb dX7_init_1 rfl (lv_at hl 1 rfl) ?_
  refine lv_iload_n hx hb dX7_init_2 rfl (lv_at hl 2 rfl) ?_
  refine hz_rV (va_runI (As := [.int p0, .int p1]) (rest := []) ⟨hx, hb, hml, hown, hts⟩ (hm_X6_init l G L S x p0 p1 ⟨hok.1, by omega, by omega⟩) (cwI 2 hts gX7_init_X6_init rfl rfl rfl (hts _ (List.mem_of_getElem? (i := 5) rfl)) (hts _ (List.mem_of_getElem? (i := 3) rfl)) (hts _ (List.mem_of_getElem? (i := 4) rfl)) rfl (by decide +kernel) ⟨Nat.le_of_ble_eq_true rfl, Nat.le_of_ble_eq_true rfl⟩) ⟨HW.fb, fun U hU hW => ⟨rfl, HZ.hw hP hK hnd hLz hE hS U hU hW⟩⟩ rfl rfl hl.1 rfl (lv_room (Nat.le_of_ble_eq_true rfl)) dX7_init_3 ⟨Nat.le_of_ble_eq_true rfl, Nat.le_of_ble_eq_true rfl⟩) hS hLz (fun H locs hP hS => ?_)
  refine lv_aload_n hx hb dX7_init_6 rfl (lv_at hl 0 rfl) ?_
  refine lv_iload_n hx hb dX7_init_7 rfl (lv_at hl 2 rfl) ?_
  refine hz_newR (S := hwI (hwI S x 0 p0) x 1 p1) hx hb hown (hts _ (List.mem_of_getElem? (i := 1) rfl)) hE.2.2.2.2.2.2.1 hK hP hnd hLz hSz hS h0 rfl (Nat.le_trans (Nat.mul_le_mul_right 4 h64) (by decide)) (Nat.le_of_ble_eq_true rfl) (Nat.le_trans (Nat.le_of_eq (Nat.zero_add _)) h64) dX7_init_8 (fun q H hq hP hnd hLz hS => ?_)
  refine W.widen (k := 1) (n := 64) (Nat.le_of_ble_eq_true rfl) (Nat.le_trans (Nat.le_of_eq (Nat.zero_add _)) h64) ?_
  have hxq : x ≠ q := fun z => hq (z ▸ hok.1)
  have hk1 : hsK (hnR (hwI (hwI S x 0 p0) x 1 p1) q p1.toNatClampNeg) x = 5 := (va_up_ne _ _ hxq).trans hok.2
  refine hp_putF (ci := 5) (C := RX7) (T := TX7) (N := 3) (ty := tyX7 2) (v := .ref q) (g := PF G (S_X7_init x p0 p1 q S)) hx hb hts iw_X7_init_X7 tyX7 tyX7_ok nmX7 hown hK hP (nz_D hnd hLz) hS (List.mem_append_left _ hok.1) (PF_5 hk1) rfl 2 (by decide) (hts _ (List.mem_of_getElem? (i := 2) rfl)) (fun _ h9 => h9) rfl hin2 rfl (tyX7_ok 2 (by decide)) rfl rfl (Nat.le_of_ble_eq_true rfl) (PF_q5 hk1) (fun _ hb9 => PF_wQ hb9) dX7_init_11 (fun H locs hP hS => ?_)
  exact hz_vret hx hb hr hlocks hS hP hK hnd hLz hSz hE ⟨q, hq, rfl, rfl⟩ dX7_init_14
