/-! ===== more rows over a world: things of five classes ===== -/
theorem P_keep {D : va_G} {cl : List vw_C} {ws : va_W} {H H1 : Heap} (h : va_P D cl ws H) (hk : ∀ q : Nat, q < H.size → H1[q]? = H[q]?) : va_P D cl ws H1 := by
  intro k q hq
  have h1 := h k q hq
  unfold va_at at h1 ⊢
  split at h1
  · rename_i a ha
    rw [hk q.1 (Array.getElem?_eq_some_iff.mp h1).1]; exact h1
  · rename_i o ho
    obtain ⟨r, h2, cell, h3, h4⟩ := h1
    exact ⟨r, h2, cell, by rw [hk q.1 (Array.getElem?_eq_some_iff.mp h3).1]; exact h3, h4⟩
theorem PF_s6_2 {G : GE} {S : HS} {a : Nat} {v : Int32} (h : hsK S a = 6) : PF G (hwI S a 2 v) a = .inr (6, ([va_rf (hsQ S a 0), va_rf (hsQ S a 1), .int (hsI S a 2), .int (hsI S a 3)] : List Value).set 2 (.int v)) := by
  rw [PF_6 (S := hwI S a 2 v) h]
  simp [hsI, hsQ, hwI, up2]
theorem PF_s6_3 {G : GE} {S : HS} {a : Nat} {v : Int32} (h : hsK S a = 6) : PF G (hwI S a 3 v) a = .inr (6, ([va_rf (hsQ S a 0), va_rf (hsQ S a 1), .int (hsI S a 2), .int (hsI S a 3)] : List Value).set 3 (.int v)) := by
  rw [PF_6 (S := hwI S a 3 v) h]
  simp [hsI, hsQ, hwI, up2]
theorem PF_s7_3 {G : GE} {S : HS} {a : Nat} {v : Int32} (h : hsK S a = 7) : PF G (hwI S a 3 v) a = .inr (7, ([va_rf (hsQ S a 0), va_rf (hsQ S a 1), va_rf (hsQ S a 2), .int (hsI S a 3), va_rf (hsQ S a 4), .int (hsI S a 5), va_rf (hsQ S a 6), .int (hsI S a 7), va_rf (hsQ S a 8), .int (hsI S a 9), va_rf (hsQ S a 10), .int (hsI S a 11)] : List Value).set 3 (.int v)) := by
  rw [PF_7 (S := hwI S a 3 v) h]
  simp [hsI, hsQ, hwI, up2]
theorem PF_s7_5 {G : GE} {S : HS} {a : Nat} {v : Int32} (h : hsK S a = 7) : PF G (hwI S a 5 v) a = .inr (7, ([va_rf (hsQ S a 0), va_rf (hsQ S a 1), va_rf (hsQ S a 2), .int (hsI S a 3), va_rf (hsQ S a 4), .int (hsI S a 5), va_rf (hsQ S a 6), .int (hsI S a 7), va_rf (hsQ S a 8), .int (hsI S a 9), va_rf (hsQ S a 10), .int (hsI S a 11)] : List Value).set 5 (.int v)) := by
  rw [PF_7 (S := hwI S a 5 v) h]
  simp [hsI, hsQ, hwI, up2]
theorem PF_s7_7 {G : GE} {S : HS} {a : Nat} {v : Int32} (h : hsK S a = 7) : PF G (hwI S a 7 v) a = .inr (7, ([va_rf (hsQ S a 0), va_rf (hsQ S a 1), va_rf (hsQ S a 2), .int (hsI S a 3), va_rf (hsQ S a 4), .int (hsI S a 5), va_rf (hsQ S a 6), .int (hsI S a 7), va_rf (hsQ S a 8), .int (hsI S a 9), va_rf (hsQ S a 10), .int (hsI S a 11)] : List Value).set 7 (.int v)) := by
  rw [PF_7 (S := hwI S a 7 v) h]
  simp [hsI, hsQ, hwI, up2]
theorem PF_s7_9 {G : GE} {S : HS} {a : Nat} {v : Int32} (h : hsK S a = 7) : PF G (hwI S a 9 v) a = .inr (7, ([va_rf (hsQ S a 0), va_rf (hsQ S a 1), va_rf (hsQ S a 2), .int (hsI S a 3), va_rf (hsQ S a 4), .int (hsI S a 5), va_rf (hsQ S a 6), .int (hsI S a 7), va_rf (hsQ S a 8), .int (hsI S a 9), va_rf (hsQ S a 10), .int (hsI S a 11)] : List Value).set 9 (.int v)) := by
  rw [PF_7 (S := hwI S a 9 v) h]
  simp [hsI, hsQ, hwI, up2]
theorem PF_s7_11 {G : GE} {S : HS} {a : Nat} {v : Int32} (h : hsK S a = 7) : PF G (hwI S a 11 v) a = .inr (7, ([va_rf (hsQ S a 0), va_rf (hsQ S a 1), va_rf (hsQ S a 2), .int (hsI S a 3), va_rf (hsQ S a 4), .int (hsI S a 5), va_rf (hsQ S a 6), .int (hsI S a 7), va_rf (hsQ S a 8), .int (hsI S a 9), va_rf (hsQ S a 10), .int (hsI S a 11)] : List Value).set 11 (.int v)) := by
  rw [PF_7 (S := hwI S a 11 v) h]
  simp [hsI, hsQ, hwI, up2]
theorem PF_s2_2 {G : GE} {S : HS} {a : Nat} {v : Int32} (h : hsK S a = 2) : PF G (hwI S a 2 v) a = .inr (2, ([.int (hsI S a 0), .int (hsI S a 1), .int (hsI S a 2)] : List Value).set 2 (.int v)) := by
  rw [PF_2 (S := hwI S a 2 v) h]
  simp [hsI, hsQ, hwI, up2]
theorem PF_s3_2 {G : GE} {S : HS} {a : Nat} {v : Int32} (h : hsK S a = 3) : PF G (hwI S a 2 v) a = .inr (3, ([.int (hsI S a 2), .int (hsI S a 0), .int (hsI S a 1)] : List Value).set 0 (.int v)) := by
  rw [PF_3 (S := hwI S a 2 v) h]
  simp [hsI, hsQ, hwI, up2]
theorem PF_s4_2 {G : GE} {S : HS} {a : Nat} {v : Int32} (h : hsK S a = 4) : PF G (hwI S a 2 v) a = .inr (4, ([.int (hsI S a 2), .int (hsI S a 0), .int (hsI S a 1)] : List Value).set 0 (.int v)) := by
  rw [PF_4 (S := hwI S a 2 v) h]
  simp [hsI, hsQ, hwI, up2]
section HM2
variable {p : Program} {l : Launch} {e : Env} {R : Room} {s : State} {m : MethodId} {args : Array Value} {below : List Frame} {meth : Method} {c : Code} {H : Heap} {locs : List Loc} {cells slots : Nat} {Q : State → Prop}
variable {pc : Nat} {ls : Array Slot} {rest : List Value} {G : GE} {L : List Nat} {S S1 : HS} {cc : ByteArray} {tys : List (ClassId × FieldType)} {x : Nat} {A : Nat → Prop} {H0 : Heap}
theorem lv_topq {o : Option Nat} (k : ∀ y : Option Nat, y = o → W p l e R s m args below meth c H locs cells slots Q (F0 m pc ls (va_rf y :: rest))) : W p l e R s m args below meth c H locs cells slots Q (F0 m pc ls (va_rf o :: rest)) := k o rfl
theorem hm_qret {v : Option Nat} {pr : Option Nat × HS} (hx : p.tables.exec = Jvm.exec) (hb : c.code = cc) {ty : FieldType} (hr : meth.sig.returnType = some ty) (hrt : ∃ n, ty = .object n) (hlocks : meth.locks = false) (hS : va_S (AL L) s.heap H locs) (hP : va_P (gD G) vwCl (va_pl L (PF G S1)) H) (hK : va_K (gD G) vwCl (gT G) s) (hnd : L.Nodup) (hE : EX G (AL L) s s.heap) (heq : pr = (v, S1))
    (hdg : decode cc pc = .ok (.areturn, 1)) : W p l e R s m args below meth c H locs cells slots (MQ below (hm_QQ G L pr) args s cells slots (AL L)) (F0 m pc ls [va_rf v]) := by
  subst heq
  exact W.aret (v := va_rf v) (rt := ty) hx hb hr (Or.inl hrt) (va_rf_or v) (fun t ht hW => ⟨⟨v, (), rfl, rfl, HW.call hP hK hnd hE hS t ht hW⟩, hS.F ht⟩) hS.2.2 hdg
theorem hp_getR (hexec : p.tables.exec = Jvm.exec) (hb : c.code = cc) {D : va_G} {cl : List vw_C} {f : Nat → va_E} {o : Option Nat} {own ref C : String} {T : u_T} {N ci index : Nat} {Ts : List Cond} (hts : ∀ w ∈ Ts, w.before args s = true) (hin : ∀ w ∈ u_ws C T N, w ∈ Ts) (hown : s.vm.findClass own = some m.cls) (hK : va_K D cl tys s) (hP : va_P D cl (va_pl L f) H) (ha : x ∈ L) {fs : List Value} (he : f x = .inr (ci, fs)) (hc : cl[ci]? = some (C, T, N)) (k : Nat) (hk : k < N) (hlink : (Cond.fieldLink own index ref (T k).2.1 (T k).2.2.1).before args s = true) (hsame : ∀ x, s.fieldFound? (T k).1 (T k).2.1 (T k).2.2.1 = some x → s.fieldFound? ref (T k).2.1 (T k).2.2.1 = some x) (hv : fs[k]? = some (va_rf o)) (ho : o ≠ none) (hdg : decode cc pc = .ok (.getfield index, 3))
    (kk : W p l e R s m args below meth c H locs cells slots Q (F0 m (pc + 3) ls (.ref (o.getD 0) :: rest))) : W p l e R s m args below meth c H locs cells slots Q (F0 m pc ls (.ref x :: rest)) :=
  hp_get hexec hb hts hin hown hK hP ha he hc k hk hlink hsame hv hdg (by rw [rf_get ho]; exact kk)
theorem hp_kind (hexec : p.tables.exec = Jvm.exec) (hb : c.code = cc) {own ref : String} {index : Nat} {Ts : List Cond} (hts : ∀ w ∈ Ts, w.before args s = true) (i1 : ∀ w ∈ u_ws RX1 TX1 3, w ∈ Ts) (i2 : ∀ w ∈ u_ws RX2 TX2 3, w ∈ Ts) (i3 : ∀ w ∈ u_ws RX4 TX4 3, w ∈ Ts) (i4 : ∀ w ∈ u_ws RX5 TX5 3, w ∈ Ts) (i5 : ∀ w ∈ u_ws RX7 TX7 3, w ∈ Ts) (hown : s.vm.findClass own = some m.cls) (hK : va_K (gD G) vwCl tys s) (hP : va_P (gD G) vwCl (va_pl L (PF G S)) H) (hx : x ∈ L ∧ 1 ≤ hsK S x ∧ hsK S x ≤ 5) (hlink : (Cond.fieldLink own index ref "kind" "I").before args s = true) (hsame : ∀ y, s.fieldFound? "ThrowModels$Thing" "kind" "I" = some y → s.fieldFound? ref "kind" "I" = some y) (hdg : decode cc pc = .ok (.getfield index, 3))
    (kk : W p l e R s m args below meth c H locs cells slots Q (F0 m (pc + 3) ls (.int (hsI S x 0) :: rest))) : W p l e R s m args below meth c H locs cells slots Q (F0 m pc ls (.ref x :: rest)) := by
  obtain ⟨ha, h1, h5⟩ := hx
  rcases (by omega : hsK S x = 1 ∨ hsK S x = 2 ∨ hsK S x = 3 ∨ hsK S x = 4 ∨ hsK S x = 5) with h | h | h | h | h
  · exact hp_get (ci := 1) (C := RX1) (T := TX1) (N := 3) hexec hb hts i1 hown hK hP ha (PF_1 h) rfl 0 (by decide) hlink hsame rfl hdg kk
  · exact hp_get (ci := 2) (C := RX2) (T := TX2) (N := 3) hexec hb hts i2 hown hK hP ha (PF_2 h) rfl 0 (by decide) hlink hsame rfl hdg kk
  · exact hp_get (ci := 3) (C := RX4) (T := TX4) (N := 3) hexec hb hts i3 hown hK hP ha (PF_3 h) rfl 1 (by decide) hlink hsame rfl hdg kk
  · exact hp_get (ci := 4) (C := RX5) (T := TX5) (N := 3) hexec hb hts i4 hown hK hP ha (PF_4 h) rfl 1 (by decide) hlink hsame rfl hdg kk
  · exact hp_get (ci := 5) (C := RX7) (T := TX7) (N := 3) hexec hb hts i5 hown hK hP ha (PF_5 h) rfl 0 (by decide) hlink hsame rfl hdg kk
theorem hp_length (hexec : p.tables.exec = Jvm.exec) (hb : c.code = cc) {own ref : String} {index : Nat} {Ts : List Cond} (hts : ∀ w ∈ Ts, w.before args s = true) (i1 : ∀ w ∈ u_ws RX1 TX1 3, w ∈ Ts) (i2 : ∀ w ∈ u_ws RX2 TX2 3, w ∈ Ts) (i3 : ∀ w ∈ u_ws RX4 TX4 3, w ∈ Ts) (i4 : ∀ w ∈ u_ws RX5 TX5 3, w ∈ Ts) (i5 : ∀ w ∈ u_ws RX7 TX7 3, w ∈ Ts) (hown : s.vm.findClass own = some m.cls) (hK : va_K (gD G) vwCl tys s) (hP : va_P (gD G) vwCl (va_pl L (PF G S)) H) (hx : x ∈ L ∧ 1 ≤ hsK S x ∧ hsK S x ≤ 5) (hlink : (Cond.fieldLink own index ref "length" "I").before args s = true) (hsame : ∀ y, s.fieldFound? "ThrowModels$Thing" "length" "I" = some y → s.fieldFound? ref "length" "I" = some y) (hdg : decode cc pc = .ok (.getfield index, 3))
    (kk : W p l e R s m args below meth c H locs cells slots Q (F0 m (pc + 3) ls (.int (hsI S x 1) :: rest))) : W p l e R s m args below meth c H locs cells slots Q (F0 m pc ls (.ref x :: rest)) := by
  obtain ⟨ha, h1, h5⟩ := hx
  rcases (by omega : hsK S x = 1 ∨ hsK S x = 2 ∨ hsK S x = 3 ∨ hsK S x = 4 ∨ hsK S x = 5) with h | h | h | h | h
  · exact hp_get (ci := 1) (C := RX1) (T := TX1) (N := 3) hexec hb hts i1 hown hK hP ha (PF_1 h) rfl 1 (by decide) hlink hsame rfl hdg kk
  · exact hp_get (ci := 2) (C := RX2) (T := TX2) (N := 3) hexec hb hts i2 hown hK hP ha (PF_2 h) rfl 1 (by decide) hlink hsame rfl hdg kk
  · exact hp_get (ci := 3) (C := RX4) (T := TX4) (N := 3) hexec hb hts i3 hown hK hP ha (PF_3 h) rfl 2 (by decide) hlink hsame rfl hdg kk
  · exact hp_get (ci := 4) (C := RX5) (T := TX5) (N := 3) hexec hb hts i4 hown hK hP ha (PF_4 h) rfl 2 (by decide) hlink hsame rfl hdg kk
  · exact hp_get (ci := 5) (C := RX7) (T := TX7) (N := 3) hexec hb hts i5 hown hK hP ha (PF_5 h) rfl 1 (by decide) hlink hsame rfl hdg kk
theorem hp_value (hexec : p.tables.exec = Jvm.exec) (hb : c.code = cc) {own ref : String} {index : Nat} {Ts : List Cond} (hts : ∀ w ∈ Ts, w.before args s = true) (i2 : ∀ w ∈ u_ws RX2 TX2 3, w ∈ Ts) (i3 : ∀ w ∈ u_ws RX4 TX4 3, w ∈ Ts) (i4 : ∀ w ∈ u_ws RX5 TX5 3, w ∈ Ts) (hown : s.vm.findClass own = some m.cls) (hK : va_K (gD G) vwCl tys s) (hP : va_P (gD G) vwCl (va_pl L (PF G S)) H) (hx : x ∈ L ∧ 2 ≤ hsK S x ∧ hsK S x ≤ 4) (hlink : (Cond.fieldLink own index ref "value" "I").before args s = true) (hsame : ∀ y, s.fieldFound? "ThrowModels$Plain" "value" "I" = some y → s.fieldFound? ref "value" "I" = some y) (hdg : decode cc pc = .ok (.getfield index, 3))
    (kk : W p l e R s m args below meth c H locs cells slots Q (F0 m (pc + 3) ls (.int (hsI S x 2) :: rest))) : W p l e R s m args below meth c H locs cells slots Q (F0 m pc ls (.ref x :: rest)) := by
  obtain ⟨ha, h1, h5⟩ := hx
  rcases (by omega : hsK S x = 2 ∨ hsK S x = 3 ∨ hsK S x = 4) with h | h | h
  · exact hp_get (ci := 2) (C := RX2) (T := TX2) (N := 3) hexec hb hts i2 hown hK hP ha (PF_2 h) rfl 2 (by decide) hlink hsame rfl hdg kk
  · exact hp_get (ci := 3) (C := RX4) (T := TX4) (N := 3) hexec hb hts i3 hown hK hP ha (PF_3 h) rfl 0 (by decide) hlink hsame rfl hdg kk
  · exact hp_get (ci := 4) (C := RX5) (T := TX5) (N := 3) hexec hb hts i4 hown hK hP ha (PF_4 h) rfl 0 (by decide) hlink hsame rfl hdg kk
theorem hp_putV (hexec : p.tables.exec = Jvm.exec) (hb : c.code = cc) {v : Int32} {own ref : String} {index : Nat} {Ts : List Cond} (hts : ∀ w ∈ Ts, w.before args s = true) (i2 : ∀ w ∈ u_ws RX2 TX2 3, w ∈ Ts) (i3 : ∀ w ∈ u_ws RX4 TX4 3, w ∈ Ts) (i4 : ∀ w ∈ u_ws RX5 TX5 3, w ∈ Ts) (hown : s.vm.findClass own = some m.cls) (hK : va_K (gD G) vwCl tys s) (hP : va_P (gD G) vwCl (va_pl L (PF G S)) H) (hD : va_D A (va_pl L (PF G S))) (hS : va_S A H0 H locs) (hx : x ∈ L ∧ 2 ≤ hsK S x ∧ hsK S x ≤ 4) (hlink : (Cond.fieldLink own index ref "value" "I").before args s = true) (hsame : ∀ y, s.fieldFound? "ThrowModels$Plain" "value" "I" = some y → s.fieldFound? ref "value" "I" = some y) (hdg : decode cc pc = .ok (.putfield index, 3))
    (kk : ∀ (H1 : Heap) (locs1 : List Loc), va_P (gD G) vwCl (va_pl L (PF G (hwI S x 2 v))) H1 → va_S A H0 H1 locs1 → W p l e R s m args below meth c H1 locs1 cells slots Q (F0 m (pc + 3) ls rest)) : W p l e R s m args below meth c H locs cells slots Q (F0 m pc ls (.int v :: .ref x :: rest)) := by
  obtain ⟨ha, h1, h5⟩ := hx
  rcases (by omega : hsK S x = 2 ∨ hsK S x = 3 ∨ hsK S x = 4) with h | h | h
  · exact hp_put (ci := 2) (C := RX2) (T := TX2) (N := 3) (ty := .int) (v := .int v) (g := PF G (hwI S x 2 v)) hexec hb hts i2 tyX2 tyX2_ok nmX2 hown hK hP hD hS ha (PF_2 h) rfl 2 (by decide) hlink hsame rfl (by decide +kernel) rfl rfl (Nat.le_of_ble_eq_true rfl) (PF_s2_2 h) (fun _ hb9 => PF_wI hb9) hdg kk
  · exact hp_put (ci := 3) (C := RX4) (T := TX4) (N := 3) (ty := .int) (v := .int v) (g := PF G (hwI S x 2 v)) hexec hb hts i3 tyX4 tyX4_ok nmX4 hown hK hP hD hS ha (PF_3 h) rfl 0 (by decide) hlink hsame rfl (by decide +kernel) rfl rfl (Nat.le_of_ble_eq_true rfl) (PF_s3_2 h) (fun _ hb9 => PF_wI hb9) hdg kk
  · exact hp_put (ci := 4) (C := RX5) (T := TX5) (N := 3) (ty := .int) (v := .int v) (g := PF G (hwI S x 2 v)) hexec hb hts i4 tyX5 tyX5_ok nmX5 hown hK hP hD hS ha (PF_4 h) rfl 0 (by decide) hlink hsame rfl (by decide +kernel) rfl rfl (Nat.le_of_ble_eq_true rfl) (PF_s4_2 h) (fun _ hb9 => PF_wI hb9) hdg kk
theorem hp_inst1 (hexec : p.tables.exec = Jvm.exec) (hb : c.code = cc) (hc : KC s) {own : String} {index : Nat} (hown : s.vm.findClass own = some m.cls) (hlink : (Cond.classLink own index RX1).before args s = true) (hK : va_K (gD G) vwCl tys s) (hP : va_P (gD G) vwCl (va_pl L (PF G S)) H) (hx : x ∈ L ∧ 1 ≤ hsK S x ∧ hsK S x ≤ 5) (hdg : decode cc pc = .ok (.instanceof index, 3))
    (kt : hsK S x = 1 → W p l e R s m args below meth c H locs cells slots Q (F0 m (pc + 3) ls (.int 1 :: rest))) (kf : ¬ (hsK S x = 1) → W p l e R s m args below meth c H locs cells slots Q (F0 m (pc + 3) ls (.int 0 :: rest))) : W p l e R s m args below meth c H locs cells slots Q (F0 m pc ls (.ref x :: rest)) := by
  obtain ⟨ha, h1, h5⟩ := hx
  rcases (by omega : hsK S x = 1 ∨ hsK S x = 2 ∨ hsK S x = 3 ∨ hsK S x = 4 ∨ hsK S x = 5) with h | h | h | h | h
  · exact va_instS hexec hb hown hlink (hK.1 1 _ rfl).2 (hp_recv hK hP ha (PF_1 h) rfl) hdg (kt (by omega))
  · exact va_instNo (C := RX2) hexec hb hown hlink hc.2.2.1.1 (hp_recv hK hP ha (PF_2 h) rfl) hdg (kf (by omega))
  · exact va_instNo (C := RX4) hexec hb hown hlink hc.2.2.1.2.1 (hp_recv hK hP ha (PF_3 h) rfl) hdg (kf (by omega))
  · exact va_instNo (C := RX5) hexec hb hown hlink hc.2.2.1.2.2.1 (hp_recv hK hP ha (PF_4 h) rfl) hdg (kf (by omega))
  · exact va_instNo (C := RX7) hexec hb hown hlink hc.2.2.1.2.2.2 (hp_recv hK hP ha (PF_5 h) rfl) hdg (kf (by omega))
theorem hp_inst5 (hexec : p.tables.exec = Jvm.exec) (hb : c.code = cc) (hc : KC s) {own : String} {index : Nat} (hown : s.vm.findClass own = some m.cls) (hlink : (Cond.classLink own index RX7).before args s = true) (hK : va_K (gD G) vwCl tys s) (hP : va_P (gD G) vwCl (va_pl L (PF G S)) H) (hx : x ∈ L ∧ 1 ≤ hsK S x ∧ hsK S x ≤ 5) (hdg : decode cc pc = .ok (.instanceof index, 3))
    (kt : hsK S x = 5 → W p l e R s m args below meth c H locs cells slots Q (F0 m (pc + 3) ls (.int 1 :: rest))) (kf : ¬ (hsK S x = 5) → W p l e R s m args below meth c H locs cells slots Q (F0 m (pc + 3) ls (.int 0 :: rest))) : W p l e R s m args below meth c H locs cells slots Q (F0 m pc ls (.ref x :: rest)) := by
  obtain ⟨ha, h1, h5⟩ := hx
  rcases (by omega : hsK S x = 1 ∨ hsK S x = 2 ∨ hsK S x = 3 ∨ hsK S x = 4 ∨ hsK S x = 5) with h | h | h | h | h
  · exact va_instNo (C := RX1) hexec hb hown hlink hc.2.2.2.1.1 (hp_recv hK hP ha (PF_1 h) rfl) hdg (kf (by omega))
  · exact va_instNo (C := RX2) hexec hb hown hlink hc.2.2.2.1.2.1 (hp_recv hK hP ha (PF_2 h) rfl) hdg (kf (by omega))
  · exact va_instNo (C := RX4) hexec hb hown hlink hc.2.2.2.1.2.2.1 (hp_recv hK hP ha (PF_3 h) rfl) hdg (kf (by omega))
  · exact va_instNo (C := RX5) hexec hb hown hlink hc.2.2.2.1.2.2.2 (hp_recv hK hP ha (PF_4 h) rfl) hdg (kf (by omega))
  · exact va_instS hexec hb hown hlink (hK.1 5 _ rfl).2 (hp_recv hK hP ha (PF_5 h) rfl) hdg (kt (by omega))
theorem hp_inst2 (hexec : p.tables.exec = Jvm.exec) (hb : c.code = cc) (hc : KC s) {own : String} {index : Nat} (hown : s.vm.findClass own = some m.cls) (hlink : (Cond.classLink own index RX2).before args s = true) (hK : va_K (gD G) vwCl tys s) (hP : va_P (gD G) vwCl (va_pl L (PF G S)) H) (hx : x ∈ L ∧ 1 ≤ hsK S x ∧ hsK S x ≤ 5) (hdg : decode cc pc = .ok (.instanceof index, 3))
    (kt : 2 ≤ hsK S x ∧ hsK S x ≤ 4 → W p l e R s m args below meth c H locs cells slots Q (F0 m (pc + 3) ls (.int 1 :: rest))) (kf : ¬ (2 ≤ hsK S x ∧ hsK S x ≤ 4) → W p l e R s m args below meth c H locs cells slots Q (F0 m (pc + 3) ls (.int 0 :: rest))) : W p l e R s m args below meth c H locs cells slots Q (F0 m pc ls (.ref x :: rest)) := by
  obtain ⟨ha, h1, h5⟩ := hx
  rcases (by omega : hsK S x = 1 ∨ hsK S x = 2 ∨ hsK S x = 3 ∨ hsK S x = 4 ∨ hsK S x = 5) with h | h | h | h | h
  · exact va_instNo (C := RX1) hexec hb hown hlink hc.2.2.2.2.1.1 (hp_recv hK hP ha (PF_1 h) rfl) hdg (kf (by omega))
  · exact va_instS hexec hb hown hlink (hK.1 2 _ rfl).2 (hp_recv hK hP ha (PF_2 h) rfl) hdg (kt (by omega))
  · exact va_instY (C := RX4) hexec hb hown hlink hc.2.1.1 (hp_recv hK hP ha (PF_3 h) rfl) hdg (kt (by omega))
  · exact va_instY (C := RX5) hexec hb hown hlink hc.2.1.2 (hp_recv hK hP ha (PF_4 h) rfl) hdg (kt (by omega))
  · exact va_instNo (C := RX7) hexec hb hown hlink hc.2.2.2.2.1.2 (hp_recv hK hP ha (PF_5 h) rfl) hdg (kf (by omega))
theorem hp_cast1 (hexec : p.tables.exec = Jvm.exec) (hb : c.code = cc) (hc : KC s) {own : String} {index : Nat} (hown : s.vm.findClass own = some m.cls) (hlink : (Cond.classLink own index RX1).before args s = true) (hK : va_K (gD G) vwCl tys s) (hP : va_P (gD G) vwCl (va_pl L (PF G S)) H) (hx : x ∈ L ∧ hsK S x = 1) (hdg : decode cc pc = .ok (.checkcast index, 3))
    (k : W p l e R s m args below meth c H locs cells slots Q (F0 m (pc + 3) ls (.ref x :: rest))) : W p l e R s m args below meth c H locs cells slots Q (F0 m pc ls (.ref x :: rest)) := va_castS hexec hb hown hlink (hK.1 1 _ rfl).2 (hp_recv hK hP hx.1 (PF_1 hx.2) rfl) hdg k
theorem hp_cast5 (hexec : p.tables.exec = Jvm.exec) (hb : c.code = cc) (hc : KC s) {own : String} {index : Nat} (hown : s.vm.findClass own = some m.cls) (hlink : (Cond.classLink own index RX7).before args s = true) (hK : va_K (gD G) vwCl tys s) (hP : va_P (gD G) vwCl (va_pl L (PF G S)) H) (hx : x ∈ L ∧ hsK S x = 5) (hdg : decode cc pc = .ok (.checkcast index, 3))
    (k : W p l e R s m args below meth c H locs cells slots Q (F0 m (pc + 3) ls (.ref x :: rest))) : W p l e R s m args below meth c H locs cells slots Q (F0 m pc ls (.ref x :: rest)) := va_castS hexec hb hown hlink (hK.1 5 _ rfl).2 (hp_recv hK hP hx.1 (PF_5 hx.2) rfl) hdg k
theorem hp_cast2 (hexec : p.tables.exec = Jvm.exec) (hb : c.code = cc) (hc : KC s) {own : String} {index : Nat} (hown : s.vm.findClass own = some m.cls) (hlink : (Cond.classLink own index RX2).before args s = true) (hK : va_K (gD G) vwCl tys s) (hP : va_P (gD G) vwCl (va_pl L (PF G S)) H) (hx : x ∈ L ∧ 2 ≤ hsK S x ∧ hsK S x ≤ 4) (hdg : decode cc pc = .ok (.checkcast index, 3))
    (k : W p l e R s m args below meth c H locs cells slots Q (F0 m (pc + 3) ls (.ref x :: rest))) : W p l e R s m args below meth c H locs cells slots Q (F0 m pc ls (.ref x :: rest)) := by
  obtain ⟨ha, h1, h5⟩ := hx
  rcases (by omega : hsK S x = 2 ∨ hsK S x = 3 ∨ hsK S x = 4) with h | h | h
  · exact va_castS hexec hb hown hlink (hK.1 2 _ rfl).2 (hp_recv hK hP ha (PF_2 h) rfl) hdg k
  · exact va_castY (C := RX4) hexec hb hown hlink hc.2.1.1 (hp_recv hK hP ha (PF_3 h) rfl) hdg k
  · exact va_castY (C := RX5) hexec hb hown hlink hc.2.1.2 (hp_recv hK hP ha (PF_4 h) rfl) hdg k
theorem hp_aastT {g2 : Nat → va_E} (hexec : p.tables.exec = Jvm.exec) (hb : c.code = cc) (hc : KC s) (hK : va_K (gD G) vwCl tys s) (hP : va_P (gD G) vwCl (va_pl L (PF G S)) H) (hD : va_D A (va_pl L (PF G S))) (hS : va_S A H0 H locs) (ha : x ∈ L) (t0 : Nat) {cA : ClassId} {n v : Nat} {g : Nat → Option Nat} (he : PF G S x = .inl (cA, n, .inr (.inr (.inr (.inr g))))) (ht : tys[t0]? = some (cA, .object "ThrowModels$Thing")) (hv : v ∈ L ∧ 1 ≤ hsK S v ∧ hsK S v ≤ 5) {i : Int32} (hin : vp_in i n) (h1 : g2 x = .inl (cA, n, .inr (.inr (.inr (.inr (va_up g i.toNatClampNeg (some v))))))) (h2 : ∀ b, b ≠ x → g2 b = PF G S b) (hdg : decode cc pc = .ok (.aastore, 1))
    (kk : ∀ (H1 : Heap) (locs1 : List Loc), va_P (gD G) vwCl (va_pl L g2) H1 → va_S A H0 H1 locs1 → W p l e R s m args below meth c H1 locs1 cells slots Q (F0 m (pc + 1) ls rest)) : W p l e R s m args below meth c H locs cells slots Q (F0 m pc ls (.ref v :: .int i :: .ref x :: rest)) := by
  obtain ⟨hvL, h3, h5⟩ := hv
  rcases (by omega : hsK S v = 1 ∨ hsK S v = 2 ∨ hsK S v = 3 ∨ hsK S v = 4 ∨ hsK S v = 5) with h | h | h | h | h
  · exact hp_aast (r := (RX1, TX1, 3)) hexec hb hK hP hD hS ha t0 he ht hc.1.1 hvL (PF_1 h) rfl hin h1 h2 hdg kk
  · exact hp_aast (r := (RX2, TX2, 3)) hexec hb hK hP hD hS ha t0 he ht hc.1.2.1 hvL (PF_2 h) rfl hin h1 h2 hdg kk
  · exact hp_aast (r := (RX4, TX4, 3)) hexec hb hK hP hD hS ha t0 he ht hc.1.2.2.1 hvL (PF_3 h) rfl hin h1 h2 hdg kk
  · exact hp_aast (r := (RX5, TX5, 3)) hexec hb hK hP hD hS ha t0 he ht hc.1.2.2.2.1 hvL (PF_4 h) rfl hin h1 h2 hdg kk
  · exact hp_aast (r := (RX7, TX7, 3)) hexec hb hK hP hD hS ha t0 he ht hc.1.2.2.2.2 hvL (PF_5 h) rfl hin h1 h2 hdg kk
end HM2

/-! calls of methods that only read -/
section HM5
variable {p : Program} {l : Launch} {e : Env} {R : Room} {s : State} {m : MethodId} {args : Array Value} {below : List Frame} {meth : Method} {c : Code} {H : Heap} {locs : List Loc} {cells slots : Nat} {Q : State → Prop}
variable {pc : Nat} {ls : Array Slot} {rest st0 : List Value} {a : Array Value} {G : GE} {L : List Nat} {S1 : HS}
theorem hm_callIr (v : Int32) (hr : va_Run p l e R s m args below meth c H locs cells slots 0 0 (F0 m pc ls st0) rest (hm_QI G L (v, S1) a) (AL L)) (hS : va_S (AL L) s.heap H locs)
    (kk : ∀ (H1 : Heap) (locs1 : List Loc), va_P (gD G) vwCl (va_pl L (PF G S1)) H1 → va_S (AL L) s.heap H1 locs1 → W p l e R s m args below meth c H1 locs1 cells slots Q (F0 m (pc + 3) ls (.int v :: rest))) : W p l e R s m args below meth c H locs cells slots Q (F0 m pc ls st0) := hm_callI hr hS kk
theorem hm_callLr (v : Int64) (hr : va_Run p l e R s m args below meth c H locs cells slots 0 0 (F0 m pc ls st0) rest (hm_QL G L (v, S1) a) (AL L)) (hS : va_S (AL L) s.heap H locs)
    (kk : ∀ (H1 : Heap) (locs1 : List Loc), va_P (gD G) vwCl (va_pl L (PF G S1)) H1 → va_S (AL L) s.heap H1 locs1 → W p l e R s m args below meth c H1 locs1 cells slots Q (F0 m (pc + 3) ls (.long v :: rest))) : W p l e R s m args below meth c H locs cells slots Q (F0 m pc ls st0) := hm_callL hr hS kk
theorem hm_callQr (v : Option Nat) (hr : va_Run p l e R s m args below meth c H locs cells slots 0 0 (F0 m pc ls st0) rest (hm_QQ G L (v, S1) a) (AL L)) (hS : va_S (AL L) s.heap H locs)
    (kk : ∀ (H1 : Heap) (locs1 : List Loc), va_P (gD G) vwCl (va_pl L (PF G S1)) H1 → va_S (AL L) s.heap H1 locs1 → W p l e R s m args below meth c H1 locs1 cells slots Q (F0 m (pc + 3) ls (va_rf v :: rest))) : W p l e R s m args below meth c H locs cells slots Q (F0 m pc ls st0) := hm_callQ hr hS kk
end HM5
