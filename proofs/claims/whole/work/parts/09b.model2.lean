/-! ===== the model over its cells, second part (laid by program) ===== -/
theorem hdv_X9_make : yX9_make.cls = RX9 ∧ yX9_make.cls ≠ "java/lang/invoke/MethodHandle" ∧ yX9_make.cls ≠ "java/lang/invoke/VarHandle" ∧ (parseMethodDescriptor yX9_make.desc).map (fun d => d.parameters.length) = some 4 := by decide +kernel
theorem iw_X9_make_X9 : ∀ w ∈ u_ws RX9 TX9 12, w ∈ wsX9_make := by decide +kernel
def h_X9_make_j132 (x : Nat) (p0 : Int32) (p1 : Int32) (p2 : Int32) (p3 : Int32) (S_91 : HS) (S : HS) : Int32 × HS :=
  (1, (hwA S_91 ((hsQ S_91 x 8).getD 0) p1.toNatClampNeg ((h_X9_thing x p0 p2 (h_X9_begin x S)).1)))
def ok_X9_make_j132 (L : List Nat) (x : Nat) (p0 : Int32) (p1 : Int32) (p2 : Int32) (p3 : Int32) (S_91 : HS) (S : HS) : Prop :=
  (x ∈ L ∧ hsK S_91 x = 7 ∧ hsQ S_91 x 8 ≠ none) ∧ ((((hsQ S_91 x 8).getD 0) ∈ L ∧ hsK S_91 ((hsQ S_91 x 8).getD 0) = 8 ∧ vp_in p1 (hsN S_91 ((hsQ S_91 x 8).getD 0))) ∧ (True))
def h_X9_make_l91 (x : Nat) (p0 : Int32) (p1 : Int32) (p2 : Int32) (p3 : Int32) (S : HS) : Nat → Int32 → HS → Int32 × HS
  | 0, _, _ => (0, S)
  | n + 1, y_91_6, S_91 =>
  if p0 = 7 then if p2 ≤ y_91_6 then h_X9_make_j132 x p0 p1 p2 p3 S_91 S
   else h_X9_make_l91 x p0 p1 p2 p3 S n (y_91_6 + 1) (hwJ ((h_X9_thing x 0 p3 S_91).2) ((hsQ S_91 x 6).getD 0) ((hsA S_91 ((hsQ S_91 x 2).getD 0) ((h_X9_thing x p0 p2 (h_X9_begin x S)).1).toNatClampNeg) + y_91_6).toNatClampNeg (((h_X9_thing x 0 p3 S_91).1).toInt64))
  else h_X9_make_j132 x p0 p1 p2 p3 S_91 S
def ok_X9_make_l91 (L : List Nat) (x : Nat) (p0 : Int32) (p1 : Int32) (p2 : Int32) (p3 : Int32) (S : HS) : Nat → Int32 → HS → Prop
  | 0, _, _ => False
  | n + 1, y_91_6, S_91 =>
  ((p0 = 7) → (((p2 ≤ y_91_6) → (ok_X9_make_j132 L x p0 p1 p2 p3 S_91 S)) ∧
   (¬ (p2 ≤ y_91_6) → ((x ∈ L ∧ hsK S_91 x = 7 ∧ hsQ S_91 x 6 ≠ none) ∧ ((x ∈ L ∧ hsK S_91 x = 7 ∧ hsQ S_91 x 2 ≠ none) ∧ ((((hsQ S_91 x 2).getD 0) ∈ L ∧ hsK S_91 ((hsQ S_91 x 2).getD 0) = 8 ∧ vp_in ((h_X9_thing x p0 p2 (h_X9_begin x S)).1) (hsN S_91 ((hsQ S_91 x 2).getD 0))) ∧ ((x ∈ L ∧ hsK S_91 x = 7) ∧ ((ok_X9_thing L x 0 p3 S_91) ∧ ((((hsQ S_91 x 6).getD 0) ∈ L ∧ hsK ((h_X9_thing x 0 p3 S_91).2) ((hsQ S_91 x 6).getD 0) = 9 ∧ vp_in ((hsA S_91 ((hsQ S_91 x 2).getD 0) ((h_X9_thing x p0 p2 (h_X9_begin x S)).1).toNatClampNeg) + y_91_6) (hsN ((h_X9_thing x 0 p3 S_91).2) ((hsQ S_91 x 6).getD 0))) ∧ (ok_X9_make_l91 L x p0 p1 p2 p3 S n (y_91_6 + 1) (hwJ ((h_X9_thing x 0 p3 S_91).2) ((hsQ S_91 x 6).getD 0) ((hsA S_91 ((hsQ S_91 x 2).getD 0) ((h_X9_thing x p0 p2 (h_X9_begin x S)).1).toNatClampNeg) + y_91_6).toNatClampNeg (((h_X9_thing x 0 p3 S_91).1).toInt64)))))))))))) ∧
  (¬ (p0 = 7) → (ok_X9_make_j132 L x p0 p1 p2 p3 S_91 S))
def h_X9_make_j80 (x : Nat) (p0 : Int32) (p1 : Int32) (p2 : Int32) (p3 : Int32) (S : HS) : Int32 × HS :=
  h_X9_make_l91 x p0 p1 p2 p3 S (p2.toNatClampNeg + 1) 0 ((h_X9_thing x p0 p2 (h_X9_begin x S)).2)
def ok_X9_make_j80 (L : List Nat) (x : Nat) (p0 : Int32) (p1 : Int32) (p2 : Int32) (p3 : Int32) (S : HS) : Prop :=
  (x ∈ L ∧ hsK (h_X9_begin x S) x = 7) ∧ ((ok_X9_thing L x p0 p2 (h_X9_begin x S)) ∧ (ok_X9_make_l91 L x p0 p1 p2 p3 S (p2.toNatClampNeg + 1) 0 ((h_X9_thing x p0 p2 (h_X9_begin x S)).2)))
def h_X9_make_j63 (x : Nat) (p0 : Int32) (p1 : Int32) (p2 : Int32) (p3 : Int32) (S : HS) : Int32 × HS :=
  if p0 = 7 then if 0 ≤ p3 then h_X9_make_j80 x p0 p1 p2 p3 S
   else ((h_X9_fails x 3 (h_X9_begin x S)).1, (h_X9_fails x 3 (h_X9_begin x S)).2)
  else h_X9_make_j80 x p0 p1 p2 p3 S
def ok_X9_make_j63 (L : List Nat) (x : Nat) (p0 : Int32) (p1 : Int32) (p2 : Int32) (p3 : Int32) (S : HS) : Prop :=
  ((p0 = 7) → (((0 ≤ p3) → (ok_X9_make_j80 L x p0 p1 p2 p3 S)) ∧
   (¬ (0 ≤ p3) → ((x ∈ L ∧ hsK (h_X9_begin x S) x = 7) ∧ ((ok_X9_fails L x 3 (h_X9_begin x S)) ∧ (True)))))) ∧
  (¬ (p0 = 7) → (ok_X9_make_j80 L x p0 p1 p2 p3 S))
def h_X9_make_j53 (x : Nat) (p0 : Int32) (p1 : Int32) (p2 : Int32) (p3 : Int32) (S : HS) : Int32 × HS :=
  if 10 ≤ p0 then h_X9_make_j63 x p0 p1 p2 p3 S
  else if p2 < 0 then ((h_X9_fails x 3 (h_X9_begin x S)).1, (h_X9_fails x 3 (h_X9_begin x S)).2)
   else h_X9_make_j63 x p0 p1 p2 p3 S
def ok_X9_make_j53 (L : List Nat) (x : Nat) (p0 : Int32) (p1 : Int32) (p2 : Int32) (p3 : Int32) (S : HS) : Prop :=
  ((10 ≤ p0) → (ok_X9_make_j63 L x p0 p1 p2 p3 S)) ∧
  (¬ (10 ≤ p0) → (((p2 < 0) → ((x ∈ L ∧ hsK (h_X9_begin x S) x = 7) ∧ ((ok_X9_fails L x 3 (h_X9_begin x S)) ∧ (True)))) ∧
   (¬ (p2 < 0) → (ok_X9_make_j63 L x p0 p1 p2 p3 S))))
def h_X9_make_j33 (x : Nat) (p0 : Int32) (p1 : Int32) (p2 : Int32) (p3 : Int32) (S : HS) : Int32 × HS :=
  if p0 = 7 then if p3 ≤ 64 then h_X9_make_j53 x p0 p1 p2 p3 S
   else ((h_X9_fails x 8 (h_X9_begin x S)).1, (h_X9_fails x 8 (h_X9_begin x S)).2)
  else h_X9_make_j53 x p0 p1 p2 p3 S
def ok_X9_make_j33 (L : List Nat) (x : Nat) (p0 : Int32) (p1 : Int32) (p2 : Int32) (p3 : Int32) (S : HS) : Prop :=
  ((p0 = 7) → (((p3 ≤ 64) → (ok_X9_make_j53 L x p0 p1 p2 p3 S)) ∧
   (¬ (p3 ≤ 64) → ((x ∈ L ∧ hsK (h_X9_begin x S) x = 7) ∧ ((ok_X9_fails L x 8 (h_X9_begin x S)) ∧ (True)))))) ∧
  (¬ (p0 = 7) → (ok_X9_make_j53 L x p0 p1 p2 p3 S))
def h_X9_make (x : Nat) (p0 : Int32) (p1 : Int32) (p2 : Int32) (p3 : Int32) (S : HS) : Int32 × HS :=
  if (s_X9_in p0 0 12) = 0 then ((h_X9_fails x 8 (h_X9_begin x S)).1, (h_X9_fails x 8 (h_X9_begin x S)).2)
  else if (s_X9_isCell p1) = 0 then ((h_X9_fails x 8 (h_X9_begin x S)).1, (h_X9_fails x 8 (h_X9_begin x S)).2)
   else if 10 ≤ p0 then h_X9_make_j33 x p0 p1 p2 p3 S
    else if 64 < p2 then ((h_X9_fails x 8 (h_X9_begin x S)).1, (h_X9_fails x 8 (h_X9_begin x S)).2)
     else h_X9_make_j33 x p0 p1 p2 p3 S
def ok_X9_make (L : List Nat) (x : Nat) (p0 : Int32) (p1 : Int32) (p2 : Int32) (p3 : Int32) (S : HS) : Prop :=
  (x ∈ L ∧ hsK S x = 7) ∧ ((ok_X9_begin L x S) ∧ ((((s_X9_in p0 0 12) = 0) → ((x ∈ L ∧ hsK (h_X9_begin x S) x = 7) ∧ ((ok_X9_fails L x 8 (h_X9_begin x S)) ∧ (True)))) ∧
  (¬ ((s_X9_in p0 0 12) = 0) → ((((s_X9_isCell p1) = 0) → ((x ∈ L ∧ hsK (h_X9_begin x S) x = 7) ∧ ((ok_X9_fails L x 8 (h_X9_begin x S)) ∧ (True)))) ∧
   (¬ ((s_X9_isCell p1) = 0) → (((10 ≤ p0) → (ok_X9_make_j33 L x p0 p1 p2 p3 S)) ∧
    (¬ (10 ≤ p0) → (((64 < p2) → ((x ∈ L ∧ hsK (h_X9_begin x S) x = 7) ∧ ((ok_X9_fails L x 8 (h_X9_begin x S)) ∧ (True)))) ∧
     (¬ (64 < p2) → (ok_X9_make_j33 L x p0 p1 p2 p3 S))))))))))
set_option maxHeartbeats 4000000 in
set_option maxRecDepth 100000 in
theorem hm_X9_make (l : Launch) (G : GE) (L : List Nat) (S : HS) (x : Nat) (p0 : Int32) (p1 : Int32) (p2 : Int32) (p3 : Int32) (hok : ok_X9_make L x p0 p1 p2 p3 S) : HmI l G yX9_make wsX9_make 2 42 [.ref x, .int p0, .int p1, .int p2, .int p3] L S (h_X9_make x p0 p1 p2 p3 S) := by
  refine Met.ofW (cc := cX9_make) (maxL := 7) (ret := (some .int)) (by decide) rfl ?_
  intro p e s m args below meth c s₁ B hml hv
  obtain ⟨rfl, hP, hK, hnd, hE⟩ := hv
  have hx := B.exec
  have hb := B.bytes
  have hr := B.returns
  have hts := atoms_spec (ws := wsX9_make) B.pre
  have hown : s.vm.findClass RX9 = some m.cls := findClass_of_methodNamed B.named
  have hlocks := B.notSynchronized
  have hD := nd_D hnd
  have hS : va_S (AL L) s.heap s.heap [] := va_S.rf
  have hl := lv_entry ([.ref x, .int p0, .int p1, .int p2, .int p3]) (n := 7) (Nat.le_of_ble_eq_true rfl)
  rw [lg_entry_eq]
  generalize (lg_sl ([.ref x, .int p0, .int p1, .int p2, .int p3]) ++ List.replicate (7 - (lg_sl ([.ref x, .int p0, .int p1, .int p2, .int p3])).length) Slot.unset).toArray = ls at hl ⊢
  have hl : lv_has ls 7 [(0, .ref x), (1, .int p0), (2, .int p1), (3, .int p2), (4, .int p3)] := hl
  obtain ⟨Z, hZ⟩ : ∃ z, z = MQ below (hm_QI G L (h_X9_make x p0 p1 p2 p3 S)) ([.ref x, .int p0, .int p1, .int p2, .int p3] : List Value).toArray s 0 0 (AL L) := ⟨_, rfl⟩
  rw [← hZ]
  refine lv_aload_n hx hb dX9_make_0 rfl (lv_at hl 0 rfl) ?_
  obtain ⟨h_1k, hok⟩ := hok
  obtain ⟨h_1, hok⟩ := hok
  refine hm_callV (G := G) (a := ([.ref x] : List Value).toArray) (pr := (h_X9_begin x S)) (rest := []) ?_ hS (fun H locs hP hS => ?_)
  ·
    exact va_runV (As := []) (rest := []) ⟨hx, hb, hml, hown, hts⟩ (hm_X9_begin l G L S x h_1) (cwV 0 hts gX9_make_X9_begin rfl rfl rfl hdv_X9_begin ⟨Nat.le_of_ble_eq_true rfl, Nat.le_of_ble_eq_true rfl⟩) ⟨HW.fb, hp_recv hK hP h_1k.1 (PF_7 h_1k.2) rfl, fun U hU hW => ⟨rfl, HW.call hP hK hnd hE hS U hU hW⟩⟩ rfl rfl hl.1 rfl (lv_room (Nat.le_of_ble_eq_true rfl)) dX9_make_1 ⟨Nat.le_refl 0, Nat.le_refl 0⟩
  ·
    refine lv_iload_n hx hb dX9_make_4 rfl (lv_at hl 1 rfl) ?_
    refine lv_iconst (v := 0) hx hb dX9_make_5 (by decide) ?_
    refine lv_bipush (v := 12) hx hb dX9_make_6 (by decide) ?_
    refine pm_callI (va_runS (As := [.int p0, .int 0, .int 12]) (rest := []) ⟨hx, hb, hml, hown, hts⟩ (pm_X9_in l p0 0 12) (va_cwS 3 hts gX9_make_X9_in rfl rfl rfl hd_X9_in ⟨Nat.le_of_ble_eq_true rfl, Nat.le_of_ble_eq_true rfl⟩) ⟨pm_fbT, fun U hU hW => ⟨rfl, trivial⟩⟩ rfl rfl hl.1 rfl (lv_room (Nat.le_of_ble_eq_true rfl)) dX9_make_8 ⟨Nat.le_refl 0, Nat.le_refl 0⟩) hS (fun H locs _ hk9 hS => ?_)
    replace hP := P_keep hP hk9
    refine lv_if_eq (tgt := 46) hx hb dX9_make_11 (by decide) (fun c_11 => ?_) (fun c_11 => ?_)
    ·
      have hok := (hok).1 c_11
      refine lv_aload_n hx hb dX9_make_46 rfl (lv_at hl 0 rfl) ?_
      refine lv_bipush (v := 8) hx hb dX9_make_47 (by decide) ?_
      obtain ⟨h_49k, hok⟩ := hok
      obtain ⟨h_49, hok⟩ := hok
      refine hm_callI (G := G) (a := ([.ref x, .int 8] : List Value).toArray) (pr := (h_X9_fails x 8 (h_X9_begin x S))) (rest := []) ?_ hS (fun H locs hP hS => ?_)
      ·
        exact va_runV (As := [.int 8]) (rest := []) ⟨hx, hb, hml, hown, hts⟩ (hm_X9_fails l G L (h_X9_begin x S) x 8 h_49) (cwV 1 hts gX9_make_X9_fails rfl rfl rfl hdv_X9_fails ⟨Nat.le_of_ble_eq_true rfl, Nat.le_of_ble_eq_true rfl⟩) ⟨HW.fb, hp_recv hK hP h_49k.1 (PF_7 h_49k.2) rfl, fun U hU hW => ⟨rfl, HW.call hP hK hnd hE hS U hU hW⟩⟩ rfl rfl hl.1 rfl (lv_room (Nat.le_of_ble_eq_true rfl)) dX9_make_49 ⟨Nat.le_refl 0, Nat.le_refl 0⟩
      ·
        rw [hZ]
        exact hm_iret hx hb hr hlocks hS hP hK hnd hE ((if_pos c_11)) dX9_make_52
    ·
      have hok := (hok).2 c_11
      refine lv_iload_n hx hb dX9_make_14 rfl (lv_at hl 2 rfl) ?_
      refine pm_callI (va_runS (As := [.int p1]) (rest := []) ⟨hx, hb, hml, hown, hts⟩ (pm_X9_isCell l p1) (va_cwS 1 hts gX9_make_X9_isCell rfl rfl rfl hd_X9_isCell ⟨Nat.le_of_ble_eq_true rfl, Nat.le_of_ble_eq_true rfl⟩) ⟨pm_fbT, fun U hU hW => ⟨rfl, trivial⟩⟩ rfl rfl hl.1 rfl (lv_room (Nat.le_of_ble_eq_true rfl)) dX9_make_15 ⟨Nat.le_refl 0, Nat.le_refl 0⟩) hS (fun H locs _ hk9 hS => ?_)
      replace hP := P_keep hP hk9
      refine lv_if_eq (tgt := 46) hx hb dX9_make_18 (by decide) (fun c_18 => ?_) (fun c_18 => ?_)
      ·
        have hok := (hok).1 c_18
        refine lv_aload_n hx hb dX9_make_46 rfl (lv_at hl 0 rfl) ?_
        refine lv_bipush (v := 8) hx hb dX9_make_47 (by decide) ?_
        obtain ⟨h_49k, hok⟩ := hok
        obtain ⟨h_49, hok⟩ := hok
        refine hm_callI (G := G) (a := ([.ref x, .int 8] : List Value).toArray) (pr := (h_X9_fails x 8 (h_X9_begin x S))) (rest := []) ?_ hS (fun H locs hP hS => ?_)
        ·
          exact va_runV (As := [.int 8]) (rest := []) ⟨hx, hb, hml, hown, hts⟩ (hm_X9_fails l G L (h_X9_begin x S) x 8 h_49) (cwV 1 hts gX9_make_X9_fails rfl rfl rfl hdv_X9_fails ⟨Nat.le_of_ble_eq_true rfl, Nat.le_of_ble_eq_true rfl⟩) ⟨HW.fb, hp_recv hK hP h_49k.1 (PF_7 h_49k.2) rfl, fun U hU hW => ⟨rfl, HW.call hP hK hnd hE hS U hU hW⟩⟩ rfl rfl hl.1 rfl (lv_room (Nat.le_of_ble_eq_true rfl)) dX9_make_49 ⟨Nat.le_refl 0, Nat.le_refl 0⟩
        ·
          rw [hZ]
          exact hm_iret hx hb hr hlocks hS hP hK hnd hE (((if_neg c_11).trans (if_pos c_18))) dX9_make_52
      ·
        have hok := (hok).2 c_18
        refine lv_iload_n hx hb dX9_make_21 rfl (lv_at hl 1 rfl) ?_
        refine lv_bipush (v := 10) hx hb dX9_make_22 (by decide) ?_
        have K_33 : ∀ (H : Heap) (locs : List Loc), va_P (gD G) vwCl (va_pl L (PF G (h_X9_begin x S))) H → va_S (AL L) s.heap H locs → ∀ (ls : Array Slot), lv_has ls 7 [(0, .ref x), (1, .int p0), (2, .int p1), (3, .int p2), (4, .int p3)] → ok_X9_make_j33 L x p0 p1 p2 p3 S → h_X9_make x p0 p1 p2 p3 S = h_X9_make_j33 x p0 p1 p2 p3 S → W p l e (pm_R 2 42) s m ([.ref x, .int p0, .int p1, .int p2, .int p3] : List Value).toArray below meth c H locs 0 0 Z (F0 m 33 ls []) := by
          intro H locs hP hS ls hl hok hK_33
          refine lv_iload_n hx hb dX9_make_33 rfl (lv_at hl 1 rfl) ?_
          refine lv_bipush (v := 7) hx hb dX9_make_34 (by decide) ?_
          have K_53 : ∀ (H : Heap) (locs : List Loc), va_P (gD G) vwCl (va_pl L (PF G (h_X9_begin x S))) H → va_S (AL L) s.heap H locs → ∀ (ls : Array Slot), lv_has ls 7 [(0, .ref x), (1, .int p0), (2, .int p1), (3, .int p2), (4, .int p3)] → ok_X9_make_j53 L x p0 p1 p2 p3 S → h_X9_make x p0 p1 p2 p3 S = h_X9_make_j53 x p0 p1 p2 p3 S → W p l e (pm_R 2 42) s m ([.ref x, .int p0, .int p1, .int p2, .int p3] : List Value).toArray below meth c H locs 0 0 Z (F0 m 53 ls []) := by
            intro H locs hP hS ls hl hok hK_53
            refine lv_iload_n hx hb dX9_make_53 rfl (lv_at hl 1 rfl) ?_
            refine lv_bipush (v := 10) hx hb dX9_make_54 (by decide) ?_
            have K_63 : ∀ (H : Heap) (locs : List Loc), va_P (gD G) vwCl (va_pl L (PF G (h_X9_begin x S))) H → va_S (AL L) s.heap H locs → ∀ (ls : Array Slot), lv_has ls 7 [(0, .ref x), (1, .int p0), (2, .int p1), (3, .int p2), (4, .int p3)] → ok_X9_make_j63 L x p0 p1 p2 p3 S → h_X9_make x p0 p1 p2 p3 S = h_X9_make_j63 x p0 p1 p2 p3 S → W p l e (pm_R 2 42) s m ([.ref x, .int p0, .int p1, .int p2, .int p3] : List Value).toArray below meth c H locs 0 0 Z (F0 m 63 ls []) := by
              intro H locs hP hS ls hl hok hK_63
              refine lv_iload_n hx hb dX9_make_63 rfl (lv_at hl 1 rfl) ?_
              refine lv_bipush (v := 7) hx hb dX9_make_64 (by decide) ?_
              have K_80 : ∀ (H : Heap) (locs : List Loc), va_P (gD G) vwCl (va_pl L (PF G (h_X9_begin x S))) H → va_S (AL L) s.heap H locs → ∀ (ls : Array Slot), lv_has ls 7 [(0, .ref x), (1, .int p0), (2, .int p1), (3, .int p2), (4, .int p3)] → ok_X9_make_j80 L x p0 p1 p2 p3 S → h_X9_make x p0 p1 p2 p3 S = h_X9_make_j80 x p0 p1 p2 p3 S → W p l e (pm_R 2 42) s m ([.ref x, .int p0, .int p1, .int p2, .int p3] : List Value).toArray below meth c H locs 0 0 Z (F0 m 80 ls []) := by
                intro H locs hP hS ls hl hok hK_80
                refine lv_aload_n hx hb dX9_make_80 rfl (lv_at hl 0 rfl) ?_
                refine lv_iload_n hx hb dX9_make_81 rfl (lv_at hl 1 rfl) ?_
                refine lv_iload_n hx hb dX9_make_82 rfl (lv_at hl 3 rfl) ?_
                obtain ⟨h_83k, hok⟩ := hok
                obtain ⟨h_83, hok⟩ := hok
                refine hm_callI (G := G) (a := ([.ref x, .int p0, .int p2] : List Value).toArray) (pr := (h_X9_thing x p0 p2 (h_X9_begin x S))) (rest := []) ?_ hS (fun H locs hP hS => ?_)
                ·
                  exact va_runV (As := [.int p0, .int p2]) (rest := []) ⟨hx, hb, hml, hown, hts⟩ (hm_X9_thing l G L (h_X9_begin x S) x p0 p2 h_83) (cwV 2 hts gX9_make_X9_thing rfl rfl rfl hdv_X9_thing ⟨Nat.le_of_ble_eq_true rfl, Nat.le_of_ble_eq_true rfl⟩) ⟨HW.fb, hp_recv hK hP h_83k.1 (PF_7 h_83k.2) rfl, fun U hU hW => ⟨rfl, HW.call hP hK hnd hE hS U hU hW⟩⟩ rfl rfl hl.1 rfl (lv_room (Nat.le_of_ble_eq_true rfl)) dX9_make_83 ⟨Nat.le_refl 0, Nat.le_refl 0⟩
                ·
                  refine lv_istore (lv' := [(5, .int ((h_X9_thing x p0 p2 (h_X9_begin x S)).1)), (0, .ref x), (1, .int p0), (2, .int p1), (3, .int p2), (4, .int p3)]) hx hb dX9_make_86 hl (by decide) rfl (fun ls hl => ?_)
                  refine lv_iconst (v := 0) hx hb dX9_make_88 (by decide) ?_
                  refine lv_istore (lv' := [(6, .int 0), (5, .int ((h_X9_thing x p0 p2 (h_X9_begin x S)).1)), (0, .ref x), (1, .int p0), (2, .int p1), (3, .int p2), (4, .int p3)]) hx hb dX9_make_89 hl (by decide) rfl (fun ls hl => ?_)
                  have K_91 : ∀ (n : Nat) (y_91_6 : Int32) (S_91 : HS) (H : Heap) (locs : List Loc), va_P (gD G) vwCl (va_pl L (PF G S_91)) H → va_S (AL L) s.heap H locs → ∀ (ls : Array Slot), lv_has ls 7 [(0, .ref x), (1, .int p0), (2, .int p1), (3, .int p2), (4, .int p3), (5, .int ((h_X9_thing x p0 p2 (h_X9_begin x S)).1)), (6, .int y_91_6)] → ok_X9_make_l91 L x p0 p1 p2 p3 S n y_91_6 S_91 → h_X9_make x p0 p1 p2 p3 S = h_X9_make_l91 x p0 p1 p2 p3 S n y_91_6 S_91 → W p l e (pm_R 2 42) s m ([.ref x, .int p0, .int p1, .int p2, .int p3] : List Value).toArray below meth c H locs 0 0 Z (F0 m 91 ls []) := by
                    intro n
                    induction n with
                    | zero =>
                      intro y_91_6 S_91 H locs hP hS ls hl hok hK_91
                      exact False.elim hok
                    | succ n ih =>
                      intro y_91_6 S_91 H locs hP hS ls hl hok hK_91
                      refine lv_iload_n hx hb dX9_make_91 rfl (lv_at hl 1 rfl) ?_
                      refine lv_bipush (v := 7) hx hb dX9_make_92 (by decide) ?_
                      have K_132 : ∀ (H : Heap) (locs : List Loc), va_P (gD G) vwCl (va_pl L (PF G S_91)) H → va_S (AL L) s.heap H locs → ∀ (ls : Array Slot), lv_has ls 7 [(0, .ref x), (2, .int p1), (5, .int ((h_X9_thing x p0 p2 (h_X9_begin x S)).1))] → ok_X9_make_j132 L x p0 p1 p2 p3 S_91 S → h_X9_make x p0 p1 p2 p3 S = h_X9_make_j132 x p0 p1 p2 p3 S_91 S → W p l e (pm_R 2 42) s m ([.ref x, .int p0, .int p1, .int p2, .int p3] : List Value).toArray below meth c H locs 0 0 Z (F0 m 132 ls []) := by
                        intro H locs hP hS ls hl hok hK_132
                        refine lv_aload_n hx hb dX9_make_132 rfl (lv_at hl 0 rfl) ?_
                        obtain ⟨h_133, hok⟩ := hok
                        refine hp_getR (ci := 7) (C := RX9) (T := TX9) (N := 12) hx hb hts iw_X9_make_X9 hown hK hP h_133.1 (PF_7 h_133.2.1) rfl 8 (by decide) (hts _ (List.mem_of_getElem? (i := 3) rfl)) (fun _ h9 => h9) rfl h_133.2.2 dX9_make_133 ?_
                        refine lv_iload_n hx hb dX9_make_136 rfl (lv_at hl 1 rfl) ?_
                        refine lv_iload hx hb dX9_make_137 (lv_at hl 2 rfl) ?_
                        obtain ⟨h_139, hok⟩ := hok
                        refine hp_iast (g2 := PF G (hwA S_91 ((hsQ S_91 x 8).getD 0) p1.toNatClampNeg ((h_X9_thing x p0 p2 (h_X9_begin x S)).1))) hx hb hK hP (hD _) hS h_139.1 0 (PF_8 h_139.2.1) rfl h_139.2.2 (PF_sA h_139.2.1) (fun _ hb9 => PF_wA hb9) dX9_make_139 (fun H locs hP hS => ?_)
                        refine lv_iconst (v := 1) hx hb dX9_make_140 (by decide) ?_
                        rw [hZ]
                        exact hm_iret hx hb hr hlocks hS hP hK hnd hE ((hK_132)) dX9_make_141
                      refine lv_icmp_ne (tgt := 132) hx hb dX9_make_94 (by decide) (fun c_94 => ?_) (fun c_94 => ?_)
                      ·
                        have hok := (hok).2 c_94
                        exact K_132 _ _ hP hS ls (lv_sub hl [0, 2, 5] rfl) hok (((hK_91).trans (if_neg c_94)))
                      ·
                        have hok := (hok).1 c_94
                        refine lv_iload hx hb dX9_make_97 (lv_at hl 6 rfl) ?_
                        refine lv_iload_n hx hb dX9_make_99 rfl (lv_at hl 3 rfl) ?_
                        refine lv_icmp_ge (tgt := 132) hx hb dX9_make_100 (by decide) (fun c_100 => ?_) (fun c_100 => ?_)
                        ·
                          have hok := (hok).1 c_100
                          exact K_132 _ _ hP hS ls (lv_sub hl [0, 2, 5] rfl) hok (((hK_91).trans ((if_pos c_94).trans (if_pos c_100))))
                        ·
                          have hok := (hok).2 c_100
                          refine lv_aload_n hx hb dX9_make_103 rfl (lv_at hl 0 rfl) ?_
                          obtain ⟨h_104, hok⟩ := hok
                          refine hp_getR (ci := 7) (C := RX9) (T := TX9) (N := 12) hx hb hts iw_X9_make_X9 hown hK hP h_104.1 (PF_7 h_104.2.1) rfl 6 (by decide) (hts _ (List.mem_of_getElem? (i := 1) rfl)) (fun _ h9 => h9) rfl h_104.2.2 dX9_make_104 ?_
                          refine lv_aload_n hx hb dX9_make_107 rfl (lv_at hl 0 rfl) ?_
                          obtain ⟨h_108, hok⟩ := hok
                          refine hp_getR (ci := 7) (C := RX9) (T := TX9) (N := 12) hx hb hts iw_X9_make_X9 hown hK hP h_108.1 (PF_7 h_108.2.1) rfl 2 (by decide) (hts _ (List.mem_of_getElem? (i := 2) rfl)) (fun _ h9 => h9) rfl h_108.2.2 dX9_make_108 ?_
                          refine lv_iload hx hb dX9_make_111 (lv_at hl 5 rfl) ?_
                          obtain ⟨h_113, hok⟩ := hok
                          refine hp_iald hx hb hK hP h_113.1 0 (PF_8 h_113.2.1) rfl h_113.2.2 dX9_make_113 ?_
                          refine lv_iload hx hb dX9_make_114 (lv_at hl 6 rfl) ?_
                          refine lv_iadd hx hb dX9_make_116 ?_
                          refine lv_aload_n hx hb dX9_make_117 rfl (lv_at hl 0 rfl) ?_
                          refine lv_iconst (v := 0) hx hb dX9_make_118 (by decide) ?_
                          refine lv_iload hx hb dX9_make_119 (lv_at hl 4 rfl) ?_
                          obtain ⟨h_121k, hok⟩ := hok
                          obtain ⟨h_121, hok⟩ := hok
                          refine hm_callI (G := G) (a := ([.ref x, .int 0, .int p3] : List Value).toArray) (pr := (h_X9_thing x 0 p3 S_91)) (rest := [.int ((hsA S_91 ((hsQ S_91 x 2).getD 0) ((h_X9_thing x p0 p2 (h_X9_begin x S)).1).toNatClampNeg) + y_91_6), .ref ((hsQ S_91 x 6).getD 0)]) ?_ hS (fun H locs hP hS => ?_)
                          ·
                            exact va_runV (As := [.int 0, .int p3]) (rest := [.int ((hsA S_91 ((hsQ S_91 x 2).getD 0) ((h_X9_thing x p0 p2 (h_X9_begin x S)).1).toNatClampNeg) + y_91_6), .ref ((hsQ S_91 x 6).getD 0)]) ⟨hx, hb, hml, hown, hts⟩ (hm_X9_thing l G L S_91 x 0 p3 h_121) (cwV 2 hts gX9_make_X9_thing rfl rfl rfl hdv_X9_thing ⟨Nat.le_of_ble_eq_true rfl, Nat.le_of_ble_eq_true rfl⟩) ⟨HW.fb, hp_recv hK hP h_121k.1 (PF_7 h_121k.2) rfl, fun U hU hW => ⟨rfl, HW.call hP hK hnd hE hS U hU hW⟩⟩ rfl rfl hl.1 rfl (lv_room (Nat.le_of_ble_eq_true rfl)) dX9_make_121 ⟨Nat.le_refl 0, Nat.le_refl 0⟩
                          ·
                            refine lv_i2l (v := ((h_X9_thing x 0 p3 S_91).1).toInt64) hx hb dX9_make_124 rfl ?_
                            obtain ⟨h_125, hok⟩ := hok
                            refine hp_last (g2 := PF G (hwJ ((h_X9_thing x 0 p3 S_91).2) ((hsQ S_91 x 6).getD 0) ((hsA S_91 ((hsQ S_91 x 2).getD 0) ((h_X9_thing x p0 p2 (h_X9_begin x S)).1).toNatClampNeg) + y_91_6).toNatClampNeg (((h_X9_thing x 0 p3 S_91).1).toInt64))) hx hb hK hP (hD _) hS h_125.1 1 (PF_9 h_125.2.1) rfl h_125.2.2 (PF_sJ h_125.2.1) (fun _ hb9 => PF_wJ hb9) dX9_make_125 (fun H locs hP hS => ?_)
                            refine lv_iinc (v := y_91_6 + 1) (lv' := [(6, .int (y_91_6 + 1)), (0, .ref x), (1, .int p0), (2, .int p1), (3, .int p2), (4, .int p3), (5, .int ((h_X9_thing x p0 p2 (h_X9_begin x S)).1))]) hx hb dX9_make_126 hl (k := 6) rfl rfl (by decide) rfl (fun ls hl => ?_)
                            refine lv_goto (tgt := 91) hx hb dX9_make_129 (by decide) ?_
                            exact ih (y_91_6 + 1) (hwJ ((h_X9_thing x 0 p3 S_91).2) ((hsQ S_91 x 6).getD 0) ((hsA S_91 ((hsQ S_91 x 2).getD 0) ((h_X9_thing x p0 p2 (h_X9_begin x S)).1).toNatClampNeg) + y_91_6).toNatClampNeg (((h_X9_thing x 0 p3 S_91).1).toInt64)) _ _ hP hS ls (lv_sub hl [1, 2, 3, 4, 5, 6, 0] rfl) hok (((hK_91).trans ((if_pos c_94).trans (if_neg c_100))))
                  exact K_91 (p2.toNatClampNeg + 1) 0 ((h_X9_thing x p0 p2 (h_X9_begin x S)).2) _ _ hP hS ls (lv_sub hl [2, 3, 4, 5, 6, 1, 0] rfl) hok ((hK_80))
              refine lv_icmp_ne (tgt := 80) hx hb dX9_make_66 (by decide) (fun c_66 => ?_) (fun c_66 => ?_)
              ·
                have hok := (hok).2 c_66
                exact K_80 _ _ hP hS ls (lv_sub hl [0, 1, 2, 3, 4] rfl) hok (((hK_63).trans (if_neg c_66)))
              ·
                have hok := (hok).1 c_66
                refine lv_iload hx hb dX9_make_69 (lv_at hl 4 rfl) ?_
                refine lv_if_ge (tgt := 80) hx hb dX9_make_71 (by decide) (fun c_71 => ?_) (fun c_71 => ?_)
                ·
                  have hok := (hok).1 c_71
                  exact K_80 _ _ hP hS ls (lv_sub hl [0, 1, 2, 3, 4] rfl) hok (((hK_63).trans ((if_pos c_66).trans (if_pos c_71))))
                ·
                  have hok := (hok).2 c_71
                  refine lv_aload_n hx hb dX9_make_74 rfl (lv_at hl 0 rfl) ?_
                  refine lv_iconst (v := 3) hx hb dX9_make_75 (by decide) ?_
                  obtain ⟨h_76k, hok⟩ := hok
                  obtain ⟨h_76, hok⟩ := hok
                  refine hm_callI (G := G) (a := ([.ref x, .int 3] : List Value).toArray) (pr := (h_X9_fails x 3 (h_X9_begin x S))) (rest := []) ?_ hS (fun H locs hP hS => ?_)
                  ·
                    exact va_runV (As := [.int 3]) (rest := []) ⟨hx, hb, hml, hown, hts⟩ (hm_X9_fails l G L (h_X9_begin x S) x 3 h_76) (cwV 1 hts gX9_make_X9_fails rfl rfl rfl hdv_X9_fails ⟨Nat.le_of_ble_eq_true rfl, Nat.le_of_ble_eq_true rfl⟩) ⟨HW.fb, hp_recv hK hP h_76k.1 (PF_7 h_76k.2) rfl, fun U hU hW => ⟨rfl, HW.call hP hK hnd hE hS U hU hW⟩⟩ rfl rfl hl.1 rfl (lv_room (Nat.le_of_ble_eq_true rfl)) dX9_make_76 ⟨Nat.le_refl 0, Nat.le_refl 0⟩
                  ·
                    rw [hZ]
                    exact hm_iret hx hb hr hlocks hS hP hK hnd hE (((hK_63).trans ((if_pos c_66).trans (if_neg c_71)))) dX9_make_79
            refine lv_icmp_ge (tgt := 63) hx hb dX9_make_56 (by decide) (fun c_56 => ?_) (fun c_56 => ?_)
            ·
              have hok := (hok).1 c_56
              exact K_63 _ _ hP hS ls (lv_sub hl [0, 1, 2, 3, 4] rfl) hok (((hK_53).trans (if_pos c_56)))
            ·
              have hok := (hok).2 c_56
              refine lv_iload_n hx hb dX9_make_59 rfl (lv_at hl 3 rfl) ?_
              refine lv_if_lt (tgt := 74) hx hb dX9_make_60 (by decide) (fun c_60 => ?_) (fun c_60 => ?_)
              ·
                have hok := (hok).1 c_60
                refine lv_aload_n hx hb dX9_make_74 rfl (lv_at hl 0 rfl) ?_
                refine lv_iconst (v := 3) hx hb dX9_make_75 (by decide) ?_
                obtain ⟨h_76k, hok⟩ := hok
                obtain ⟨h_76, hok⟩ := hok
                refine hm_callI (G := G) (a := ([.ref x, .int 3] : List Value).toArray) (pr := (h_X9_fails x 3 (h_X9_begin x S))) (rest := []) ?_ hS (fun H locs hP hS => ?_)
                ·
                  exact va_runV (As := [.int 3]) (rest := []) ⟨hx, hb, hml, hown, hts⟩ (hm_X9_fails l G L (h_X9_begin x S) x 3 h_76) (cwV 1 hts gX9_make_X9_fails rfl rfl rfl hdv_X9_fails ⟨Nat.le_of_ble_eq_true rfl, Nat.le_of_ble_eq_true rfl⟩) ⟨HW.fb, hp_recv hK hP h_76k.1 (PF_7 h_76k.2) rfl, fun U hU hW => ⟨rfl, HW.call hP hK hnd hE hS U hU hW⟩⟩ rfl rfl hl.1 rfl (lv_room (Nat.le_of_ble_eq_true rfl)) dX9_make_76 ⟨Nat.le_refl 0, Nat.le_refl 0⟩
                ·
                  rw [hZ]
                  exact hm_iret hx hb hr hlocks hS hP hK hnd hE (((hK_53).trans ((if_neg c_56).trans (if_pos c_60)))) dX9_make_79
              ·
                have hok := (hok).2 c_60
                exact K_63 _ _ hP hS ls (lv_sub hl [0, 1, 2, 3, 4] rfl) hok (((hK_53).trans ((if_neg c_56).trans (if_neg c_60))))
          refine lv_icmp_ne (tgt := 53) hx hb dX9_make_36 (by decide) (fun c_36 => ?_) (fun c_36 => ?_)
          ·
            have hok := (hok).2 c_36
            exact K_53 _ _ hP hS ls (lv_sub hl [0, 1, 2, 3, 4] rfl) hok (((hK_33).trans (if_neg c_36)))
          ·
            have hok := (hok).1 c_36
            refine lv_iload hx hb dX9_make_39 (lv_at hl 4 rfl) ?_
            refine lv_bipush (v := 64) hx hb dX9_make_41 (by decide) ?_
            refine lv_icmp_le (tgt := 53) hx hb dX9_make_43 (by decide) (fun c_43 => ?_) (fun c_43 => ?_)
            ·
              have hok := (hok).1 c_43
              exact K_53 _ _ hP hS ls (lv_sub hl [0, 1, 2, 3, 4] rfl) hok (((hK_33).trans ((if_pos c_36).trans (if_pos c_43))))
            ·
              have hok := (hok).2 c_43
              refine lv_aload_n hx hb dX9_make_46 rfl (lv_at hl 0 rfl) ?_
              refine lv_bipush (v := 8) hx hb dX9_make_47 (by decide) ?_
              obtain ⟨h_49k, hok⟩ := hok
              obtain ⟨h_49, hok⟩ := hok
              refine hm_callI (G := G) (a := ([.ref x, .int 8] : List Value).toArray) (pr := (h_X9_fails x 8 (h_X9_begin x S))) (rest := []) ?_ hS (fun H locs hP hS => ?_)
              ·
                exact va_runV (As := [.int 8]) (rest := []) ⟨hx, hb, hml, hown, hts⟩ (hm_X9_fails l G L (h_X9_begin x S) x 8 h_49) (cwV 1 hts gX9_make_X9_fails rfl rfl rfl hdv_X9_fails ⟨Nat.le_of_ble_eq_true rfl, Nat.le_of_ble_eq_true rfl⟩) ⟨HW.fb, hp_recv hK hP h_49k.1 (PF_7 h_49k.2) rfl, fun U hU hW => ⟨rfl, HW.call hP hK hnd hE hS U hU hW⟩⟩ rfl rfl hl.1 rfl (lv_room (Nat.le_of_ble_eq_true rfl)) dX9_make_49 ⟨Nat.le_refl 0, Nat.le_refl 0⟩
              ·
                rw [hZ]
                exact hm_iret hx hb hr hlocks hS hP hK hnd hE (((hK_33).trans ((if_pos c_36).trans (if_neg c_43)))) dX9_make_52
        refine lv_icmp_ge (tgt := 33) hx hb dX9_make_24 (by decide) (fun c_24 => ?_) (fun c_24 => ?_)
        ·
          have hok := (hok).1 c_24
          exact K_33 _ _ hP hS ls (lv_sub hl [0, 1, 2, 3, 4] rfl) hok (((if_neg c_11).trans ((if_neg c_18).trans (if_pos c_24))))
        ·
          have hok := (hok).2 c_24
          refine lv_iload_n hx hb dX9_make_27 rfl (lv_at hl 3 rfl) ?_
          refine lv_bipush (v := 64) hx hb dX9_make_28 (by decide) ?_
          refine lv_icmp_gt (tgt := 46) hx hb dX9_make_30 (by decide) (fun c_30 => ?_) (fun c_30 => ?_)
          ·
            have hok := (hok).1 c_30
            refine lv_aload_n hx hb dX9_make_46 rfl (lv_at hl 0 rfl) ?_
            refine lv_bipush (v := 8) hx hb dX9_make_47 (by decide) ?_
            obtain ⟨h_49k, hok⟩ := hok
            obtain ⟨h_49, hok⟩ := hok
            refine hm_callI (G := G) (a := ([.ref x, .int 8] : List Value).toArray) (pr := (h_X9_fails x 8 (h_X9_begin x S))) (rest := []) ?_ hS (fun H locs hP hS => ?_)
            ·
              exact va_runV (As := [.int 8]) (rest := []) ⟨hx, hb, hml, hown, hts⟩ (hm_X9_fails l G L (h_X9_begin x S) x 8 h_49) (cwV 1 hts gX9_make_X9_fails rfl rfl rfl hdv_X9_fails ⟨Nat.le_of_ble_eq_true rfl, Nat.le_of_ble_eq_true rfl⟩) ⟨HW.fb, hp_recv hK hP h_49k.1 (PF_7 h_49k.2) rfl, fun U hU hW => ⟨rfl, HW.call hP hK hnd hE hS U hU hW⟩⟩ rfl rfl hl.1 rfl (lv_room (Nat.le_of_ble_eq_true rfl)) dX9_make_49 ⟨Nat.le_refl 0, Nat.le_refl 0⟩
            ·
              rw [hZ]
              exact hm_iret hx hb hr hlocks hS hP hK hnd hE (((if_neg c_11).trans ((if_neg c_18).trans ((if_neg c_24).trans (if_pos c_30))))) dX9_make_52
          ·
            have hok := (hok).2 c_30
            exact K_33 _ _ hP hS ls (lv_sub hl [0, 1, 2, 3, 4] rfl) hok (((if_neg c_11).trans ((if_neg c_18).trans ((if_neg c_24).trans (if_neg c_30)))))
theorem hdv_X9_move : yX9_move.cls = RX9 ∧ yX9_move.cls ≠ "java/lang/invoke/MethodHandle" ∧ yX9_move.cls ≠ "java/lang/invoke/VarHandle" ∧ (parseMethodDescriptor yX9_move.desc).map (fun d => d.parameters.length) = some 2 := by decide +kernel
theorem iw_X9_move_X9 : ∀ w ∈ u_ws RX9 TX9 12, w ∈ wsX9_move := by decide +kernel
def h_X9_move (x : Nat) (p0 : Int32) (p1 : Int32) (S : HS) : Int32 × HS :=
  if (s_X9_in p0 (-1) 15) = 0 then ((h_X9_fails x 8 (h_X9_begin x S)).1, (h_X9_fails x 8 (h_X9_begin x S)).2)
  else if (s_X9_isCell p1) = 0 then ((h_X9_fails x 8 (h_X9_begin x S)).1, (h_X9_fails x 8 (h_X9_begin x S)).2)
   else if 0 ≤ p0 then (1, (hwA (h_X9_begin x S) ((hsQ (h_X9_begin x S) x 8).getD 0) p1.toNatClampNeg (hsA (h_X9_begin x S) ((hsQ (h_X9_begin x S) x 8).getD 0) p0.toNatClampNeg)))
    else (1, (hwA (h_X9_begin x S) ((hsQ (h_X9_begin x S) x 8).getD 0) p1.toNatClampNeg 0))
def ok_X9_move (L : List Nat) (x : Nat) (p0 : Int32) (p1 : Int32) (S : HS) : Prop :=
  (x ∈ L ∧ hsK S x = 7) ∧ ((ok_X9_begin L x S) ∧ ((((s_X9_in p0 (-1) 15) = 0) → ((x ∈ L ∧ hsK (h_X9_begin x S) x = 7) ∧ ((ok_X9_fails L x 8 (h_X9_begin x S)) ∧ (True)))) ∧
  (¬ ((s_X9_in p0 (-1) 15) = 0) → ((((s_X9_isCell p1) = 0) → ((x ∈ L ∧ hsK (h_X9_begin x S) x = 7) ∧ ((ok_X9_fails L x 8 (h_X9_begin x S)) ∧ (True)))) ∧
   (¬ ((s_X9_isCell p1) = 0) → ((x ∈ L ∧ hsK (h_X9_begin x S) x = 7 ∧ hsQ (h_X9_begin x S) x 8 ≠ none) ∧ (((0 ≤ p0) → ((x ∈ L ∧ hsK (h_X9_begin x S) x = 7 ∧ hsQ (h_X9_begin x S) x 8 ≠ none) ∧ ((((hsQ (h_X9_begin x S) x 8).getD 0) ∈ L ∧ hsK (h_X9_begin x S) ((hsQ (h_X9_begin x S) x 8).getD 0) = 8 ∧ vp_in p0 (hsN (h_X9_begin x S) ((hsQ (h_X9_begin x S) x 8).getD 0))) ∧ ((((hsQ (h_X9_begin x S) x 8).getD 0) ∈ L ∧ hsK (h_X9_begin x S) ((hsQ (h_X9_begin x S) x 8).getD 0) = 8 ∧ vp_in p1 (hsN (h_X9_begin x S) ((hsQ (h_X9_begin x S) x 8).getD 0))) ∧ (True))))) ∧
    (¬ (0 ≤ p0) → ((((hsQ (h_X9_begin x S) x 8).getD 0) ∈ L ∧ hsK (h_X9_begin x S) ((hsQ (h_X9_begin x S) x 8).getD 0) = 8 ∧ vp_in p1 (hsN (h_X9_begin x S) ((hsQ (h_X9_begin x S) x 8).getD 0))) ∧ (True))))))))))
set_option maxHeartbeats 4000000 in
set_option maxRecDepth 100000 in
theorem hm_X9_move (l : Launch) (G : GE) (L : List Nat) (S : HS) (x : Nat) (p0 : Int32) (p1 : Int32) (hok : ok_X9_move L x p0 p1 S) : HmI l G yX9_move wsX9_move 2 42 [.ref x, .int p0, .int p1] L S (h_X9_move x p0 p1 S) := by
  refine Met.ofW (cc := cX9_move) (maxL := 3) (ret := (some .int)) (by decide) rfl ?_
  intro p e s m args below meth c s₁ B hml hv
  obtain ⟨rfl, hP, hK, hnd, hE⟩ := hv
  have hx := B.exec
  have hb := B.bytes
  have hr := B.returns
  have hts := atoms_spec (ws := wsX9_move) B.pre
  have hown : s.vm.findClass RX9 = some m.cls := findClass_of_methodNamed B.named
  have hlocks := B.notSynchronized
  have hD := nd_D hnd
  have hS : va_S (AL L) s.heap s.heap [] := va_S.rf
  have hl := lv_entry ([.ref x, .int p0, .int p1]) (n := 3) (Nat.le_of_ble_eq_true rfl)
  rw [lg_entry_eq]
  generalize (lg_sl ([.ref x, .int p0, .int p1]) ++ List.replicate (3 - (lg_sl ([.ref x, .int p0, .int p1])).length) Slot.unset).toArray = ls at hl ⊢
  have hl : lv_has ls 3 [(0, .ref x), (1, .int p0), (2, .int p1)] := hl
  obtain ⟨Z, hZ⟩ : ∃ z, z = MQ below (hm_QI G L (h_X9_move x p0 p1 S)) ([.ref x, .int p0, .int p1] : List Value).toArray s 0 0 (AL L) := ⟨_, rfl⟩
  rw [← hZ]
  refine lv_aload_n hx hb dX9_move_0 rfl (lv_at hl 0 rfl) ?_
  obtain ⟨h_1k, hok⟩ := hok
  obtain ⟨h_1, hok⟩ := hok
  refine hm_callV (G := G) (a := ([.ref x] : List Value).toArray) (pr := (h_X9_begin x S)) (rest := []) ?_ hS (fun H locs hP hS => ?_)
  ·
    exact va_runV (As := []) (rest := []) ⟨hx, hb, hml, hown, hts⟩ (hm_X9_begin l G L S x h_1) (cwV 0 hts gX9_move_X9_begin rfl rfl rfl hdv_X9_begin ⟨Nat.le_of_ble_eq_true rfl, Nat.le_of_ble_eq_true rfl⟩) ⟨HW.fb, hp_recv hK hP h_1k.1 (PF_7 h_1k.2) rfl, fun U hU hW => ⟨rfl, HW.call hP hK hnd hE hS U hU hW⟩⟩ rfl rfl hl.1 rfl (lv_room (Nat.le_of_ble_eq_true rfl)) dX9_move_1 ⟨Nat.le_refl 0, Nat.le_refl 0⟩
  ·
    refine lv_iload_n hx hb dX9_move_4 rfl (lv_at hl 1 rfl) ?_
    refine lv_iconst (v := (-1)) hx hb dX9_move_5 (by decide) ?_
    refine lv_bipush (v := 15) hx hb dX9_move_6 (by decide) ?_
    refine pm_callI (va_runS (As := [.int p0, .int (-1), .int 15]) (rest := []) ⟨hx, hb, hml, hown, hts⟩ (pm_X9_in l p0 (-1) 15) (va_cwS 3 hts gX9_move_X9_in rfl rfl rfl hd_X9_in ⟨Nat.le_of_ble_eq_true rfl, Nat.le_of_ble_eq_true rfl⟩) ⟨pm_fbT, fun U hU hW => ⟨rfl, trivial⟩⟩ rfl rfl hl.1 rfl (lv_room (Nat.le_of_ble_eq_true rfl)) dX9_move_8 ⟨Nat.le_refl 0, Nat.le_refl 0⟩) hS (fun H locs _ hk9 hS => ?_)
    replace hP := P_keep hP hk9
    refine lv_if_eq (tgt := 21) hx hb dX9_move_11 (by decide) (fun c_11 => ?_) (fun c_11 => ?_)
    ·
      have hok := (hok).1 c_11
      refine lv_aload_n hx hb dX9_move_21 rfl (lv_at hl 0 rfl) ?_
      refine lv_bipush (v := 8) hx hb dX9_move_22 (by decide) ?_
      obtain ⟨h_24k, hok⟩ := hok
      obtain ⟨h_24, hok⟩ := hok
      refine hm_callI (G := G) (a := ([.ref x, .int 8] : List Value).toArray) (pr := (h_X9_fails x 8 (h_X9_begin x S))) (rest := []) ?_ hS (fun H locs hP hS => ?_)
      ·
        exact va_runV (As := [.int 8]) (rest := []) ⟨hx, hb, hml, hown, hts⟩ (hm_X9_fails l G L (h_X9_begin x S) x 8 h_24) (cwV 1 hts gX9_move_X9_fails rfl rfl rfl hdv_X9_fails ⟨Nat.le_of_ble_eq_true rfl, Nat.le_of_ble_eq_true rfl⟩) ⟨HW.fb, hp_recv hK hP h_24k.1 (PF_7 h_24k.2) rfl, fun U hU hW => ⟨rfl, HW.call hP hK hnd hE hS U hU hW⟩⟩ rfl rfl hl.1 rfl (lv_room (Nat.le_of_ble_eq_true rfl)) dX9_move_24 ⟨Nat.le_refl 0, Nat.le_refl 0⟩
      ·
        rw [hZ]
        exact hm_iret hx hb hr hlocks hS hP hK hnd hE ((if_pos c_11)) dX9_move_27
    ·
      have hok := (hok).2 c_11
      refine lv_iload_n hx hb dX9_move_14 rfl (lv_at hl 2 rfl) ?_
      refine pm_callI (va_runS (As := [.int p1]) (rest := []) ⟨hx, hb, hml, hown, hts⟩ (pm_X9_isCell l p1) (va_cwS 1 hts gX9_move_X9_isCell rfl rfl rfl hd_X9_isCell ⟨Nat.le_of_ble_eq_true rfl, Nat.le_of_ble_eq_true rfl⟩) ⟨pm_fbT, fun U hU hW => ⟨rfl, trivial⟩⟩ rfl rfl hl.1 rfl (lv_room (Nat.le_of_ble_eq_true rfl)) dX9_move_15 ⟨Nat.le_refl 0, Nat.le_refl 0⟩) hS (fun H locs _ hk9 hS => ?_)
      replace hP := P_keep hP hk9
      refine lv_if_ne (tgt := 28) hx hb dX9_move_18 (by decide) (fun c_18 => ?_) (fun c_18 => ?_)
      ·
        have hok := (hok).2 c_18
        refine lv_aload_n hx hb dX9_move_28 rfl (lv_at hl 0 rfl) ?_
        obtain ⟨h_29, hok⟩ := hok
        refine hp_getR (ci := 7) (C := RX9) (T := TX9) (N := 12) hx hb hts iw_X9_move_X9 hown hK hP h_29.1 (PF_7 h_29.2.1) rfl 8 (by decide) (hts _ (List.mem_of_getElem? (i := 1) rfl)) (fun _ h9 => h9) rfl h_29.2.2 dX9_move_29 ?_
        refine lv_iload_n hx hb dX9_move_32 rfl (lv_at hl 2 rfl) ?_
        refine lv_iload_n hx hb dX9_move_33 rfl (lv_at hl 1 rfl) ?_
        refine lv_if_ge (tgt := 41) hx hb dX9_move_34 (by decide) (fun c_34 => ?_) (fun c_34 => ?_)
        ·
          have hok := (hok).1 c_34
          refine lv_aload_n hx hb dX9_move_41 rfl (lv_at hl 0 rfl) ?_
          obtain ⟨h_42, hok⟩ := hok
          refine hp_getR (ci := 7) (C := RX9) (T := TX9) (N := 12) hx hb hts iw_X9_move_X9 hown hK hP h_42.1 (PF_7 h_42.2.1) rfl 8 (by decide) (hts _ (List.mem_of_getElem? (i := 1) rfl)) (fun _ h9 => h9) rfl h_42.2.2 dX9_move_42 ?_
          refine lv_iload_n hx hb dX9_move_45 rfl (lv_at hl 1 rfl) ?_
          obtain ⟨h_46, hok⟩ := hok
          refine hp_iald hx hb hK hP h_46.1 0 (PF_8 h_46.2.1) rfl h_46.2.2 dX9_move_46 ?_
          obtain ⟨h_47, hok⟩ := hok
          refine hp_iast (g2 := PF G (hwA (h_X9_begin x S) ((hsQ (h_X9_begin x S) x 8).getD 0) p1.toNatClampNeg (hsA (h_X9_begin x S) ((hsQ (h_X9_begin x S) x 8).getD 0) p0.toNatClampNeg))) hx hb hK hP (hD _) hS h_47.1 0 (PF_8 h_47.2.1) rfl h_47.2.2 (PF_sA h_47.2.1) (fun _ hb9 => PF_wA hb9) dX9_move_47 (fun H locs hP hS => ?_)
          refine lv_iconst (v := 1) hx hb dX9_move_48 (by decide) ?_
          rw [hZ]
          exact hm_iret hx hb hr hlocks hS hP hK hnd hE (((if_neg c_11).trans ((if_neg c_18).trans (if_pos c_34)))) dX9_move_49
        ·
          have hok := (hok).2 c_34
          refine lv_iconst (v := 0) hx hb dX9_move_37 (by decide) ?_
          refine lv_goto (tgt := 47) hx hb dX9_move_38 (by decide) ?_
          obtain ⟨h_47, hok⟩ := hok
          refine hp_iast (g2 := PF G (hwA (h_X9_begin x S) ((hsQ (h_X9_begin x S) x 8).getD 0) p1.toNatClampNeg 0)) hx hb hK hP (hD _) hS h_47.1 0 (PF_8 h_47.2.1) rfl h_47.2.2 (PF_sA h_47.2.1) (fun _ hb9 => PF_wA hb9) dX9_move_47 (fun H locs hP hS => ?_)
          refine lv_iconst (v := 1) hx hb dX9_move_48 (by decide) ?_
          rw [hZ]
          exact hm_iret hx hb hr hlocks hS hP hK hnd hE (((if_neg c_11).trans ((if_neg c_18).trans (if_neg c_34)))) dX9_move_49
      ·
        have hok := (hok).1 c_18
        refine lv_aload_n hx hb dX9_move_21 rfl (lv_at hl 0 rfl) ?_
        refine lv_bipush (v := 8) hx hb dX9_move_22 (by decide) ?_
        obtain ⟨h_24k, hok⟩ := hok
        obtain ⟨h_24, hok⟩ := hok
        refine hm_callI (G := G) (a := ([.ref x, .int 8] : List Value).toArray) (pr := (h_X9_fails x 8 (h_X9_begin x S))) (rest := []) ?_ hS (fun H locs hP hS => ?_)
        ·
          exact va_runV (As := [.int 8]) (rest := []) ⟨hx, hb, hml, hown, hts⟩ (hm_X9_fails l G L (h_X9_begin x S) x 8 h_24) (cwV 1 hts gX9_move_X9_fails rfl rfl rfl hdv_X9_fails ⟨Nat.le_of_ble_eq_true rfl, Nat.le_of_ble_eq_true rfl⟩) ⟨HW.fb, hp_recv hK hP h_24k.1 (PF_7 h_24k.2) rfl, fun U hU hW => ⟨rfl, HW.call hP hK hnd hE hS U hU hW⟩⟩ rfl rfl hl.1 rfl (lv_room (Nat.le_of_ble_eq_true rfl)) dX9_move_24 ⟨Nat.le_refl 0, Nat.le_refl 0⟩
        ·
          rw [hZ]
          exact hm_iret hx hb hr hlocks hS hP hK hnd hE (((if_neg c_11).trans (if_pos c_18))) dX9_move_27
theorem hdv_X9_twin : yX9_twin.cls = RX9 ∧ yX9_twin.cls ≠ "java/lang/invoke/MethodHandle" ∧ yX9_twin.cls ≠ "java/lang/invoke/VarHandle" ∧ (parseMethodDescriptor yX9_twin.desc).map (fun d => d.parameters.length) = some 2 := by decide +kernel
theorem iw_X9_twin_X9 : ∀ w ∈ u_ws RX9 TX9 12, w ∈ wsX9_twin := by decide +kernel
def h_X9_twin_l73 (x : Nat) (p0 : Int32) (p1 : Int32) (S : HS) : Nat → Int32 → HS → Int32 × HS
  | 0, _, _ => (0, S)
  | n + 1, y_73_5, S_73 =>
  if (hsA S_73 ((hsQ S_73 x 1).getD 0) (hsA (h_X9_begin x S) ((hsQ (h_X9_begin x S) x 8).getD 0) p0.toNatClampNeg).toNatClampNeg) ≤ y_73_5 then (1, (hwA S_73 ((hsQ S_73 x 8).getD 0) p1.toNatClampNeg ((h_X9_thing x 0 (hsA (h_X9_begin x S) ((hsQ (h_X9_begin x S) x 1).getD 0) (hsA (h_X9_begin x S) ((hsQ (h_X9_begin x S) x 8).getD 0) p0.toNatClampNeg).toNatClampNeg) (h_X9_begin x S)).1)))
  else h_X9_twin_l73 x p0 p1 S n (y_73_5 + 1) (hwA S_73 ((hsQ S_73 x 4).getD 0) ((hsA S_73 ((hsQ S_73 x 2).getD 0) ((h_X9_thing x 0 (hsA (h_X9_begin x S) ((hsQ (h_X9_begin x S) x 1).getD 0) (hsA (h_X9_begin x S) ((hsQ (h_X9_begin x S) x 8).getD 0) p0.toNatClampNeg).toNatClampNeg) (h_X9_begin x S)).1).toNatClampNeg) + y_73_5).toNatClampNeg (hsA S_73 ((hsQ S_73 x 4).getD 0) ((hsA S_73 ((hsQ S_73 x 2).getD 0) (hsA (h_X9_begin x S) ((hsQ (h_X9_begin x S) x 8).getD 0) p0.toNatClampNeg).toNatClampNeg) + y_73_5).toNatClampNeg))
def ok_X9_twin_l73 (L : List Nat) (x : Nat) (p0 : Int32) (p1 : Int32) (S : HS) : Nat → Int32 → HS → Prop
  | 0, _, _ => False
  | n + 1, y_73_5, S_73 =>
  (x ∈ L ∧ hsK S_73 x = 7 ∧ hsQ S_73 x 1 ≠ none) ∧ ((((hsQ S_73 x 1).getD 0) ∈ L ∧ hsK S_73 ((hsQ S_73 x 1).getD 0) = 8 ∧ vp_in (hsA (h_X9_begin x S) ((hsQ (h_X9_begin x S) x 8).getD 0) p0.toNatClampNeg) (hsN S_73 ((hsQ S_73 x 1).getD 0))) ∧ ((((hsA S_73 ((hsQ S_73 x 1).getD 0) (hsA (h_X9_begin x S) ((hsQ (h_X9_begin x S) x 8).getD 0) p0.toNatClampNeg).toNatClampNeg) ≤ y_73_5) → ((x ∈ L ∧ hsK S_73 x = 7 ∧ hsQ S_73 x 8 ≠ none) ∧ ((((hsQ S_73 x 8).getD 0) ∈ L ∧ hsK S_73 ((hsQ S_73 x 8).getD 0) = 8 ∧ vp_in p1 (hsN S_73 ((hsQ S_73 x 8).getD 0))) ∧ (True)))) ∧
  (¬ ((hsA S_73 ((hsQ S_73 x 1).getD 0) (hsA (h_X9_begin x S) ((hsQ (h_X9_begin x S) x 8).getD 0) p0.toNatClampNeg).toNatClampNeg) ≤ y_73_5) → ((x ∈ L ∧ hsK S_73 x = 7 ∧ hsQ S_73 x 4 ≠ none) ∧ ((x ∈ L ∧ hsK S_73 x = 7 ∧ hsQ S_73 x 2 ≠ none) ∧ ((((hsQ S_73 x 2).getD 0) ∈ L ∧ hsK S_73 ((hsQ S_73 x 2).getD 0) = 8 ∧ vp_in ((h_X9_thing x 0 (hsA (h_X9_begin x S) ((hsQ (h_X9_begin x S) x 1).getD 0) (hsA (h_X9_begin x S) ((hsQ (h_X9_begin x S) x 8).getD 0) p0.toNatClampNeg).toNatClampNeg) (h_X9_begin x S)).1) (hsN S_73 ((hsQ S_73 x 2).getD 0))) ∧ ((x ∈ L ∧ hsK S_73 x = 7 ∧ hsQ S_73 x 4 ≠ none) ∧ ((x ∈ L ∧ hsK S_73 x = 7 ∧ hsQ S_73 x 2 ≠ none) ∧ ((((hsQ S_73 x 2).getD 0) ∈ L ∧ hsK S_73 ((hsQ S_73 x 2).getD 0) = 8 ∧ vp_in (hsA (h_X9_begin x S) ((hsQ (h_X9_begin x S) x 8).getD 0) p0.toNatClampNeg) (hsN S_73 ((hsQ S_73 x 2).getD 0))) ∧ ((((hsQ S_73 x 4).getD 0) ∈ L ∧ hsK S_73 ((hsQ S_73 x 4).getD 0) = 8 ∧ vp_in ((hsA S_73 ((hsQ S_73 x 2).getD 0) (hsA (h_X9_begin x S) ((hsQ (h_X9_begin x S) x 8).getD 0) p0.toNatClampNeg).toNatClampNeg) + y_73_5) (hsN S_73 ((hsQ S_73 x 4).getD 0))) ∧ ((((hsQ S_73 x 4).getD 0) ∈ L ∧ hsK S_73 ((hsQ S_73 x 4).getD 0) = 8 ∧ vp_in ((hsA S_73 ((hsQ S_73 x 2).getD 0) ((h_X9_thing x 0 (hsA (h_X9_begin x S) ((hsQ (h_X9_begin x S) x 1).getD 0) (hsA (h_X9_begin x S) ((hsQ (h_X9_begin x S) x 8).getD 0) p0.toNatClampNeg).toNatClampNeg) (h_X9_begin x S)).1).toNatClampNeg) + y_73_5) (hsN S_73 ((hsQ S_73 x 4).getD 0))) ∧ (ok_X9_twin_l73 L x p0 p1 S n (y_73_5 + 1) (hwA S_73 ((hsQ S_73 x 4).getD 0) ((hsA S_73 ((hsQ S_73 x 2).getD 0) ((h_X9_thing x 0 (hsA (h_X9_begin x S) ((hsQ (h_X9_begin x S) x 1).getD 0) (hsA (h_X9_begin x S) ((hsQ (h_X9_begin x S) x 8).getD 0) p0.toNatClampNeg).toNatClampNeg) (h_X9_begin x S)).1).toNatClampNeg) + y_73_5).toNatClampNeg (hsA S_73 ((hsQ S_73 x 4).getD 0) ((hsA S_73 ((hsQ S_73 x 2).getD 0) (hsA (h_X9_begin x S) ((hsQ (h_X9_begin x S) x 8).getD 0) p0.toNatClampNeg).toNatClampNeg) + y_73_5).toNatClampNeg))))))))))))))
def h_X9_twin (x : Nat) (p0 : Int32) (p1 : Int32) (S : HS) : Int32 × HS :=
  if (s_X9_isCell p0) = 0 then ((h_X9_fails x 8 (h_X9_begin x S)).1, (h_X9_fails x 8 (h_X9_begin x S)).2)
  else if (s_X9_isCell p1) = 0 then ((h_X9_fails x 8 (h_X9_begin x S)).1, (h_X9_fails x 8 (h_X9_begin x S)).2)
   else if (h_X9_passes x (hsA (h_X9_begin x S) ((hsQ (h_X9_begin x S) x 8).getD 0) p0.toNatClampNeg) 0 (h_X9_begin x S)) = 0 then ((h_X9_fails x 4 (h_X9_begin x S)).1, (h_X9_fails x 4 (h_X9_begin x S)).2)
    else if (hsA (h_X9_begin x S) ((hsQ (h_X9_begin x S) x 8).getD 0) p0.toNatClampNeg) = 0 then ((h_X9_fails x 1 (h_X9_begin x S)).1, (h_X9_fails x 1 (h_X9_begin x S)).2)
     else h_X9_twin_l73 x p0 p1 S 100 0 ((h_X9_thing x 0 (hsA (h_X9_begin x S) ((hsQ (h_X9_begin x S) x 1).getD 0) (hsA (h_X9_begin x S) ((hsQ (h_X9_begin x S) x 8).getD 0) p0.toNatClampNeg).toNatClampNeg) (h_X9_begin x S)).2)
def ok_X9_twin (L : List Nat) (x : Nat) (p0 : Int32) (p1 : Int32) (S : HS) : Prop :=
  (x ∈ L ∧ hsK S x = 7) ∧ ((ok_X9_begin L x S) ∧ ((((s_X9_isCell p0) = 0) → ((x ∈ L ∧ hsK (h_X9_begin x S) x = 7) ∧ ((ok_X9_fails L x 8 (h_X9_begin x S)) ∧ (True)))) ∧
  (¬ ((s_X9_isCell p0) = 0) → ((((s_X9_isCell p1) = 0) → ((x ∈ L ∧ hsK (h_X9_begin x S) x = 7) ∧ ((ok_X9_fails L x 8 (h_X9_begin x S)) ∧ (True)))) ∧
   (¬ ((s_X9_isCell p1) = 0) → ((x ∈ L ∧ hsK (h_X9_begin x S) x = 7 ∧ hsQ (h_X9_begin x S) x 8 ≠ none) ∧ ((((hsQ (h_X9_begin x S) x 8).getD 0) ∈ L ∧ hsK (h_X9_begin x S) ((hsQ (h_X9_begin x S) x 8).getD 0) = 8 ∧ vp_in p0 (hsN (h_X9_begin x S) ((hsQ (h_X9_begin x S) x 8).getD 0))) ∧ ((x ∈ L ∧ hsK (h_X9_begin x S) x = 7) ∧ ((ok_X9_passes L x (hsA (h_X9_begin x S) ((hsQ (h_X9_begin x S) x 8).getD 0) p0.toNatClampNeg) 0 (h_X9_begin x S)) ∧ ((((h_X9_passes x (hsA (h_X9_begin x S) ((hsQ (h_X9_begin x S) x 8).getD 0) p0.toNatClampNeg) 0 (h_X9_begin x S)) = 0) → ((x ∈ L ∧ hsK (h_X9_begin x S) x = 7) ∧ ((ok_X9_fails L x 4 (h_X9_begin x S)) ∧ (True)))) ∧
    (¬ ((h_X9_passes x (hsA (h_X9_begin x S) ((hsQ (h_X9_begin x S) x 8).getD 0) p0.toNatClampNeg) 0 (h_X9_begin x S)) = 0) → ((((hsA (h_X9_begin x S) ((hsQ (h_X9_begin x S) x 8).getD 0) p0.toNatClampNeg) = 0) → ((x ∈ L ∧ hsK (h_X9_begin x S) x = 7) ∧ ((ok_X9_fails L x 1 (h_X9_begin x S)) ∧ (True)))) ∧
     (¬ ((hsA (h_X9_begin x S) ((hsQ (h_X9_begin x S) x 8).getD 0) p0.toNatClampNeg) = 0) → ((x ∈ L ∧ hsK (h_X9_begin x S) x = 7 ∧ hsQ (h_X9_begin x S) x 1 ≠ none) ∧ ((((hsQ (h_X9_begin x S) x 1).getD 0) ∈ L ∧ hsK (h_X9_begin x S) ((hsQ (h_X9_begin x S) x 1).getD 0) = 8 ∧ vp_in (hsA (h_X9_begin x S) ((hsQ (h_X9_begin x S) x 8).getD 0) p0.toNatClampNeg) (hsN (h_X9_begin x S) ((hsQ (h_X9_begin x S) x 1).getD 0))) ∧ ((x ∈ L ∧ hsK (h_X9_begin x S) x = 7) ∧ ((ok_X9_thing L x 0 (hsA (h_X9_begin x S) ((hsQ (h_X9_begin x S) x 1).getD 0) (hsA (h_X9_begin x S) ((hsQ (h_X9_begin x S) x 8).getD 0) p0.toNatClampNeg).toNatClampNeg) (h_X9_begin x S)) ∧ (ok_X9_twin_l73 L x p0 p1 S 100 0 ((h_X9_thing x 0 (hsA (h_X9_begin x S) ((hsQ (h_X9_begin x S) x 1).getD 0) (hsA (h_X9_begin x S) ((hsQ (h_X9_begin x S) x 8).getD 0) p0.toNatClampNeg).toNatClampNeg) (h_X9_begin x S)).2)))))))))))))))))))
set_option maxHeartbeats 4000000 in
set_option maxRecDepth 100000 in
theorem hm_X9_twin (l : Launch) (G : GE) (L : List Nat) (S : HS) (x : Nat) (p0 : Int32) (p1 : Int32) (hok : ok_X9_twin L x p0 p1 S) : HmI l G yX9_twin wsX9_twin 2 43 [.ref x, .int p0, .int p1] L S (h_X9_twin x p0 p1 S) := by
  refine Met.ofW (cc := cX9_twin) (maxL := 6) (ret := (some .int)) (by decide) rfl ?_
  intro p e s m args below meth c s₁ B hml hv
  obtain ⟨rfl, hP, hK, hnd, hE⟩ := hv
  have hx := B.exec
  have hb := B.bytes
  have hr := B.returns
  have hts := atoms_spec (ws := wsX9_twin) B.pre
  have hown : s.vm.findClass RX9 = some m.cls := findClass_of_methodNamed B.named
  have hlocks := B.notSynchronized
  have hD := nd_D hnd
  have hS : va_S (AL L) s.heap s.heap [] := va_S.rf
  have hl := lv_entry ([.ref x, .int p0, .int p1]) (n := 6) (Nat.le_of_ble_eq_true rfl)
  rw [lg_entry_eq]
  generalize (lg_sl ([.ref x, .int p0, .int p1]) ++ List.replicate (6 - (lg_sl ([.ref x, .int p0, .int p1])).length) Slot.unset).toArray = ls at hl ⊢
  have hl : lv_has ls 6 [(0, .ref x), (1, .int p0), (2, .int p1)] := hl
  obtain ⟨Z, hZ⟩ : ∃ z, z = MQ below (hm_QI G L (h_X9_twin x p0 p1 S)) ([.ref x, .int p0, .int p1] : List Value).toArray s 0 0 (AL L) := ⟨_, rfl⟩
  rw [← hZ]
  refine lv_aload_n hx hb dX9_twin_0 rfl (lv_at hl 0 rfl) ?_
  obtain ⟨h_1k, hok⟩ := hok
  obtain ⟨h_1, hok⟩ := hok
  refine hm_callV (G := G) (a := ([.ref x] : List Value).toArray) (pr := (h_X9_begin x S)) (rest := []) ?_ hS (fun H locs hP hS => ?_)
  ·
    exact va_runV (As := []) (rest := []) ⟨hx, hb, hml, hown, hts⟩ (hm_X9_begin l G L S x h_1) (cwV 0 hts gX9_twin_X9_begin rfl rfl rfl hdv_X9_begin ⟨Nat.le_of_ble_eq_true rfl, Nat.le_of_ble_eq_true rfl⟩) ⟨HW.fb, hp_recv hK hP h_1k.1 (PF_7 h_1k.2) rfl, fun U hU hW => ⟨rfl, HW.call hP hK hnd hE hS U hU hW⟩⟩ rfl rfl hl.1 rfl (lv_room (Nat.le_of_ble_eq_true rfl)) dX9_twin_1 ⟨Nat.le_refl 0, Nat.le_refl 0⟩
  ·
    refine lv_iload_n hx hb dX9_twin_4 rfl (lv_at hl 1 rfl) ?_
    refine pm_callI (va_runS (As := [.int p0]) (rest := []) ⟨hx, hb, hml, hown, hts⟩ (pm_X9_isCell l p0) (va_cwS 1 hts gX9_twin_X9_isCell rfl rfl rfl hd_X9_isCell ⟨Nat.le_of_ble_eq_true rfl, Nat.le_of_ble_eq_true rfl⟩) ⟨pm_fbT, fun U hU hW => ⟨rfl, trivial⟩⟩ rfl rfl hl.1 rfl (lv_room (Nat.le_of_ble_eq_true rfl)) dX9_twin_5 ⟨Nat.le_refl 0, Nat.le_refl 0⟩) hS (fun H locs _ hk9 hS => ?_)
    replace hP := P_keep hP hk9
    refine lv_if_eq (tgt := 18) hx hb dX9_twin_8 (by decide) (fun c_8 => ?_) (fun c_8 => ?_)
    ·
      have hok := (hok).1 c_8
      refine lv_aload_n hx hb dX9_twin_18 rfl (lv_at hl 0 rfl) ?_
      refine lv_bipush (v := 8) hx hb dX9_twin_19 (by decide) ?_
      obtain ⟨h_21k, hok⟩ := hok
      obtain ⟨h_21, hok⟩ := hok
      refine hm_callI (G := G) (a := ([.ref x, .int 8] : List Value).toArray) (pr := (h_X9_fails x 8 (h_X9_begin x S))) (rest := []) ?_ hS (fun H locs hP hS => ?_)
      ·
        exact va_runV (As := [.int 8]) (rest := []) ⟨hx, hb, hml, hown, hts⟩ (hm_X9_fails l G L (h_X9_begin x S) x 8 h_21) (cwV 1 hts gX9_twin_X9_fails rfl rfl rfl hdv_X9_fails ⟨Nat.le_of_ble_eq_true rfl, Nat.le_of_ble_eq_true rfl⟩) ⟨HW.fb, hp_recv hK hP h_21k.1 (PF_7 h_21k.2) rfl, fun U hU hW => ⟨rfl, HW.call hP hK hnd hE hS U hU hW⟩⟩ rfl rfl hl.1 rfl (lv_room (Nat.le_of_ble_eq_true rfl)) dX9_twin_21 ⟨Nat.le_refl 0, Nat.le_refl 0⟩
      ·
        rw [hZ]
        exact hm_iret hx hb hr hlocks hS hP hK hnd hE ((if_pos c_8)) dX9_twin_24
    ·
      have hok := (hok).2 c_8
      refine lv_iload_n hx hb dX9_twin_11 rfl (lv_at hl 2 rfl) ?_
      refine pm_callI (va_runS (As := [.int p1]) (rest := []) ⟨hx, hb, hml, hown, hts⟩ (pm_X9_isCell l p1) (va_cwS 1 hts gX9_twin_X9_isCell rfl rfl rfl hd_X9_isCell ⟨Nat.le_of_ble_eq_true rfl, Nat.le_of_ble_eq_true rfl⟩) ⟨pm_fbT, fun U hU hW => ⟨rfl, trivial⟩⟩ rfl rfl hl.1 rfl (lv_room (Nat.le_of_ble_eq_true rfl)) dX9_twin_12 ⟨Nat.le_refl 0, Nat.le_refl 0⟩) hS (fun H locs _ hk9 hS => ?_)
      replace hP := P_keep hP hk9
      refine lv_if_ne (tgt := 25) hx hb dX9_twin_15 (by decide) (fun c_15 => ?_) (fun c_15 => ?_)
      ·
        have hok := (hok).2 c_15
        refine lv_aload_n hx hb dX9_twin_25 rfl (lv_at hl 0 rfl) ?_
        obtain ⟨h_26, hok⟩ := hok
        refine hp_getR (ci := 7) (C := RX9) (T := TX9) (N := 12) hx hb hts iw_X9_twin_X9 hown hK hP h_26.1 (PF_7 h_26.2.1) rfl 8 (by decide) (hts _ (List.mem_of_getElem? (i := 1) rfl)) (fun _ h9 => h9) rfl h_26.2.2 dX9_twin_26 ?_
        refine lv_iload_n hx hb dX9_twin_29 rfl (lv_at hl 1 rfl) ?_
        obtain ⟨h_30, hok⟩ := hok
        refine hp_iald hx hb hK hP h_30.1 0 (PF_8 h_30.2.1) rfl h_30.2.2 dX9_twin_30 ?_
        refine lv_istore_n (lv' := [(3, .int (hsA (h_X9_begin x S) ((hsQ (h_X9_begin x S) x 8).getD 0) p0.toNatClampNeg)), (0, .ref x), (1, .int p0), (2, .int p1)]) hx hb dX9_twin_31 rfl hl (by decide) rfl (fun ls hl => ?_)
        refine lv_aload_n hx hb dX9_twin_32 rfl (lv_at hl 1 rfl) ?_
        refine lv_iload_n hx hb dX9_twin_33 rfl (lv_at hl 0 rfl) ?_
        refine lv_iconst (v := 0) hx hb dX9_twin_34 (by decide) ?_
        obtain ⟨h_35k, hok⟩ := hok
        obtain ⟨h_35, hok⟩ := hok
        refine hm_callIr (G := G) (S1 := h_X9_begin x S) (a := ([.ref x, .int (hsA (h_X9_begin x S) ((hsQ (h_X9_begin x S) x 8).getD 0) p0.toNatClampNeg), .int 0] : List Value).toArray) (rest := []) (h_X9_passes x (hsA (h_X9_begin x S) ((hsQ (h_X9_begin x S) x 8).getD 0) p0.toNatClampNeg) 0 (h_X9_begin x S)) ?_ hS (fun H locs hP hS => ?_)
        ·
          exact va_runV (As := [.int (hsA (h_X9_begin x S) ((hsQ (h_X9_begin x S) x 8).getD 0) p0.toNatClampNeg), .int 0]) (rest := []) ⟨hx, hb, hml, hown, hts⟩ (hm_X9_passes l G L (h_X9_begin x S) x (hsA (h_X9_begin x S) ((hsQ (h_X9_begin x S) x 8).getD 0) p0.toNatClampNeg) 0 h_35) (cwV 2 hts gX9_twin_X9_passes rfl rfl rfl hdv_X9_passes ⟨Nat.le_of_ble_eq_true rfl, Nat.le_of_ble_eq_true rfl⟩) ⟨HW.fb, hp_recv hK hP h_35k.1 (PF_7 h_35k.2) rfl, fun U hU hW => ⟨rfl, HW.call hP hK hnd hE hS U hU hW⟩⟩ rfl rfl hl.1 rfl (lv_room (Nat.le_of_ble_eq_true rfl)) dX9_twin_35 ⟨Nat.le_refl 0, Nat.le_refl 0⟩
        ·
          refine lv_if_ne (tgt := 47) hx hb dX9_twin_38 (by decide) (fun c_38 => ?_) (fun c_38 => ?_)
          ·
            have hok := (hok).2 c_38
            refine lv_iload_n hx hb dX9_twin_47 rfl (lv_at hl 0 rfl) ?_
            refine lv_if_ne (tgt := 57) hx hb dX9_twin_48 (by decide) (fun c_48 => ?_) (fun c_48 => ?_)
            ·
              have hok := (hok).2 c_48
              refine lv_aload_n hx hb dX9_twin_57 rfl (lv_at hl 1 rfl) ?_
              refine lv_iconst (v := 0) hx hb dX9_twin_58 (by decide) ?_
              refine lv_aload_n hx hb dX9_twin_59 rfl (lv_at hl 1 rfl) ?_
              obtain ⟨h_60, hok⟩ := hok
              refine hp_getR (ci := 7) (C := RX9) (T := TX9) (N := 12) hx hb hts iw_X9_twin_X9 hown hK hP h_60.1 (PF_7 h_60.2.1) rfl 1 (by decide) (hts _ (List.mem_of_getElem? (i := 2) rfl)) (fun _ h9 => h9) rfl h_60.2.2 dX9_twin_60 ?_
              refine lv_iload_n hx hb dX9_twin_63 rfl (lv_at hl 0 rfl) ?_
              obtain ⟨h_64, hok⟩ := hok
              refine hp_iald hx hb hK hP h_64.1 0 (PF_8 h_64.2.1) rfl h_64.2.2 dX9_twin_64 ?_
              obtain ⟨h_65k, hok⟩ := hok
              obtain ⟨h_65, hok⟩ := hok
              refine hm_callI (G := G) (a := ([.ref x, .int 0, .int (hsA (h_X9_begin x S) ((hsQ (h_X9_begin x S) x 1).getD 0) (hsA (h_X9_begin x S) ((hsQ (h_X9_begin x S) x 8).getD 0) p0.toNatClampNeg).toNatClampNeg)] : List Value).toArray) (pr := (h_X9_thing x 0 (hsA (h_X9_begin x S) ((hsQ (h_X9_begin x S) x 1).getD 0) (hsA (h_X9_begin x S) ((hsQ (h_X9_begin x S) x 8).getD 0) p0.toNatClampNeg).toNatClampNeg) (h_X9_begin x S))) (rest := []) ?_ hS (fun H locs hP hS => ?_)
              ·
                exact va_runV (As := [.int 0, .int (hsA (h_X9_begin x S) ((hsQ (h_X9_begin x S) x 1).getD 0) (hsA (h_X9_begin x S) ((hsQ (h_X9_begin x S) x 8).getD 0) p0.toNatClampNeg).toNatClampNeg)]) (rest := []) ⟨hx, hb, hml, hown, hts⟩ (hm_X9_thing l G L (h_X9_begin x S) x 0 (hsA (h_X9_begin x S) ((hsQ (h_X9_begin x S) x 1).getD 0) (hsA (h_X9_begin x S) ((hsQ (h_X9_begin x S) x 8).getD 0) p0.toNatClampNeg).toNatClampNeg) h_65) (cwV 2 hts gX9_twin_X9_thing rfl rfl rfl hdv_X9_thing ⟨Nat.le_of_ble_eq_true rfl, Nat.le_of_ble_eq_true rfl⟩) ⟨HW.fb, hp_recv hK hP h_65k.1 (PF_7 h_65k.2) rfl, fun U hU hW => ⟨rfl, HW.call hP hK hnd hE hS U hU hW⟩⟩ rfl rfl hl.1 rfl (lv_room (Nat.le_of_ble_eq_true rfl)) dX9_twin_65 ⟨Nat.le_refl 0, Nat.le_refl 0⟩
              ·
                refine lv_istore (lv' := [(4, .int ((h_X9_thing x 0 (hsA (h_X9_begin x S) ((hsQ (h_X9_begin x S) x 1).getD 0) (hsA (h_X9_begin x S) ((hsQ (h_X9_begin x S) x 8).getD 0) p0.toNatClampNeg).toNatClampNeg) (h_X9_begin x S)).1)), (3, .int (hsA (h_X9_begin x S) ((hsQ (h_X9_begin x S) x 8).getD 0) p0.toNatClampNeg)), (0, .ref x), (1, .int p0), (2, .int p1)]) hx hb dX9_twin_68 hl (by decide) rfl (fun ls hl => ?_)
                refine lv_iconst (v := 0) hx hb dX9_twin_70 (by decide) ?_
                refine lv_istore (lv' := [(5, .int 0), (4, .int ((h_X9_thing x 0 (hsA (h_X9_begin x S) ((hsQ (h_X9_begin x S) x 1).getD 0) (hsA (h_X9_begin x S) ((hsQ (h_X9_begin x S) x 8).getD 0) p0.toNatClampNeg).toNatClampNeg) (h_X9_begin x S)).1)), (3, .int (hsA (h_X9_begin x S) ((hsQ (h_X9_begin x S) x 8).getD 0) p0.toNatClampNeg)), (0, .ref x), (1, .int p0), (2, .int p1)]) hx hb dX9_twin_71 hl (by decide) rfl (fun ls hl => ?_)
                have K_73 : ∀ (n : Nat) (y_73_5 : Int32) (S_73 : HS) (H : Heap) (locs : List Loc), va_P (gD G) vwCl (va_pl L (PF G S_73)) H → va_S (AL L) s.heap H locs → ∀ (ls : Array Slot), lv_has ls 6 [(0, .ref x), (2, .int p1), (3, .int (hsA (h_X9_begin x S) ((hsQ (h_X9_begin x S) x 8).getD 0) p0.toNatClampNeg)), (4, .int ((h_X9_thing x 0 (hsA (h_X9_begin x S) ((hsQ (h_X9_begin x S) x 1).getD 0) (hsA (h_X9_begin x S) ((hsQ (h_X9_begin x S) x 8).getD 0) p0.toNatClampNeg).toNatClampNeg) (h_X9_begin x S)).1)), (5, .int y_73_5)] → ok_X9_twin_l73 L x p0 p1 S n y_73_5 S_73 → h_X9_twin x p0 p1 S = h_X9_twin_l73 x p0 p1 S n y_73_5 S_73 → W p l e (pm_R 2 43) s m ([.ref x, .int p0, .int p1] : List Value).toArray below meth c H locs 0 0 Z (F0 m 73 ls []) := by
                  intro n
                  induction n with
                  | zero =>
                    intro y_73_5 S_73 H locs hP hS ls hl hok hK_73
                    exact False.elim hok
                  | succ n ih =>
                    intro y_73_5 S_73 H locs hP hS ls hl hok hK_73
                    refine lv_iload hx hb dX9_twin_73 (lv_at hl 4 rfl) ?_
                    refine lv_aload_n hx hb dX9_twin_75 rfl (lv_at hl 0 rfl) ?_
                    obtain ⟨h_76, hok⟩ := hok
                    refine hp_getR (ci := 7) (C := RX9) (T := TX9) (N := 12) hx hb hts iw_X9_twin_X9 hown hK hP h_76.1 (PF_7 h_76.2.1) rfl 1 (by decide) (hts _ (List.mem_of_getElem? (i := 2) rfl)) (fun _ h9 => h9) rfl h_76.2.2 dX9_twin_76 ?_
                    refine lv_iload_n hx hb dX9_twin_79 rfl (lv_at hl 2 rfl) ?_
                    obtain ⟨h_80, hok⟩ := hok
                    refine hp_iald hx hb hK hP h_80.1 0 (PF_8 h_80.2.1) rfl h_80.2.2 dX9_twin_80 ?_
                    refine lv_icmp_ge (tgt := 119) hx hb dX9_twin_81 (by decide) (fun c_81 => ?_) (fun c_81 => ?_)
                    ·
                      have hok := (hok).1 c_81
                      refine lv_aload_n hx hb dX9_twin_119 rfl (lv_at hl 0 rfl) ?_
                      obtain ⟨h_120, hok⟩ := hok
                      refine hp_getR (ci := 7) (C := RX9) (T := TX9) (N := 12) hx hb hts iw_X9_twin_X9 hown hK hP h_120.1 (PF_7 h_120.2.1) rfl 8 (by decide) (hts _ (List.mem_of_getElem? (i := 1) rfl)) (fun _ h9 => h9) rfl h_120.2.2 dX9_twin_120 ?_
                      refine lv_iload_n hx hb dX9_twin_123 rfl (lv_at hl 1 rfl) ?_
                      refine lv_iload hx hb dX9_twin_124 (lv_at hl 3 rfl) ?_
                      obtain ⟨h_126, hok⟩ := hok
                      refine hp_iast (g2 := PF G (hwA S_73 ((hsQ S_73 x 8).getD 0) p1.toNatClampNeg ((h_X9_thing x 0 (hsA (h_X9_begin x S) ((hsQ (h_X9_begin x S) x 1).getD 0) (hsA (h_X9_begin x S) ((hsQ (h_X9_begin x S) x 8).getD 0) p0.toNatClampNeg).toNatClampNeg) (h_X9_begin x S)).1))) hx hb hK hP (hD _) hS h_126.1 0 (PF_8 h_126.2.1) rfl h_126.2.2 (PF_sA h_126.2.1) (fun _ hb9 => PF_wA hb9) dX9_twin_126 (fun H locs hP hS => ?_)
                      refine lv_iconst (v := 1) hx hb dX9_twin_127 (by decide) ?_
                      rw [hZ]
                      exact hm_iret hx hb hr hlocks hS hP hK hnd hE (((hK_73).trans (if_pos c_81))) dX9_twin_128
                    ·
                      have hok := (hok).2 c_81
                      refine lv_aload_n hx hb dX9_twin_84 rfl (lv_at hl 0 rfl) ?_
                      obtain ⟨h_85, hok⟩ := hok
                      refine hp_getR (ci := 7) (C := RX9) (T := TX9) (N := 12) hx hb hts iw_X9_twin_X9 hown hK hP h_85.1 (PF_7 h_85.2.1) rfl 4 (by decide) (hts _ (List.mem_of_getElem? (i := 3) rfl)) (fun _ h9 => h9) rfl h_85.2.2 dX9_twin_85 ?_
                      refine lv_aload_n hx hb dX9_twin_88 rfl (lv_at hl 0 rfl) ?_
                      obtain ⟨h_89, hok⟩ := hok
                      refine hp_getR (ci := 7) (C := RX9) (T := TX9) (N := 12) hx hb hts iw_X9_twin_X9 hown hK hP h_89.1 (PF_7 h_89.2.1) rfl 2 (by decide) (hts _ (List.mem_of_getElem? (i := 4) rfl)) (fun _ h9 => h9) rfl h_89.2.2 dX9_twin_89 ?_
                      refine lv_iload hx hb dX9_twin_92 (lv_at hl 3 rfl) ?_
                      obtain ⟨h_94, hok⟩ := hok
                      refine hp_iald hx hb hK hP h_94.1 0 (PF_8 h_94.2.1) rfl h_94.2.2 dX9_twin_94 ?_
                      refine lv_iload hx hb dX9_twin_95 (lv_at hl 4 rfl) ?_
                      refine lv_iadd hx hb dX9_twin_97 ?_
                      refine lv_aload_n hx hb dX9_twin_98 rfl (lv_at hl 0 rfl) ?_
                      obtain ⟨h_99, hok⟩ := hok
                      refine hp_getR (ci := 7) (C := RX9) (T := TX9) (N := 12) hx hb hts iw_X9_twin_X9 hown hK hP h_99.1 (PF_7 h_99.2.1) rfl 4 (by decide) (hts _ (List.mem_of_getElem? (i := 3) rfl)) (fun _ h9 => h9) rfl h_99.2.2 dX9_twin_99 ?_
                      refine lv_aload_n hx hb dX9_twin_102 rfl (lv_at hl 0 rfl) ?_
                      obtain ⟨h_103, hok⟩ := hok
                      refine hp_getR (ci := 7) (C := RX9) (T := TX9) (N := 12) hx hb hts iw_X9_twin_X9 hown hK hP h_103.1 (PF_7 h_103.2.1) rfl 2 (by decide) (hts _ (List.mem_of_getElem? (i := 4) rfl)) (fun _ h9 => h9) rfl h_103.2.2 dX9_twin_103 ?_
                      refine lv_iload_n hx hb dX9_twin_106 rfl (lv_at hl 2 rfl) ?_
                      obtain ⟨h_107, hok⟩ := hok
                      refine hp_iald hx hb hK hP h_107.1 0 (PF_8 h_107.2.1) rfl h_107.2.2 dX9_twin_107 ?_
                      refine lv_iload hx hb dX9_twin_108 (lv_at hl 4 rfl) ?_
                      refine lv_iadd hx hb dX9_twin_110 ?_
                      obtain ⟨h_111, hok⟩ := hok
                      refine hp_iald hx hb hK hP h_111.1 0 (PF_8 h_111.2.1) rfl h_111.2.2 dX9_twin_111 ?_
                      obtain ⟨h_112, hok⟩ := hok
                      refine hp_iast (g2 := PF G (hwA S_73 ((hsQ S_73 x 4).getD 0) ((hsA S_73 ((hsQ S_73 x 2).getD 0) ((h_X9_thing x 0 (hsA (h_X9_begin x S) ((hsQ (h_X9_begin x S) x 1).getD 0) (hsA (h_X9_begin x S) ((hsQ (h_X9_begin x S) x 8).getD 0) p0.toNatClampNeg).toNatClampNeg) (h_X9_begin x S)).1).toNatClampNeg) + y_73_5).toNatClampNeg (hsA S_73 ((hsQ S_73 x 4).getD 0) ((hsA S_73 ((hsQ S_73 x 2).getD 0) (hsA (h_X9_begin x S) ((hsQ (h_X9_begin x S) x 8).getD 0) p0.toNatClampNeg).toNatClampNeg) + y_73_5).toNatClampNeg))) hx hb hK hP (hD _) hS h_112.1 0 (PF_8 h_112.2.1) rfl h_112.2.2 (PF_sA h_112.2.1) (fun _ hb9 => PF_wA hb9) dX9_twin_112 (fun H locs hP hS => ?_)
                      refine lv_iinc (v := y_73_5 + 1) (lv' := [(5, .int (y_73_5 + 1)), (0, .ref x), (2, .int p1), (3, .int (hsA (h_X9_begin x S) ((hsQ (h_X9_begin x S) x 8).getD 0) p0.toNatClampNeg)), (4, .int ((h_X9_thing x 0 (hsA (h_X9_begin x S) ((hsQ (h_X9_begin x S) x 1).getD 0) (hsA (h_X9_begin x S) ((hsQ (h_X9_begin x S) x 8).getD 0) p0.toNatClampNeg).toNatClampNeg) (h_X9_begin x S)).1))]) hx hb dX9_twin_113 hl (k := 4) rfl rfl (by decide) rfl (fun ls hl => ?_)
                      refine lv_goto (tgt := 73) hx hb dX9_twin_116 (by decide) ?_
                      exact ih (y_73_5 + 1) (hwA S_73 ((hsQ S_73 x 4).getD 0) ((hsA S_73 ((hsQ S_73 x 2).getD 0) ((h_X9_thing x 0 (hsA (h_X9_begin x S) ((hsQ (h_X9_begin x S) x 1).getD 0) (hsA (h_X9_begin x S) ((hsQ (h_X9_begin x S) x 8).getD 0) p0.toNatClampNeg).toNatClampNeg) (h_X9_begin x S)).1).toNatClampNeg) + y_73_5).toNatClampNeg (hsA S_73 ((hsQ S_73 x 4).getD 0) ((hsA S_73 ((hsQ S_73 x 2).getD 0) (hsA (h_X9_begin x S) ((hsQ (h_X9_begin x S) x 8).getD 0) p0.toNatClampNeg).toNatClampNeg) + y_73_5).toNatClampNeg)) _ _ hP hS ls (lv_sub hl [1, 2, 3, 4, 0] rfl) hok (((hK_73).trans (if_neg c_81)))
                exact K_73 (100) 0 ((h_X9_thing x 0 (hsA (h_X9_begin x S) ((hsQ (h_X9_begin x S) x 1).getD 0) (hsA (h_X9_begin x S) ((hsQ (h_X9_begin x S) x 8).getD 0) p0.toNatClampNeg).toNatClampNeg) (h_X9_begin x S)).2) _ _ hP hS ls (lv_sub hl [3, 5, 2, 1, 0] rfl) hok (((if_neg c_8).trans ((if_neg c_15).trans ((if_neg c_38).trans (if_neg c_48)))))
            ·
              have hok := (hok).1 c_48
              refine lv_aload_n hx hb dX9_twin_51 rfl (lv_at hl 1 rfl) ?_
              refine lv_iconst (v := 1) hx hb dX9_twin_52 (by decide) ?_
              obtain ⟨h_53k, hok⟩ := hok
              obtain ⟨h_53, hok⟩ := hok
              refine hm_callI (G := G) (a := ([.ref x, .int 1] : List Value).toArray) (pr := (h_X9_fails x 1 (h_X9_begin x S))) (rest := []) ?_ hS (fun H locs hP hS => ?_)
              ·
                exact va_runV (As := [.int 1]) (rest := []) ⟨hx, hb, hml, hown, hts⟩ (hm_X9_fails l G L (h_X9_begin x S) x 1 h_53) (cwV 1 hts gX9_twin_X9_fails rfl rfl rfl hdv_X9_fails ⟨Nat.le_of_ble_eq_true rfl, Nat.le_of_ble_eq_true rfl⟩) ⟨HW.fb, hp_recv hK hP h_53k.1 (PF_7 h_53k.2) rfl, fun U hU hW => ⟨rfl, HW.call hP hK hnd hE hS U hU hW⟩⟩ rfl rfl hl.1 rfl (lv_room (Nat.le_of_ble_eq_true rfl)) dX9_twin_53 ⟨Nat.le_refl 0, Nat.le_refl 0⟩
              ·
                rw [hZ]
                exact hm_iret hx hb hr hlocks hS hP hK hnd hE (((if_neg c_8).trans ((if_neg c_15).trans ((if_neg c_38).trans (if_pos c_48))))) dX9_twin_56
          ·
            have hok := (hok).1 c_38
            refine lv_aload_n hx hb dX9_twin_41 rfl (lv_at hl 1 rfl) ?_
            refine lv_iconst (v := 4) hx hb dX9_twin_42 (by decide) ?_
            obtain ⟨h_43k, hok⟩ := hok
            obtain ⟨h_43, hok⟩ := hok
            refine hm_callI (G := G) (a := ([.ref x, .int 4] : List Value).toArray) (pr := (h_X9_fails x 4 (h_X9_begin x S))) (rest := []) ?_ hS (fun H locs hP hS => ?_)
            ·
              exact va_runV (As := [.int 4]) (rest := []) ⟨hx, hb, hml, hown, hts⟩ (hm_X9_fails l G L (h_X9_begin x S) x 4 h_43) (cwV 1 hts gX9_twin_X9_fails rfl rfl rfl hdv_X9_fails ⟨Nat.le_of_ble_eq_true rfl, Nat.le_of_ble_eq_true rfl⟩) ⟨HW.fb, hp_recv hK hP h_43k.1 (PF_7 h_43k.2) rfl, fun U hU hW => ⟨rfl, HW.call hP hK hnd hE hS U hU hW⟩⟩ rfl rfl hl.1 rfl (lv_room (Nat.le_of_ble_eq_true rfl)) dX9_twin_43 ⟨Nat.le_refl 0, Nat.le_refl 0⟩
            ·
              rw [hZ]
              exact hm_iret hx hb hr hlocks hS hP hK hnd hE (((if_neg c_8).trans ((if_neg c_15).trans (if_pos c_38)))) dX9_twin_46
      ·
        have hok := (hok).1 c_15
        refine lv_aload_n hx hb dX9_twin_18 rfl (lv_at hl 0 rfl) ?_
        refine lv_bipush (v := 8) hx hb dX9_twin_19 (by decide) ?_
        obtain ⟨h_21k, hok⟩ := hok
        obtain ⟨h_21, hok⟩ := hok
        refine hm_callI (G := G) (a := ([.ref x, .int 8] : List Value).toArray) (pr := (h_X9_fails x 8 (h_X9_begin x S))) (rest := []) ?_ hS (fun H locs hP hS => ?_)
        ·
          exact va_runV (As := [.int 8]) (rest := []) ⟨hx, hb, hml, hown, hts⟩ (hm_X9_fails l G L (h_X9_begin x S) x 8 h_21) (cwV 1 hts gX9_twin_X9_fails rfl rfl rfl hdv_X9_fails ⟨Nat.le_of_ble_eq_true rfl, Nat.le_of_ble_eq_true rfl⟩) ⟨HW.fb, hp_recv hK hP h_21k.1 (PF_7 h_21k.2) rfl, fun U hU hW => ⟨rfl, HW.call hP hK hnd hE hS U hU hW⟩⟩ rfl rfl hl.1 rfl (lv_room (Nat.le_of_ble_eq_true rfl)) dX9_twin_21 ⟨Nat.le_refl 0, Nat.le_refl 0⟩
        ·
          rw [hZ]
          exact hm_iret hx hb hr hlocks hS hP hK hnd hE (((if_neg c_8).trans (if_pos c_15))) dX9_twin_24
theorem hdv_X9_length : yX9_length.cls = RX9 ∧ yX9_length.cls ≠ "java/lang/invoke/MethodHandle" ∧ yX9_length.cls ≠ "java/lang/invoke/VarHandle" ∧ (parseMethodDescriptor yX9_length.desc).map (fun d => d.parameters.length) = some 2 := by decide +kernel
theorem iw_X9_length_X9 : ∀ w ∈ u_ws RX9 TX9 12, w ∈ wsX9_length := by decide +kernel
def h_X9_length_j20 (x : Nat) (p0 : Int32) (p1 : Int32) (S : HS) : Int32 × HS :=
  if (s_X9_isCell p1) = 0 then ((h_X9_fails x 8 (h_X9_begin x S)).1, (h_X9_fails x 8 (h_X9_begin x S)).2)
  else if (h_X9_passes x (hsA (h_X9_begin x S) ((hsQ (h_X9_begin x S) x 8).getD 0) p1.toNatClampNeg) p0 (h_X9_begin x S)) = 0 then ((h_X9_fails x 4 (h_X9_begin x S)).1, (h_X9_fails x 4 (h_X9_begin x S)).2)
   else if (hsA (h_X9_begin x S) ((hsQ (h_X9_begin x S) x 8).getD 0) p1.toNatClampNeg) = 0 then ((h_X9_fails x 1 (h_X9_begin x S)).1, (h_X9_fails x 1 (h_X9_begin x S)).2)
    else (hsA (h_X9_begin x S) ((hsQ (h_X9_begin x S) x 1).getD 0) (hsA (h_X9_begin x S) ((hsQ (h_X9_begin x S) x 8).getD 0) p1.toNatClampNeg).toNatClampNeg, h_X9_begin x S)
def ok_X9_length_j20 (L : List Nat) (x : Nat) (p0 : Int32) (p1 : Int32) (S : HS) : Prop :=
  (((s_X9_isCell p1) = 0) → ((x ∈ L ∧ hsK (h_X9_begin x S) x = 7) ∧ ((ok_X9_fails L x 8 (h_X9_begin x S)) ∧ (True)))) ∧
  (¬ ((s_X9_isCell p1) = 0) → ((x ∈ L ∧ hsK (h_X9_begin x S) x = 7 ∧ hsQ (h_X9_begin x S) x 8 ≠ none) ∧ ((((hsQ (h_X9_begin x S) x 8).getD 0) ∈ L ∧ hsK (h_X9_begin x S) ((hsQ (h_X9_begin x S) x 8).getD 0) = 8 ∧ vp_in p1 (hsN (h_X9_begin x S) ((hsQ (h_X9_begin x S) x 8).getD 0))) ∧ ((x ∈ L ∧ hsK (h_X9_begin x S) x = 7) ∧ ((ok_X9_passes L x (hsA (h_X9_begin x S) ((hsQ (h_X9_begin x S) x 8).getD 0) p1.toNatClampNeg) p0 (h_X9_begin x S)) ∧ ((((h_X9_passes x (hsA (h_X9_begin x S) ((hsQ (h_X9_begin x S) x 8).getD 0) p1.toNatClampNeg) p0 (h_X9_begin x S)) = 0) → ((x ∈ L ∧ hsK (h_X9_begin x S) x = 7) ∧ ((ok_X9_fails L x 4 (h_X9_begin x S)) ∧ (True)))) ∧
   (¬ ((h_X9_passes x (hsA (h_X9_begin x S) ((hsQ (h_X9_begin x S) x 8).getD 0) p1.toNatClampNeg) p0 (h_X9_begin x S)) = 0) → ((((hsA (h_X9_begin x S) ((hsQ (h_X9_begin x S) x 8).getD 0) p1.toNatClampNeg) = 0) → ((x ∈ L ∧ hsK (h_X9_begin x S) x = 7) ∧ ((ok_X9_fails L x 1 (h_X9_begin x S)) ∧ (True)))) ∧
    (¬ ((hsA (h_X9_begin x S) ((hsQ (h_X9_begin x S) x 8).getD 0) p1.toNatClampNeg) = 0) → ((x ∈ L ∧ hsK (h_X9_begin x S) x = 7 ∧ hsQ (h_X9_begin x S) x 1 ≠ none) ∧ ((((hsQ (h_X9_begin x S) x 1).getD 0) ∈ L ∧ hsK (h_X9_begin x S) ((hsQ (h_X9_begin x S) x 1).getD 0) = 8 ∧ vp_in (hsA (h_X9_begin x S) ((hsQ (h_X9_begin x S) x 8).getD 0) p1.toNatClampNeg) (hsN (h_X9_begin x S) ((hsQ (h_X9_begin x S) x 1).getD 0))) ∧ (True))))))))))))
def h_X9_length (x : Nat) (p0 : Int32) (p1 : Int32) (S : HS) : Int32 × HS :=
  if (s_X9_in p0 0 9) = 0 then if p0 = 15 then h_X9_length_j20 x p0 p1 S
   else ((h_X9_fails x 8 (h_X9_begin x S)).1, (h_X9_fails x 8 (h_X9_begin x S)).2)
  else h_X9_length_j20 x p0 p1 S
def ok_X9_length (L : List Nat) (x : Nat) (p0 : Int32) (p1 : Int32) (S : HS) : Prop :=
  (x ∈ L ∧ hsK S x = 7) ∧ ((ok_X9_begin L x S) ∧ ((((s_X9_in p0 0 9) = 0) → (((p0 = 15) → (ok_X9_length_j20 L x p0 p1 S)) ∧
   (¬ (p0 = 15) → ((x ∈ L ∧ hsK (h_X9_begin x S) x = 7) ∧ ((ok_X9_fails L x 8 (h_X9_begin x S)) ∧ (True)))))) ∧
  (¬ ((s_X9_in p0 0 9) = 0) → (ok_X9_length_j20 L x p0 p1 S))))
set_option maxHeartbeats 4000000 in
set_option maxRecDepth 100000 in
theorem hm_X9_length (l : Launch) (G : GE) (L : List Nat) (S : HS) (x : Nat) (p0 : Int32) (p1 : Int32) (hok : ok_X9_length L x p0 p1 S) : HmI l G yX9_length wsX9_length 2 43 [.ref x, .int p0, .int p1] L S (h_X9_length x p0 p1 S) := by
  refine Met.ofW (cc := cX9_length) (maxL := 4) (ret := (some .int)) (by decide) rfl ?_
  intro p e s m args below meth c s₁ B hml hv
  obtain ⟨rfl, hP, hK, hnd, hE⟩ := hv
  have hx := B.exec
  have hb := B.bytes
  have hr := B.returns
  have hts := atoms_spec (ws := wsX9_length) B.pre
  have hown : s.vm.findClass RX9 = some m.cls := findClass_of_methodNamed B.named
  have hlocks := B.notSynchronized
  have hD := nd_D hnd
  have hS : va_S (AL L) s.heap s.heap [] := va_S.rf
  have hl := lv_entry ([.ref x, .int p0, .int p1]) (n := 4) (Nat.le_of_ble_eq_true rfl)
  rw [lg_entry_eq]
  generalize (lg_sl ([.ref x, .int p0, .int p1]) ++ List.replicate (4 - (lg_sl ([.ref x, .int p0, .int p1])).length) Slot.unset).toArray = ls at hl ⊢
  have hl : lv_has ls 4 [(0, .ref x), (1, .int p0), (2, .int p1)] := hl
  obtain ⟨Z, hZ⟩ : ∃ z, z = MQ below (hm_QI G L (h_X9_length x p0 p1 S)) ([.ref x, .int p0, .int p1] : List Value).toArray s 0 0 (AL L) := ⟨_, rfl⟩
  rw [← hZ]
  refine lv_aload_n hx hb dX9_length_0 rfl (lv_at hl 0 rfl) ?_
  obtain ⟨h_1k, hok⟩ := hok
  obtain ⟨h_1, hok⟩ := hok
  refine hm_callV (G := G) (a := ([.ref x] : List Value).toArray) (pr := (h_X9_begin x S)) (rest := []) ?_ hS (fun H locs hP hS => ?_)
  ·
    exact va_runV (As := []) (rest := []) ⟨hx, hb, hml, hown, hts⟩ (hm_X9_begin l G L S x h_1) (cwV 0 hts gX9_length_X9_begin rfl rfl rfl hdv_X9_begin ⟨Nat.le_of_ble_eq_true rfl, Nat.le_of_ble_eq_true rfl⟩) ⟨HW.fb, hp_recv hK hP h_1k.1 (PF_7 h_1k.2) rfl, fun U hU hW => ⟨rfl, HW.call hP hK hnd hE hS U hU hW⟩⟩ rfl rfl hl.1 rfl (lv_room (Nat.le_of_ble_eq_true rfl)) dX9_length_1 ⟨Nat.le_refl 0, Nat.le_refl 0⟩
  ·
    refine lv_iload_n hx hb dX9_length_4 rfl (lv_at hl 1 rfl) ?_
    refine lv_iconst (v := 0) hx hb dX9_length_5 (by decide) ?_
    refine lv_bipush (v := 9) hx hb dX9_length_6 (by decide) ?_
    refine pm_callI (va_runS (As := [.int p0, .int 0, .int 9]) (rest := []) ⟨hx, hb, hml, hown, hts⟩ (pm_X9_in l p0 0 9) (va_cwS 3 hts gX9_length_X9_in rfl rfl rfl hd_X9_in ⟨Nat.le_of_ble_eq_true rfl, Nat.le_of_ble_eq_true rfl⟩) ⟨pm_fbT, fun U hU hW => ⟨rfl, trivial⟩⟩ rfl rfl hl.1 rfl (lv_room (Nat.le_of_ble_eq_true rfl)) dX9_length_8 ⟨Nat.le_refl 0, Nat.le_refl 0⟩) hS (fun H locs _ hk9 hS => ?_)
    replace hP := P_keep hP hk9
    have K_20 : ∀ (H : Heap) (locs : List Loc), va_P (gD G) vwCl (va_pl L (PF G (h_X9_begin x S))) H → va_S (AL L) s.heap H locs → ∀ (ls : Array Slot), lv_has ls 4 [(0, .ref x), (1, .int p0), (2, .int p1)] → ok_X9_length_j20 L x p0 p1 S → h_X9_length x p0 p1 S = h_X9_length_j20 x p0 p1 S → W p l e (pm_R 2 43) s m ([.ref x, .int p0, .int p1] : List Value).toArray below meth c H locs 0 0 Z (F0 m 20 ls []) := by
      intro H locs hP hS ls hl hok hK_20
      refine lv_iload_n hx hb dX9_length_20 rfl (lv_at hl 2 rfl) ?_
      refine pm_callI (va_runS (As := [.int p1]) (rest := []) ⟨hx, hb, hml, hown, hts⟩ (pm_X9_isCell l p1) (va_cwS 1 hts gX9_length_X9_isCell rfl rfl rfl hd_X9_isCell ⟨Nat.le_of_ble_eq_true rfl, Nat.le_of_ble_eq_true rfl⟩) ⟨pm_fbT, fun U hU hW => ⟨rfl, trivial⟩⟩ rfl rfl hl.1 rfl (lv_room (Nat.le_of_ble_eq_true rfl)) dX9_length_21 ⟨Nat.le_refl 0, Nat.le_refl 0⟩) hS (fun H locs _ hk9 hS => ?_)
      replace hP := P_keep hP hk9
      refine lv_if_ne (tgt := 34) hx hb dX9_length_24 (by decide) (fun c_24 => ?_) (fun c_24 => ?_)
      ·
        have hok := (hok).2 c_24
        refine lv_aload_n hx hb dX9_length_34 rfl (lv_at hl 0 rfl) ?_
        obtain ⟨h_35, hok⟩ := hok
        refine hp_getR (ci := 7) (C := RX9) (T := TX9) (N := 12) hx hb hts iw_X9_length_X9 hown hK hP h_35.1 (PF_7 h_35.2.1) rfl 8 (by decide) (hts _ (List.mem_of_getElem? (i := 1) rfl)) (fun _ h9 => h9) rfl h_35.2.2 dX9_length_35 ?_
        refine lv_iload_n hx hb dX9_length_38 rfl (lv_at hl 2 rfl) ?_
        obtain ⟨h_39, hok⟩ := hok
        refine hp_iald hx hb hK hP h_39.1 0 (PF_8 h_39.2.1) rfl h_39.2.2 dX9_length_39 ?_
        refine lv_istore_n (lv' := [(3, .int (hsA (h_X9_begin x S) ((hsQ (h_X9_begin x S) x 8).getD 0) p1.toNatClampNeg)), (0, .ref x), (1, .int p0), (2, .int p1)]) hx hb dX9_length_40 rfl hl (by decide) rfl (fun ls hl => ?_)
        refine lv_aload_n hx hb dX9_length_41 rfl (lv_at hl 1 rfl) ?_
        refine lv_iload_n hx hb dX9_length_42 rfl (lv_at hl 0 rfl) ?_
        refine lv_iload_n hx hb dX9_length_43 rfl (lv_at hl 2 rfl) ?_
        obtain ⟨h_44k, hok⟩ := hok
        obtain ⟨h_44, hok⟩ := hok
        refine hm_callIr (G := G) (S1 := h_X9_begin x S) (a := ([.ref x, .int (hsA (h_X9_begin x S) ((hsQ (h_X9_begin x S) x 8).getD 0) p1.toNatClampNeg), .int p0] : List Value).toArray) (rest := []) (h_X9_passes x (hsA (h_X9_begin x S) ((hsQ (h_X9_begin x S) x 8).getD 0) p1.toNatClampNeg) p0 (h_X9_begin x S)) ?_ hS (fun H locs hP hS => ?_)
        ·
          exact va_runV (As := [.int (hsA (h_X9_begin x S) ((hsQ (h_X9_begin x S) x 8).getD 0) p1.toNatClampNeg), .int p0]) (rest := []) ⟨hx, hb, hml, hown, hts⟩ (hm_X9_passes l G L (h_X9_begin x S) x (hsA (h_X9_begin x S) ((hsQ (h_X9_begin x S) x 8).getD 0) p1.toNatClampNeg) p0 h_44) (cwV 2 hts gX9_length_X9_passes rfl rfl rfl hdv_X9_passes ⟨Nat.le_of_ble_eq_true rfl, Nat.le_of_ble_eq_true rfl⟩) ⟨HW.fb, hp_recv hK hP h_44k.1 (PF_7 h_44k.2) rfl, fun U hU hW => ⟨rfl, HW.call hP hK hnd hE hS U hU hW⟩⟩ rfl rfl hl.1 rfl (lv_room (Nat.le_of_ble_eq_true rfl)) dX9_length_44 ⟨Nat.le_refl 0, Nat.le_refl 0⟩
        ·
          refine lv_if_ne (tgt := 58) hx hb dX9_length_47 (by decide) (fun c_47 => ?_) (fun c_47 => ?_)
          ·
            have hok := (hok).2 c_47
            refine lv_iload_n hx hb dX9_length_58 rfl (lv_at hl 0 rfl) ?_
            refine lv_if_ne (tgt := 70) hx hb dX9_length_59 (by decide) (fun c_59 => ?_) (fun c_59 => ?_)
            ·
              have hok := (hok).2 c_59
              refine lv_aload_n hx hb dX9_length_70 rfl (lv_at hl 1 rfl) ?_
              obtain ⟨h_71, hok⟩ := hok
              refine hp_getR (ci := 7) (C := RX9) (T := TX9) (N := 12) hx hb hts iw_X9_length_X9 hown hK hP h_71.1 (PF_7 h_71.2.1) rfl 1 (by decide) (hts _ (List.mem_of_getElem? (i := 2) rfl)) (fun _ h9 => h9) rfl h_71.2.2 dX9_length_71 ?_
              refine lv_iload_n hx hb dX9_length_74 rfl (lv_at hl 0 rfl) ?_
              obtain ⟨h_75, hok⟩ := hok
              refine hp_iald hx hb hK hP h_75.1 0 (PF_8 h_75.2.1) rfl h_75.2.2 dX9_length_75 ?_
              rw [hZ]
              exact hm_iret hx hb hr hlocks hS hP hK hnd hE (((hK_20).trans ((if_neg c_24).trans ((if_neg c_47).trans (if_neg c_59))))) dX9_length_76
            ·
              have hok := (hok).1 c_59
              refine lv_aload_n hx hb dX9_length_62 rfl (lv_at hl 1 rfl) ?_
              refine lv_iconst (v := 1) hx hb dX9_length_63 (by decide) ?_
              obtain ⟨h_64k, hok⟩ := hok
              obtain ⟨h_64, hok⟩ := hok
              refine hm_callI (G := G) (a := ([.ref x, .int 1] : List Value).toArray) (pr := (h_X9_fails x 1 (h_X9_begin x S))) (rest := []) ?_ hS (fun H locs hP hS => ?_)
              ·
                exact va_runV (As := [.int 1]) (rest := []) ⟨hx, hb, hml, hown, hts⟩ (hm_X9_fails l G L (h_X9_begin x S) x 1 h_64) (cwV 1 hts gX9_length_X9_fails rfl rfl rfl hdv_X9_fails ⟨Nat.le_of_ble_eq_true rfl, Nat.le_of_ble_eq_true rfl⟩) ⟨HW.fb, hp_recv hK hP h_64k.1 (PF_7 h_64k.2) rfl, fun U hU hW => ⟨rfl, HW.call hP hK hnd hE hS U hU hW⟩⟩ rfl rfl hl.1 rfl (lv_room (Nat.le_of_ble_eq_true rfl)) dX9_length_64 ⟨Nat.le_refl 0, Nat.le_refl 0⟩
              ·
                refine lv_goto (tgt := 76) hx hb dX9_length_67 (by decide) ?_
                rw [hZ]
                exact hm_iret hx hb hr hlocks hS hP hK hnd hE (((hK_20).trans ((if_neg c_24).trans ((if_neg c_47).trans (if_pos c_59))))) dX9_length_76
          ·
            have hok := (hok).1 c_47
            refine lv_aload_n hx hb dX9_length_50 rfl (lv_at hl 1 rfl) ?_
            refine lv_iconst (v := 4) hx hb dX9_length_51 (by decide) ?_
            obtain ⟨h_52k, hok⟩ := hok
            obtain ⟨h_52, hok⟩ := hok
            refine hm_callI (G := G) (a := ([.ref x, .int 4] : List Value).toArray) (pr := (h_X9_fails x 4 (h_X9_begin x S))) (rest := []) ?_ hS (fun H locs hP hS => ?_)
            ·
              exact va_runV (As := [.int 4]) (rest := []) ⟨hx, hb, hml, hown, hts⟩ (hm_X9_fails l G L (h_X9_begin x S) x 4 h_52) (cwV 1 hts gX9_length_X9_fails rfl rfl rfl hdv_X9_fails ⟨Nat.le_of_ble_eq_true rfl, Nat.le_of_ble_eq_true rfl⟩) ⟨HW.fb, hp_recv hK hP h_52k.1 (PF_7 h_52k.2) rfl, fun U hU hW => ⟨rfl, HW.call hP hK hnd hE hS U hU hW⟩⟩ rfl rfl hl.1 rfl (lv_room (Nat.le_of_ble_eq_true rfl)) dX9_length_52 ⟨Nat.le_refl 0, Nat.le_refl 0⟩
            ·
              refine lv_goto (tgt := 76) hx hb dX9_length_55 (by decide) ?_
              rw [hZ]
              exact hm_iret hx hb hr hlocks hS hP hK hnd hE (((hK_20).trans ((if_neg c_24).trans (if_pos c_47)))) dX9_length_76
      ·
        have hok := (hok).1 c_24
        refine lv_aload_n hx hb dX9_length_27 rfl (lv_at hl 0 rfl) ?_
        refine lv_bipush (v := 8) hx hb dX9_length_28 (by decide) ?_
        obtain ⟨h_30k, hok⟩ := hok
        obtain ⟨h_30, hok⟩ := hok
        refine hm_callI (G := G) (a := ([.ref x, .int 8] : List Value).toArray) (pr := (h_X9_fails x 8 (h_X9_begin x S))) (rest := []) ?_ hS (fun H locs hP hS => ?_)
        ·
          exact va_runV (As := [.int 8]) (rest := []) ⟨hx, hb, hml, hown, hts⟩ (hm_X9_fails l G L (h_X9_begin x S) x 8 h_30) (cwV 1 hts gX9_length_X9_fails rfl rfl rfl hdv_X9_fails ⟨Nat.le_of_ble_eq_true rfl, Nat.le_of_ble_eq_true rfl⟩) ⟨HW.fb, hp_recv hK hP h_30k.1 (PF_7 h_30k.2) rfl, fun U hU hW => ⟨rfl, HW.call hP hK hnd hE hS U hU hW⟩⟩ rfl rfl hl.1 rfl (lv_room (Nat.le_of_ble_eq_true rfl)) dX9_length_30 ⟨Nat.le_refl 0, Nat.le_refl 0⟩
        ·
          rw [hZ]
          exact hm_iret hx hb hr hlocks hS hP hK hnd hE (((hK_20).trans (if_pos c_24))) dX9_length_33
    refine lv_if_ne (tgt := 20) hx hb dX9_length_11 (by decide) (fun c_11 => ?_) (fun c_11 => ?_)
    ·
      have hok := (hok).2 c_11
      exact K_20 _ _ hP hS ls (lv_sub hl [0, 1, 2] rfl) hok ((if_neg c_11))
    ·
      have hok := (hok).1 c_11
      refine lv_iload_n hx hb dX9_length_14 rfl (lv_at hl 1 rfl) ?_
      refine lv_bipush (v := 15) hx hb dX9_length_15 (by decide) ?_
      refine lv_icmp_ne (tgt := 27) hx hb dX9_length_17 (by decide) (fun c_17 => ?_) (fun c_17 => ?_)
      ·
        have hok := (hok).2 c_17
        refine lv_aload_n hx hb dX9_length_27 rfl (lv_at hl 0 rfl) ?_
        refine lv_bipush (v := 8) hx hb dX9_length_28 (by decide) ?_
        obtain ⟨h_30k, hok⟩ := hok
        obtain ⟨h_30, hok⟩ := hok
        refine hm_callI (G := G) (a := ([.ref x, .int 8] : List Value).toArray) (pr := (h_X9_fails x 8 (h_X9_begin x S))) (rest := []) ?_ hS (fun H locs hP hS => ?_)
        ·
          exact va_runV (As := [.int 8]) (rest := []) ⟨hx, hb, hml, hown, hts⟩ (hm_X9_fails l G L (h_X9_begin x S) x 8 h_30) (cwV 1 hts gX9_length_X9_fails rfl rfl rfl hdv_X9_fails ⟨Nat.le_of_ble_eq_true rfl, Nat.le_of_ble_eq_true rfl⟩) ⟨HW.fb, hp_recv hK hP h_30k.1 (PF_7 h_30k.2) rfl, fun U hU hW => ⟨rfl, HW.call hP hK hnd hE hS U hU hW⟩⟩ rfl rfl hl.1 rfl (lv_room (Nat.le_of_ble_eq_true rfl)) dX9_length_30 ⟨Nat.le_refl 0, Nat.le_refl 0⟩
        ·
          rw [hZ]
          exact hm_iret hx hb hr hlocks hS hP hK hnd hE (((if_pos c_11).trans (if_neg c_17))) dX9_length_33
      ·
        have hok := (hok).1 c_17
        exact K_20 _ _ hP hS ls (lv_sub hl [0, 1, 2] rfl) hok (((if_pos c_11).trans (if_pos c_17)))
theorem hdv_X9_load : yX9_load.cls = RX9 ∧ yX9_load.cls ≠ "java/lang/invoke/MethodHandle" ∧ yX9_load.cls ≠ "java/lang/invoke/VarHandle" ∧ (parseMethodDescriptor yX9_load.desc).map (fun d => d.parameters.length) = some 3 := by decide +kernel
theorem iw_X9_load_X9 : ∀ w ∈ u_ws RX9 TX9 12, w ∈ wsX9_load := by decide +kernel
def h_X9_load_j21 (x : Nat) (p0 : Int32) (p1 : Int32) (p2 : Int32) (S : HS) : Int64 × HS :=
  (((h_X9_fails x 8 (h_X9_begin x S)).1).toInt64, (h_X9_fails x 8 (h_X9_begin x S)).2)
def ok_X9_load_j21 (L : List Nat) (x : Nat) (p0 : Int32) (p1 : Int32) (p2 : Int32) (S : HS) : Prop :=
  (x ∈ L ∧ hsK (h_X9_begin x S) x = 7) ∧ ((ok_X9_fails L x 8 (h_X9_begin x S)) ∧ (True))
def h_X9_load (x : Nat) (p0 : Int32) (p1 : Int32) (p2 : Int32) (S : HS) : Int64 × HS :=
  if (s_X9_in p0 0 6) = 0 then h_X9_load_j21 x p0 p1 p2 S
  else if (s_X9_isCell p1) = 0 then h_X9_load_j21 x p0 p1 p2 S
   else if (h_X9_against x p0 (hsA (h_X9_begin x S) ((hsQ (h_X9_begin x S) x 8).getD 0) p1.toNatClampNeg) p2 (h_X9_begin x S)) ≤ 0 then (h_X9_element x (hsA (h_X9_begin x S) ((hsQ (h_X9_begin x S) x 8).getD 0) p1.toNatClampNeg) p2 (h_X9_begin x S), h_X9_begin x S)
    else (((h_X9_fails x (h_X9_against x p0 (hsA (h_X9_begin x S) ((hsQ (h_X9_begin x S) x 8).getD 0) p1.toNatClampNeg) p2 (h_X9_begin x S)) (h_X9_begin x S)).1).toInt64, (h_X9_fails x (h_X9_against x p0 (hsA (h_X9_begin x S) ((hsQ (h_X9_begin x S) x 8).getD 0) p1.toNatClampNeg) p2 (h_X9_begin x S)) (h_X9_begin x S)).2)
def ok_X9_load (L : List Nat) (x : Nat) (p0 : Int32) (p1 : Int32) (p2 : Int32) (S : HS) : Prop :=
  (x ∈ L ∧ hsK S x = 7) ∧ ((ok_X9_begin L x S) ∧ ((((s_X9_in p0 0 6) = 0) → (ok_X9_load_j21 L x p0 p1 p2 S)) ∧
  (¬ ((s_X9_in p0 0 6) = 0) → ((((s_X9_isCell p1) = 0) → (ok_X9_load_j21 L x p0 p1 p2 S)) ∧
   (¬ ((s_X9_isCell p1) = 0) → ((x ∈ L ∧ hsK (h_X9_begin x S) x = 7 ∧ hsQ (h_X9_begin x S) x 8 ≠ none) ∧ ((((hsQ (h_X9_begin x S) x 8).getD 0) ∈ L ∧ hsK (h_X9_begin x S) ((hsQ (h_X9_begin x S) x 8).getD 0) = 8 ∧ vp_in p1 (hsN (h_X9_begin x S) ((hsQ (h_X9_begin x S) x 8).getD 0))) ∧ ((x ∈ L ∧ hsK (h_X9_begin x S) x = 7) ∧ ((ok_X9_against L x p0 (hsA (h_X9_begin x S) ((hsQ (h_X9_begin x S) x 8).getD 0) p1.toNatClampNeg) p2 (h_X9_begin x S)) ∧ ((((h_X9_against x p0 (hsA (h_X9_begin x S) ((hsQ (h_X9_begin x S) x 8).getD 0) p1.toNatClampNeg) p2 (h_X9_begin x S)) ≤ 0) → ((x ∈ L ∧ hsK (h_X9_begin x S) x = 7 ∧ hsQ (h_X9_begin x S) x 8 ≠ none) ∧ ((((hsQ (h_X9_begin x S) x 8).getD 0) ∈ L ∧ hsK (h_X9_begin x S) ((hsQ (h_X9_begin x S) x 8).getD 0) = 8 ∧ vp_in p1 (hsN (h_X9_begin x S) ((hsQ (h_X9_begin x S) x 8).getD 0))) ∧ ((x ∈ L ∧ hsK (h_X9_begin x S) x = 7) ∧ ((ok_X9_element L x (hsA (h_X9_begin x S) ((hsQ (h_X9_begin x S) x 8).getD 0) p1.toNatClampNeg) p2 (h_X9_begin x S)) ∧ (True)))))) ∧
    (¬ ((h_X9_against x p0 (hsA (h_X9_begin x S) ((hsQ (h_X9_begin x S) x 8).getD 0) p1.toNatClampNeg) p2 (h_X9_begin x S)) ≤ 0) → ((x ∈ L ∧ hsK (h_X9_begin x S) x = 7) ∧ ((ok_X9_fails L x (h_X9_against x p0 (hsA (h_X9_begin x S) ((hsQ (h_X9_begin x S) x 8).getD 0) p1.toNatClampNeg) p2 (h_X9_begin x S)) (h_X9_begin x S)) ∧ (True))))))))))))))
set_option maxHeartbeats 4000000 in
set_option maxRecDepth 100000 in
theorem hm_X9_load (l : Launch) (G : GE) (L : List Nat) (S : HS) (x : Nat) (p0 : Int32) (p1 : Int32) (p2 : Int32) (hok : ok_X9_load L x p0 p1 p2 S) : HmL l G yX9_load wsX9_load 3 66 [.ref x, .int p0, .int p1, .int p2] L S (h_X9_load x p0 p1 p2 S) := by
  refine Met.ofW (cc := cX9_load) (maxL := 5) (ret := (some .long)) (by decide) rfl ?_
  intro p e s m args below meth c s₁ B hml hv
  obtain ⟨rfl, hP, hK, hnd, hE⟩ := hv
  have hx := B.exec
  have hb := B.bytes
  have hr := B.returns
  have hts := atoms_spec (ws := wsX9_load) B.pre
  have hown : s.vm.findClass RX9 = some m.cls := findClass_of_methodNamed B.named
  have hlocks := B.notSynchronized
  have hD := nd_D hnd
  have hS : va_S (AL L) s.heap s.heap [] := va_S.rf
  have hl := lv_entry ([.ref x, .int p0, .int p1, .int p2]) (n := 5) (Nat.le_of_ble_eq_true rfl)
  rw [lg_entry_eq]
  generalize (lg_sl ([.ref x, .int p0, .int p1, .int p2]) ++ List.replicate (5 - (lg_sl ([.ref x, .int p0, .int p1, .int p2])).length) Slot.unset).toArray = ls at hl ⊢
  have hl : lv_has ls 5 [(0, .ref x), (1, .int p0), (2, .int p1), (3, .int p2)] := hl
  obtain ⟨Z, hZ⟩ : ∃ z, z = MQ below (hm_QL G L (h_X9_load x p0 p1 p2 S)) ([.ref x, .int p0, .int p1, .int p2] : List Value).toArray s 0 0 (AL L) := ⟨_, rfl⟩
  rw [← hZ]
  refine lv_aload_n hx hb dX9_load_0 rfl (lv_at hl 0 rfl) ?_
  obtain ⟨h_1k, hok⟩ := hok
  obtain ⟨h_1, hok⟩ := hok
  refine hm_callV (G := G) (a := ([.ref x] : List Value).toArray) (pr := (h_X9_begin x S)) (rest := []) ?_ hS (fun H locs hP hS => ?_)
  ·
    exact va_runV (As := []) (rest := []) ⟨hx, hb, hml, hown, hts⟩ (hm_X9_begin l G L S x h_1) (cwV 0 hts gX9_load_X9_begin rfl rfl rfl hdv_X9_begin ⟨Nat.le_of_ble_eq_true rfl, Nat.le_of_ble_eq_true rfl⟩) ⟨HW.fb, hp_recv hK hP h_1k.1 (PF_7 h_1k.2) rfl, fun U hU hW => ⟨rfl, HW.call hP hK hnd hE hS U hU hW⟩⟩ rfl rfl hl.1 rfl (lv_room (Nat.le_of_ble_eq_true rfl)) dX9_load_1 ⟨Nat.le_refl 0, Nat.le_refl 0⟩
  ·
    refine lv_iload_n hx hb dX9_load_4 rfl (lv_at hl 1 rfl) ?_
    refine lv_iconst (v := 0) hx hb dX9_load_5 (by decide) ?_
    refine lv_bipush (v := 6) hx hb dX9_load_6 (by decide) ?_
    refine pm_callI (va_runS (As := [.int p0, .int 0, .int 6]) (rest := []) ⟨hx, hb, hml, hown, hts⟩ (pm_X9_in l p0 0 6) (va_cwS 3 hts gX9_load_X9_in rfl rfl rfl hd_X9_in ⟨Nat.le_of_ble_eq_true rfl, Nat.le_of_ble_eq_true rfl⟩) ⟨pm_fbT, fun U hU hW => ⟨rfl, trivial⟩⟩ rfl rfl hl.1 rfl (lv_room (Nat.le_of_ble_eq_true rfl)) dX9_load_8 ⟨Nat.le_refl 0, Nat.le_refl 0⟩) hS (fun H locs _ hk9 hS => ?_)
    replace hP := P_keep hP hk9
    have K_21 : ∀ (H : Heap) (locs : List Loc), va_P (gD G) vwCl (va_pl L (PF G (h_X9_begin x S))) H → va_S (AL L) s.heap H locs → ∀ (ls : Array Slot), lv_has ls 5 [(0, .ref x)] → ok_X9_load_j21 L x p0 p1 p2 S → h_X9_load x p0 p1 p2 S = h_X9_load_j21 x p0 p1 p2 S → W p l e (pm_R 3 66) s m ([.ref x, .int p0, .int p1, .int p2] : List Value).toArray below meth c H locs 0 0 Z (F0 m 21 ls []) := by
      intro H locs hP hS ls hl hok hK_21
      refine lv_aload_n hx hb dX9_load_21 rfl (lv_at hl 0 rfl) ?_
      refine lv_bipush (v := 8) hx hb dX9_load_22 (by decide) ?_
      obtain ⟨h_24k, hok⟩ := hok
      obtain ⟨h_24, hok⟩ := hok
      refine hm_callI (G := G) (a := ([.ref x, .int 8] : List Value).toArray) (pr := (h_X9_fails x 8 (h_X9_begin x S))) (rest := []) ?_ hS (fun H locs hP hS => ?_)
      ·
        exact va_runV (As := [.int 8]) (rest := []) ⟨hx, hb, hml, hown, hts⟩ (hm_X9_fails l G L (h_X9_begin x S) x 8 h_24) (cwV 1 hts gX9_load_X9_fails rfl rfl rfl hdv_X9_fails ⟨Nat.le_of_ble_eq_true rfl, Nat.le_of_ble_eq_true rfl⟩) ⟨HW.fb, hp_recv hK hP h_24k.1 (PF_7 h_24k.2) rfl, fun U hU hW => ⟨rfl, HW.call hP hK hnd hE hS U hU hW⟩⟩ rfl rfl hl.1 rfl (lv_room (Nat.le_of_ble_eq_true rfl)) dX9_load_24 ⟨Nat.le_refl 0, Nat.le_refl 0⟩
      ·
        refine lv_i2l (v := ((h_X9_fails x 8 (h_X9_begin x S)).1).toInt64) hx hb dX9_load_27 rfl ?_
        rw [hZ]
        exact hm_lret hx hb hr hlocks hS hP hK hnd hE ((hK_21)) dX9_load_28
    refine lv_if_eq (tgt := 21) hx hb dX9_load_11 (by decide) (fun c_11 => ?_) (fun c_11 => ?_)
    ·
      have hok := (hok).1 c_11
      exact K_21 _ _ hP hS ls (lv_sub hl [0] rfl) hok ((if_pos c_11))
    ·
      have hok := (hok).2 c_11
      refine lv_iload_n hx hb dX9_load_14 rfl (lv_at hl 2 rfl) ?_
      refine pm_callI (va_runS (As := [.int p1]) (rest := []) ⟨hx, hb, hml, hown, hts⟩ (pm_X9_isCell l p1) (va_cwS 1 hts gX9_load_X9_isCell rfl rfl rfl hd_X9_isCell ⟨Nat.le_of_ble_eq_true rfl, Nat.le_of_ble_eq_true rfl⟩) ⟨pm_fbT, fun U hU hW => ⟨rfl, trivial⟩⟩ rfl rfl hl.1 rfl (lv_room (Nat.le_of_ble_eq_true rfl)) dX9_load_15 ⟨Nat.le_refl 0, Nat.le_refl 0⟩) hS (fun H locs _ hk9 hS => ?_)
      replace hP := P_keep hP hk9
      refine lv_if_ne (tgt := 29) hx hb dX9_load_18 (by decide) (fun c_18 => ?_) (fun c_18 => ?_)
      ·
        have hok := (hok).2 c_18
        refine lv_aload_n hx hb dX9_load_29 rfl (lv_at hl 0 rfl) ?_
        refine lv_iload_n hx hb dX9_load_30 rfl (lv_at hl 1 rfl) ?_
        refine lv_aload_n hx hb dX9_load_31 rfl (lv_at hl 0 rfl) ?_
        obtain ⟨h_32, hok⟩ := hok
        refine hp_getR (ci := 7) (C := RX9) (T := TX9) (N := 12) hx hb hts iw_X9_load_X9 hown hK hP h_32.1 (PF_7 h_32.2.1) rfl 8 (by decide) (hts _ (List.mem_of_getElem? (i := 1) rfl)) (fun _ h9 => h9) rfl h_32.2.2 dX9_load_32 ?_
        refine lv_iload_n hx hb dX9_load_35 rfl (lv_at hl 2 rfl) ?_
        obtain ⟨h_36, hok⟩ := hok
        refine hp_iald hx hb hK hP h_36.1 0 (PF_8 h_36.2.1) rfl h_36.2.2 dX9_load_36 ?_
        refine lv_iload_n hx hb dX9_load_37 rfl (lv_at hl 3 rfl) ?_
        obtain ⟨h_38k, hok⟩ := hok
        obtain ⟨h_38, hok⟩ := hok
        refine hm_callIr (G := G) (S1 := h_X9_begin x S) (a := ([.ref x, .int p0, .int (hsA (h_X9_begin x S) ((hsQ (h_X9_begin x S) x 8).getD 0) p1.toNatClampNeg), .int p2] : List Value).toArray) (rest := []) (h_X9_against x p0 (hsA (h_X9_begin x S) ((hsQ (h_X9_begin x S) x 8).getD 0) p1.toNatClampNeg) p2 (h_X9_begin x S)) ?_ hS (fun H locs hP hS => ?_)
        ·
          exact va_runV (As := [.int p0, .int (hsA (h_X9_begin x S) ((hsQ (h_X9_begin x S) x 8).getD 0) p1.toNatClampNeg), .int p2]) (rest := []) ⟨hx, hb, hml, hown, hts⟩ (hm_X9_against l G L (h_X9_begin x S) x p0 (hsA (h_X9_begin x S) ((hsQ (h_X9_begin x S) x 8).getD 0) p1.toNatClampNeg) p2 h_38) (cwV 3 hts gX9_load_X9_against rfl rfl rfl hdv_X9_against ⟨Nat.le_of_ble_eq_true rfl, Nat.le_of_ble_eq_true rfl⟩) ⟨HW.fb, hp_recv hK hP h_38k.1 (PF_7 h_38k.2) rfl, fun U hU hW => ⟨rfl, HW.call hP hK hnd hE hS U hU hW⟩⟩ rfl rfl hl.1 rfl (lv_room (Nat.le_of_ble_eq_true rfl)) dX9_load_38 ⟨Nat.le_refl 0, Nat.le_refl 0⟩
        ·
          refine lv_istore (lv' := [(4, .int (h_X9_against x p0 (hsA (h_X9_begin x S) ((hsQ (h_X9_begin x S) x 8).getD 0) p1.toNatClampNeg) p2 (h_X9_begin x S))), (0, .ref x), (1, .int p0), (2, .int p1), (3, .int p2)]) hx hb dX9_load_41 hl (by decide) rfl (fun ls hl => ?_)
          refine lv_iload hx hb dX9_load_43 (lv_at hl 0 rfl) ?_
          refine lv_if_le (tgt := 58) hx hb dX9_load_45 (by decide) (fun c_45 => ?_) (fun c_45 => ?_)
          ·
            have hok := (hok).1 c_45
            refine lv_aload_n hx hb dX9_load_58 rfl (lv_at hl 1 rfl) ?_
            refine lv_aload_n hx hb dX9_load_59 rfl (lv_at hl 1 rfl) ?_
            obtain ⟨h_60, hok⟩ := hok
            refine hp_getR (ci := 7) (C := RX9) (T := TX9) (N := 12) hx hb hts iw_X9_load_X9 hown hK hP h_60.1 (PF_7 h_60.2.1) rfl 8 (by decide) (hts _ (List.mem_of_getElem? (i := 1) rfl)) (fun _ h9 => h9) rfl h_60.2.2 dX9_load_60 ?_
            refine lv_iload_n hx hb dX9_load_63 rfl (lv_at hl 3 rfl) ?_
            obtain ⟨h_64, hok⟩ := hok
            refine hp_iald hx hb hK hP h_64.1 0 (PF_8 h_64.2.1) rfl h_64.2.2 dX9_load_64 ?_
            refine lv_iload_n hx hb dX9_load_65 rfl (lv_at hl 4 rfl) ?_
            obtain ⟨h_66k, hok⟩ := hok
            obtain ⟨h_66, hok⟩ := hok
            refine hm_callLr (G := G) (S1 := h_X9_begin x S) (a := ([.ref x, .int (hsA (h_X9_begin x S) ((hsQ (h_X9_begin x S) x 8).getD 0) p1.toNatClampNeg), .int p2] : List Value).toArray) (rest := []) (h_X9_element x (hsA (h_X9_begin x S) ((hsQ (h_X9_begin x S) x 8).getD 0) p1.toNatClampNeg) p2 (h_X9_begin x S)) ?_ hS (fun H locs hP hS => ?_)
            ·
              exact va_runV (As := [.int (hsA (h_X9_begin x S) ((hsQ (h_X9_begin x S) x 8).getD 0) p1.toNatClampNeg), .int p2]) (rest := []) ⟨hx, hb, hml, hown, hts⟩ (hm_X9_element l G L (h_X9_begin x S) x (hsA (h_X9_begin x S) ((hsQ (h_X9_begin x S) x 8).getD 0) p1.toNatClampNeg) p2 h_66) (cwV 2 hts gX9_load_X9_element rfl rfl rfl hdv_X9_element ⟨Nat.le_of_ble_eq_true rfl, Nat.le_of_ble_eq_true rfl⟩) ⟨HW.fb, hp_recv hK hP h_66k.1 (PF_7 h_66k.2) rfl, fun U hU hW => ⟨rfl, HW.call hP hK hnd hE hS U hU hW⟩⟩ rfl rfl hl.1 rfl (lv_room (Nat.le_of_ble_eq_true rfl)) dX9_load_66 ⟨Nat.le_refl 0, Nat.le_refl 0⟩
            ·
              rw [hZ]
              exact hm_lret hx hb hr hlocks hS hP hK hnd hE (((if_neg c_11).trans ((if_neg c_18).trans (if_pos c_45)))) dX9_load_69
          ·
            have hok := (hok).2 c_45
            refine lv_aload_n hx hb dX9_load_48 rfl (lv_at hl 1 rfl) ?_
            refine lv_iload hx hb dX9_load_49 (lv_at hl 0 rfl) ?_
            obtain ⟨h_51k, hok⟩ := hok
            obtain ⟨h_51, hok⟩ := hok
            refine hm_callI (G := G) (a := ([.ref x, .int (h_X9_against x p0 (hsA (h_X9_begin x S) ((hsQ (h_X9_begin x S) x 8).getD 0) p1.toNatClampNeg) p2 (h_X9_begin x S))] : List Value).toArray) (pr := (h_X9_fails x (h_X9_against x p0 (hsA (h_X9_begin x S) ((hsQ (h_X9_begin x S) x 8).getD 0) p1.toNatClampNeg) p2 (h_X9_begin x S)) (h_X9_begin x S))) (rest := []) ?_ hS (fun H locs hP hS => ?_)
            ·
              exact va_runV (As := [.int (h_X9_against x p0 (hsA (h_X9_begin x S) ((hsQ (h_X9_begin x S) x 8).getD 0) p1.toNatClampNeg) p2 (h_X9_begin x S))]) (rest := []) ⟨hx, hb, hml, hown, hts⟩ (hm_X9_fails l G L (h_X9_begin x S) x (h_X9_against x p0 (hsA (h_X9_begin x S) ((hsQ (h_X9_begin x S) x 8).getD 0) p1.toNatClampNeg) p2 (h_X9_begin x S)) h_51) (cwV 1 hts gX9_load_X9_fails rfl rfl rfl hdv_X9_fails ⟨Nat.le_of_ble_eq_true rfl, Nat.le_of_ble_eq_true rfl⟩) ⟨HW.fb, hp_recv hK hP h_51k.1 (PF_7 h_51k.2) rfl, fun U hU hW => ⟨rfl, HW.call hP hK hnd hE hS U hU hW⟩⟩ rfl rfl hl.1 rfl (lv_room (Nat.le_of_ble_eq_true rfl)) dX9_load_51 ⟨Nat.le_refl 0, Nat.le_refl 0⟩
            ·
              refine lv_i2l (v := ((h_X9_fails x (h_X9_against x p0 (hsA (h_X9_begin x S) ((hsQ (h_X9_begin x S) x 8).getD 0) p1.toNatClampNeg) p2 (h_X9_begin x S)) (h_X9_begin x S)).1).toInt64) hx hb dX9_load_54 rfl ?_
              refine lv_goto (tgt := 69) hx hb dX9_load_55 (by decide) ?_
              rw [hZ]
              exact hm_lret hx hb hr hlocks hS hP hK hnd hE (((if_neg c_11).trans ((if_neg c_18).trans (if_neg c_45)))) dX9_load_69
      ·
        have hok := (hok).1 c_18
        exact K_21 _ _ hP hS ls (lv_sub hl [0] rfl) hok (((if_neg c_11).trans (if_pos c_18)))
theorem hdv_X9_store : yX9_store.cls = RX9 ∧ yX9_store.cls ≠ "java/lang/invoke/MethodHandle" ∧ yX9_store.cls ≠ "java/lang/invoke/VarHandle" ∧ (parseMethodDescriptor yX9_store.desc).map (fun d => d.parameters.length) = some 4 := by decide +kernel
theorem iw_X9_store_X9 : ∀ w ∈ u_ws RX9 TX9 12, w ∈ wsX9_store := by decide +kernel
def h_X9_store (x : Nat) (p0 : Int32) (p1 : Int32) (p2 : Int32) (p3 : Int64) (S : HS) : Int32 × HS :=
  if (s_X9_in p0 0 6) = 0 then ((h_X9_fails x 8 (h_X9_begin x S)).1, (h_X9_fails x 8 (h_X9_begin x S)).2)
  else if (s_X9_isCell p1) = 0 then ((h_X9_fails x 8 (h_X9_begin x S)).1, (h_X9_fails x 8 (h_X9_begin x S)).2)
   else if (h_X9_against x p0 (hsA (h_X9_begin x S) ((hsQ (h_X9_begin x S) x 8).getD 0) p1.toNatClampNeg) p2 (h_X9_begin x S)) ≤ 0 then (1, h_X9_set x (hsA (h_X9_begin x S) ((hsQ (h_X9_begin x S) x 8).getD 0) p1.toNatClampNeg) p2 (s_X9_cut p0 p3) (h_X9_begin x S))
    else ((h_X9_fails x (h_X9_against x p0 (hsA (h_X9_begin x S) ((hsQ (h_X9_begin x S) x 8).getD 0) p1.toNatClampNeg) p2 (h_X9_begin x S)) (h_X9_begin x S)).1, (h_X9_fails x (h_X9_against x p0 (hsA (h_X9_begin x S) ((hsQ (h_X9_begin x S) x 8).getD 0) p1.toNatClampNeg) p2 (h_X9_begin x S)) (h_X9_begin x S)).2)
def ok_X9_store (L : List Nat) (x : Nat) (p0 : Int32) (p1 : Int32) (p2 : Int32) (p3 : Int64) (S : HS) : Prop :=
  (x ∈ L ∧ hsK S x = 7) ∧ ((ok_X9_begin L x S) ∧ ((((s_X9_in p0 0 6) = 0) → ((x ∈ L ∧ hsK (h_X9_begin x S) x = 7) ∧ ((ok_X9_fails L x 8 (h_X9_begin x S)) ∧ (True)))) ∧
  (¬ ((s_X9_in p0 0 6) = 0) → ((((s_X9_isCell p1) = 0) → ((x ∈ L ∧ hsK (h_X9_begin x S) x = 7) ∧ ((ok_X9_fails L x 8 (h_X9_begin x S)) ∧ (True)))) ∧
   (¬ ((s_X9_isCell p1) = 0) → ((x ∈ L ∧ hsK (h_X9_begin x S) x = 7 ∧ hsQ (h_X9_begin x S) x 8 ≠ none) ∧ ((((hsQ (h_X9_begin x S) x 8).getD 0) ∈ L ∧ hsK (h_X9_begin x S) ((hsQ (h_X9_begin x S) x 8).getD 0) = 8 ∧ vp_in p1 (hsN (h_X9_begin x S) ((hsQ (h_X9_begin x S) x 8).getD 0))) ∧ ((x ∈ L ∧ hsK (h_X9_begin x S) x = 7) ∧ ((ok_X9_against L x p0 (hsA (h_X9_begin x S) ((hsQ (h_X9_begin x S) x 8).getD 0) p1.toNatClampNeg) p2 (h_X9_begin x S)) ∧ ((((h_X9_against x p0 (hsA (h_X9_begin x S) ((hsQ (h_X9_begin x S) x 8).getD 0) p1.toNatClampNeg) p2 (h_X9_begin x S)) ≤ 0) → ((x ∈ L ∧ hsK (h_X9_begin x S) x = 7 ∧ hsQ (h_X9_begin x S) x 8 ≠ none) ∧ ((((hsQ (h_X9_begin x S) x 8).getD 0) ∈ L ∧ hsK (h_X9_begin x S) ((hsQ (h_X9_begin x S) x 8).getD 0) = 8 ∧ vp_in p1 (hsN (h_X9_begin x S) ((hsQ (h_X9_begin x S) x 8).getD 0))) ∧ ((x ∈ L ∧ hsK (h_X9_begin x S) x = 7) ∧ ((ok_X9_set L x (hsA (h_X9_begin x S) ((hsQ (h_X9_begin x S) x 8).getD 0) p1.toNatClampNeg) p2 (s_X9_cut p0 p3) (h_X9_begin x S)) ∧ (True)))))) ∧
    (¬ ((h_X9_against x p0 (hsA (h_X9_begin x S) ((hsQ (h_X9_begin x S) x 8).getD 0) p1.toNatClampNeg) p2 (h_X9_begin x S)) ≤ 0) → ((x ∈ L ∧ hsK (h_X9_begin x S) x = 7) ∧ ((ok_X9_fails L x (h_X9_against x p0 (hsA (h_X9_begin x S) ((hsQ (h_X9_begin x S) x 8).getD 0) p1.toNatClampNeg) p2 (h_X9_begin x S)) (h_X9_begin x S)) ∧ (True))))))))))))))
set_option maxHeartbeats 4000000 in
set_option maxRecDepth 100000 in
theorem hm_X9_store (l : Launch) (G : GE) (L : List Nat) (S : HS) (x : Nat) (p0 : Int32) (p1 : Int32) (p2 : Int32) (p3 : Int64) (hok : ok_X9_store L x p0 p1 p2 p3 S) : HmI l G yX9_store wsX9_store 4 85 [.ref x, .int p0, .int p1, .int p2, .long p3] L S (h_X9_store x p0 p1 p2 p3 S) := by
  refine Met.ofW (cc := cX9_store) (maxL := 7) (ret := (some .int)) (by decide) rfl ?_
  intro p e s m args below meth c s₁ B hml hv
  obtain ⟨rfl, hP, hK, hnd, hE⟩ := hv
  have hx := B.exec
  have hb := B.bytes
  have hr := B.returns
  have hts := atoms_spec (ws := wsX9_store) B.pre
  have hown : s.vm.findClass RX9 = some m.cls := findClass_of_methodNamed B.named
  have hlocks := B.notSynchronized
  have hD := nd_D hnd
  have hS : va_S (AL L) s.heap s.heap [] := va_S.rf
  have hl := lv_entry ([.ref x, .int p0, .int p1, .int p2, .long p3]) (n := 7) (Nat.le_of_ble_eq_true rfl)
  rw [lg_entry_eq]
  generalize (lg_sl ([.ref x, .int p0, .int p1, .int p2, .long p3]) ++ List.replicate (7 - (lg_sl ([.ref x, .int p0, .int p1, .int p2, .long p3])).length) Slot.unset).toArray = ls at hl ⊢
  have hl : lv_has ls 7 [(0, .ref x), (1, .int p0), (2, .int p1), (3, .int p2), (4, .long p3)] := hl
  obtain ⟨Z, hZ⟩ : ∃ z, z = MQ below (hm_QI G L (h_X9_store x p0 p1 p2 p3 S)) ([.ref x, .int p0, .int p1, .int p2, .long p3] : List Value).toArray s 0 0 (AL L) := ⟨_, rfl⟩
  rw [← hZ]
  refine lv_aload_n hx hb dX9_store_0 rfl (lv_at hl 0 rfl) ?_
  obtain ⟨h_1k, hok⟩ := hok
  obtain ⟨h_1, hok⟩ := hok
  refine hm_callV (G := G) (a := ([.ref x] : List Value).toArray) (pr := (h_X9_begin x S)) (rest := []) ?_ hS (fun H locs hP hS => ?_)
  ·
    exact va_runV (As := []) (rest := []) ⟨hx, hb, hml, hown, hts⟩ (hm_X9_begin l G L S x h_1) (cwV 0 hts gX9_store_X9_begin rfl rfl rfl hdv_X9_begin ⟨Nat.le_of_ble_eq_true rfl, Nat.le_of_ble_eq_true rfl⟩) ⟨HW.fb, hp_recv hK hP h_1k.1 (PF_7 h_1k.2) rfl, fun U hU hW => ⟨rfl, HW.call hP hK hnd hE hS U hU hW⟩⟩ rfl rfl hl.1 rfl (lv_room (Nat.le_of_ble_eq_true rfl)) dX9_store_1 ⟨Nat.le_refl 0, Nat.le_refl 0⟩
  ·
    refine lv_iload_n hx hb dX9_store_4 rfl (lv_at hl 1 rfl) ?_
    refine lv_iconst (v := 0) hx hb dX9_store_5 (by decide) ?_
    refine lv_bipush (v := 6) hx hb dX9_store_6 (by decide) ?_
    refine pm_callI (va_runS (As := [.int p0, .int 0, .int 6]) (rest := []) ⟨hx, hb, hml, hown, hts⟩ (pm_X9_in l p0 0 6) (va_cwS 3 hts gX9_store_X9_in rfl rfl rfl hd_X9_in ⟨Nat.le_of_ble_eq_true rfl, Nat.le_of_ble_eq_true rfl⟩) ⟨pm_fbT, fun U hU hW => ⟨rfl, trivial⟩⟩ rfl rfl hl.1 rfl (lv_room (Nat.le_of_ble_eq_true rfl)) dX9_store_8 ⟨Nat.le_refl 0, Nat.le_refl 0⟩) hS (fun H locs _ hk9 hS => ?_)
    replace hP := P_keep hP hk9
    refine lv_if_eq (tgt := 21) hx hb dX9_store_11 (by decide) (fun c_11 => ?_) (fun c_11 => ?_)
    ·
      have hok := (hok).1 c_11
      refine lv_aload_n hx hb dX9_store_21 rfl (lv_at hl 0 rfl) ?_
      refine lv_bipush (v := 8) hx hb dX9_store_22 (by decide) ?_
      obtain ⟨h_24k, hok⟩ := hok
      obtain ⟨h_24, hok⟩ := hok
      refine hm_callI (G := G) (a := ([.ref x, .int 8] : List Value).toArray) (pr := (h_X9_fails x 8 (h_X9_begin x S))) (rest := []) ?_ hS (fun H locs hP hS => ?_)
      ·
        exact va_runV (As := [.int 8]) (rest := []) ⟨hx, hb, hml, hown, hts⟩ (hm_X9_fails l G L (h_X9_begin x S) x 8 h_24) (cwV 1 hts gX9_store_X9_fails rfl rfl rfl hdv_X9_fails ⟨Nat.le_of_ble_eq_true rfl, Nat.le_of_ble_eq_true rfl⟩) ⟨HW.fb, hp_recv hK hP h_24k.1 (PF_7 h_24k.2) rfl, fun U hU hW => ⟨rfl, HW.call hP hK hnd hE hS U hU hW⟩⟩ rfl rfl hl.1 rfl (lv_room (Nat.le_of_ble_eq_true rfl)) dX9_store_24 ⟨Nat.le_refl 0, Nat.le_refl 0⟩
      ·
        rw [hZ]
        exact hm_iret hx hb hr hlocks hS hP hK hnd hE ((if_pos c_11)) dX9_store_27
    ·
      have hok := (hok).2 c_11
      refine lv_iload_n hx hb dX9_store_14 rfl (lv_at hl 2 rfl) ?_
      refine pm_callI (va_runS (As := [.int p1]) (rest := []) ⟨hx, hb, hml, hown, hts⟩ (pm_X9_isCell l p1) (va_cwS 1 hts gX9_store_X9_isCell rfl rfl rfl hd_X9_isCell ⟨Nat.le_of_ble_eq_true rfl, Nat.le_of_ble_eq_true rfl⟩) ⟨pm_fbT, fun U hU hW => ⟨rfl, trivial⟩⟩ rfl rfl hl.1 rfl (lv_room (Nat.le_of_ble_eq_true rfl)) dX9_store_15 ⟨Nat.le_refl 0, Nat.le_refl 0⟩) hS (fun H locs _ hk9 hS => ?_)
      replace hP := P_keep hP hk9
      refine lv_if_ne (tgt := 28) hx hb dX9_store_18 (by decide) (fun c_18 => ?_) (fun c_18 => ?_)
      ·
        have hok := (hok).2 c_18
        refine lv_aload_n hx hb dX9_store_28 rfl (lv_at hl 0 rfl) ?_
        refine lv_iload_n hx hb dX9_store_29 rfl (lv_at hl 1 rfl) ?_
        refine lv_aload_n hx hb dX9_store_30 rfl (lv_at hl 0 rfl) ?_
        obtain ⟨h_31, hok⟩ := hok
        refine hp_getR (ci := 7) (C := RX9) (T := TX9) (N := 12) hx hb hts iw_X9_store_X9 hown hK hP h_31.1 (PF_7 h_31.2.1) rfl 8 (by decide) (hts _ (List.mem_of_getElem? (i := 1) rfl)) (fun _ h9 => h9) rfl h_31.2.2 dX9_store_31 ?_
        refine lv_iload_n hx hb dX9_store_34 rfl (lv_at hl 2 rfl) ?_
        obtain ⟨h_35, hok⟩ := hok
        refine hp_iald hx hb hK hP h_35.1 0 (PF_8 h_35.2.1) rfl h_35.2.2 dX9_store_35 ?_
        refine lv_iload_n hx hb dX9_store_36 rfl (lv_at hl 3 rfl) ?_
        obtain ⟨h_37k, hok⟩ := hok
        obtain ⟨h_37, hok⟩ := hok
        refine hm_callIr (G := G) (S1 := h_X9_begin x S) (a := ([.ref x, .int p0, .int (hsA (h_X9_begin x S) ((hsQ (h_X9_begin x S) x 8).getD 0) p1.toNatClampNeg), .int p2] : List Value).toArray) (rest := []) (h_X9_against x p0 (hsA (h_X9_begin x S) ((hsQ (h_X9_begin x S) x 8).getD 0) p1.toNatClampNeg) p2 (h_X9_begin x S)) ?_ hS (fun H locs hP hS => ?_)
        ·
          exact va_runV (As := [.int p0, .int (hsA (h_X9_begin x S) ((hsQ (h_X9_begin x S) x 8).getD 0) p1.toNatClampNeg), .int p2]) (rest := []) ⟨hx, hb, hml, hown, hts⟩ (hm_X9_against l G L (h_X9_begin x S) x p0 (hsA (h_X9_begin x S) ((hsQ (h_X9_begin x S) x 8).getD 0) p1.toNatClampNeg) p2 h_37) (cwV 3 hts gX9_store_X9_against rfl rfl rfl hdv_X9_against ⟨Nat.le_of_ble_eq_true rfl, Nat.le_of_ble_eq_true rfl⟩) ⟨HW.fb, hp_recv hK hP h_37k.1 (PF_7 h_37k.2) rfl, fun U hU hW => ⟨rfl, HW.call hP hK hnd hE hS U hU hW⟩⟩ rfl rfl hl.1 rfl (lv_room (Nat.le_of_ble_eq_true rfl)) dX9_store_37 ⟨Nat.le_refl 0, Nat.le_refl 0⟩
        ·
          refine lv_istore (lv' := [(6, .int (h_X9_against x p0 (hsA (h_X9_begin x S) ((hsQ (h_X9_begin x S) x 8).getD 0) p1.toNatClampNeg) p2 (h_X9_begin x S))), (0, .ref x), (1, .int p0), (2, .int p1), (3, .int p2), (4, .long p3)]) hx hb dX9_store_40 hl (by decide) rfl (fun ls hl => ?_)
          refine lv_iload hx hb dX9_store_42 (lv_at hl 0 rfl) ?_
          refine lv_if_le (tgt := 54) hx hb dX9_store_44 (by decide) (fun c_44 => ?_) (fun c_44 => ?_)
          ·
            have hok := (hok).1 c_44
            refine lv_aload_n hx hb dX9_store_54 rfl (lv_at hl 1 rfl) ?_
            refine lv_aload_n hx hb dX9_store_55 rfl (lv_at hl 1 rfl) ?_
            obtain ⟨h_56, hok⟩ := hok
            refine hp_getR (ci := 7) (C := RX9) (T := TX9) (N := 12) hx hb hts iw_X9_store_X9 hown hK hP h_56.1 (PF_7 h_56.2.1) rfl 8 (by decide) (hts _ (List.mem_of_getElem? (i := 1) rfl)) (fun _ h9 => h9) rfl h_56.2.2 dX9_store_56 ?_
            refine lv_iload_n hx hb dX9_store_59 rfl (lv_at hl 3 rfl) ?_
            obtain ⟨h_60, hok⟩ := hok
            refine hp_iald hx hb hK hP h_60.1 0 (PF_8 h_60.2.1) rfl h_60.2.2 dX9_store_60 ?_
            refine lv_iload_n hx hb dX9_store_61 rfl (lv_at hl 4 rfl) ?_
            refine lv_iload_n hx hb dX9_store_62 rfl (lv_at hl 2 rfl) ?_
            refine lv_lload hx hb dX9_store_63 (lv_at hl 5 rfl) ?_
            refine pm_callL (va_runS (As := [.int p0, .long p3]) (rest := [.int p2, .int (hsA (h_X9_begin x S) ((hsQ (h_X9_begin x S) x 8).getD 0) p1.toNatClampNeg), .ref x]) ⟨hx, hb, hml, hown, hts⟩ (pm_X9_cut l p0 p3) (va_cwS 2 hts gX9_store_X9_cut rfl rfl rfl hd_X9_cut ⟨Nat.le_of_ble_eq_true rfl, Nat.le_of_ble_eq_true rfl⟩) ⟨pm_fbT, fun U hU hW => ⟨rfl, trivial⟩⟩ rfl rfl hl.1 rfl (lv_room (Nat.le_of_ble_eq_true rfl)) dX9_store_65 ⟨Nat.le_refl 0, Nat.le_refl 0⟩) hS (fun H locs _ hk9 hS => ?_)
            replace hP := P_keep hP hk9
            obtain ⟨h_68k, hok⟩ := hok
            obtain ⟨h_68, hok⟩ := hok
            refine hm_callV (G := G) (a := ([.ref x, .int (hsA (h_X9_begin x S) ((hsQ (h_X9_begin x S) x 8).getD 0) p1.toNatClampNeg), .int p2, .long (s_X9_cut p0 p3)] : List Value).toArray) (pr := (h_X9_set x (hsA (h_X9_begin x S) ((hsQ (h_X9_begin x S) x 8).getD 0) p1.toNatClampNeg) p2 (s_X9_cut p0 p3) (h_X9_begin x S))) (rest := []) ?_ hS (fun H locs hP hS => ?_)
            ·
              exact va_runV (As := [.int (hsA (h_X9_begin x S) ((hsQ (h_X9_begin x S) x 8).getD 0) p1.toNatClampNeg), .int p2, .long (s_X9_cut p0 p3)]) (rest := []) ⟨hx, hb, hml, hown, hts⟩ (hm_X9_set l G L (h_X9_begin x S) x (hsA (h_X9_begin x S) ((hsQ (h_X9_begin x S) x 8).getD 0) p1.toNatClampNeg) p2 (s_X9_cut p0 p3) h_68) (cwV 3 hts gX9_store_X9_set rfl rfl rfl hdv_X9_set ⟨Nat.le_of_ble_eq_true rfl, Nat.le_of_ble_eq_true rfl⟩) ⟨HW.fb, hp_recv hK hP h_68k.1 (PF_7 h_68k.2) rfl, fun U hU hW => ⟨rfl, HW.call hP hK hnd hE hS U hU hW⟩⟩ rfl rfl hl.1 rfl (lv_room (Nat.le_of_ble_eq_true rfl)) dX9_store_68 ⟨Nat.le_refl 0, Nat.le_refl 0⟩
            ·
              refine lv_iconst (v := 1) hx hb dX9_store_71 (by decide) ?_
              rw [hZ]
              exact hm_iret hx hb hr hlocks hS hP hK hnd hE (((if_neg c_11).trans ((if_neg c_18).trans (if_pos c_44)))) dX9_store_72
          ·
            have hok := (hok).2 c_44
            refine lv_aload_n hx hb dX9_store_47 rfl (lv_at hl 1 rfl) ?_
            refine lv_iload hx hb dX9_store_48 (lv_at hl 0 rfl) ?_
            obtain ⟨h_50k, hok⟩ := hok
            obtain ⟨h_50, hok⟩ := hok
            refine hm_callI (G := G) (a := ([.ref x, .int (h_X9_against x p0 (hsA (h_X9_begin x S) ((hsQ (h_X9_begin x S) x 8).getD 0) p1.toNatClampNeg) p2 (h_X9_begin x S))] : List Value).toArray) (pr := (h_X9_fails x (h_X9_against x p0 (hsA (h_X9_begin x S) ((hsQ (h_X9_begin x S) x 8).getD 0) p1.toNatClampNeg) p2 (h_X9_begin x S)) (h_X9_begin x S))) (rest := []) ?_ hS (fun H locs hP hS => ?_)
            ·
              exact va_runV (As := [.int (h_X9_against x p0 (hsA (h_X9_begin x S) ((hsQ (h_X9_begin x S) x 8).getD 0) p1.toNatClampNeg) p2 (h_X9_begin x S))]) (rest := []) ⟨hx, hb, hml, hown, hts⟩ (hm_X9_fails l G L (h_X9_begin x S) x (h_X9_against x p0 (hsA (h_X9_begin x S) ((hsQ (h_X9_begin x S) x 8).getD 0) p1.toNatClampNeg) p2 (h_X9_begin x S)) h_50) (cwV 1 hts gX9_store_X9_fails rfl rfl rfl hdv_X9_fails ⟨Nat.le_of_ble_eq_true rfl, Nat.le_of_ble_eq_true rfl⟩) ⟨HW.fb, hp_recv hK hP h_50k.1 (PF_7 h_50k.2) rfl, fun U hU hW => ⟨rfl, HW.call hP hK hnd hE hS U hU hW⟩⟩ rfl rfl hl.1 rfl (lv_room (Nat.le_of_ble_eq_true rfl)) dX9_store_50 ⟨Nat.le_refl 0, Nat.le_refl 0⟩
            ·
              rw [hZ]
              exact hm_iret hx hb hr hlocks hS hP hK hnd hE (((if_neg c_11).trans ((if_neg c_18).trans (if_neg c_44)))) dX9_store_53
      ·
        have hok := (hok).1 c_18
        refine lv_aload_n hx hb dX9_store_21 rfl (lv_at hl 0 rfl) ?_
        refine lv_bipush (v := 8) hx hb dX9_store_22 (by decide) ?_
        obtain ⟨h_24k, hok⟩ := hok
        obtain ⟨h_24, hok⟩ := hok
        refine hm_callI (G := G) (a := ([.ref x, .int 8] : List Value).toArray) (pr := (h_X9_fails x 8 (h_X9_begin x S))) (rest := []) ?_ hS (fun H locs hP hS => ?_)
        ·
          exact va_runV (As := [.int 8]) (rest := []) ⟨hx, hb, hml, hown, hts⟩ (hm_X9_fails l G L (h_X9_begin x S) x 8 h_24) (cwV 1 hts gX9_store_X9_fails rfl rfl rfl hdv_X9_fails ⟨Nat.le_of_ble_eq_true rfl, Nat.le_of_ble_eq_true rfl⟩) ⟨HW.fb, hp_recv hK hP h_24k.1 (PF_7 h_24k.2) rfl, fun U hU hW => ⟨rfl, HW.call hP hK hnd hE hS U hU hW⟩⟩ rfl rfl hl.1 rfl (lv_room (Nat.le_of_ble_eq_true rfl)) dX9_store_24 ⟨Nat.le_refl 0, Nat.le_refl 0⟩
        ·
          rw [hZ]
          exact hm_iret hx hb hr hlocks hS hP hK hnd hE (((if_neg c_11).trans (if_pos c_18))) dX9_store_27
theorem hdv_X9_take : yX9_take.cls = RX9 ∧ yX9_take.cls ≠ "java/lang/invoke/MethodHandle" ∧ yX9_take.cls ≠ "java/lang/invoke/VarHandle" ∧ (parseMethodDescriptor yX9_take.desc).map (fun d => d.parameters.length) = some 4 := by decide +kernel
theorem iw_X9_take_X9 : ∀ w ∈ u_ws RX9 TX9 12, w ∈ wsX9_take := by decide +kernel
def h_X9_take (x : Nat) (p0 : Int32) (p1 : Int32) (p2 : Int32) (p3 : Int32) (S : HS) : Int32 × HS :=
  if (s_X9_isHolder p0) = 0 then ((h_X9_fails x 8 (h_X9_begin x S)).1, (h_X9_fails x 8 (h_X9_begin x S)).2)
  else if (s_X9_isCell p1) = 0 then ((h_X9_fails x 8 (h_X9_begin x S)).1, (h_X9_fails x 8 (h_X9_begin x S)).2)
   else if (s_X9_isCell p3) = 0 then ((h_X9_fails x 8 (h_X9_begin x S)).1, (h_X9_fails x 8 (h_X9_begin x S)).2)
    else if (h_X9_against x p0 (hsA (h_X9_begin x S) ((hsQ (h_X9_begin x S) x 8).getD 0) p1.toNatClampNeg) p2 (h_X9_begin x S)) ≤ 0 then (1, (hwA (h_X9_begin x S) ((hsQ (h_X9_begin x S) x 8).getD 0) p3.toNatClampNeg ((hsJ (h_X9_begin x S) ((hsQ (h_X9_begin x S) x 6).getD 0) ((hsA (h_X9_begin x S) ((hsQ (h_X9_begin x S) x 2).getD 0) (hsA (h_X9_begin x S) ((hsQ (h_X9_begin x S) x 8).getD 0) p1.toNatClampNeg).toNatClampNeg) + p2).toNatClampNeg).toInt32)))
     else ((h_X9_fails x (h_X9_against x p0 (hsA (h_X9_begin x S) ((hsQ (h_X9_begin x S) x 8).getD 0) p1.toNatClampNeg) p2 (h_X9_begin x S)) (h_X9_begin x S)).1, (h_X9_fails x (h_X9_against x p0 (hsA (h_X9_begin x S) ((hsQ (h_X9_begin x S) x 8).getD 0) p1.toNatClampNeg) p2 (h_X9_begin x S)) (h_X9_begin x S)).2)
def ok_X9_take (L : List Nat) (x : Nat) (p0 : Int32) (p1 : Int32) (p2 : Int32) (p3 : Int32) (S : HS) : Prop :=
  (x ∈ L ∧ hsK S x = 7) ∧ ((ok_X9_begin L x S) ∧ ((((s_X9_isHolder p0) = 0) → ((x ∈ L ∧ hsK (h_X9_begin x S) x = 7) ∧ ((ok_X9_fails L x 8 (h_X9_begin x S)) ∧ (True)))) ∧
  (¬ ((s_X9_isHolder p0) = 0) → ((((s_X9_isCell p1) = 0) → ((x ∈ L ∧ hsK (h_X9_begin x S) x = 7) ∧ ((ok_X9_fails L x 8 (h_X9_begin x S)) ∧ (True)))) ∧
   (¬ ((s_X9_isCell p1) = 0) → ((((s_X9_isCell p3) = 0) → ((x ∈ L ∧ hsK (h_X9_begin x S) x = 7) ∧ ((ok_X9_fails L x 8 (h_X9_begin x S)) ∧ (True)))) ∧
    (¬ ((s_X9_isCell p3) = 0) → ((x ∈ L ∧ hsK (h_X9_begin x S) x = 7 ∧ hsQ (h_X9_begin x S) x 8 ≠ none) ∧ ((((hsQ (h_X9_begin x S) x 8).getD 0) ∈ L ∧ hsK (h_X9_begin x S) ((hsQ (h_X9_begin x S) x 8).getD 0) = 8 ∧ vp_in p1 (hsN (h_X9_begin x S) ((hsQ (h_X9_begin x S) x 8).getD 0))) ∧ ((x ∈ L ∧ hsK (h_X9_begin x S) x = 7) ∧ ((ok_X9_against L x p0 (hsA (h_X9_begin x S) ((hsQ (h_X9_begin x S) x 8).getD 0) p1.toNatClampNeg) p2 (h_X9_begin x S)) ∧ ((((h_X9_against x p0 (hsA (h_X9_begin x S) ((hsQ (h_X9_begin x S) x 8).getD 0) p1.toNatClampNeg) p2 (h_X9_begin x S)) ≤ 0) → ((x ∈ L ∧ hsK (h_X9_begin x S) x = 7 ∧ hsQ (h_X9_begin x S) x 8 ≠ none) ∧ ((x ∈ L ∧ hsK (h_X9_begin x S) x = 7 ∧ hsQ (h_X9_begin x S) x 6 ≠ none) ∧ ((x ∈ L ∧ hsK (h_X9_begin x S) x = 7 ∧ hsQ (h_X9_begin x S) x 2 ≠ none) ∧ ((x ∈ L ∧ hsK (h_X9_begin x S) x = 7 ∧ hsQ (h_X9_begin x S) x 8 ≠ none) ∧ ((((hsQ (h_X9_begin x S) x 8).getD 0) ∈ L ∧ hsK (h_X9_begin x S) ((hsQ (h_X9_begin x S) x 8).getD 0) = 8 ∧ vp_in p1 (hsN (h_X9_begin x S) ((hsQ (h_X9_begin x S) x 8).getD 0))) ∧ ((((hsQ (h_X9_begin x S) x 2).getD 0) ∈ L ∧ hsK (h_X9_begin x S) ((hsQ (h_X9_begin x S) x 2).getD 0) = 8 ∧ vp_in (hsA (h_X9_begin x S) ((hsQ (h_X9_begin x S) x 8).getD 0) p1.toNatClampNeg) (hsN (h_X9_begin x S) ((hsQ (h_X9_begin x S) x 2).getD 0))) ∧ ((((hsQ (h_X9_begin x S) x 6).getD 0) ∈ L ∧ hsK (h_X9_begin x S) ((hsQ (h_X9_begin x S) x 6).getD 0) = 9 ∧ vp_in ((hsA (h_X9_begin x S) ((hsQ (h_X9_begin x S) x 2).getD 0) (hsA (h_X9_begin x S) ((hsQ (h_X9_begin x S) x 8).getD 0) p1.toNatClampNeg).toNatClampNeg) + p2) (hsN (h_X9_begin x S) ((hsQ (h_X9_begin x S) x 6).getD 0))) ∧ ((((hsQ (h_X9_begin x S) x 8).getD 0) ∈ L ∧ hsK (h_X9_begin x S) ((hsQ (h_X9_begin x S) x 8).getD 0) = 8 ∧ vp_in p3 (hsN (h_X9_begin x S) ((hsQ (h_X9_begin x S) x 8).getD 0))) ∧ (True)))))))))) ∧
     (¬ ((h_X9_against x p0 (hsA (h_X9_begin x S) ((hsQ (h_X9_begin x S) x 8).getD 0) p1.toNatClampNeg) p2 (h_X9_begin x S)) ≤ 0) → ((x ∈ L ∧ hsK (h_X9_begin x S) x = 7) ∧ ((ok_X9_fails L x (h_X9_against x p0 (hsA (h_X9_begin x S) ((hsQ (h_X9_begin x S) x 8).getD 0) p1.toNatClampNeg) p2 (h_X9_begin x S)) (h_X9_begin x S)) ∧ (True))))))))))))))))
set_option maxHeartbeats 4000000 in
set_option maxRecDepth 100000 in
theorem hm_X9_take (l : Launch) (G : GE) (L : List Nat) (S : HS) (x : Nat) (p0 : Int32) (p1 : Int32) (p2 : Int32) (p3 : Int32) (hok : ok_X9_take L x p0 p1 p2 p3 S) : HmI l G yX9_take wsX9_take 3 66 [.ref x, .int p0, .int p1, .int p2, .int p3] L S (h_X9_take x p0 p1 p2 p3 S) := by
  refine Met.ofW (cc := cX9_take) (maxL := 6) (ret := (some .int)) (by decide) rfl ?_
  intro p e s m args below meth c s₁ B hml hv
  obtain ⟨rfl, hP, hK, hnd, hE⟩ := hv
  have hx := B.exec
  have hb := B.bytes
  have hr := B.returns
  have hts := atoms_spec (ws := wsX9_take) B.pre
  have hown : s.vm.findClass RX9 = some m.cls := findClass_of_methodNamed B.named
  have hlocks := B.notSynchronized
  have hD := nd_D hnd
  have hS : va_S (AL L) s.heap s.heap [] := va_S.rf
  have hl := lv_entry ([.ref x, .int p0, .int p1, .int p2, .int p3]) (n := 6) (Nat.le_of_ble_eq_true rfl)
  rw [lg_entry_eq]
  generalize (lg_sl ([.ref x, .int p0, .int p1, .int p2, .int p3]) ++ List.replicate (6 - (lg_sl ([.ref x, .int p0, .int p1, .int p2, .int p3])).length) Slot.unset).toArray = ls at hl ⊢
  have hl : lv_has ls 6 [(0, .ref x), (1, .int p0), (2, .int p1), (3, .int p2), (4, .int p3)] := hl
  obtain ⟨Z, hZ⟩ : ∃ z, z = MQ below (hm_QI G L (h_X9_take x p0 p1 p2 p3 S)) ([.ref x, .int p0, .int p1, .int p2, .int p3] : List Value).toArray s 0 0 (AL L) := ⟨_, rfl⟩
  rw [← hZ]
  refine lv_aload_n hx hb dX9_take_0 rfl (lv_at hl 0 rfl) ?_
  obtain ⟨h_1k, hok⟩ := hok
  obtain ⟨h_1, hok⟩ := hok
  refine hm_callV (G := G) (a := ([.ref x] : List Value).toArray) (pr := (h_X9_begin x S)) (rest := []) ?_ hS (fun H locs hP hS => ?_)
  ·
    exact va_runV (As := []) (rest := []) ⟨hx, hb, hml, hown, hts⟩ (hm_X9_begin l G L S x h_1) (cwV 0 hts gX9_take_X9_begin rfl rfl rfl hdv_X9_begin ⟨Nat.le_of_ble_eq_true rfl, Nat.le_of_ble_eq_true rfl⟩) ⟨HW.fb, hp_recv hK hP h_1k.1 (PF_7 h_1k.2) rfl, fun U hU hW => ⟨rfl, HW.call hP hK hnd hE hS U hU hW⟩⟩ rfl rfl hl.1 rfl (lv_room (Nat.le_of_ble_eq_true rfl)) dX9_take_1 ⟨Nat.le_refl 0, Nat.le_refl 0⟩
  ·
    refine lv_iload_n hx hb dX9_take_4 rfl (lv_at hl 1 rfl) ?_
    refine pm_callI (va_runS (As := [.int p0]) (rest := []) ⟨hx, hb, hml, hown, hts⟩ (pm_X9_isHolder l p0) (va_cwS 1 hts gX9_take_X9_isHolder rfl rfl rfl hd_X9_isHolder ⟨Nat.le_of_ble_eq_true rfl, Nat.le_of_ble_eq_true rfl⟩) ⟨pm_fbT, fun U hU hW => ⟨rfl, trivial⟩⟩ rfl rfl hl.1 rfl (lv_room (Nat.le_of_ble_eq_true rfl)) dX9_take_5 ⟨Nat.le_refl 0, Nat.le_refl 0⟩) hS (fun H locs _ hk9 hS => ?_)
    replace hP := P_keep hP hk9
    refine lv_if_eq (tgt := 26) hx hb dX9_take_8 (by decide) (fun c_8 => ?_) (fun c_8 => ?_)
    ·
      have hok := (hok).1 c_8
      refine lv_aload_n hx hb dX9_take_26 rfl (lv_at hl 0 rfl) ?_
      refine lv_bipush (v := 8) hx hb dX9_take_27 (by decide) ?_
      obtain ⟨h_29k, hok⟩ := hok
      obtain ⟨h_29, hok⟩ := hok
      refine hm_callI (G := G) (a := ([.ref x, .int 8] : List Value).toArray) (pr := (h_X9_fails x 8 (h_X9_begin x S))) (rest := []) ?_ hS (fun H locs hP hS => ?_)
      ·
        exact va_runV (As := [.int 8]) (rest := []) ⟨hx, hb, hml, hown, hts⟩ (hm_X9_fails l G L (h_X9_begin x S) x 8 h_29) (cwV 1 hts gX9_take_X9_fails rfl rfl rfl hdv_X9_fails ⟨Nat.le_of_ble_eq_true rfl, Nat.le_of_ble_eq_true rfl⟩) ⟨HW.fb, hp_recv hK hP h_29k.1 (PF_7 h_29k.2) rfl, fun U hU hW => ⟨rfl, HW.call hP hK hnd hE hS U hU hW⟩⟩ rfl rfl hl.1 rfl (lv_room (Nat.le_of_ble_eq_true rfl)) dX9_take_29 ⟨Nat.le_refl 0, Nat.le_refl 0⟩
      ·
        rw [hZ]
        exact hm_iret hx hb hr hlocks hS hP hK hnd hE ((if_pos c_8)) dX9_take_32
    ·
      have hok := (hok).2 c_8
      refine lv_iload_n hx hb dX9_take_11 rfl (lv_at hl 2 rfl) ?_
      refine pm_callI (va_runS (As := [.int p1]) (rest := []) ⟨hx, hb, hml, hown, hts⟩ (pm_X9_isCell l p1) (va_cwS 1 hts gX9_take_X9_isCell rfl rfl rfl hd_X9_isCell ⟨Nat.le_of_ble_eq_true rfl, Nat.le_of_ble_eq_true rfl⟩) ⟨pm_fbT, fun U hU hW => ⟨rfl, trivial⟩⟩ rfl rfl hl.1 rfl (lv_room (Nat.le_of_ble_eq_true rfl)) dX9_take_12 ⟨Nat.le_refl 0, Nat.le_refl 0⟩) hS (fun H locs _ hk9 hS => ?_)
      replace hP := P_keep hP hk9
      refine lv_if_eq (tgt := 26) hx hb dX9_take_15 (by decide) (fun c_15 => ?_) (fun c_15 => ?_)
      ·
        have hok := (hok).1 c_15
        refine lv_aload_n hx hb dX9_take_26 rfl (lv_at hl 0 rfl) ?_
        refine lv_bipush (v := 8) hx hb dX9_take_27 (by decide) ?_
        obtain ⟨h_29k, hok⟩ := hok
        obtain ⟨h_29, hok⟩ := hok
        refine hm_callI (G := G) (a := ([.ref x, .int 8] : List Value).toArray) (pr := (h_X9_fails x 8 (h_X9_begin x S))) (rest := []) ?_ hS (fun H locs hP hS => ?_)
        ·
          exact va_runV (As := [.int 8]) (rest := []) ⟨hx, hb, hml, hown, hts⟩ (hm_X9_fails l G L (h_X9_begin x S) x 8 h_29) (cwV 1 hts gX9_take_X9_fails rfl rfl rfl hdv_X9_fails ⟨Nat.le_of_ble_eq_true rfl, Nat.le_of_ble_eq_true rfl⟩) ⟨HW.fb, hp_recv hK hP h_29k.1 (PF_7 h_29k.2) rfl, fun U hU hW => ⟨rfl, HW.call hP hK hnd hE hS U hU hW⟩⟩ rfl rfl hl.1 rfl (lv_room (Nat.le_of_ble_eq_true rfl)) dX9_take_29 ⟨Nat.le_refl 0, Nat.le_refl 0⟩
        ·
          rw [hZ]
          exact hm_iret hx hb hr hlocks hS hP hK hnd hE (((if_neg c_8).trans (if_pos c_15))) dX9_take_32
      ·
        have hok := (hok).2 c_15
        refine lv_iload hx hb dX9_take_18 (lv_at hl 4 rfl) ?_
        refine pm_callI (va_runS (As := [.int p3]) (rest := []) ⟨hx, hb, hml, hown, hts⟩ (pm_X9_isCell l p3) (va_cwS 1 hts gX9_take_X9_isCell rfl rfl rfl hd_X9_isCell ⟨Nat.le_of_ble_eq_true rfl, Nat.le_of_ble_eq_true rfl⟩) ⟨pm_fbT, fun U hU hW => ⟨rfl, trivial⟩⟩ rfl rfl hl.1 rfl (lv_room (Nat.le_of_ble_eq_true rfl)) dX9_take_20 ⟨Nat.le_refl 0, Nat.le_refl 0⟩) hS (fun H locs _ hk9 hS => ?_)
        replace hP := P_keep hP hk9
        refine lv_if_ne (tgt := 33) hx hb dX9_take_23 (by decide) (fun c_23 => ?_) (fun c_23 => ?_)
        ·
          have hok := (hok).2 c_23
          refine lv_aload_n hx hb dX9_take_33 rfl (lv_at hl 0 rfl) ?_
          refine lv_iload_n hx hb dX9_take_34 rfl (lv_at hl 1 rfl) ?_
          refine lv_aload_n hx hb dX9_take_35 rfl (lv_at hl 0 rfl) ?_
          obtain ⟨h_36, hok⟩ := hok
          refine hp_getR (ci := 7) (C := RX9) (T := TX9) (N := 12) hx hb hts iw_X9_take_X9 hown hK hP h_36.1 (PF_7 h_36.2.1) rfl 8 (by decide) (hts _ (List.mem_of_getElem? (i := 1) rfl)) (fun _ h9 => h9) rfl h_36.2.2 dX9_take_36 ?_
          refine lv_iload_n hx hb dX9_take_39 rfl (lv_at hl 2 rfl) ?_
          obtain ⟨h_40, hok⟩ := hok
          refine hp_iald hx hb hK hP h_40.1 0 (PF_8 h_40.2.1) rfl h_40.2.2 dX9_take_40 ?_
          refine lv_iload_n hx hb dX9_take_41 rfl (lv_at hl 3 rfl) ?_
          obtain ⟨h_42k, hok⟩ := hok
          obtain ⟨h_42, hok⟩ := hok
          refine hm_callIr (G := G) (S1 := h_X9_begin x S) (a := ([.ref x, .int p0, .int (hsA (h_X9_begin x S) ((hsQ (h_X9_begin x S) x 8).getD 0) p1.toNatClampNeg), .int p2] : List Value).toArray) (rest := []) (h_X9_against x p0 (hsA (h_X9_begin x S) ((hsQ (h_X9_begin x S) x 8).getD 0) p1.toNatClampNeg) p2 (h_X9_begin x S)) ?_ hS (fun H locs hP hS => ?_)
          ·
            exact va_runV (As := [.int p0, .int (hsA (h_X9_begin x S) ((hsQ (h_X9_begin x S) x 8).getD 0) p1.toNatClampNeg), .int p2]) (rest := []) ⟨hx, hb, hml, hown, hts⟩ (hm_X9_against l G L (h_X9_begin x S) x p0 (hsA (h_X9_begin x S) ((hsQ (h_X9_begin x S) x 8).getD 0) p1.toNatClampNeg) p2 h_42) (cwV 3 hts gX9_take_X9_against rfl rfl rfl hdv_X9_against ⟨Nat.le_of_ble_eq_true rfl, Nat.le_of_ble_eq_true rfl⟩) ⟨HW.fb, hp_recv hK hP h_42k.1 (PF_7 h_42k.2) rfl, fun U hU hW => ⟨rfl, HW.call hP hK hnd hE hS U hU hW⟩⟩ rfl rfl hl.1 rfl (lv_room (Nat.le_of_ble_eq_true rfl)) dX9_take_42 ⟨Nat.le_refl 0, Nat.le_refl 0⟩
          ·
            refine lv_istore (lv' := [(5, .int (h_X9_against x p0 (hsA (h_X9_begin x S) ((hsQ (h_X9_begin x S) x 8).getD 0) p1.toNatClampNeg) p2 (h_X9_begin x S))), (0, .ref x), (1, .int p0), (2, .int p1), (3, .int p2), (4, .int p3)]) hx hb dX9_take_45 hl (by decide) rfl (fun ls hl => ?_)
            refine lv_iload hx hb dX9_take_47 (lv_at hl 0 rfl) ?_
            refine lv_if_le (tgt := 59) hx hb dX9_take_49 (by decide) (fun c_49 => ?_) (fun c_49 => ?_)
            ·
              have hok := (hok).1 c_49
              refine lv_aload_n hx hb dX9_take_59 rfl (lv_at hl 1 rfl) ?_
              obtain ⟨h_60, hok⟩ := hok
              refine hp_getR (ci := 7) (C := RX9) (T := TX9) (N := 12) hx hb hts iw_X9_take_X9 hown hK hP h_60.1 (PF_7 h_60.2.1) rfl 8 (by decide) (hts _ (List.mem_of_getElem? (i := 1) rfl)) (fun _ h9 => h9) rfl h_60.2.2 dX9_take_60 ?_
              refine lv_iload hx hb dX9_take_63 (lv_at hl 5 rfl) ?_
              refine lv_aload_n hx hb dX9_take_65 rfl (lv_at hl 1 rfl) ?_
              obtain ⟨h_66, hok⟩ := hok
              refine hp_getR (ci := 7) (C := RX9) (T := TX9) (N := 12) hx hb hts iw_X9_take_X9 hown hK hP h_66.1 (PF_7 h_66.2.1) rfl 6 (by decide) (hts _ (List.mem_of_getElem? (i := 2) rfl)) (fun _ h9 => h9) rfl h_66.2.2 dX9_take_66 ?_
              refine lv_aload_n hx hb dX9_take_69 rfl (lv_at hl 1 rfl) ?_
              obtain ⟨h_70, hok⟩ := hok
              refine hp_getR (ci := 7) (C := RX9) (T := TX9) (N := 12) hx hb hts iw_X9_take_X9 hown hK hP h_70.1 (PF_7 h_70.2.1) rfl 2 (by decide) (hts _ (List.mem_of_getElem? (i := 3) rfl)) (fun _ h9 => h9) rfl h_70.2.2 dX9_take_70 ?_
              refine lv_aload_n hx hb dX9_take_73 rfl (lv_at hl 1 rfl) ?_
              obtain ⟨h_74, hok⟩ := hok
              refine hp_getR (ci := 7) (C := RX9) (T := TX9) (N := 12) hx hb hts iw_X9_take_X9 hown hK hP h_74.1 (PF_7 h_74.2.1) rfl 8 (by decide) (hts _ (List.mem_of_getElem? (i := 1) rfl)) (fun _ h9 => h9) rfl h_74.2.2 dX9_take_74 ?_
              refine lv_iload_n hx hb dX9_take_77 rfl (lv_at hl 3 rfl) ?_
              obtain ⟨h_78, hok⟩ := hok
              refine hp_iald hx hb hK hP h_78.1 0 (PF_8 h_78.2.1) rfl h_78.2.2 dX9_take_78 ?_
              obtain ⟨h_79, hok⟩ := hok
              refine hp_iald hx hb hK hP h_79.1 0 (PF_8 h_79.2.1) rfl h_79.2.2 dX9_take_79 ?_
              refine lv_iload_n hx hb dX9_take_80 rfl (lv_at hl 4 rfl) ?_
              refine lv_iadd hx hb dX9_take_81 ?_
              obtain ⟨h_82, hok⟩ := hok
              refine hp_lald hx hb hK hP h_82.1 1 (PF_9 h_82.2.1) rfl h_82.2.2 dX9_take_82 ?_
              refine lv_l2i (v := (hsJ (h_X9_begin x S) ((hsQ (h_X9_begin x S) x 6).getD 0) ((hsA (h_X9_begin x S) ((hsQ (h_X9_begin x S) x 2).getD 0) (hsA (h_X9_begin x S) ((hsQ (h_X9_begin x S) x 8).getD 0) p1.toNatClampNeg).toNatClampNeg) + p2).toNatClampNeg).toInt32) hx hb dX9_take_83 rfl ?_
              obtain ⟨h_84, hok⟩ := hok
              refine hp_iast (g2 := PF G (hwA (h_X9_begin x S) ((hsQ (h_X9_begin x S) x 8).getD 0) p3.toNatClampNeg ((hsJ (h_X9_begin x S) ((hsQ (h_X9_begin x S) x 6).getD 0) ((hsA (h_X9_begin x S) ((hsQ (h_X9_begin x S) x 2).getD 0) (hsA (h_X9_begin x S) ((hsQ (h_X9_begin x S) x 8).getD 0) p1.toNatClampNeg).toNatClampNeg) + p2).toNatClampNeg).toInt32))) hx hb hK hP (hD _) hS h_84.1 0 (PF_8 h_84.2.1) rfl h_84.2.2 (PF_sA h_84.2.1) (fun _ hb9 => PF_wA hb9) dX9_take_84 (fun H locs hP hS => ?_)
              refine lv_iconst (v := 1) hx hb dX9_take_85 (by decide) ?_
              rw [hZ]
              exact hm_iret hx hb hr hlocks hS hP hK hnd hE (((if_neg c_8).trans ((if_neg c_15).trans ((if_neg c_23).trans (if_pos c_49))))) dX9_take_86
            ·
              have hok := (hok).2 c_49
              refine lv_aload_n hx hb dX9_take_52 rfl (lv_at hl 1 rfl) ?_
              refine lv_iload hx hb dX9_take_53 (lv_at hl 0 rfl) ?_
              obtain ⟨h_55k, hok⟩ := hok
              obtain ⟨h_55, hok⟩ := hok
              refine hm_callI (G := G) (a := ([.ref x, .int (h_X9_against x p0 (hsA (h_X9_begin x S) ((hsQ (h_X9_begin x S) x 8).getD 0) p1.toNatClampNeg) p2 (h_X9_begin x S))] : List Value).toArray) (pr := (h_X9_fails x (h_X9_against x p0 (hsA (h_X9_begin x S) ((hsQ (h_X9_begin x S) x 8).getD 0) p1.toNatClampNeg) p2 (h_X9_begin x S)) (h_X9_begin x S))) (rest := []) ?_ hS (fun H locs hP hS => ?_)
              ·
                exact va_runV (As := [.int (h_X9_against x p0 (hsA (h_X9_begin x S) ((hsQ (h_X9_begin x S) x 8).getD 0) p1.toNatClampNeg) p2 (h_X9_begin x S))]) (rest := []) ⟨hx, hb, hml, hown, hts⟩ (hm_X9_fails l G L (h_X9_begin x S) x (h_X9_against x p0 (hsA (h_X9_begin x S) ((hsQ (h_X9_begin x S) x 8).getD 0) p1.toNatClampNeg) p2 (h_X9_begin x S)) h_55) (cwV 1 hts gX9_take_X9_fails rfl rfl rfl hdv_X9_fails ⟨Nat.le_of_ble_eq_true rfl, Nat.le_of_ble_eq_true rfl⟩) ⟨HW.fb, hp_recv hK hP h_55k.1 (PF_7 h_55k.2) rfl, fun U hU hW => ⟨rfl, HW.call hP hK hnd hE hS U hU hW⟩⟩ rfl rfl hl.1 rfl (lv_room (Nat.le_of_ble_eq_true rfl)) dX9_take_55 ⟨Nat.le_refl 0, Nat.le_refl 0⟩
              ·
                rw [hZ]
                exact hm_iret hx hb hr hlocks hS hP hK hnd hE (((if_neg c_8).trans ((if_neg c_15).trans ((if_neg c_23).trans (if_neg c_49))))) dX9_take_58
        ·
          have hok := (hok).1 c_23
          refine lv_aload_n hx hb dX9_take_26 rfl (lv_at hl 0 rfl) ?_
          refine lv_bipush (v := 8) hx hb dX9_take_27 (by decide) ?_
          obtain ⟨h_29k, hok⟩ := hok
          obtain ⟨h_29, hok⟩ := hok
          refine hm_callI (G := G) (a := ([.ref x, .int 8] : List Value).toArray) (pr := (h_X9_fails x 8 (h_X9_begin x S))) (rest := []) ?_ hS (fun H locs hP hS => ?_)
          ·
            exact va_runV (As := [.int 8]) (rest := []) ⟨hx, hb, hml, hown, hts⟩ (hm_X9_fails l G L (h_X9_begin x S) x 8 h_29) (cwV 1 hts gX9_take_X9_fails rfl rfl rfl hdv_X9_fails ⟨Nat.le_of_ble_eq_true rfl, Nat.le_of_ble_eq_true rfl⟩) ⟨HW.fb, hp_recv hK hP h_29k.1 (PF_7 h_29k.2) rfl, fun U hU hW => ⟨rfl, HW.call hP hK hnd hE hS U hU hW⟩⟩ rfl rfl hl.1 rfl (lv_room (Nat.le_of_ble_eq_true rfl)) dX9_take_29 ⟨Nat.le_refl 0, Nat.le_refl 0⟩
          ·
            rw [hZ]
            exact hm_iret hx hb hr hlocks hS hP hK hnd hE (((if_neg c_8).trans ((if_neg c_15).trans (if_pos c_23)))) dX9_take_32
theorem hdv_X9_put : yX9_put.cls = RX9 ∧ yX9_put.cls ≠ "java/lang/invoke/MethodHandle" ∧ yX9_put.cls ≠ "java/lang/invoke/VarHandle" ∧ (parseMethodDescriptor yX9_put.desc).map (fun d => d.parameters.length) = some 4 := by decide +kernel
theorem iw_X9_put_X9 : ∀ w ∈ u_ws RX9 TX9 12, w ∈ wsX9_put := by decide +kernel
def h_X9_put_j78 (x : Nat) (p0 : Int32) (p1 : Int32) (p2 : Int32) (p3 : Int32) (z_78_0 : Int32) (S : HS) : Int32 × HS :=
  if (h_X9_passes x (hsA (h_X9_begin x S) ((hsQ (h_X9_begin x S) x 8).getD 0) p3.toNatClampNeg) z_78_0 (h_X9_begin x S)) = 0 then ((h_X9_fails x 4 (h_X9_begin x S)).1, (h_X9_fails x 4 (h_X9_begin x S)).2)
  else if (h_X9_against x p0 (hsA (h_X9_begin x S) ((hsQ (h_X9_begin x S) x 8).getD 0) p1.toNatClampNeg) p2 (h_X9_begin x S)) ≤ 0 then if (h_X9_passes x (hsA (h_X9_begin x S) ((hsQ (h_X9_begin x S) x 8).getD 0) p3.toNatClampNeg) (s_X9_elementType (hsA (h_X9_begin x S) ((hsQ (h_X9_begin x S) x 0).getD 0) (hsA (h_X9_begin x S) ((hsQ (h_X9_begin x S) x 8).getD 0) p1.toNatClampNeg).toNatClampNeg)) (h_X9_begin x S)) = 0 then ((h_X9_fails x 5 (h_X9_begin x S)).1, (h_X9_fails x 5 (h_X9_begin x S)).2)
    else (1, (hwJ (h_X9_begin x S) ((hsQ (h_X9_begin x S) x 6).getD 0) ((hsA (h_X9_begin x S) ((hsQ (h_X9_begin x S) x 2).getD 0) (hsA (h_X9_begin x S) ((hsQ (h_X9_begin x S) x 8).getD 0) p1.toNatClampNeg).toNatClampNeg) + p2).toNatClampNeg ((hsA (h_X9_begin x S) ((hsQ (h_X9_begin x S) x 8).getD 0) p3.toNatClampNeg).toInt64)))
   else ((h_X9_fails x (h_X9_against x p0 (hsA (h_X9_begin x S) ((hsQ (h_X9_begin x S) x 8).getD 0) p1.toNatClampNeg) p2 (h_X9_begin x S)) (h_X9_begin x S)).1, (h_X9_fails x (h_X9_against x p0 (hsA (h_X9_begin x S) ((hsQ (h_X9_begin x S) x 8).getD 0) p1.toNatClampNeg) p2 (h_X9_begin x S)) (h_X9_begin x S)).2)
def ok_X9_put_j78 (L : List Nat) (x : Nat) (p0 : Int32) (p1 : Int32) (p2 : Int32) (p3 : Int32) (z_78_0 : Int32) (S : HS) : Prop :=
  (x ∈ L ∧ hsK (h_X9_begin x S) x = 7) ∧ ((ok_X9_passes L x (hsA (h_X9_begin x S) ((hsQ (h_X9_begin x S) x 8).getD 0) p3.toNatClampNeg) z_78_0 (h_X9_begin x S)) ∧ ((((h_X9_passes x (hsA (h_X9_begin x S) ((hsQ (h_X9_begin x S) x 8).getD 0) p3.toNatClampNeg) z_78_0 (h_X9_begin x S)) = 0) → ((x ∈ L ∧ hsK (h_X9_begin x S) x = 7) ∧ ((ok_X9_fails L x 4 (h_X9_begin x S)) ∧ (True)))) ∧
  (¬ ((h_X9_passes x (hsA (h_X9_begin x S) ((hsQ (h_X9_begin x S) x 8).getD 0) p3.toNatClampNeg) z_78_0 (h_X9_begin x S)) = 0) → ((x ∈ L ∧ hsK (h_X9_begin x S) x = 7) ∧ ((ok_X9_against L x p0 (hsA (h_X9_begin x S) ((hsQ (h_X9_begin x S) x 8).getD 0) p1.toNatClampNeg) p2 (h_X9_begin x S)) ∧ ((((h_X9_against x p0 (hsA (h_X9_begin x S) ((hsQ (h_X9_begin x S) x 8).getD 0) p1.toNatClampNeg) p2 (h_X9_begin x S)) ≤ 0) → ((x ∈ L ∧ hsK (h_X9_begin x S) x = 7 ∧ hsQ (h_X9_begin x S) x 0 ≠ none) ∧ ((((hsQ (h_X9_begin x S) x 0).getD 0) ∈ L ∧ hsK (h_X9_begin x S) ((hsQ (h_X9_begin x S) x 0).getD 0) = 8 ∧ vp_in (hsA (h_X9_begin x S) ((hsQ (h_X9_begin x S) x 8).getD 0) p1.toNatClampNeg) (hsN (h_X9_begin x S) ((hsQ (h_X9_begin x S) x 0).getD 0))) ∧ ((x ∈ L ∧ hsK (h_X9_begin x S) x = 7) ∧ ((ok_X9_passes L x (hsA (h_X9_begin x S) ((hsQ (h_X9_begin x S) x 8).getD 0) p3.toNatClampNeg) (s_X9_elementType (hsA (h_X9_begin x S) ((hsQ (h_X9_begin x S) x 0).getD 0) (hsA (h_X9_begin x S) ((hsQ (h_X9_begin x S) x 8).getD 0) p1.toNatClampNeg).toNatClampNeg)) (h_X9_begin x S)) ∧ ((((h_X9_passes x (hsA (h_X9_begin x S) ((hsQ (h_X9_begin x S) x 8).getD 0) p3.toNatClampNeg) (s_X9_elementType (hsA (h_X9_begin x S) ((hsQ (h_X9_begin x S) x 0).getD 0) (hsA (h_X9_begin x S) ((hsQ (h_X9_begin x S) x 8).getD 0) p1.toNatClampNeg).toNatClampNeg)) (h_X9_begin x S)) = 0) → ((x ∈ L ∧ hsK (h_X9_begin x S) x = 7) ∧ ((ok_X9_fails L x 5 (h_X9_begin x S)) ∧ (True)))) ∧
    (¬ ((h_X9_passes x (hsA (h_X9_begin x S) ((hsQ (h_X9_begin x S) x 8).getD 0) p3.toNatClampNeg) (s_X9_elementType (hsA (h_X9_begin x S) ((hsQ (h_X9_begin x S) x 0).getD 0) (hsA (h_X9_begin x S) ((hsQ (h_X9_begin x S) x 8).getD 0) p1.toNatClampNeg).toNatClampNeg)) (h_X9_begin x S)) = 0) → ((x ∈ L ∧ hsK (h_X9_begin x S) x = 7 ∧ hsQ (h_X9_begin x S) x 6 ≠ none) ∧ ((x ∈ L ∧ hsK (h_X9_begin x S) x = 7 ∧ hsQ (h_X9_begin x S) x 2 ≠ none) ∧ ((((hsQ (h_X9_begin x S) x 2).getD 0) ∈ L ∧ hsK (h_X9_begin x S) ((hsQ (h_X9_begin x S) x 2).getD 0) = 8 ∧ vp_in (hsA (h_X9_begin x S) ((hsQ (h_X9_begin x S) x 8).getD 0) p1.toNatClampNeg) (hsN (h_X9_begin x S) ((hsQ (h_X9_begin x S) x 2).getD 0))) ∧ ((((hsQ (h_X9_begin x S) x 6).getD 0) ∈ L ∧ hsK (h_X9_begin x S) ((hsQ (h_X9_begin x S) x 6).getD 0) = 9 ∧ vp_in ((hsA (h_X9_begin x S) ((hsQ (h_X9_begin x S) x 2).getD 0) (hsA (h_X9_begin x S) ((hsQ (h_X9_begin x S) x 8).getD 0) p1.toNatClampNeg).toNatClampNeg) + p2) (hsN (h_X9_begin x S) ((hsQ (h_X9_begin x S) x 6).getD 0))) ∧ (True)))))))))))) ∧
   (¬ ((h_X9_against x p0 (hsA (h_X9_begin x S) ((hsQ (h_X9_begin x S) x 8).getD 0) p1.toNatClampNeg) p2 (h_X9_begin x S)) ≤ 0) → ((x ∈ L ∧ hsK (h_X9_begin x S) x = 7) ∧ ((ok_X9_fails L x (h_X9_against x p0 (hsA (h_X9_begin x S) ((hsQ (h_X9_begin x S) x 8).getD 0) p1.toNatClampNeg) p2 (h_X9_begin x S)) (h_X9_begin x S)) ∧ (True))))))))))
def h_X9_put (x : Nat) (p0 : Int32) (p1 : Int32) (p2 : Int32) (p3 : Int32) (S : HS) : Int32 × HS :=
  if (s_X9_isHolder p0) = 0 then ((h_X9_fails x 8 (h_X9_begin x S)).1, (h_X9_fails x 8 (h_X9_begin x S)).2)
  else if (s_X9_isCell p1) = 0 then ((h_X9_fails x 8 (h_X9_begin x S)).1, (h_X9_fails x 8 (h_X9_begin x S)).2)
   else if (s_X9_isCell p3) = 0 then ((h_X9_fails x 8 (h_X9_begin x S)).1, (h_X9_fails x 8 (h_X9_begin x S)).2)
    else if (h_X9_passes x (hsA (h_X9_begin x S) ((hsQ (h_X9_begin x S) x 8).getD 0) p1.toNatClampNeg) p0 (h_X9_begin x S)) = 0 then ((h_X9_fails x 4 (h_X9_begin x S)).1, (h_X9_fails x 4 (h_X9_begin x S)).2)
     else if p0 = 15 then h_X9_put_j78 x p0 p1 p2 p3 13 S
      else h_X9_put_j78 x p0 p1 p2 p3 (s_X9_elementType p0) S
def ok_X9_put (L : List Nat) (x : Nat) (p0 : Int32) (p1 : Int32) (p2 : Int32) (p3 : Int32) (S : HS) : Prop :=
  (x ∈ L ∧ hsK S x = 7) ∧ ((ok_X9_begin L x S) ∧ ((((s_X9_isHolder p0) = 0) → ((x ∈ L ∧ hsK (h_X9_begin x S) x = 7) ∧ ((ok_X9_fails L x 8 (h_X9_begin x S)) ∧ (True)))) ∧
  (¬ ((s_X9_isHolder p0) = 0) → ((((s_X9_isCell p1) = 0) → ((x ∈ L ∧ hsK (h_X9_begin x S) x = 7) ∧ ((ok_X9_fails L x 8 (h_X9_begin x S)) ∧ (True)))) ∧
   (¬ ((s_X9_isCell p1) = 0) → ((((s_X9_isCell p3) = 0) → ((x ∈ L ∧ hsK (h_X9_begin x S) x = 7) ∧ ((ok_X9_fails L x 8 (h_X9_begin x S)) ∧ (True)))) ∧
    (¬ ((s_X9_isCell p3) = 0) → ((x ∈ L ∧ hsK (h_X9_begin x S) x = 7 ∧ hsQ (h_X9_begin x S) x 8 ≠ none) ∧ ((((hsQ (h_X9_begin x S) x 8).getD 0) ∈ L ∧ hsK (h_X9_begin x S) ((hsQ (h_X9_begin x S) x 8).getD 0) = 8 ∧ vp_in p1 (hsN (h_X9_begin x S) ((hsQ (h_X9_begin x S) x 8).getD 0))) ∧ ((x ∈ L ∧ hsK (h_X9_begin x S) x = 7 ∧ hsQ (h_X9_begin x S) x 8 ≠ none) ∧ ((((hsQ (h_X9_begin x S) x 8).getD 0) ∈ L ∧ hsK (h_X9_begin x S) ((hsQ (h_X9_begin x S) x 8).getD 0) = 8 ∧ vp_in p3 (hsN (h_X9_begin x S) ((hsQ (h_X9_begin x S) x 8).getD 0))) ∧ ((x ∈ L ∧ hsK (h_X9_begin x S) x = 7) ∧ ((ok_X9_passes L x (hsA (h_X9_begin x S) ((hsQ (h_X9_begin x S) x 8).getD 0) p1.toNatClampNeg) p0 (h_X9_begin x S)) ∧ ((((h_X9_passes x (hsA (h_X9_begin x S) ((hsQ (h_X9_begin x S) x 8).getD 0) p1.toNatClampNeg) p0 (h_X9_begin x S)) = 0) → ((x ∈ L ∧ hsK (h_X9_begin x S) x = 7) ∧ ((ok_X9_fails L x 4 (h_X9_begin x S)) ∧ (True)))) ∧
     (¬ ((h_X9_passes x (hsA (h_X9_begin x S) ((hsQ (h_X9_begin x S) x 8).getD 0) p1.toNatClampNeg) p0 (h_X9_begin x S)) = 0) → (((p0 = 15) → (ok_X9_put_j78 L x p0 p1 p2 p3 13 S)) ∧
      (¬ (p0 = 15) → (ok_X9_put_j78 L x p0 p1 p2 p3 (s_X9_elementType p0) S))))))))))))))))))
set_option maxHeartbeats 4000000 in
set_option maxRecDepth 100000 in
theorem hm_X9_put (l : Launch) (G : GE) (L : List Nat) (S : HS) (x : Nat) (p0 : Int32) (p1 : Int32) (p2 : Int32) (p3 : Int32) (hok : ok_X9_put L x p0 p1 p2 p3 S) : HmI l G yX9_put wsX9_put 3 66 [.ref x, .int p0, .int p1, .int p2, .int p3] L S (h_X9_put x p0 p1 p2 p3 S) := by
  refine Met.ofW (cc := cX9_put) (maxL := 8) (ret := (some .int)) (by decide) rfl ?_
  intro p e s m args below meth c s₁ B hml hv
  obtain ⟨rfl, hP, hK, hnd, hE⟩ := hv
  have hx := B.exec
  have hb := B.bytes
  have hr := B.returns
  have hts := atoms_spec (ws := wsX9_put) B.pre
  have hown : s.vm.findClass RX9 = some m.cls := findClass_of_methodNamed B.named
  have hlocks := B.notSynchronized
  have hD := nd_D hnd
  have hS : va_S (AL L) s.heap s.heap [] := va_S.rf
  have hl := lv_entry ([.ref x, .int p0, .int p1, .int p2, .int p3]) (n := 8) (Nat.le_of_ble_eq_true rfl)
  rw [lg_entry_eq]
  generalize (lg_sl ([.ref x, .int p0, .int p1, .int p2, .int p3]) ++ List.replicate (8 - (lg_sl ([.ref x, .int p0, .int p1, .int p2, .int p3])).length) Slot.unset).toArray = ls at hl ⊢
  have hl : lv_has ls 8 [(0, .ref x), (1, .int p0), (2, .int p1), (3, .int p2), (4, .int p3)] := hl
  obtain ⟨Z, hZ⟩ : ∃ z, z = MQ below (hm_QI G L (h_X9_put x p0 p1 p2 p3 S)) ([.ref x, .int p0, .int p1, .int p2, .int p3] : List Value).toArray s 0 0 (AL L) := ⟨_, rfl⟩
  rw [← hZ]
  refine lv_aload_n hx hb dX9_put_0 rfl (lv_at hl 0 rfl) ?_
  obtain ⟨h_1k, hok⟩ := hok
  obtain ⟨h_1, hok⟩ := hok
  refine hm_callV (G := G) (a := ([.ref x] : List Value).toArray) (pr := (h_X9_begin x S)) (rest := []) ?_ hS (fun H locs hP hS => ?_)
  ·
    exact va_runV (As := []) (rest := []) ⟨hx, hb, hml, hown, hts⟩ (hm_X9_begin l G L S x h_1) (cwV 0 hts gX9_put_X9_begin rfl rfl rfl hdv_X9_begin ⟨Nat.le_of_ble_eq_true rfl, Nat.le_of_ble_eq_true rfl⟩) ⟨HW.fb, hp_recv hK hP h_1k.1 (PF_7 h_1k.2) rfl, fun U hU hW => ⟨rfl, HW.call hP hK hnd hE hS U hU hW⟩⟩ rfl rfl hl.1 rfl (lv_room (Nat.le_of_ble_eq_true rfl)) dX9_put_1 ⟨Nat.le_refl 0, Nat.le_refl 0⟩
  ·
    refine lv_iload_n hx hb dX9_put_4 rfl (lv_at hl 1 rfl) ?_
    refine pm_callI (va_runS (As := [.int p0]) (rest := []) ⟨hx, hb, hml, hown, hts⟩ (pm_X9_isHolder l p0) (va_cwS 1 hts gX9_put_X9_isHolder rfl rfl rfl hd_X9_isHolder ⟨Nat.le_of_ble_eq_true rfl, Nat.le_of_ble_eq_true rfl⟩) ⟨pm_fbT, fun U hU hW => ⟨rfl, trivial⟩⟩ rfl rfl hl.1 rfl (lv_room (Nat.le_of_ble_eq_true rfl)) dX9_put_5 ⟨Nat.le_refl 0, Nat.le_refl 0⟩) hS (fun H locs _ hk9 hS => ?_)
    replace hP := P_keep hP hk9
    refine lv_if_eq (tgt := 26) hx hb dX9_put_8 (by decide) (fun c_8 => ?_) (fun c_8 => ?_)
    ·
      have hok := (hok).1 c_8
      refine lv_aload_n hx hb dX9_put_26 rfl (lv_at hl 0 rfl) ?_
      refine lv_bipush (v := 8) hx hb dX9_put_27 (by decide) ?_
      obtain ⟨h_29k, hok⟩ := hok
      obtain ⟨h_29, hok⟩ := hok
      refine hm_callI (G := G) (a := ([.ref x, .int 8] : List Value).toArray) (pr := (h_X9_fails x 8 (h_X9_begin x S))) (rest := []) ?_ hS (fun H locs hP hS => ?_)
      ·
        exact va_runV (As := [.int 8]) (rest := []) ⟨hx, hb, hml, hown, hts⟩ (hm_X9_fails l G L (h_X9_begin x S) x 8 h_29) (cwV 1 hts gX9_put_X9_fails rfl rfl rfl hdv_X9_fails ⟨Nat.le_of_ble_eq_true rfl, Nat.le_of_ble_eq_true rfl⟩) ⟨HW.fb, hp_recv hK hP h_29k.1 (PF_7 h_29k.2) rfl, fun U hU hW => ⟨rfl, HW.call hP hK hnd hE hS U hU hW⟩⟩ rfl rfl hl.1 rfl (lv_room (Nat.le_of_ble_eq_true rfl)) dX9_put_29 ⟨Nat.le_refl 0, Nat.le_refl 0⟩
      ·
        rw [hZ]
        exact hm_iret hx hb hr hlocks hS hP hK hnd hE ((if_pos c_8)) dX9_put_32
    ·
      have hok := (hok).2 c_8
      refine lv_iload_n hx hb dX9_put_11 rfl (lv_at hl 2 rfl) ?_
      refine pm_callI (va_runS (As := [.int p1]) (rest := []) ⟨hx, hb, hml, hown, hts⟩ (pm_X9_isCell l p1) (va_cwS 1 hts gX9_put_X9_isCell rfl rfl rfl hd_X9_isCell ⟨Nat.le_of_ble_eq_true rfl, Nat.le_of_ble_eq_true rfl⟩) ⟨pm_fbT, fun U hU hW => ⟨rfl, trivial⟩⟩ rfl rfl hl.1 rfl (lv_room (Nat.le_of_ble_eq_true rfl)) dX9_put_12 ⟨Nat.le_refl 0, Nat.le_refl 0⟩) hS (fun H locs _ hk9 hS => ?_)
      replace hP := P_keep hP hk9
      refine lv_if_eq (tgt := 26) hx hb dX9_put_15 (by decide) (fun c_15 => ?_) (fun c_15 => ?_)
      ·
        have hok := (hok).1 c_15
        refine lv_aload_n hx hb dX9_put_26 rfl (lv_at hl 0 rfl) ?_
        refine lv_bipush (v := 8) hx hb dX9_put_27 (by decide) ?_
        obtain ⟨h_29k, hok⟩ := hok
        obtain ⟨h_29, hok⟩ := hok
        refine hm_callI (G := G) (a := ([.ref x, .int 8] : List Value).toArray) (pr := (h_X9_fails x 8 (h_X9_begin x S))) (rest := []) ?_ hS (fun H locs hP hS => ?_)
        ·
          exact va_runV (As := [.int 8]) (rest := []) ⟨hx, hb, hml, hown, hts⟩ (hm_X9_fails l G L (h_X9_begin x S) x 8 h_29) (cwV 1 hts gX9_put_X9_fails rfl rfl rfl hdv_X9_fails ⟨Nat.le_of_ble_eq_true rfl, Nat.le_of_ble_eq_true rfl⟩) ⟨HW.fb, hp_recv hK hP h_29k.1 (PF_7 h_29k.2) rfl, fun U hU hW => ⟨rfl, HW.call hP hK hnd hE hS U hU hW⟩⟩ rfl rfl hl.1 rfl (lv_room (Nat.le_of_ble_eq_true rfl)) dX9_put_29 ⟨Nat.le_refl 0, Nat.le_refl 0⟩
        ·
          rw [hZ]
          exact hm_iret hx hb hr hlocks hS hP hK hnd hE (((if_neg c_8).trans (if_pos c_15))) dX9_put_32
      ·
        have hok := (hok).2 c_15
        refine lv_iload hx hb dX9_put_18 (lv_at hl 4 rfl) ?_
        refine pm_callI (va_runS (As := [.int p3]) (rest := []) ⟨hx, hb, hml, hown, hts⟩ (pm_X9_isCell l p3) (va_cwS 1 hts gX9_put_X9_isCell rfl rfl rfl hd_X9_isCell ⟨Nat.le_of_ble_eq_true rfl, Nat.le_of_ble_eq_true rfl⟩) ⟨pm_fbT, fun U hU hW => ⟨rfl, trivial⟩⟩ rfl rfl hl.1 rfl (lv_room (Nat.le_of_ble_eq_true rfl)) dX9_put_20 ⟨Nat.le_refl 0, Nat.le_refl 0⟩) hS (fun H locs _ hk9 hS => ?_)
        replace hP := P_keep hP hk9
        refine lv_if_ne (tgt := 33) hx hb dX9_put_23 (by decide) (fun c_23 => ?_) (fun c_23 => ?_)
        ·
          have hok := (hok).2 c_23
          refine lv_aload_n hx hb dX9_put_33 rfl (lv_at hl 0 rfl) ?_
          obtain ⟨h_34, hok⟩ := hok
          refine hp_getR (ci := 7) (C := RX9) (T := TX9) (N := 12) hx hb hts iw_X9_put_X9 hown hK hP h_34.1 (PF_7 h_34.2.1) rfl 8 (by decide) (hts _ (List.mem_of_getElem? (i := 1) rfl)) (fun _ h9 => h9) rfl h_34.2.2 dX9_put_34 ?_
          refine lv_iload_n hx hb dX9_put_37 rfl (lv_at hl 2 rfl) ?_
          obtain ⟨h_38, hok⟩ := hok
          refine hp_iald hx hb hK hP h_38.1 0 (PF_8 h_38.2.1) rfl h_38.2.2 dX9_put_38 ?_
          refine lv_istore (lv' := [(5, .int (hsA (h_X9_begin x S) ((hsQ (h_X9_begin x S) x 8).getD 0) p1.toNatClampNeg)), (0, .ref x), (1, .int p0), (2, .int p1), (3, .int p2), (4, .int p3)]) hx hb dX9_put_39 hl (by decide) rfl (fun ls hl => ?_)
          refine lv_aload_n hx hb dX9_put_41 rfl (lv_at hl 1 rfl) ?_
          obtain ⟨h_42, hok⟩ := hok
          refine hp_getR (ci := 7) (C := RX9) (T := TX9) (N := 12) hx hb hts iw_X9_put_X9 hown hK hP h_42.1 (PF_7 h_42.2.1) rfl 8 (by decide) (hts _ (List.mem_of_getElem? (i := 1) rfl)) (fun _ h9 => h9) rfl h_42.2.2 dX9_put_42 ?_
          refine lv_iload hx hb dX9_put_45 (lv_at hl 5 rfl) ?_
          obtain ⟨h_47, hok⟩ := hok
          refine hp_iald hx hb hK hP h_47.1 0 (PF_8 h_47.2.1) rfl h_47.2.2 dX9_put_47 ?_
          refine lv_istore (lv' := [(6, .int (hsA (h_X9_begin x S) ((hsQ (h_X9_begin x S) x 8).getD 0) p3.toNatClampNeg)), (5, .int (hsA (h_X9_begin x S) ((hsQ (h_X9_begin x S) x 8).getD 0) p1.toNatClampNeg)), (0, .ref x), (1, .int p0), (2, .int p1), (3, .int p2), (4, .int p3)]) hx hb dX9_put_48 hl (by decide) rfl (fun ls hl => ?_)
          refine lv_aload_n hx hb dX9_put_50 rfl (lv_at hl 2 rfl) ?_
          refine lv_iload hx hb dX9_put_51 (lv_at hl 1 rfl) ?_
          refine lv_iload_n hx hb dX9_put_53 rfl (lv_at hl 3 rfl) ?_
          obtain ⟨h_54k, hok⟩ := hok
          obtain ⟨h_54, hok⟩ := hok
          refine hm_callIr (G := G) (S1 := h_X9_begin x S) (a := ([.ref x, .int (hsA (h_X9_begin x S) ((hsQ (h_X9_begin x S) x 8).getD 0) p1.toNatClampNeg), .int p0] : List Value).toArray) (rest := []) (h_X9_passes x (hsA (h_X9_begin x S) ((hsQ (h_X9_begin x S) x 8).getD 0) p1.toNatClampNeg) p0 (h_X9_begin x S)) ?_ hS (fun H locs hP hS => ?_)
          ·
            exact va_runV (As := [.int (hsA (h_X9_begin x S) ((hsQ (h_X9_begin x S) x 8).getD 0) p1.toNatClampNeg), .int p0]) (rest := []) ⟨hx, hb, hml, hown, hts⟩ (hm_X9_passes l G L (h_X9_begin x S) x (hsA (h_X9_begin x S) ((hsQ (h_X9_begin x S) x 8).getD 0) p1.toNatClampNeg) p0 h_54) (cwV 2 hts gX9_put_X9_passes rfl rfl rfl hdv_X9_passes ⟨Nat.le_of_ble_eq_true rfl, Nat.le_of_ble_eq_true rfl⟩) ⟨HW.fb, hp_recv hK hP h_54k.1 (PF_7 h_54k.2) rfl, fun U hU hW => ⟨rfl, HW.call hP hK hnd hE hS U hU hW⟩⟩ rfl rfl hl.1 rfl (lv_room (Nat.le_of_ble_eq_true rfl)) dX9_put_54 ⟨Nat.le_refl 0, Nat.le_refl 0⟩
          ·
            refine lv_if_eq (tgt := 84) hx hb dX9_put_57 (by decide) (fun c_57 => ?_) (fun c_57 => ?_)
            ·
              have hok := (hok).1 c_57
              refine lv_aload_n hx hb dX9_put_84 rfl (lv_at hl 2 rfl) ?_
              refine lv_iconst (v := 4) hx hb dX9_put_85 (by decide) ?_
              obtain ⟨h_86k, hok⟩ := hok
              obtain ⟨h_86, hok⟩ := hok
              refine hm_callI (G := G) (a := ([.ref x, .int 4] : List Value).toArray) (pr := (h_X9_fails x 4 (h_X9_begin x S))) (rest := []) ?_ hS (fun H locs hP hS => ?_)
              ·
                exact va_runV (As := [.int 4]) (rest := []) ⟨hx, hb, hml, hown, hts⟩ (hm_X9_fails l G L (h_X9_begin x S) x 4 h_86) (cwV 1 hts gX9_put_X9_fails rfl rfl rfl hdv_X9_fails ⟨Nat.le_of_ble_eq_true rfl, Nat.le_of_ble_eq_true rfl⟩) ⟨HW.fb, hp_recv hK hP h_86k.1 (PF_7 h_86k.2) rfl, fun U hU hW => ⟨rfl, HW.call hP hK hnd hE hS U hU hW⟩⟩ rfl rfl hl.1 rfl (lv_room (Nat.le_of_ble_eq_true rfl)) dX9_put_86 ⟨Nat.le_refl 0, Nat.le_refl 0⟩
              ·
                rw [hZ]
                exact hm_iret hx hb hr hlocks hS hP hK hnd hE (((if_neg c_8).trans ((if_neg c_15).trans ((if_neg c_23).trans (if_pos c_57))))) dX9_put_89
            ·
              have hok := (hok).2 c_57
              refine lv_aload_n hx hb dX9_put_60 rfl (lv_at hl 2 rfl) ?_
              refine lv_iload hx hb dX9_put_61 (lv_at hl 0 rfl) ?_
              refine lv_iload_n hx hb dX9_put_63 rfl (lv_at hl 3 rfl) ?_
              refine lv_bipush (v := 15) hx hb dX9_put_64 (by decide) ?_
              have K_78 : ∀ (z_78_0 : Int32) (H : Heap) (locs : List Loc), va_P (gD G) vwCl (va_pl L (PF G (h_X9_begin x S))) H → va_S (AL L) s.heap H locs → ∀ (ls : Array Slot), lv_has ls 8 [(0, .ref x), (1, .int p0), (3, .int p2), (5, .int (hsA (h_X9_begin x S) ((hsQ (h_X9_begin x S) x 8).getD 0) p1.toNatClampNeg)), (6, .int (hsA (h_X9_begin x S) ((hsQ (h_X9_begin x S) x 8).getD 0) p3.toNatClampNeg))] → ok_X9_put_j78 L x p0 p1 p2 p3 z_78_0 S → h_X9_put x p0 p1 p2 p3 S = h_X9_put_j78 x p0 p1 p2 p3 z_78_0 S → W p l e (pm_R 3 66) s m ([.ref x, .int p0, .int p1, .int p2, .int p3] : List Value).toArray below meth c H locs 0 0 Z (F0 m 78 ls [.int z_78_0, .int (hsA (h_X9_begin x S) ((hsQ (h_X9_begin x S) x 8).getD 0) p3.toNatClampNeg), .ref x]) := by
                intro z_78_0 H locs hP hS ls hl hok hK_78
                obtain ⟨h_78k, hok⟩ := hok
                obtain ⟨h_78, hok⟩ := hok
                refine hm_callIr (G := G) (S1 := h_X9_begin x S) (a := ([.ref x, .int (hsA (h_X9_begin x S) ((hsQ (h_X9_begin x S) x 8).getD 0) p3.toNatClampNeg), .int z_78_0] : List Value).toArray) (rest := []) (h_X9_passes x (hsA (h_X9_begin x S) ((hsQ (h_X9_begin x S) x 8).getD 0) p3.toNatClampNeg) z_78_0 (h_X9_begin x S)) ?_ hS (fun H locs hP hS => ?_)
                ·
                  exact va_runV (As := [.int (hsA (h_X9_begin x S) ((hsQ (h_X9_begin x S) x 8).getD 0) p3.toNatClampNeg), .int z_78_0]) (rest := []) ⟨hx, hb, hml, hown, hts⟩ (hm_X9_passes l G L (h_X9_begin x S) x (hsA (h_X9_begin x S) ((hsQ (h_X9_begin x S) x 8).getD 0) p3.toNatClampNeg) z_78_0 h_78) (cwV 2 hts gX9_put_X9_passes rfl rfl rfl hdv_X9_passes ⟨Nat.le_of_ble_eq_true rfl, Nat.le_of_ble_eq_true rfl⟩) ⟨HW.fb, hp_recv hK hP h_78k.1 (PF_7 h_78k.2) rfl, fun U hU hW => ⟨rfl, HW.call hP hK hnd hE hS U hU hW⟩⟩ rfl rfl hl.1 rfl (lv_room (Nat.le_of_ble_eq_true rfl)) dX9_put_78 ⟨Nat.le_refl 0, Nat.le_refl 0⟩
                ·
                  refine lv_if_ne (tgt := 90) hx hb dX9_put_81 (by decide) (fun c_81 => ?_) (fun c_81 => ?_)
                  ·
                    have hok := (hok).2 c_81
                    refine lv_aload_n hx hb dX9_put_90 rfl (lv_at hl 0 rfl) ?_
                    refine lv_iload_n hx hb dX9_put_91 rfl (lv_at hl 1 rfl) ?_
                    refine lv_iload hx hb dX9_put_92 (lv_at hl 3 rfl) ?_
                    refine lv_iload_n hx hb dX9_put_94 rfl (lv_at hl 2 rfl) ?_
                    obtain ⟨h_95k, hok⟩ := hok
                    obtain ⟨h_95, hok⟩ := hok
                    refine hm_callIr (G := G) (S1 := h_X9_begin x S) (a := ([.ref x, .int p0, .int (hsA (h_X9_begin x S) ((hsQ (h_X9_begin x S) x 8).getD 0) p1.toNatClampNeg), .int p2] : List Value).toArray) (rest := []) (h_X9_against x p0 (hsA (h_X9_begin x S) ((hsQ (h_X9_begin x S) x 8).getD 0) p1.toNatClampNeg) p2 (h_X9_begin x S)) ?_ hS (fun H locs hP hS => ?_)
                    ·
                      exact va_runV (As := [.int p0, .int (hsA (h_X9_begin x S) ((hsQ (h_X9_begin x S) x 8).getD 0) p1.toNatClampNeg), .int p2]) (rest := []) ⟨hx, hb, hml, hown, hts⟩ (hm_X9_against l G L (h_X9_begin x S) x p0 (hsA (h_X9_begin x S) ((hsQ (h_X9_begin x S) x 8).getD 0) p1.toNatClampNeg) p2 h_95) (cwV 3 hts gX9_put_X9_against rfl rfl rfl hdv_X9_against ⟨Nat.le_of_ble_eq_true rfl, Nat.le_of_ble_eq_true rfl⟩) ⟨HW.fb, hp_recv hK hP h_95k.1 (PF_7 h_95k.2) rfl, fun U hU hW => ⟨rfl, HW.call hP hK hnd hE hS U hU hW⟩⟩ rfl rfl hl.1 rfl (lv_room (Nat.le_of_ble_eq_true rfl)) dX9_put_95 ⟨Nat.le_refl 0, Nat.le_refl 0⟩
                    ·
                      refine lv_istore (lv' := [(7, .int (h_X9_against x p0 (hsA (h_X9_begin x S) ((hsQ (h_X9_begin x S) x 8).getD 0) p1.toNatClampNeg) p2 (h_X9_begin x S))), (0, .ref x), (1, .int p0), (3, .int p2), (5, .int (hsA (h_X9_begin x S) ((hsQ (h_X9_begin x S) x 8).getD 0) p1.toNatClampNeg)), (6, .int (hsA (h_X9_begin x S) ((hsQ (h_X9_begin x S) x 8).getD 0) p3.toNatClampNeg))]) hx hb dX9_put_98 hl (by decide) rfl (fun ls hl => ?_)
                      refine lv_iload hx hb dX9_put_100 (lv_at hl 0 rfl) ?_
                      refine lv_if_le (tgt := 112) hx hb dX9_put_102 (by decide) (fun c_102 => ?_) (fun c_102 => ?_)
                      ·
                        have hok := (hok).1 c_102
                        refine lv_aload_n hx hb dX9_put_112 rfl (lv_at hl 1 rfl) ?_
                        refine lv_iload hx hb dX9_put_113 (lv_at hl 5 rfl) ?_
                        refine lv_aload_n hx hb dX9_put_115 rfl (lv_at hl 1 rfl) ?_
                        obtain ⟨h_116, hok⟩ := hok
                        refine hp_getR (ci := 7) (C := RX9) (T := TX9) (N := 12) hx hb hts iw_X9_put_X9 hown hK hP h_116.1 (PF_7 h_116.2.1) rfl 0 (by decide) (hts _ (List.mem_of_getElem? (i := 2) rfl)) (fun _ h9 => h9) rfl h_116.2.2 dX9_put_116 ?_
                        refine lv_iload hx hb dX9_put_119 (lv_at hl 4 rfl) ?_
                        obtain ⟨h_121, hok⟩ := hok
                        refine hp_iald hx hb hK hP h_121.1 0 (PF_8 h_121.2.1) rfl h_121.2.2 dX9_put_121 ?_
                        refine pm_callI (va_runS (As := [.int (hsA (h_X9_begin x S) ((hsQ (h_X9_begin x S) x 0).getD 0) (hsA (h_X9_begin x S) ((hsQ (h_X9_begin x S) x 8).getD 0) p1.toNatClampNeg).toNatClampNeg)]) (rest := [.int (hsA (h_X9_begin x S) ((hsQ (h_X9_begin x S) x 8).getD 0) p3.toNatClampNeg), .ref x]) ⟨hx, hb, hml, hown, hts⟩ (pm_X9_elementType l (hsA (h_X9_begin x S) ((hsQ (h_X9_begin x S) x 0).getD 0) (hsA (h_X9_begin x S) ((hsQ (h_X9_begin x S) x 8).getD 0) p1.toNatClampNeg).toNatClampNeg)) (va_cwS 1 hts gX9_put_X9_elementType rfl rfl rfl hd_X9_elementType ⟨Nat.le_of_ble_eq_true rfl, Nat.le_of_ble_eq_true rfl⟩) ⟨pm_fbT, fun U hU hW => ⟨rfl, trivial⟩⟩ rfl rfl hl.1 rfl (lv_room (Nat.le_of_ble_eq_true rfl)) dX9_put_122 ⟨Nat.le_refl 0, Nat.le_refl 0⟩) hS (fun H locs _ hk9 hS => ?_)
                        replace hP := P_keep hP hk9
                        obtain ⟨h_125k, hok⟩ := hok
                        obtain ⟨h_125, hok⟩ := hok
                        refine hm_callIr (G := G) (S1 := h_X9_begin x S) (a := ([.ref x, .int (hsA (h_X9_begin x S) ((hsQ (h_X9_begin x S) x 8).getD 0) p3.toNatClampNeg), .int (s_X9_elementType (hsA (h_X9_begin x S) ((hsQ (h_X9_begin x S) x 0).getD 0) (hsA (h_X9_begin x S) ((hsQ (h_X9_begin x S) x 8).getD 0) p1.toNatClampNeg).toNatClampNeg))] : List Value).toArray) (rest := []) (h_X9_passes x (hsA (h_X9_begin x S) ((hsQ (h_X9_begin x S) x 8).getD 0) p3.toNatClampNeg) (s_X9_elementType (hsA (h_X9_begin x S) ((hsQ (h_X9_begin x S) x 0).getD 0) (hsA (h_X9_begin x S) ((hsQ (h_X9_begin x S) x 8).getD 0) p1.toNatClampNeg).toNatClampNeg)) (h_X9_begin x S)) ?_ hS (fun H locs hP hS => ?_)
                        ·
                          exact va_runV (As := [.int (hsA (h_X9_begin x S) ((hsQ (h_X9_begin x S) x 8).getD 0) p3.toNatClampNeg), .int (s_X9_elementType (hsA (h_X9_begin x S) ((hsQ (h_X9_begin x S) x 0).getD 0) (hsA (h_X9_begin x S) ((hsQ (h_X9_begin x S) x 8).getD 0) p1.toNatClampNeg).toNatClampNeg))]) (rest := []) ⟨hx, hb, hml, hown, hts⟩ (hm_X9_passes l G L (h_X9_begin x S) x (hsA (h_X9_begin x S) ((hsQ (h_X9_begin x S) x 8).getD 0) p3.toNatClampNeg) (s_X9_elementType (hsA (h_X9_begin x S) ((hsQ (h_X9_begin x S) x 0).getD 0) (hsA (h_X9_begin x S) ((hsQ (h_X9_begin x S) x 8).getD 0) p1.toNatClampNeg).toNatClampNeg)) h_125) (cwV 2 hts gX9_put_X9_passes rfl rfl rfl hdv_X9_passes ⟨Nat.le_of_ble_eq_true rfl, Nat.le_of_ble_eq_true rfl⟩) ⟨HW.fb, hp_recv hK hP h_125k.1 (PF_7 h_125k.2) rfl, fun U hU hW => ⟨rfl, HW.call hP hK hnd hE hS U hU hW⟩⟩ rfl rfl hl.1 rfl (lv_room (Nat.le_of_ble_eq_true rfl)) dX9_put_125 ⟨Nat.le_refl 0, Nat.le_refl 0⟩
                        ·
                          refine lv_if_ne (tgt := 137) hx hb dX9_put_128 (by decide) (fun c_128 => ?_) (fun c_128 => ?_)
                          ·
                            have hok := (hok).2 c_128
                            refine lv_aload_n hx hb dX9_put_137 rfl (lv_at hl 1 rfl) ?_
                            obtain ⟨h_138, hok⟩ := hok
                            refine hp_getR (ci := 7) (C := RX9) (T := TX9) (N := 12) hx hb hts iw_X9_put_X9 hown hK hP h_138.1 (PF_7 h_138.2.1) rfl 6 (by decide) (hts _ (List.mem_of_getElem? (i := 3) rfl)) (fun _ h9 => h9) rfl h_138.2.2 dX9_put_138 ?_
                            refine lv_aload_n hx hb dX9_put_141 rfl (lv_at hl 1 rfl) ?_
                            obtain ⟨h_142, hok⟩ := hok
                            refine hp_getR (ci := 7) (C := RX9) (T := TX9) (N := 12) hx hb hts iw_X9_put_X9 hown hK hP h_142.1 (PF_7 h_142.2.1) rfl 2 (by decide) (hts _ (List.mem_of_getElem? (i := 4) rfl)) (fun _ h9 => h9) rfl h_142.2.2 dX9_put_142 ?_
                            refine lv_iload hx hb dX9_put_145 (lv_at hl 4 rfl) ?_
                            obtain ⟨h_147, hok⟩ := hok
                            refine hp_iald hx hb hK hP h_147.1 0 (PF_8 h_147.2.1) rfl h_147.2.2 dX9_put_147 ?_
                            refine lv_iload_n hx hb dX9_put_148 rfl (lv_at hl 3 rfl) ?_
                            refine lv_iadd hx hb dX9_put_149 ?_
                            refine lv_iload hx hb dX9_put_150 (lv_at hl 5 rfl) ?_
                            refine lv_i2l (v := (hsA (h_X9_begin x S) ((hsQ (h_X9_begin x S) x 8).getD 0) p3.toNatClampNeg).toInt64) hx hb dX9_put_152 rfl ?_
                            obtain ⟨h_153, hok⟩ := hok
                            refine hp_last (g2 := PF G (hwJ (h_X9_begin x S) ((hsQ (h_X9_begin x S) x 6).getD 0) ((hsA (h_X9_begin x S) ((hsQ (h_X9_begin x S) x 2).getD 0) (hsA (h_X9_begin x S) ((hsQ (h_X9_begin x S) x 8).getD 0) p1.toNatClampNeg).toNatClampNeg) + p2).toNatClampNeg ((hsA (h_X9_begin x S) ((hsQ (h_X9_begin x S) x 8).getD 0) p3.toNatClampNeg).toInt64))) hx hb hK hP (hD _) hS h_153.1 1 (PF_9 h_153.2.1) rfl h_153.2.2 (PF_sJ h_153.2.1) (fun _ hb9 => PF_wJ hb9) dX9_put_153 (fun H locs hP hS => ?_)
                            refine lv_iconst (v := 1) hx hb dX9_put_154 (by decide) ?_
                            rw [hZ]
                            exact hm_iret hx hb hr hlocks hS hP hK hnd hE (((hK_78).trans ((if_neg c_81).trans ((if_pos c_102).trans (if_neg c_128))))) dX9_put_155
                          ·
                            have hok := (hok).1 c_128
                            refine lv_aload_n hx hb dX9_put_131 rfl (lv_at hl 1 rfl) ?_
                            refine lv_iconst (v := 5) hx hb dX9_put_132 (by decide) ?_
                            obtain ⟨h_133k, hok⟩ := hok
                            obtain ⟨h_133, hok⟩ := hok
                            refine hm_callI (G := G) (a := ([.ref x, .int 5] : List Value).toArray) (pr := (h_X9_fails x 5 (h_X9_begin x S))) (rest := []) ?_ hS (fun H locs hP hS => ?_)
                            ·
                              exact va_runV (As := [.int 5]) (rest := []) ⟨hx, hb, hml, hown, hts⟩ (hm_X9_fails l G L (h_X9_begin x S) x 5 h_133) (cwV 1 hts gX9_put_X9_fails rfl rfl rfl hdv_X9_fails ⟨Nat.le_of_ble_eq_true rfl, Nat.le_of_ble_eq_true rfl⟩) ⟨HW.fb, hp_recv hK hP h_133k.1 (PF_7 h_133k.2) rfl, fun U hU hW => ⟨rfl, HW.call hP hK hnd hE hS U hU hW⟩⟩ rfl rfl hl.1 rfl (lv_room (Nat.le_of_ble_eq_true rfl)) dX9_put_133 ⟨Nat.le_refl 0, Nat.le_refl 0⟩
                            ·
                              rw [hZ]
                              exact hm_iret hx hb hr hlocks hS hP hK hnd hE (((hK_78).trans ((if_neg c_81).trans ((if_pos c_102).trans (if_pos c_128))))) dX9_put_136
                      ·
                        have hok := (hok).2 c_102
                        refine lv_aload_n hx hb dX9_put_105 rfl (lv_at hl 1 rfl) ?_
                        refine lv_iload hx hb dX9_put_106 (lv_at hl 0 rfl) ?_
                        obtain ⟨h_108k, hok⟩ := hok
                        obtain ⟨h_108, hok⟩ := hok
                        refine hm_callI (G := G) (a := ([.ref x, .int (h_X9_against x p0 (hsA (h_X9_begin x S) ((hsQ (h_X9_begin x S) x 8).getD 0) p1.toNatClampNeg) p2 (h_X9_begin x S))] : List Value).toArray) (pr := (h_X9_fails x (h_X9_against x p0 (hsA (h_X9_begin x S) ((hsQ (h_X9_begin x S) x 8).getD 0) p1.toNatClampNeg) p2 (h_X9_begin x S)) (h_X9_begin x S))) (rest := []) ?_ hS (fun H locs hP hS => ?_)
                        ·
                          exact va_runV (As := [.int (h_X9_against x p0 (hsA (h_X9_begin x S) ((hsQ (h_X9_begin x S) x 8).getD 0) p1.toNatClampNeg) p2 (h_X9_begin x S))]) (rest := []) ⟨hx, hb, hml, hown, hts⟩ (hm_X9_fails l G L (h_X9_begin x S) x (h_X9_against x p0 (hsA (h_X9_begin x S) ((hsQ (h_X9_begin x S) x 8).getD 0) p1.toNatClampNeg) p2 (h_X9_begin x S)) h_108) (cwV 1 hts gX9_put_X9_fails rfl rfl rfl hdv_X9_fails ⟨Nat.le_of_ble_eq_true rfl, Nat.le_of_ble_eq_true rfl⟩) ⟨HW.fb, hp_recv hK hP h_108k.1 (PF_7 h_108k.2) rfl, fun U hU hW => ⟨rfl, HW.call hP hK hnd hE hS U hU hW⟩⟩ rfl rfl hl.1 rfl (lv_room (Nat.le_of_ble_eq_true rfl)) dX9_put_108 ⟨Nat.le_refl 0, Nat.le_refl 0⟩
                        ·
                          rw [hZ]
                          exact hm_iret hx hb hr hlocks hS hP hK hnd hE (((hK_78).trans ((if_neg c_81).trans (if_neg c_102)))) dX9_put_111
                  ·
                    have hok := (hok).1 c_81
                    refine lv_aload_n hx hb dX9_put_84 rfl (lv_at hl 0 rfl) ?_
                    refine lv_iconst (v := 4) hx hb dX9_put_85 (by decide) ?_
                    obtain ⟨h_86k, hok⟩ := hok
                    obtain ⟨h_86, hok⟩ := hok
                    refine hm_callI (G := G) (a := ([.ref x, .int 4] : List Value).toArray) (pr := (h_X9_fails x 4 (h_X9_begin x S))) (rest := []) ?_ hS (fun H locs hP hS => ?_)
                    ·
                      exact va_runV (As := [.int 4]) (rest := []) ⟨hx, hb, hml, hown, hts⟩ (hm_X9_fails l G L (h_X9_begin x S) x 4 h_86) (cwV 1 hts gX9_put_X9_fails rfl rfl rfl hdv_X9_fails ⟨Nat.le_of_ble_eq_true rfl, Nat.le_of_ble_eq_true rfl⟩) ⟨HW.fb, hp_recv hK hP h_86k.1 (PF_7 h_86k.2) rfl, fun U hU hW => ⟨rfl, HW.call hP hK hnd hE hS U hU hW⟩⟩ rfl rfl hl.1 rfl (lv_room (Nat.le_of_ble_eq_true rfl)) dX9_put_86 ⟨Nat.le_refl 0, Nat.le_refl 0⟩
                    ·
                      rw [hZ]
                      exact hm_iret hx hb hr hlocks hS hP hK hnd hE (((hK_78).trans (if_pos c_81))) dX9_put_89
              refine lv_icmp_ne (tgt := 74) hx hb dX9_put_66 (by decide) (fun c_66 => ?_) (fun c_66 => ?_)
              ·
                have hok := (hok).2 c_66
                refine lv_iload_n hx hb dX9_put_74 rfl (lv_at hl 3 rfl) ?_
                refine pm_callI (va_runS (As := [.int p0]) (rest := [.int (hsA (h_X9_begin x S) ((hsQ (h_X9_begin x S) x 8).getD 0) p3.toNatClampNeg), .ref x]) ⟨hx, hb, hml, hown, hts⟩ (pm_X9_elementType l p0) (va_cwS 1 hts gX9_put_X9_elementType rfl rfl rfl hd_X9_elementType ⟨Nat.le_of_ble_eq_true rfl, Nat.le_of_ble_eq_true rfl⟩) ⟨pm_fbT, fun U hU hW => ⟨rfl, trivial⟩⟩ rfl rfl hl.1 rfl (lv_room (Nat.le_of_ble_eq_true rfl)) dX9_put_75 ⟨Nat.le_refl 0, Nat.le_refl 0⟩) hS (fun H locs _ hk9 hS => ?_)
                replace hP := P_keep hP hk9
                exact K_78 (s_X9_elementType p0) _ _ hP hS ls (lv_sub hl [2, 3, 5, 1, 0] rfl) hok (((if_neg c_8).trans ((if_neg c_15).trans ((if_neg c_23).trans ((if_neg c_57).trans (if_neg c_66))))))
              ·
                have hok := (hok).1 c_66
                refine lv_bipush (v := 13) hx hb dX9_put_69 (by decide) ?_
                refine lv_goto (tgt := 78) hx hb dX9_put_71 (by decide) ?_
                exact K_78 13 _ _ hP hS ls (lv_sub hl [2, 3, 5, 1, 0] rfl) hok (((if_neg c_8).trans ((if_neg c_15).trans ((if_neg c_23).trans ((if_neg c_57).trans (if_pos c_66))))))
        ·
          have hok := (hok).1 c_23
          refine lv_aload_n hx hb dX9_put_26 rfl (lv_at hl 0 rfl) ?_
          refine lv_bipush (v := 8) hx hb dX9_put_27 (by decide) ?_
          obtain ⟨h_29k, hok⟩ := hok
          obtain ⟨h_29, hok⟩ := hok
          refine hm_callI (G := G) (a := ([.ref x, .int 8] : List Value).toArray) (pr := (h_X9_fails x 8 (h_X9_begin x S))) (rest := []) ?_ hS (fun H locs hP hS => ?_)
          ·
            exact va_runV (As := [.int 8]) (rest := []) ⟨hx, hb, hml, hown, hts⟩ (hm_X9_fails l G L (h_X9_begin x S) x 8 h_29) (cwV 1 hts gX9_put_X9_fails rfl rfl rfl hdv_X9_fails ⟨Nat.le_of_ble_eq_true rfl, Nat.le_of_ble_eq_true rfl⟩) ⟨HW.fb, hp_recv hK hP h_29k.1 (PF_7 h_29k.2) rfl, fun U hU hW => ⟨rfl, HW.call hP hK hnd hE hS U hU hW⟩⟩ rfl rfl hl.1 rfl (lv_room (Nat.le_of_ble_eq_true rfl)) dX9_put_29 ⟨Nat.le_refl 0, Nat.le_refl 0⟩
          ·
            rw [hZ]
            exact hm_iret hx hb hr hlocks hS hP hK hnd hE (((if_neg c_8).trans ((if_neg c_15).trans (if_pos c_23)))) dX9_put_32
