/-! ===== the class's own face over its cells, second part (laid by program) ===== -/
theorem hdv_X8_store : yX8_store.cls = RX8 ∧ yX8_store.cls ≠ "java/lang/invoke/MethodHandle" ∧ yX8_store.cls ≠ "java/lang/invoke/VarHandle" ∧ (parseMethodDescriptor yX8_store.desc).map (fun d => d.parameters.length) = some 4 := by decide +kernel
theorem iw_X8_store_X8 : ∀ w ∈ u_ws RX8 TX8 4, w ∈ wsX8_store := by decide +kernel
theorem iw_X8_store_X1 : ∀ w ∈ u_ws RX1 TX1 3, w ∈ wsX8_store := by decide +kernel
def h_X8_store_j43 (x : Nat) (p0 : Int32) (p1 : Int32) (p2 : Int32) (p3 : Int64) (z_43_0 : Int32) (S : HS) : Int32 × HS :=
  if ((h_X8_stops x z_43_0 S).1) = 0 then oq (hsR ((h_X8_stops x z_43_0 S).2) ((hsQ ((h_X8_stops x z_43_0 S).2) x 0).getD 0) p1.toNatClampNeg) ((1, (h_X8_stops x z_43_0 S).2))
   (fun (a_56 : Nat) => if hsK ((h_X8_stops x z_43_0 S).2) a_56 = 1 then if (h_X6_holds a_56 p2 ((h_X8_stops x z_43_0 S).2)) = 0 then (1, (h_X8_stops x z_43_0 S).2)
     else (1, (hwJ ((h_X8_stops x z_43_0 S).2) ((hsQ ((h_X8_stops x z_43_0 S).2) a_56 2).getD 0) p2.toNatClampNeg (s_X8_cutToWidth (hsI ((h_X8_stops x z_43_0 S).2) a_56 0) p3)))
    else (1, (h_X8_stops x z_43_0 S).2))
  else (0, (h_X8_stops x z_43_0 S).2)
def ok_X8_store_j43 (L : List Nat) (x : Nat) (p0 : Int32) (p1 : Int32) (p2 : Int32) (p3 : Int64) (z_43_0 : Int32) (S : HS) : Prop :=
  (x ∈ L ∧ hsK S x = 6) ∧ ((ok_X8_stops L x z_43_0 S) ∧ (((((h_X8_stops x z_43_0 S).1) = 0) → ((x ∈ L ∧ hsK ((h_X8_stops x z_43_0 S).2) x = 6 ∧ hsQ ((h_X8_stops x z_43_0 S).2) x 0 ≠ none) ∧ ((((hsQ ((h_X8_stops x z_43_0 S).2) x 0).getD 0) ∈ L ∧ hsK ((h_X8_stops x z_43_0 S).2) ((hsQ ((h_X8_stops x z_43_0 S).2) x 0).getD 0) = 10 ∧ vp_in p1 (hsN ((h_X8_stops x z_43_0 S).2) ((hsQ ((h_X8_stops x z_43_0 S).2) x 0).getD 0))) ∧ (((hsR ((h_X8_stops x z_43_0 S).2) ((hsQ ((h_X8_stops x z_43_0 S).2) x 0).getD 0) p1.toNatClampNeg) = none → (True)) ∧
   (∀ a_56 : Nat, (hsR ((h_X8_stops x z_43_0 S).2) ((hsQ ((h_X8_stops x z_43_0 S).2) x 0).getD 0) p1.toNatClampNeg) = some a_56 → ((a_56 ∈ L ∧ 1 ≤ hsK ((h_X8_stops x z_43_0 S).2) a_56 ∧ hsK ((h_X8_stops x z_43_0 S).2) a_56 ≤ 5) ∧ (((hsK ((h_X8_stops x z_43_0 S).2) a_56 = 1) → ((a_56 ∈ L ∧ hsK ((h_X8_stops x z_43_0 S).2) a_56 = 1) ∧ ((a_56 ∈ L ∧ hsK ((h_X8_stops x z_43_0 S).2) a_56 = 1) ∧ ((ok_X6_holds L a_56 p2 ((h_X8_stops x z_43_0 S).2)) ∧ ((((h_X6_holds a_56 p2 ((h_X8_stops x z_43_0 S).2)) = 0) → (True)) ∧
     (¬ ((h_X6_holds a_56 p2 ((h_X8_stops x z_43_0 S).2)) = 0) → ((a_56 ∈ L ∧ hsK ((h_X8_stops x z_43_0 S).2) a_56 = 1 ∧ hsQ ((h_X8_stops x z_43_0 S).2) a_56 2 ≠ none) ∧ ((a_56 ∈ L ∧ hsK ((h_X8_stops x z_43_0 S).2) a_56 = 1) ∧ ((((hsQ ((h_X8_stops x z_43_0 S).2) a_56 2).getD 0) ∈ L ∧ hsK ((h_X8_stops x z_43_0 S).2) ((hsQ ((h_X8_stops x z_43_0 S).2) a_56 2).getD 0) = 9 ∧ vp_in p2 (hsN ((h_X8_stops x z_43_0 S).2) ((hsQ ((h_X8_stops x z_43_0 S).2) a_56 2).getD 0))) ∧ (True)))))))))) ∧
    (¬ (hsK ((h_X8_stops x z_43_0 S).2) a_56 = 1) → (True))))))))) ∧
  (¬ (((h_X8_stops x z_43_0 S).1) = 0) → (True))))
def h_X8_store_j19 (x : Nat) (p0 : Int32) (p1 : Int32) (p2 : Int32) (p3 : Int64) (z_19_0 : Int32) (S : HS) : Int32 × HS :=
  if z_19_0 = 0 then h_X8_store_j43 x p0 p1 p2 p3 8 S
  else oq (hsR S ((hsQ S x 0).getD 0) p1.toNatClampNeg) (h_X8_store_j43 x p0 p1 p2 p3 (h_X8_elementCause_n p0 p2 S) S)
   (fun (a_33 : Nat) => h_X8_store_j43 x p0 p1 p2 p3 (h_X8_elementCause_s p0 a_33 p2 S) S)
def ok_X8_store_j19 (L : List Nat) (x : Nat) (p0 : Int32) (p1 : Int32) (p2 : Int32) (p3 : Int64) (z_19_0 : Int32) (S : HS) : Prop :=
  ((z_19_0 = 0) → (ok_X8_store_j43 L x p0 p1 p2 p3 8 S)) ∧
  (¬ (z_19_0 = 0) → ((x ∈ L ∧ hsK S x = 6 ∧ hsQ S x 0 ≠ none) ∧ ((((hsQ S x 0).getD 0) ∈ L ∧ hsK S ((hsQ S x 0).getD 0) = 10 ∧ vp_in p1 (hsN S ((hsQ S x 0).getD 0))) ∧ (((hsR S ((hsQ S x 0).getD 0) p1.toNatClampNeg) = none → ((ok_X8_elementCause_n L p0 p2 S) ∧ (ok_X8_store_j43 L x p0 p1 p2 p3 (h_X8_elementCause_n p0 p2 S) S))) ∧
   (∀ a_33 : Nat, (hsR S ((hsQ S x 0).getD 0) p1.toNatClampNeg) = some a_33 → ((ok_X8_elementCause_s L p0 a_33 p2 S) ∧ (ok_X8_store_j43 L x p0 p1 p2 p3 (h_X8_elementCause_s p0 a_33 p2 S) S)))))))
def h_X8_store (x : Nat) (p0 : Int32) (p1 : Int32) (p2 : Int32) (p3 : Int64) (S : HS) : Int32 × HS :=
  if (s_X8_isNumberType p0) = 0 then h_X8_store_j19 x p0 p1 p2 p3 0 S
  else if (s_X8_isCell p1) = 0 then h_X8_store_j19 x p0 p1 p2 p3 0 S
   else h_X8_store_j19 x p0 p1 p2 p3 1 S
def ok_X8_store (L : List Nat) (x : Nat) (p0 : Int32) (p1 : Int32) (p2 : Int32) (p3 : Int64) (S : HS) : Prop :=
  (((s_X8_isNumberType p0) = 0) → (ok_X8_store_j19 L x p0 p1 p2 p3 0 S)) ∧
  (¬ ((s_X8_isNumberType p0) = 0) → ((((s_X8_isCell p1) = 0) → (ok_X8_store_j19 L x p0 p1 p2 p3 0 S)) ∧
   (¬ ((s_X8_isCell p1) = 0) → (ok_X8_store_j19 L x p0 p1 p2 p3 1 S))))
set_option maxHeartbeats 4000000 in
set_option maxRecDepth 100000 in
theorem hm_X8_store (l : Launch) (G : GE) (L : List Nat) (S : HS) (x : Nat) (p0 : Int32) (p1 : Int32) (p2 : Int32) (p3 : Int64) (hok : ok_X8_store L x p0 p1 p2 p3 S) : HmI l G yX8_store wsX8_store 4 86 [.ref x, .int p0, .int p1, .int p2, .long p3] L S (h_X8_store x p0 p1 p2 p3 S) := by
  refine Met.ofW (cc := cX8_store) (maxL := 9) (ret := (some .int)) (by decide) rfl ?_
  intro p e s m args below meth c s₁ B hml hv
  obtain ⟨rfl, hP, hK, hnd, hE⟩ := hv
  have hx := B.exec
  have hb := B.bytes
  have hr := B.returns
  have hts := atoms_spec (ws := wsX8_store) B.pre
  have hown : s.vm.findClass RX8 = some m.cls := findClass_of_methodNamed B.named
  have hlocks := B.notSynchronized
  have hD := nd_D hnd
  have hS : va_S (AL L) s.heap s.heap [] := va_S.rf
  have hl := lv_entry ([.ref x, .int p0, .int p1, .int p2, .long p3]) (n := 9) (Nat.le_of_ble_eq_true rfl)
  rw [lg_entry_eq]
  generalize (lg_sl ([.ref x, .int p0, .int p1, .int p2, .long p3]) ++ List.replicate (9 - (lg_sl ([.ref x, .int p0, .int p1, .int p2, .long p3])).length) Slot.unset).toArray = ls at hl ⊢
  have hl : lv_has ls 9 [(0, .ref x), (1, .int p0), (2, .int p1), (3, .int p2), (4, .long p3)] := hl
  obtain ⟨Z, hZ⟩ : ∃ z, z = MQ below (hm_QI G L (h_X8_store x p0 p1 p2 p3 S)) ([.ref x, .int p0, .int p1, .int p2, .long p3] : List Value).toArray s 0 0 (AL L) := ⟨_, rfl⟩
  rw [← hZ]
  refine lv_iload_n hx hb dX8_store_0 rfl (lv_at hl 1 rfl) ?_
  refine pm_callI (va_runS (As := [.int p0]) (rest := []) ⟨hx, hb, hml, hown, hts⟩ (pm_X8_isNumberType l p0) (va_cwS 1 hts gX8_store_X8_isNumberType rfl rfl rfl hd_X8_isNumberType ⟨Nat.le_of_ble_eq_true rfl, Nat.le_of_ble_eq_true rfl⟩) ⟨pm_fbT, fun U hU hW => ⟨rfl, trivial⟩⟩ rfl rfl hl.1 rfl (lv_room (Nat.le_of_ble_eq_true rfl)) dX8_store_1 ⟨Nat.le_refl 0, Nat.le_refl 0⟩) hS (fun H locs _ hk9 hS => ?_)
  replace hP := P_keep hP hk9
  have K_19 : ∀ (z_19_0 : Int32) (H : Heap) (locs : List Loc), va_P (gD G) vwCl (va_pl L (PF G S)) H → va_S (AL L) s.heap H locs → ∀ (ls : Array Slot), lv_has ls 9 [(0, .ref x), (1, .int p0), (2, .int p1), (3, .int p2), (4, .long p3)] → ok_X8_store_j19 L x p0 p1 p2 p3 z_19_0 S → h_X8_store x p0 p1 p2 p3 S = h_X8_store_j19 x p0 p1 p2 p3 z_19_0 S → W p l e (pm_R 4 86) s m ([.ref x, .int p0, .int p1, .int p2, .long p3] : List Value).toArray below meth c H locs 0 0 Z (F0 m 19 ls [.int z_19_0]) := by
    intro z_19_0 H locs hP hS ls hl hok hK_19
    refine lv_istore (lv' := [(6, .int z_19_0), (0, .ref x), (1, .int p0), (2, .int p1), (3, .int p2), (4, .long p3)]) hx hb dX8_store_19 hl (by decide) rfl (fun ls hl => ?_)
    refine lv_aload_n hx hb dX8_store_21 rfl (lv_at hl 1 rfl) ?_
    refine lv_iload hx hb dX8_store_22 (lv_at hl 0 rfl) ?_
    have K_43 : ∀ (z_43_0 : Int32) (H : Heap) (locs : List Loc), va_P (gD G) vwCl (va_pl L (PF G S)) H → va_S (AL L) s.heap H locs → ∀ (ls : Array Slot), lv_has ls 9 [(0, .ref x), (2, .int p1), (3, .int p2), (4, .long p3)] → ok_X8_store_j43 L x p0 p1 p2 p3 z_43_0 S → h_X8_store x p0 p1 p2 p3 S = h_X8_store_j43 x p0 p1 p2 p3 z_43_0 S → W p l e (pm_R 4 86) s m ([.ref x, .int p0, .int p1, .int p2, .long p3] : List Value).toArray below meth c H locs 0 0 Z (F0 m 43 ls [.int z_43_0, .ref x]) := by
      intro z_43_0 H locs hP hS ls hl hok hK_43
      obtain ⟨h_43k, hok⟩ := hok
      obtain ⟨h_43, hok⟩ := hok
      refine hm_callI (G := G) (a := ([.ref x, .int z_43_0] : List Value).toArray) (pr := (h_X8_stops x z_43_0 S)) (rest := []) ?_ hS (fun H locs hP hS => ?_)
      ·
        exact va_runV (As := [.int z_43_0]) (rest := []) ⟨hx, hb, hml, hown, hts⟩ (hm_X8_stops l G L S x z_43_0 h_43) (cwV 1 hts gX8_store_X8_stops rfl rfl rfl hdv_X8_stops ⟨Nat.le_of_ble_eq_true rfl, Nat.le_of_ble_eq_true rfl⟩) ⟨HW.fb, hp_recv hK hP h_43k.1 (PF_6 h_43k.2) rfl, fun U hU hW => ⟨rfl, HW.call hP hK hnd hE hS U hU hW⟩⟩ rfl rfl hl.1 rfl (lv_room (Nat.le_of_ble_eq_true rfl)) dX8_store_43 ⟨Nat.le_refl 0, Nat.le_refl 0⟩
      ·
        refine lv_if_eq (tgt := 51) hx hb dX8_store_46 (by decide) (fun c_46 => ?_) (fun c_46 => ?_)
        ·
          have hok := (hok).1 c_46
          refine lv_aload_n hx hb dX8_store_51 rfl (lv_at hl 0 rfl) ?_
          obtain ⟨h_52, hok⟩ := hok
          refine hp_getR (ci := 6) (C := RX8) (T := TX8) (N := 4) hx hb hts iw_X8_store_X8 hown hK hP h_52.1 (PF_6 h_52.2.1) rfl 0 (by decide) (hts _ (List.mem_of_getElem? (i := 1) rfl)) (fun _ h9 => h9) rfl h_52.2.2 dX8_store_52 ?_
          refine lv_iload_n hx hb dX8_store_55 rfl (lv_at hl 1 rfl) ?_
          obtain ⟨h_56, hok⟩ := hok
          refine hp_aald hx hb hK hP h_56.1 2 (PF_10 h_56.2.1) rfl h_56.2.2 dX8_store_56 ?_
          refine lv_topq (fun r_56 er_56 => ?_)
          rcases r_56 with _ | a_56
          ·
            have hok := (hok).1 er_56.symm
            refine lv_astoreN (lv' := [(8, .null), (0, .ref x), (2, .int p1), (3, .int p2), (4, .long p3)]) hx hb dX8_store_57 hl (by decide) rfl (fun ls hl => ?_)
            refine lv_aloadN hx hb dX8_store_59 (lv_at hl 0 rfl) ?_
            refine lv_instN hx hb dX8_store_61 ?_
            refine lv_if_eq (tgt := 100) hx hb dX8_store_64 (by decide) (fun _ => ?_) (fun z9 => absurd z9 (by decide))
            refine lv_iconst (v := 1) hx hb dX8_store_100 (by decide) ?_
            rw [hZ]
            exact hm_iret hx hb hr hlocks hS hP hK hnd hE (((hK_43).trans ((if_pos c_46).trans (oq_none er_56.symm)))) dX8_store_101
          ·
            have hok := (hok).2 _ er_56.symm
            refine lv_astore (lv' := [(8, .ref a_56), (0, .ref x), (2, .int p1), (3, .int p2), (4, .long p3)]) hx hb dX8_store_57 hl (by decide) rfl (fun ls hl => ?_)
            refine lv_aload hx hb dX8_store_59 (lv_at hl 0 rfl) ?_
            obtain ⟨h_61, hok⟩ := hok
            refine hp_inst1 hx hb hE.2 hown (hts _ (List.mem_of_getElem? (i := 2) rfl)) hK hP h_61 dX8_store_61 (fun c_61 => ?_) (fun c_61 => ?_)
            ·
              have hok := (hok).1 c_61
              refine lv_if_eq (tgt := 100) hx hb dX8_store_64 (by decide) (fun z9 => absurd z9 (by decide)) (fun _ => ?_)
              refine lv_aload hx hb dX8_store_67 (lv_at hl 0 rfl) ?_
              obtain ⟨h_69, hok⟩ := hok
              refine hp_cast1 hx hb hE.2 hown (hts _ (List.mem_of_getElem? (i := 2) rfl)) hK hP h_69 dX8_store_69 ?_
              refine lv_astore (lv' := [(7, .ref a_56), (8, .ref a_56), (0, .ref x), (2, .int p1), (3, .int p2), (4, .long p3)]) hx hb dX8_store_72 hl (by decide) rfl (fun ls hl => ?_)
              refine lv_aload hx hb dX8_store_74 (lv_at hl 0 rfl) ?_
              refine lv_iload_n hx hb dX8_store_76 rfl (lv_at hl 4 rfl) ?_
              obtain ⟨h_77k, hok⟩ := hok
              obtain ⟨h_77, hok⟩ := hok
              refine hm_callIr (G := G) (S1 := (h_X8_stops x z_43_0 S).2) (a := ([.ref a_56, .int p2] : List Value).toArray) (rest := []) (h_X6_holds a_56 p2 ((h_X8_stops x z_43_0 S).2)) ?_ hS (fun H locs hP hS => ?_)
              ·
                exact va_runU (As := [.int p2]) (rest := []) ⟨hx, hb, hml, hown, hts⟩ (hm_X6_holds l G L ((h_X8_stops x z_43_0 S).2) a_56 p2 h_77) (va_cwU (x := ⟨"ThrowModels$NumberArray", "holds", "(I)Z"⟩) 1 hts gX8_store_X6_holds_u81X1 rfl rfl rfl rfl (by decide +kernel) ⟨Nat.le_of_ble_eq_true rfl, Nat.le_of_ble_eq_true rfl⟩) ⟨HW.fb, hp_recv hK hP h_77k.1 (PF_1 h_77k.2) rfl, fun U hU hW => ⟨rfl, HW.call hP hK hnd hE hS U hU hW⟩⟩ rfl rfl hl.1 rfl (lv_room (Nat.le_of_ble_eq_true rfl)) dX8_store_77 ⟨Nat.le_refl 0, Nat.le_refl 0⟩
              ·
                refine lv_if_eq (tgt := 100) hx hb dX8_store_80 (by decide) (fun c_80 => ?_) (fun c_80 => ?_)
                ·
                  have hok := (hok).1 c_80
                  refine lv_iconst (v := 1) hx hb dX8_store_100 (by decide) ?_
                  rw [hZ]
                  exact hm_iret hx hb hr hlocks hS hP hK hnd hE (((hK_43).trans ((if_pos c_46).trans ((oq_some er_56.symm).trans ((if_pos c_61).trans (if_pos c_80)))))) dX8_store_101
                ·
                  have hok := (hok).2 c_80
                  refine lv_aload hx hb dX8_store_83 (lv_at hl 0 rfl) ?_
                  obtain ⟨h_85, hok⟩ := hok
                  refine hp_getR (ci := 1) (C := RX1) (T := TX1) (N := 3) hx hb hts iw_X8_store_X1 hown hK hP h_85.1 (PF_1 h_85.2.1) rfl 2 (by decide) (hts _ (List.mem_of_getElem? (i := 3) rfl)) (fun _ h9 => h9) rfl h_85.2.2 dX8_store_85 ?_
                  refine lv_iload_n hx hb dX8_store_88 rfl (lv_at hl 4 rfl) ?_
                  refine lv_aload hx hb dX8_store_89 (lv_at hl 0 rfl) ?_
                  obtain ⟨h_91, hok⟩ := hok
                  refine hp_get (ci := 1) (C := RX1) (T := TX1) (N := 3) hx hb hts iw_X8_store_X1 hown hK hP h_91.1 (PF_1 h_91.2) rfl 0 (by decide) (hts _ (List.mem_of_getElem? (i := 4) rfl)) (fun x9 h9 => u_same (hts _ (List.mem_of_getElem? (i := 5) rfl)) x9 h9) rfl dX8_store_91 ?_
                  refine lv_lload hx hb dX8_store_94 (lv_at hl 5 rfl) ?_
                  refine pm_callL (va_runS (As := [.int (hsI ((h_X8_stops x z_43_0 S).2) a_56 0), .long p3]) (rest := [.int p2, .ref ((hsQ ((h_X8_stops x z_43_0 S).2) a_56 2).getD 0)]) ⟨hx, hb, hml, hown, hts⟩ (pm_X8_cutToWidth l (gd G) (gf G) (hsI ((h_X8_stops x z_43_0 S).2) a_56 0) p3) (va_cwS 2 hts gX8_store_X8_cutToWidth rfl rfl rfl hd_X8_cutToWidth ⟨Nat.le_of_ble_eq_true rfl, Nat.le_of_ble_eq_true rfl⟩) ⟨KF.fb, fun U hU hW => ⟨rfl, (KF.call hE.1 hS U hU hW)⟩⟩ rfl rfl hl.1 rfl (lv_room (Nat.le_of_ble_eq_true rfl)) dX8_store_96 ⟨Nat.le_refl 0, Nat.le_refl 0⟩) hS (fun H locs _ hk9 hS => ?_)
                  replace hP := P_keep hP hk9
                  obtain ⟨h_99, hok⟩ := hok
                  refine hp_last (g2 := PF G (hwJ ((h_X8_stops x z_43_0 S).2) ((hsQ ((h_X8_stops x z_43_0 S).2) a_56 2).getD 0) p2.toNatClampNeg (s_X8_cutToWidth (hsI ((h_X8_stops x z_43_0 S).2) a_56 0) p3))) hx hb hK hP (hD _) hS h_99.1 1 (PF_9 h_99.2.1) rfl h_99.2.2 (PF_sJ h_99.2.1) (fun _ hb9 => PF_wJ hb9) dX8_store_99 (fun H locs hP hS => ?_)
                  refine lv_iconst (v := 1) hx hb dX8_store_100 (by decide) ?_
                  rw [hZ]
                  exact hm_iret hx hb hr hlocks hS hP hK hnd hE (((hK_43).trans ((if_pos c_46).trans ((oq_some er_56.symm).trans ((if_pos c_61).trans (if_neg c_80)))))) dX8_store_101
            ·
              have hok := (hok).2 c_61
              refine lv_if_eq (tgt := 100) hx hb dX8_store_64 (by decide) (fun _ => ?_) (fun z9 => absurd z9 (by decide))
              refine lv_iconst (v := 1) hx hb dX8_store_100 (by decide) ?_
              rw [hZ]
              exact hm_iret hx hb hr hlocks hS hP hK hnd hE (((hK_43).trans ((if_pos c_46).trans ((oq_some er_56.symm).trans (if_neg c_61))))) dX8_store_101
        ·
          have hok := (hok).2 c_46
          refine lv_iconst (v := 0) hx hb dX8_store_49 (by decide) ?_
          rw [hZ]
          exact hm_iret hx hb hr hlocks hS hP hK hnd hE (((hK_43).trans (if_neg c_46))) dX8_store_50
    refine lv_if_eq (tgt := 41) hx hb dX8_store_24 (by decide) (fun c_24 => ?_) (fun c_24 => ?_)
    ·
      have hok := (hok).1 c_24
      refine lv_bipush (v := 8) hx hb dX8_store_41 (by decide) ?_
      exact K_43 8 _ _ hP hS ls (lv_sub hl [1, 3, 4, 5] rfl) hok (((hK_19).trans (if_pos c_24)))
    ·
      have hok := (hok).2 c_24
      refine lv_iload_n hx hb dX8_store_27 rfl (lv_at hl 2 rfl) ?_
      refine lv_aload_n hx hb dX8_store_28 rfl (lv_at hl 1 rfl) ?_
      obtain ⟨h_29, hok⟩ := hok
      refine hp_getR (ci := 6) (C := RX8) (T := TX8) (N := 4) hx hb hts iw_X8_store_X8 hown hK hP h_29.1 (PF_6 h_29.2.1) rfl 0 (by decide) (hts _ (List.mem_of_getElem? (i := 1) rfl)) (fun _ h9 => h9) rfl h_29.2.2 dX8_store_29 ?_
      refine lv_iload_n hx hb dX8_store_32 rfl (lv_at hl 3 rfl) ?_
      obtain ⟨h_33, hok⟩ := hok
      refine hp_aald hx hb hK hP h_33.1 2 (PF_10 h_33.2.1) rfl h_33.2.2 dX8_store_33 ?_
      refine lv_topq (fun r_33 er_33 => ?_)
      rcases r_33 with _ | a_33
      ·
        have hok := (hok).1 er_33.symm
        refine lv_iload_n hx hb dX8_store_34 rfl (lv_at hl 4 rfl) ?_
        obtain ⟨h_35, hok⟩ := hok
        refine hm_callIr (G := G) (S1 := S) (a := ([.int p0, .null, .int p2] : List Value).toArray) (rest := [.ref x]) (h_X8_elementCause_n p0 p2 S) ?_ hS (fun H locs hP hS => ?_)
        ·
          exact va_runS (As := [.int p0, .null, .int p2]) (rest := [.ref x]) ⟨hx, hb, hml, hown, hts⟩ (hm_X8_elementCause_n l G L S p0 p2 h_35) (va_cwS 3 hts gX8_store_X8_elementCause rfl rfl rfl hd_X8_elementCause ⟨Nat.le_of_ble_eq_true rfl, Nat.le_of_ble_eq_true rfl⟩) ⟨HW.fb, fun U hU hW => ⟨rfl, HW.call hP hK hnd hE hS U hU hW⟩⟩ rfl rfl hl.1 rfl (lv_room (Nat.le_of_ble_eq_true rfl)) dX8_store_35 ⟨Nat.le_refl 0, Nat.le_refl 0⟩
        ·
          refine lv_goto (tgt := 43) hx hb dX8_store_38 (by decide) ?_
          exact K_43 (h_X8_elementCause_n p0 p2 S) _ _ hP hS ls (lv_sub hl [1, 3, 4, 5] rfl) hok (((hK_19).trans ((if_neg c_24).trans (oq_none er_33.symm))))
      ·
        have hok := (hok).2 _ er_33.symm
        refine lv_iload_n hx hb dX8_store_34 rfl (lv_at hl 4 rfl) ?_
        obtain ⟨h_35, hok⟩ := hok
        refine hm_callIr (G := G) (S1 := S) (a := ([.int p0, .ref a_33, .int p2] : List Value).toArray) (rest := [.ref x]) (h_X8_elementCause_s p0 a_33 p2 S) ?_ hS (fun H locs hP hS => ?_)
        ·
          exact va_runS (As := [.int p0, .ref a_33, .int p2]) (rest := [.ref x]) ⟨hx, hb, hml, hown, hts⟩ (hm_X8_elementCause_s l G L S p0 a_33 p2 h_35) (va_cwS 3 hts gX8_store_X8_elementCause rfl rfl rfl hd_X8_elementCause ⟨Nat.le_of_ble_eq_true rfl, Nat.le_of_ble_eq_true rfl⟩) ⟨HW.fb, fun U hU hW => ⟨rfl, HW.call hP hK hnd hE hS U hU hW⟩⟩ rfl rfl hl.1 rfl (lv_room (Nat.le_of_ble_eq_true rfl)) dX8_store_35 ⟨Nat.le_refl 0, Nat.le_refl 0⟩
        ·
          refine lv_goto (tgt := 43) hx hb dX8_store_38 (by decide) ?_
          exact K_43 (h_X8_elementCause_s p0 a_33 p2 S) _ _ hP hS ls (lv_sub hl [1, 3, 4, 5] rfl) hok (((hK_19).trans ((if_neg c_24).trans (oq_some er_33.symm))))
  refine lv_if_eq (tgt := 18) hx hb dX8_store_4 (by decide) (fun c_4 => ?_) (fun c_4 => ?_)
  ·
    have hok := (hok).1 c_4
    refine lv_iconst (v := 0) hx hb dX8_store_18 (by decide) ?_
    exact K_19 0 _ _ hP hS ls (lv_sub hl [0, 1, 2, 3, 4] rfl) hok ((if_pos c_4))
  ·
    have hok := (hok).2 c_4
    refine lv_iload_n hx hb dX8_store_7 rfl (lv_at hl 2 rfl) ?_
    refine pm_callI (va_runS (As := [.int p1]) (rest := []) ⟨hx, hb, hml, hown, hts⟩ (pm_X8_isCell l p1) (va_cwS 1 hts gX8_store_X8_isCell rfl rfl rfl hd_X8_isCell ⟨Nat.le_of_ble_eq_true rfl, Nat.le_of_ble_eq_true rfl⟩) ⟨pm_fbT, fun U hU hW => ⟨rfl, trivial⟩⟩ rfl rfl hl.1 rfl (lv_room (Nat.le_of_ble_eq_true rfl)) dX8_store_8 ⟨Nat.le_refl 0, Nat.le_refl 0⟩) hS (fun H locs _ hk9 hS => ?_)
    replace hP := P_keep hP hk9
    refine lv_if_eq (tgt := 18) hx hb dX8_store_11 (by decide) (fun c_11 => ?_) (fun c_11 => ?_)
    ·
      have hok := (hok).1 c_11
      refine lv_iconst (v := 0) hx hb dX8_store_18 (by decide) ?_
      exact K_19 0 _ _ hP hS ls (lv_sub hl [0, 1, 2, 3, 4] rfl) hok (((if_neg c_4).trans (if_pos c_11)))
    ·
      have hok := (hok).2 c_11
      refine lv_iconst (v := 1) hx hb dX8_store_14 (by decide) ?_
      refine lv_goto (tgt := 19) hx hb dX8_store_15 (by decide) ?_
      exact K_19 1 _ _ hP hS ls (lv_sub hl [0, 1, 2, 3, 4] rfl) hok (((if_neg c_4).trans (if_neg c_11)))
theorem hdv_X8_put : yX8_put.cls = RX8 ∧ yX8_put.cls ≠ "java/lang/invoke/MethodHandle" ∧ yX8_put.cls ≠ "java/lang/invoke/VarHandle" ∧ (parseMethodDescriptor yX8_put.desc).map (fun d => d.parameters.length) = some 4 := by decide +kernel
theorem iw_X8_put_X8 : ∀ w ∈ u_ws RX8 TX8 4, w ∈ wsX8_put := by decide +kernel
theorem iw_X8_put_X7 : ∀ w ∈ u_ws RX7 TX7 3, w ∈ wsX8_put := by decide +kernel
def h_X8_put_j58 (x : Nat) (p0 : Int32) (p1 : Int32) (p2 : Int32) (p3 : Int32) (z_58_0 : Int32) (S : HS) : Int32 × HS :=
  if ((h_X8_stops x z_58_0 S).1) = 0 then oq (hsR ((h_X8_stops x z_58_0 S).2) ((hsQ ((h_X8_stops x z_58_0 S).2) x 0).getD 0) p1.toNatClampNeg) ((1, (h_X8_stops x z_58_0 S).2))
   (fun (a_71 : Nat) => if hsK ((h_X8_stops x z_58_0 S).2) a_71 = 5 then if (h_X6_holds a_71 p2 ((h_X8_stops x z_58_0 S).2)) = 0 then (1, (h_X8_stops x z_58_0 S).2)
     else oq (hsR ((h_X8_stops x z_58_0 S).2) ((hsQ ((h_X8_stops x z_58_0 S).2) x 0).getD 0) p3.toNatClampNeg) ((1, (hwR ((h_X8_stops x z_58_0 S).2) ((hsQ ((h_X8_stops x z_58_0 S).2) a_71 2).getD 0) p2.toNatClampNeg none)))
      (fun (a_110 : Nat) => (1, (hwR ((h_X8_stops x z_58_0 S).2) ((hsQ ((h_X8_stops x z_58_0 S).2) a_71 2).getD 0) p2.toNatClampNeg (some a_110))))
    else (1, (h_X8_stops x z_58_0 S).2))
  else (0, (h_X8_stops x z_58_0 S).2)
def ok_X8_put_j58 (L : List Nat) (x : Nat) (p0 : Int32) (p1 : Int32) (p2 : Int32) (p3 : Int32) (z_58_0 : Int32) (S : HS) : Prop :=
  (x ∈ L ∧ hsK S x = 6) ∧ ((ok_X8_stops L x z_58_0 S) ∧ (((((h_X8_stops x z_58_0 S).1) = 0) → ((x ∈ L ∧ hsK ((h_X8_stops x z_58_0 S).2) x = 6 ∧ hsQ ((h_X8_stops x z_58_0 S).2) x 0 ≠ none) ∧ ((((hsQ ((h_X8_stops x z_58_0 S).2) x 0).getD 0) ∈ L ∧ hsK ((h_X8_stops x z_58_0 S).2) ((hsQ ((h_X8_stops x z_58_0 S).2) x 0).getD 0) = 10 ∧ vp_in p1 (hsN ((h_X8_stops x z_58_0 S).2) ((hsQ ((h_X8_stops x z_58_0 S).2) x 0).getD 0))) ∧ (((hsR ((h_X8_stops x z_58_0 S).2) ((hsQ ((h_X8_stops x z_58_0 S).2) x 0).getD 0) p1.toNatClampNeg) = none → (True)) ∧
   (∀ a_71 : Nat, (hsR ((h_X8_stops x z_58_0 S).2) ((hsQ ((h_X8_stops x z_58_0 S).2) x 0).getD 0) p1.toNatClampNeg) = some a_71 → ((a_71 ∈ L ∧ 1 ≤ hsK ((h_X8_stops x z_58_0 S).2) a_71 ∧ hsK ((h_X8_stops x z_58_0 S).2) a_71 ≤ 5) ∧ (((hsK ((h_X8_stops x z_58_0 S).2) a_71 = 5) → ((a_71 ∈ L ∧ hsK ((h_X8_stops x z_58_0 S).2) a_71 = 5) ∧ ((a_71 ∈ L ∧ hsK ((h_X8_stops x z_58_0 S).2) a_71 = 5) ∧ ((ok_X6_holds L a_71 p2 ((h_X8_stops x z_58_0 S).2)) ∧ ((((h_X6_holds a_71 p2 ((h_X8_stops x z_58_0 S).2)) = 0) → (True)) ∧
     (¬ ((h_X6_holds a_71 p2 ((h_X8_stops x z_58_0 S).2)) = 0) → ((a_71 ∈ L ∧ hsK ((h_X8_stops x z_58_0 S).2) a_71 = 5 ∧ hsQ ((h_X8_stops x z_58_0 S).2) a_71 2 ≠ none) ∧ ((x ∈ L ∧ hsK ((h_X8_stops x z_58_0 S).2) x = 6 ∧ hsQ ((h_X8_stops x z_58_0 S).2) x 0 ≠ none) ∧ ((((hsQ ((h_X8_stops x z_58_0 S).2) x 0).getD 0) ∈ L ∧ hsK ((h_X8_stops x z_58_0 S).2) ((hsQ ((h_X8_stops x z_58_0 S).2) x 0).getD 0) = 10 ∧ vp_in p3 (hsN ((h_X8_stops x z_58_0 S).2) ((hsQ ((h_X8_stops x z_58_0 S).2) x 0).getD 0))) ∧ (((hsR ((h_X8_stops x z_58_0 S).2) ((hsQ ((h_X8_stops x z_58_0 S).2) x 0).getD 0) p3.toNatClampNeg) = none → ((((hsQ ((h_X8_stops x z_58_0 S).2) a_71 2).getD 0) ∈ L ∧ hsK ((h_X8_stops x z_58_0 S).2) ((hsQ ((h_X8_stops x z_58_0 S).2) a_71 2).getD 0) = 10 ∧ vp_in p2 (hsN ((h_X8_stops x z_58_0 S).2) ((hsQ ((h_X8_stops x z_58_0 S).2) a_71 2).getD 0))) ∧ (True))) ∧
      (∀ a_110 : Nat, (hsR ((h_X8_stops x z_58_0 S).2) ((hsQ ((h_X8_stops x z_58_0 S).2) x 0).getD 0) p3.toNatClampNeg) = some a_110 → (((((hsQ ((h_X8_stops x z_58_0 S).2) a_71 2).getD 0) ∈ L ∧ hsK ((h_X8_stops x z_58_0 S).2) ((hsQ ((h_X8_stops x z_58_0 S).2) a_71 2).getD 0) = 10 ∧ vp_in p2 (hsN ((h_X8_stops x z_58_0 S).2) ((hsQ ((h_X8_stops x z_58_0 S).2) a_71 2).getD 0))) ∧ a_110 ∈ L ∧ 1 ≤ hsK ((h_X8_stops x z_58_0 S).2) a_110 ∧ hsK ((h_X8_stops x z_58_0 S).2) a_110 ≤ 5) ∧ (True))))))))))))) ∧
    (¬ (hsK ((h_X8_stops x z_58_0 S).2) a_71 = 5) → (True))))))))) ∧
  (¬ (((h_X8_stops x z_58_0 S).1) = 0) → (True))))
def h_X8_put_j27 (x : Nat) (p0 : Int32) (p1 : Int32) (p2 : Int32) (p3 : Int32) (z_27_0 : Int32) (S : HS) : Int32 × HS :=
  if z_27_0 = 0 then h_X8_put_j58 x p0 p1 p2 p3 8 S
  else oq (hsR S ((hsQ S x 0).getD 0) p1.toNatClampNeg) (oq (hsR S ((hsQ S x 0).getD 0) p3.toNatClampNeg) (h_X8_put_j58 x p0 p1 p2 p3 (h_X8_putCause_nn p0 p2 S) S)
    (fun (a_49 : Nat) => h_X8_put_j58 x p0 p1 p2 p3 (h_X8_putCause_ns p0 p2 a_49 S) S))
   (fun (a_41 : Nat) => oq (hsR S ((hsQ S x 0).getD 0) p3.toNatClampNeg) (h_X8_put_j58 x p0 p1 p2 p3 (h_X8_putCause_sn p0 a_41 p2 S) S)
    (fun (a_49 : Nat) => h_X8_put_j58 x p0 p1 p2 p3 (h_X8_putCause_ss p0 a_41 p2 a_49 S) S))
def ok_X8_put_j27 (L : List Nat) (x : Nat) (p0 : Int32) (p1 : Int32) (p2 : Int32) (p3 : Int32) (z_27_0 : Int32) (S : HS) : Prop :=
  ((z_27_0 = 0) → (ok_X8_put_j58 L x p0 p1 p2 p3 8 S)) ∧
  (¬ (z_27_0 = 0) → ((x ∈ L ∧ hsK S x = 6 ∧ hsQ S x 0 ≠ none) ∧ ((((hsQ S x 0).getD 0) ∈ L ∧ hsK S ((hsQ S x 0).getD 0) = 10 ∧ vp_in p1 (hsN S ((hsQ S x 0).getD 0))) ∧ (((hsR S ((hsQ S x 0).getD 0) p1.toNatClampNeg) = none → ((x ∈ L ∧ hsK S x = 6 ∧ hsQ S x 0 ≠ none) ∧ ((((hsQ S x 0).getD 0) ∈ L ∧ hsK S ((hsQ S x 0).getD 0) = 10 ∧ vp_in p3 (hsN S ((hsQ S x 0).getD 0))) ∧ (((hsR S ((hsQ S x 0).getD 0) p3.toNatClampNeg) = none → ((ok_X8_putCause_nn L p0 p2 S) ∧ (ok_X8_put_j58 L x p0 p1 p2 p3 (h_X8_putCause_nn p0 p2 S) S))) ∧
    (∀ a_49 : Nat, (hsR S ((hsQ S x 0).getD 0) p3.toNatClampNeg) = some a_49 → ((ok_X8_putCause_ns L p0 p2 a_49 S) ∧ (ok_X8_put_j58 L x p0 p1 p2 p3 (h_X8_putCause_ns p0 p2 a_49 S) S))))))) ∧
   (∀ a_41 : Nat, (hsR S ((hsQ S x 0).getD 0) p1.toNatClampNeg) = some a_41 → ((x ∈ L ∧ hsK S x = 6 ∧ hsQ S x 0 ≠ none) ∧ ((((hsQ S x 0).getD 0) ∈ L ∧ hsK S ((hsQ S x 0).getD 0) = 10 ∧ vp_in p3 (hsN S ((hsQ S x 0).getD 0))) ∧ (((hsR S ((hsQ S x 0).getD 0) p3.toNatClampNeg) = none → ((ok_X8_putCause_sn L p0 a_41 p2 S) ∧ (ok_X8_put_j58 L x p0 p1 p2 p3 (h_X8_putCause_sn p0 a_41 p2 S) S))) ∧
    (∀ a_49 : Nat, (hsR S ((hsQ S x 0).getD 0) p3.toNatClampNeg) = some a_49 → ((ok_X8_putCause_ss L p0 a_41 p2 a_49 S) ∧ (ok_X8_put_j58 L x p0 p1 p2 p3 (h_X8_putCause_ss p0 a_41 p2 a_49 S) S)))))))))))
def h_X8_put (x : Nat) (p0 : Int32) (p1 : Int32) (p2 : Int32) (p3 : Int32) (S : HS) : Int32 × HS :=
  if (s_X8_isThingArrayType p0) = 0 then h_X8_put_j27 x p0 p1 p2 p3 0 S
  else if (s_X8_isCell p1) = 0 then h_X8_put_j27 x p0 p1 p2 p3 0 S
   else if (s_X8_isCell p3) = 0 then h_X8_put_j27 x p0 p1 p2 p3 0 S
    else h_X8_put_j27 x p0 p1 p2 p3 1 S
def ok_X8_put (L : List Nat) (x : Nat) (p0 : Int32) (p1 : Int32) (p2 : Int32) (p3 : Int32) (S : HS) : Prop :=
  (((s_X8_isThingArrayType p0) = 0) → (ok_X8_put_j27 L x p0 p1 p2 p3 0 S)) ∧
  (¬ ((s_X8_isThingArrayType p0) = 0) → ((((s_X8_isCell p1) = 0) → (ok_X8_put_j27 L x p0 p1 p2 p3 0 S)) ∧
   (¬ ((s_X8_isCell p1) = 0) → ((((s_X8_isCell p3) = 0) → (ok_X8_put_j27 L x p0 p1 p2 p3 0 S)) ∧
    (¬ ((s_X8_isCell p3) = 0) → (ok_X8_put_j27 L x p0 p1 p2 p3 1 S))))))
set_option maxHeartbeats 4000000 in
set_option maxRecDepth 100000 in
theorem hm_X8_put (l : Launch) (G : GE) (L : List Nat) (S : HS) (x : Nat) (p0 : Int32) (p1 : Int32) (p2 : Int32) (p3 : Int32) (hok : ok_X8_put L x p0 p1 p2 p3 S) : HmI l G yX8_put wsX8_put 3 65 [.ref x, .int p0, .int p1, .int p2, .int p3] L S (h_X8_put x p0 p1 p2 p3 S) := by
  refine Met.ofW (cc := cX8_put) (maxL := 8) (ret := (some .int)) (by decide) rfl ?_
  intro p e s m args below meth c s₁ B hml hv
  obtain ⟨rfl, hP, hK, hnd, hE⟩ := hv
  have hx := B.exec
  have hb := B.bytes
  have hr := B.returns
  have hts := atoms_spec (ws := wsX8_put) B.pre
  have hown : s.vm.findClass RX8 = some m.cls := findClass_of_methodNamed B.named
  have hlocks := B.notSynchronized
  have hD := nd_D hnd
  have hS : va_S (AL L) s.heap s.heap [] := va_S.rf
  have hl := lv_entry ([.ref x, .int p0, .int p1, .int p2, .int p3]) (n := 8) (Nat.le_of_ble_eq_true rfl)
  rw [lg_entry_eq]
  generalize (lg_sl ([.ref x, .int p0, .int p1, .int p2, .int p3]) ++ List.replicate (8 - (lg_sl ([.ref x, .int p0, .int p1, .int p2, .int p3])).length) Slot.unset).toArray = ls at hl ⊢
  have hl : lv_has ls 8 [(0, .ref x), (1, .int p0), (2, .int p1), (3, .int p2), (4, .int p3)] := hl
  obtain ⟨Z, hZ⟩ : ∃ z, z = MQ below (hm_QI G L (h_X8_put x p0 p1 p2 p3 S)) ([.ref x, .int p0, .int p1, .int p2, .int p3] : List Value).toArray s 0 0 (AL L) := ⟨_, rfl⟩
  rw [← hZ]
  refine lv_iload_n hx hb dX8_put_0 rfl (lv_at hl 1 rfl) ?_
  refine pm_callI (va_runS (As := [.int p0]) (rest := []) ⟨hx, hb, hml, hown, hts⟩ (pm_X8_isThingArrayType l p0) (va_cwS 1 hts gX8_put_X8_isThingArrayType rfl rfl rfl hd_X8_isThingArrayType ⟨Nat.le_of_ble_eq_true rfl, Nat.le_of_ble_eq_true rfl⟩) ⟨pm_fbT, fun U hU hW => ⟨rfl, trivial⟩⟩ rfl rfl hl.1 rfl (lv_room (Nat.le_of_ble_eq_true rfl)) dX8_put_1 ⟨Nat.le_refl 0, Nat.le_refl 0⟩) hS (fun H locs _ hk9 hS => ?_)
  replace hP := P_keep hP hk9
  have K_27 : ∀ (z_27_0 : Int32) (H : Heap) (locs : List Loc), va_P (gD G) vwCl (va_pl L (PF G S)) H → va_S (AL L) s.heap H locs → ∀ (ls : Array Slot), lv_has ls 8 [(0, .ref x), (1, .int p0), (2, .int p1), (3, .int p2), (4, .int p3)] → ok_X8_put_j27 L x p0 p1 p2 p3 z_27_0 S → h_X8_put x p0 p1 p2 p3 S = h_X8_put_j27 x p0 p1 p2 p3 z_27_0 S → W p l e (pm_R 3 65) s m ([.ref x, .int p0, .int p1, .int p2, .int p3] : List Value).toArray below meth c H locs 0 0 Z (F0 m 27 ls [.int z_27_0]) := by
    intro z_27_0 H locs hP hS ls hl hok hK_27
    refine lv_istore (lv' := [(5, .int z_27_0), (0, .ref x), (1, .int p0), (2, .int p1), (3, .int p2), (4, .int p3)]) hx hb dX8_put_27 hl (by decide) rfl (fun ls hl => ?_)
    refine lv_aload_n hx hb dX8_put_29 rfl (lv_at hl 1 rfl) ?_
    refine lv_iload hx hb dX8_put_30 (lv_at hl 0 rfl) ?_
    have K_58 : ∀ (z_58_0 : Int32) (H : Heap) (locs : List Loc), va_P (gD G) vwCl (va_pl L (PF G S)) H → va_S (AL L) s.heap H locs → ∀ (ls : Array Slot), lv_has ls 8 [(0, .ref x), (2, .int p1), (3, .int p2), (4, .int p3)] → ok_X8_put_j58 L x p0 p1 p2 p3 z_58_0 S → h_X8_put x p0 p1 p2 p3 S = h_X8_put_j58 x p0 p1 p2 p3 z_58_0 S → W p l e (pm_R 3 65) s m ([.ref x, .int p0, .int p1, .int p2, .int p3] : List Value).toArray below meth c H locs 0 0 Z (F0 m 58 ls [.int z_58_0, .ref x]) := by
      intro z_58_0 H locs hP hS ls hl hok hK_58
      obtain ⟨h_58k, hok⟩ := hok
      obtain ⟨h_58, hok⟩ := hok
      refine hm_callI (G := G) (a := ([.ref x, .int z_58_0] : List Value).toArray) (pr := (h_X8_stops x z_58_0 S)) (rest := []) ?_ hS (fun H locs hP hS => ?_)
      ·
        exact va_runV (As := [.int z_58_0]) (rest := []) ⟨hx, hb, hml, hown, hts⟩ (hm_X8_stops l G L S x z_58_0 h_58) (cwV 1 hts gX8_put_X8_stops rfl rfl rfl hdv_X8_stops ⟨Nat.le_of_ble_eq_true rfl, Nat.le_of_ble_eq_true rfl⟩) ⟨HW.fb, hp_recv hK hP h_58k.1 (PF_6 h_58k.2) rfl, fun U hU hW => ⟨rfl, HW.call hP hK hnd hE hS U hU hW⟩⟩ rfl rfl hl.1 rfl (lv_room (Nat.le_of_ble_eq_true rfl)) dX8_put_58 ⟨Nat.le_refl 0, Nat.le_refl 0⟩
      ·
        refine lv_if_eq (tgt := 66) hx hb dX8_put_61 (by decide) (fun c_61 => ?_) (fun c_61 => ?_)
        ·
          have hok := (hok).1 c_61
          refine lv_aload_n hx hb dX8_put_66 rfl (lv_at hl 0 rfl) ?_
          obtain ⟨h_67, hok⟩ := hok
          refine hp_getR (ci := 6) (C := RX8) (T := TX8) (N := 4) hx hb hts iw_X8_put_X8 hown hK hP h_67.1 (PF_6 h_67.2.1) rfl 0 (by decide) (hts _ (List.mem_of_getElem? (i := 1) rfl)) (fun _ h9 => h9) rfl h_67.2.2 dX8_put_67 ?_
          refine lv_iload_n hx hb dX8_put_70 rfl (lv_at hl 1 rfl) ?_
          obtain ⟨h_71, hok⟩ := hok
          refine hp_aald hx hb hK hP h_71.1 2 (PF_10 h_71.2.1) rfl h_71.2.2 dX8_put_71 ?_
          refine lv_topq (fun r_71 er_71 => ?_)
          rcases r_71 with _ | a_71
          ·
            have hok := (hok).1 er_71.symm
            refine lv_astoreN (lv' := [(7, .null), (0, .ref x), (2, .int p1), (3, .int p2), (4, .int p3)]) hx hb dX8_put_72 hl (by decide) rfl (fun ls hl => ?_)
            refine lv_aloadN hx hb dX8_put_74 (lv_at hl 0 rfl) ?_
            refine lv_instN hx hb dX8_put_76 ?_
            refine lv_if_eq (tgt := 112) hx hb dX8_put_79 (by decide) (fun _ => ?_) (fun z9 => absurd z9 (by decide))
            refine lv_iconst (v := 1) hx hb dX8_put_112 (by decide) ?_
            rw [hZ]
            exact hm_iret hx hb hr hlocks hS hP hK hnd hE (((hK_58).trans ((if_pos c_61).trans (oq_none er_71.symm)))) dX8_put_113
          ·
            have hok := (hok).2 _ er_71.symm
            refine lv_astore (lv' := [(7, .ref a_71), (0, .ref x), (2, .int p1), (3, .int p2), (4, .int p3)]) hx hb dX8_put_72 hl (by decide) rfl (fun ls hl => ?_)
            refine lv_aload hx hb dX8_put_74 (lv_at hl 0 rfl) ?_
            obtain ⟨h_76, hok⟩ := hok
            refine hp_inst5 hx hb hE.2 hown (hts _ (List.mem_of_getElem? (i := 2) rfl)) hK hP h_76 dX8_put_76 (fun c_76 => ?_) (fun c_76 => ?_)
            ·
              have hok := (hok).1 c_76
              refine lv_if_eq (tgt := 112) hx hb dX8_put_79 (by decide) (fun z9 => absurd z9 (by decide)) (fun _ => ?_)
              refine lv_aload hx hb dX8_put_82 (lv_at hl 0 rfl) ?_
              obtain ⟨h_84, hok⟩ := hok
              refine hp_cast5 hx hb hE.2 hown (hts _ (List.mem_of_getElem? (i := 2) rfl)) hK hP h_84 dX8_put_84 ?_
              refine lv_astore (lv' := [(6, .ref a_71), (7, .ref a_71), (0, .ref x), (2, .int p1), (3, .int p2), (4, .int p3)]) hx hb dX8_put_87 hl (by decide) rfl (fun ls hl => ?_)
              refine lv_aload hx hb dX8_put_89 (lv_at hl 0 rfl) ?_
              refine lv_iload_n hx hb dX8_put_91 rfl (lv_at hl 4 rfl) ?_
              obtain ⟨h_92k, hok⟩ := hok
              obtain ⟨h_92, hok⟩ := hok
              refine hm_callIr (G := G) (S1 := (h_X8_stops x z_58_0 S).2) (a := ([.ref a_71, .int p2] : List Value).toArray) (rest := []) (h_X6_holds a_71 p2 ((h_X8_stops x z_58_0 S).2)) ?_ hS (fun H locs hP hS => ?_)
              ·
                exact va_runU (As := [.int p2]) (rest := []) ⟨hx, hb, hml, hown, hts⟩ (hm_X6_holds l G L ((h_X8_stops x z_58_0 S).2) a_71 p2 h_92) (va_cwU (x := ⟨"ThrowModels$ThingArray", "holds", "(I)Z"⟩) 1 hts gX8_put_X6_holds_u104X7 rfl rfl rfl rfl (by decide +kernel) ⟨Nat.le_of_ble_eq_true rfl, Nat.le_of_ble_eq_true rfl⟩) ⟨HW.fb, hp_recv hK hP h_92k.1 (PF_5 h_92k.2) rfl, fun U hU hW => ⟨rfl, HW.call hP hK hnd hE hS U hU hW⟩⟩ rfl rfl hl.1 rfl (lv_room (Nat.le_of_ble_eq_true rfl)) dX8_put_92 ⟨Nat.le_refl 0, Nat.le_refl 0⟩
              ·
                refine lv_if_eq (tgt := 112) hx hb dX8_put_95 (by decide) (fun c_95 => ?_) (fun c_95 => ?_)
                ·
                  have hok := (hok).1 c_95
                  refine lv_iconst (v := 1) hx hb dX8_put_112 (by decide) ?_
                  rw [hZ]
                  exact hm_iret hx hb hr hlocks hS hP hK hnd hE (((hK_58).trans ((if_pos c_61).trans ((oq_some er_71.symm).trans ((if_pos c_76).trans (if_pos c_95)))))) dX8_put_113
                ·
                  have hok := (hok).2 c_95
                  refine lv_aload hx hb dX8_put_98 (lv_at hl 0 rfl) ?_
                  obtain ⟨h_100, hok⟩ := hok
                  refine hp_getR (ci := 5) (C := RX7) (T := TX7) (N := 3) hx hb hts iw_X8_put_X7 hown hK hP h_100.1 (PF_5 h_100.2.1) rfl 2 (by decide) (hts _ (List.mem_of_getElem? (i := 3) rfl)) (fun _ h9 => h9) rfl h_100.2.2 dX8_put_100 ?_
                  refine lv_iload_n hx hb dX8_put_103 rfl (lv_at hl 4 rfl) ?_
                  refine lv_aload_n hx hb dX8_put_104 rfl (lv_at hl 2 rfl) ?_
                  obtain ⟨h_105, hok⟩ := hok
                  refine hp_getR (ci := 6) (C := RX8) (T := TX8) (N := 4) hx hb hts iw_X8_put_X8 hown hK hP h_105.1 (PF_6 h_105.2.1) rfl 0 (by decide) (hts _ (List.mem_of_getElem? (i := 1) rfl)) (fun _ h9 => h9) rfl h_105.2.2 dX8_put_105 ?_
                  refine lv_iload hx hb dX8_put_108 (lv_at hl 5 rfl) ?_
                  obtain ⟨h_110, hok⟩ := hok
                  refine hp_aald hx hb hK hP h_110.1 2 (PF_10 h_110.2.1) rfl h_110.2.2 dX8_put_110 ?_
                  refine lv_topq (fun r_110 er_110 => ?_)
                  rcases r_110 with _ | a_110
                  ·
                    have hok := (hok).1 er_110.symm
                    obtain ⟨h_111, hok⟩ := hok
                    refine hp_aastN (g2 := PF G (hwR ((h_X8_stops x z_58_0 S).2) ((hsQ ((h_X8_stops x z_58_0 S).2) a_71 2).getD 0) p2.toNatClampNeg none)) hx hb hK hP (hD _) hS h_111.1 2 (PF_10 h_111.2.1) rfl h_111.2.2 (PF_sR h_111.2.1) (fun _ hb9 => PF_wR hb9) dX8_put_111 (fun H locs hP hS => ?_)
                    refine lv_iconst (v := 1) hx hb dX8_put_112 (by decide) ?_
                    rw [hZ]
                    exact hm_iret hx hb hr hlocks hS hP hK hnd hE (((hK_58).trans ((if_pos c_61).trans ((oq_some er_71.symm).trans ((if_pos c_76).trans ((if_neg c_95).trans (oq_none er_110.symm))))))) dX8_put_113
                  ·
                    have hok := (hok).2 _ er_110.symm
                    obtain ⟨h_111, hok⟩ := hok
                    refine hp_aastT (g2 := PF G (hwR ((h_X8_stops x z_58_0 S).2) ((hsQ ((h_X8_stops x z_58_0 S).2) a_71 2).getD 0) p2.toNatClampNeg (some a_110))) hx hb hE.2 hK hP (hD _) hS h_111.1.1 2 (PF_10 h_111.1.2.1) rfl h_111.2 h_111.1.2.2 (PF_sR h_111.1.2.1) (fun _ hb9 => PF_wR hb9) dX8_put_111 (fun H locs hP hS => ?_)
                    refine lv_iconst (v := 1) hx hb dX8_put_112 (by decide) ?_
                    rw [hZ]
                    exact hm_iret hx hb hr hlocks hS hP hK hnd hE (((hK_58).trans ((if_pos c_61).trans ((oq_some er_71.symm).trans ((if_pos c_76).trans ((if_neg c_95).trans (oq_some er_110.symm))))))) dX8_put_113
            ·
              have hok := (hok).2 c_76
              refine lv_if_eq (tgt := 112) hx hb dX8_put_79 (by decide) (fun _ => ?_) (fun z9 => absurd z9 (by decide))
              refine lv_iconst (v := 1) hx hb dX8_put_112 (by decide) ?_
              rw [hZ]
              exact hm_iret hx hb hr hlocks hS hP hK hnd hE (((hK_58).trans ((if_pos c_61).trans ((oq_some er_71.symm).trans (if_neg c_76))))) dX8_put_113
        ·
          have hok := (hok).2 c_61
          refine lv_iconst (v := 0) hx hb dX8_put_64 (by decide) ?_
          rw [hZ]
          exact hm_iret hx hb hr hlocks hS hP hK hnd hE (((hK_58).trans (if_neg c_61))) dX8_put_65
    refine lv_if_eq (tgt := 56) hx hb dX8_put_32 (by decide) (fun c_32 => ?_) (fun c_32 => ?_)
    ·
      have hok := (hok).1 c_32
      refine lv_bipush (v := 8) hx hb dX8_put_56 (by decide) ?_
      exact K_58 8 _ _ hP hS ls (lv_sub hl [1, 3, 4, 5] rfl) hok (((hK_27).trans (if_pos c_32)))
    ·
      have hok := (hok).2 c_32
      refine lv_iload_n hx hb dX8_put_35 rfl (lv_at hl 2 rfl) ?_
      refine lv_aload_n hx hb dX8_put_36 rfl (lv_at hl 1 rfl) ?_
      obtain ⟨h_37, hok⟩ := hok
      refine hp_getR (ci := 6) (C := RX8) (T := TX8) (N := 4) hx hb hts iw_X8_put_X8 hown hK hP h_37.1 (PF_6 h_37.2.1) rfl 0 (by decide) (hts _ (List.mem_of_getElem? (i := 1) rfl)) (fun _ h9 => h9) rfl h_37.2.2 dX8_put_37 ?_
      refine lv_iload_n hx hb dX8_put_40 rfl (lv_at hl 3 rfl) ?_
      obtain ⟨h_41, hok⟩ := hok
      refine hp_aald hx hb hK hP h_41.1 2 (PF_10 h_41.2.1) rfl h_41.2.2 dX8_put_41 ?_
      refine lv_topq (fun r_41 er_41 => ?_)
      rcases r_41 with _ | a_41
      ·
        have hok := (hok).1 er_41.symm
        refine lv_iload_n hx hb dX8_put_42 rfl (lv_at hl 4 rfl) ?_
        refine lv_aload_n hx hb dX8_put_43 rfl (lv_at hl 1 rfl) ?_
        obtain ⟨h_44, hok⟩ := hok
        refine hp_getR (ci := 6) (C := RX8) (T := TX8) (N := 4) hx hb hts iw_X8_put_X8 hown hK hP h_44.1 (PF_6 h_44.2.1) rfl 0 (by decide) (hts _ (List.mem_of_getElem? (i := 1) rfl)) (fun _ h9 => h9) rfl h_44.2.2 dX8_put_44 ?_
        refine lv_iload hx hb dX8_put_47 (lv_at hl 5 rfl) ?_
        obtain ⟨h_49, hok⟩ := hok
        refine hp_aald hx hb hK hP h_49.1 2 (PF_10 h_49.2.1) rfl h_49.2.2 dX8_put_49 ?_
        refine lv_topq (fun r_49 er_49 => ?_)
        rcases r_49 with _ | a_49
        ·
          have hok := (hok).1 er_49.symm
          obtain ⟨h_50, hok⟩ := hok
          refine hm_callIr (G := G) (S1 := S) (a := ([.int p0, .null, .int p2, .null] : List Value).toArray) (rest := [.ref x]) (h_X8_putCause_nn p0 p2 S) ?_ hS (fun H locs hP hS => ?_)
          ·
            exact va_runS (As := [.int p0, .null, .int p2, .null]) (rest := [.ref x]) ⟨hx, hb, hml, hown, hts⟩ (hm_X8_putCause_nn l G L S p0 p2 h_50) (va_cwS 4 hts gX8_put_X8_putCause rfl rfl rfl hd_X8_putCause ⟨Nat.le_of_ble_eq_true rfl, Nat.le_of_ble_eq_true rfl⟩) ⟨HW.fb, fun U hU hW => ⟨rfl, HW.call hP hK hnd hE hS U hU hW⟩⟩ rfl rfl hl.1 rfl (lv_room (Nat.le_of_ble_eq_true rfl)) dX8_put_50 ⟨Nat.le_refl 0, Nat.le_refl 0⟩
          ·
            refine lv_goto (tgt := 58) hx hb dX8_put_53 (by decide) ?_
            exact K_58 (h_X8_putCause_nn p0 p2 S) _ _ hP hS ls (lv_sub hl [1, 3, 4, 5] rfl) hok (((hK_27).trans ((if_neg c_32).trans ((oq_none er_41.symm).trans (oq_none er_49.symm)))))
        ·
          have hok := (hok).2 _ er_49.symm
          obtain ⟨h_50, hok⟩ := hok
          refine hm_callIr (G := G) (S1 := S) (a := ([.int p0, .null, .int p2, .ref a_49] : List Value).toArray) (rest := [.ref x]) (h_X8_putCause_ns p0 p2 a_49 S) ?_ hS (fun H locs hP hS => ?_)
          ·
            exact va_runS (As := [.int p0, .null, .int p2, .ref a_49]) (rest := [.ref x]) ⟨hx, hb, hml, hown, hts⟩ (hm_X8_putCause_ns l G L S p0 p2 a_49 h_50) (va_cwS 4 hts gX8_put_X8_putCause rfl rfl rfl hd_X8_putCause ⟨Nat.le_of_ble_eq_true rfl, Nat.le_of_ble_eq_true rfl⟩) ⟨HW.fb, fun U hU hW => ⟨rfl, HW.call hP hK hnd hE hS U hU hW⟩⟩ rfl rfl hl.1 rfl (lv_room (Nat.le_of_ble_eq_true rfl)) dX8_put_50 ⟨Nat.le_refl 0, Nat.le_refl 0⟩
          ·
            refine lv_goto (tgt := 58) hx hb dX8_put_53 (by decide) ?_
            exact K_58 (h_X8_putCause_ns p0 p2 a_49 S) _ _ hP hS ls (lv_sub hl [1, 3, 4, 5] rfl) hok (((hK_27).trans ((if_neg c_32).trans ((oq_none er_41.symm).trans (oq_some er_49.symm)))))
      ·
        have hok := (hok).2 _ er_41.symm
        refine lv_iload_n hx hb dX8_put_42 rfl (lv_at hl 4 rfl) ?_
        refine lv_aload_n hx hb dX8_put_43 rfl (lv_at hl 1 rfl) ?_
        obtain ⟨h_44, hok⟩ := hok
        refine hp_getR (ci := 6) (C := RX8) (T := TX8) (N := 4) hx hb hts iw_X8_put_X8 hown hK hP h_44.1 (PF_6 h_44.2.1) rfl 0 (by decide) (hts _ (List.mem_of_getElem? (i := 1) rfl)) (fun _ h9 => h9) rfl h_44.2.2 dX8_put_44 ?_
        refine lv_iload hx hb dX8_put_47 (lv_at hl 5 rfl) ?_
        obtain ⟨h_49, hok⟩ := hok
        refine hp_aald hx hb hK hP h_49.1 2 (PF_10 h_49.2.1) rfl h_49.2.2 dX8_put_49 ?_
        refine lv_topq (fun r_49 er_49 => ?_)
        rcases r_49 with _ | a_49
        ·
          have hok := (hok).1 er_49.symm
          obtain ⟨h_50, hok⟩ := hok
          refine hm_callIr (G := G) (S1 := S) (a := ([.int p0, .ref a_41, .int p2, .null] : List Value).toArray) (rest := [.ref x]) (h_X8_putCause_sn p0 a_41 p2 S) ?_ hS (fun H locs hP hS => ?_)
          ·
            exact va_runS (As := [.int p0, .ref a_41, .int p2, .null]) (rest := [.ref x]) ⟨hx, hb, hml, hown, hts⟩ (hm_X8_putCause_sn l G L S p0 a_41 p2 h_50) (va_cwS 4 hts gX8_put_X8_putCause rfl rfl rfl hd_X8_putCause ⟨Nat.le_of_ble_eq_true rfl, Nat.le_of_ble_eq_true rfl⟩) ⟨HW.fb, fun U hU hW => ⟨rfl, HW.call hP hK hnd hE hS U hU hW⟩⟩ rfl rfl hl.1 rfl (lv_room (Nat.le_of_ble_eq_true rfl)) dX8_put_50 ⟨Nat.le_refl 0, Nat.le_refl 0⟩
          ·
            refine lv_goto (tgt := 58) hx hb dX8_put_53 (by decide) ?_
            exact K_58 (h_X8_putCause_sn p0 a_41 p2 S) _ _ hP hS ls (lv_sub hl [1, 3, 4, 5] rfl) hok (((hK_27).trans ((if_neg c_32).trans ((oq_some er_41.symm).trans (oq_none er_49.symm)))))
        ·
          have hok := (hok).2 _ er_49.symm
          obtain ⟨h_50, hok⟩ := hok
          refine hm_callIr (G := G) (S1 := S) (a := ([.int p0, .ref a_41, .int p2, .ref a_49] : List Value).toArray) (rest := [.ref x]) (h_X8_putCause_ss p0 a_41 p2 a_49 S) ?_ hS (fun H locs hP hS => ?_)
          ·
            exact va_runS (As := [.int p0, .ref a_41, .int p2, .ref a_49]) (rest := [.ref x]) ⟨hx, hb, hml, hown, hts⟩ (hm_X8_putCause_ss l G L S p0 a_41 p2 a_49 h_50) (va_cwS 4 hts gX8_put_X8_putCause rfl rfl rfl hd_X8_putCause ⟨Nat.le_of_ble_eq_true rfl, Nat.le_of_ble_eq_true rfl⟩) ⟨HW.fb, fun U hU hW => ⟨rfl, HW.call hP hK hnd hE hS U hU hW⟩⟩ rfl rfl hl.1 rfl (lv_room (Nat.le_of_ble_eq_true rfl)) dX8_put_50 ⟨Nat.le_refl 0, Nat.le_refl 0⟩
          ·
            refine lv_goto (tgt := 58) hx hb dX8_put_53 (by decide) ?_
            exact K_58 (h_X8_putCause_ss p0 a_41 p2 a_49 S) _ _ hP hS ls (lv_sub hl [1, 3, 4, 5] rfl) hok (((hK_27).trans ((if_neg c_32).trans ((oq_some er_41.symm).trans (oq_some er_49.symm)))))
  refine lv_if_eq (tgt := 26) hx hb dX8_put_4 (by decide) (fun c_4 => ?_) (fun c_4 => ?_)
  ·
    have hok := (hok).1 c_4
    refine lv_iconst (v := 0) hx hb dX8_put_26 (by decide) ?_
    exact K_27 0 _ _ hP hS ls (lv_sub hl [0, 1, 2, 3, 4] rfl) hok ((if_pos c_4))
  ·
    have hok := (hok).2 c_4
    refine lv_iload_n hx hb dX8_put_7 rfl (lv_at hl 2 rfl) ?_
    refine pm_callI (va_runS (As := [.int p1]) (rest := []) ⟨hx, hb, hml, hown, hts⟩ (pm_X8_isCell l p1) (va_cwS 1 hts gX8_put_X8_isCell rfl rfl rfl hd_X8_isCell ⟨Nat.le_of_ble_eq_true rfl, Nat.le_of_ble_eq_true rfl⟩) ⟨pm_fbT, fun U hU hW => ⟨rfl, trivial⟩⟩ rfl rfl hl.1 rfl (lv_room (Nat.le_of_ble_eq_true rfl)) dX8_put_8 ⟨Nat.le_refl 0, Nat.le_refl 0⟩) hS (fun H locs _ hk9 hS => ?_)
    replace hP := P_keep hP hk9
    refine lv_if_eq (tgt := 26) hx hb dX8_put_11 (by decide) (fun c_11 => ?_) (fun c_11 => ?_)
    ·
      have hok := (hok).1 c_11
      refine lv_iconst (v := 0) hx hb dX8_put_26 (by decide) ?_
      exact K_27 0 _ _ hP hS ls (lv_sub hl [0, 1, 2, 3, 4] rfl) hok (((if_neg c_4).trans (if_pos c_11)))
    ·
      have hok := (hok).2 c_11
      refine lv_iload hx hb dX8_put_14 (lv_at hl 4 rfl) ?_
      refine pm_callI (va_runS (As := [.int p3]) (rest := []) ⟨hx, hb, hml, hown, hts⟩ (pm_X8_isCell l p3) (va_cwS 1 hts gX8_put_X8_isCell rfl rfl rfl hd_X8_isCell ⟨Nat.le_of_ble_eq_true rfl, Nat.le_of_ble_eq_true rfl⟩) ⟨pm_fbT, fun U hU hW => ⟨rfl, trivial⟩⟩ rfl rfl hl.1 rfl (lv_room (Nat.le_of_ble_eq_true rfl)) dX8_put_16 ⟨Nat.le_refl 0, Nat.le_refl 0⟩) hS (fun H locs _ hk9 hS => ?_)
      replace hP := P_keep hP hk9
      refine lv_if_eq (tgt := 26) hx hb dX8_put_19 (by decide) (fun c_19 => ?_) (fun c_19 => ?_)
      ·
        have hok := (hok).1 c_19
        refine lv_iconst (v := 0) hx hb dX8_put_26 (by decide) ?_
        exact K_27 0 _ _ hP hS ls (lv_sub hl [0, 1, 2, 3, 4] rfl) hok (((if_neg c_4).trans ((if_neg c_11).trans (if_pos c_19))))
      ·
        have hok := (hok).2 c_19
        refine lv_iconst (v := 1) hx hb dX8_put_22 (by decide) ?_
        refine lv_goto (tgt := 27) hx hb dX8_put_23 (by decide) ?_
        exact K_27 1 _ _ hP hS ls (lv_sub hl [0, 1, 2, 3, 4] rfl) hok (((if_neg c_4).trans ((if_neg c_11).trans (if_neg c_19))))
theorem hdv_X8_copy : yX8_copy.cls = RX8 ∧ yX8_copy.cls ≠ "java/lang/invoke/MethodHandle" ∧ yX8_copy.cls ≠ "java/lang/invoke/VarHandle" ∧ (parseMethodDescriptor yX8_copy.desc).map (fun d => d.parameters.length) = some 5 := by decide +kernel
theorem iw_X8_copy_X8 : ∀ w ∈ u_ws RX8 TX8 4, w ∈ wsX8_copy := by decide +kernel
def h_X8_copy_j80 (x : Nat) (p0 : Int32) (p1 : Int32) (p2 : Int32) (p3 : Int32) (p4 : Int32) (y_80_7 : Int32) (S : HS) (S_80 : HS) : Int32 × HS :=
  if ((h_X8_stops x y_80_7 S_80).1) = 0 then (1, (h_X8_stops x y_80_7 S_80).2)
  else (0, (h_X8_stops x y_80_7 S_80).2)
def ok_X8_copy_j80 (L : List Nat) (x : Nat) (p0 : Int32) (p1 : Int32) (p2 : Int32) (p3 : Int32) (p4 : Int32) (y_80_7 : Int32) (S : HS) (S_80 : HS) : Prop :=
  (x ∈ L ∧ hsK S_80 x = 6) ∧ ((ok_X8_stops L x y_80_7 S_80) ∧ (((((h_X8_stops x y_80_7 S_80).1) = 0) → (True)) ∧
  (¬ (((h_X8_stops x y_80_7 S_80).1) = 0) → (True))))
def h_X8_copy_j51 (x : Nat) (p0 : Int32) (p1 : Int32) (p2 : Int32) (p3 : Int32) (p4 : Int32) (z_51_0 : Int32) (S : HS) : Int32 × HS :=
  if z_51_0 = 0 then oq (hsR S ((hsQ S x 0).getD 0) p0.toNatClampNeg) (oq (hsR S ((hsQ S x 0).getD 0) p2.toNatClampNeg) (h_X8_copy_j80 x p0 p1 p2 p3 p4 ((h_X8_copyElements_nn p1 p3 p4 S).1) S ((h_X8_copyElements_nn p1 p3 p4 S).2))
    (fun (a_70 : Nat) => h_X8_copy_j80 x p0 p1 p2 p3 p4 ((h_X8_copyElements_ns p1 a_70 p3 p4 S).1) S ((h_X8_copyElements_ns p1 a_70 p3 p4 S).2)))
   (fun (a_63 : Nat) => oq (hsR S ((hsQ S x 0).getD 0) p2.toNatClampNeg) (h_X8_copy_j80 x p0 p1 p2 p3 p4 ((h_X8_copyElements_sn a_63 p1 p3 p4 S).1) S ((h_X8_copyElements_sn a_63 p1 p3 p4 S).2))
    (fun (a_70 : Nat) => h_X8_copy_j80 x p0 p1 p2 p3 p4 ((h_X8_copyElements_ss a_63 p1 a_70 p3 p4 S).1) S ((h_X8_copyElements_ss a_63 p1 a_70 p3 p4 S).2)))
  else h_X8_copy_j80 x p0 p1 p2 p3 p4 z_51_0 S S
def ok_X8_copy_j51 (L : List Nat) (x : Nat) (p0 : Int32) (p1 : Int32) (p2 : Int32) (p3 : Int32) (p4 : Int32) (z_51_0 : Int32) (S : HS) : Prop :=
  ((z_51_0 = 0) → ((x ∈ L ∧ hsK S x = 6 ∧ hsQ S x 0 ≠ none) ∧ ((((hsQ S x 0).getD 0) ∈ L ∧ hsK S ((hsQ S x 0).getD 0) = 10 ∧ vp_in p0 (hsN S ((hsQ S x 0).getD 0))) ∧ (((hsR S ((hsQ S x 0).getD 0) p0.toNatClampNeg) = none → ((x ∈ L ∧ hsK S x = 6 ∧ hsQ S x 0 ≠ none) ∧ ((((hsQ S x 0).getD 0) ∈ L ∧ hsK S ((hsQ S x 0).getD 0) = 10 ∧ vp_in p2 (hsN S ((hsQ S x 0).getD 0))) ∧ (((hsR S ((hsQ S x 0).getD 0) p2.toNatClampNeg) = none → ((ok_X8_copyElements_nn L p1 p3 p4 S) ∧ (ok_X8_copy_j80 L x p0 p1 p2 p3 p4 ((h_X8_copyElements_nn p1 p3 p4 S).1) S ((h_X8_copyElements_nn p1 p3 p4 S).2)))) ∧
    (∀ a_70 : Nat, (hsR S ((hsQ S x 0).getD 0) p2.toNatClampNeg) = some a_70 → ((ok_X8_copyElements_ns L p1 a_70 p3 p4 S) ∧ (ok_X8_copy_j80 L x p0 p1 p2 p3 p4 ((h_X8_copyElements_ns p1 a_70 p3 p4 S).1) S ((h_X8_copyElements_ns p1 a_70 p3 p4 S).2)))))))) ∧
   (∀ a_63 : Nat, (hsR S ((hsQ S x 0).getD 0) p0.toNatClampNeg) = some a_63 → ((x ∈ L ∧ hsK S x = 6 ∧ hsQ S x 0 ≠ none) ∧ ((((hsQ S x 0).getD 0) ∈ L ∧ hsK S ((hsQ S x 0).getD 0) = 10 ∧ vp_in p2 (hsN S ((hsQ S x 0).getD 0))) ∧ (((hsR S ((hsQ S x 0).getD 0) p2.toNatClampNeg) = none → ((ok_X8_copyElements_sn L a_63 p1 p3 p4 S) ∧ (ok_X8_copy_j80 L x p0 p1 p2 p3 p4 ((h_X8_copyElements_sn a_63 p1 p3 p4 S).1) S ((h_X8_copyElements_sn a_63 p1 p3 p4 S).2)))) ∧
    (∀ a_70 : Nat, (hsR S ((hsQ S x 0).getD 0) p2.toNatClampNeg) = some a_70 → ((ok_X8_copyElements_ss L a_63 p1 a_70 p3 p4 S) ∧ (ok_X8_copy_j80 L x p0 p1 p2 p3 p4 ((h_X8_copyElements_ss a_63 p1 a_70 p3 p4 S).1) S ((h_X8_copyElements_ss a_63 p1 a_70 p3 p4 S).2)))))))))))) ∧
  (¬ (z_51_0 = 0) → (ok_X8_copy_j80 L x p0 p1 p2 p3 p4 z_51_0 S S))
def h_X8_copy_j19 (x : Nat) (p0 : Int32) (p1 : Int32) (p2 : Int32) (p3 : Int32) (p4 : Int32) (z_19_0 : Int32) (S : HS) : Int32 × HS :=
  if z_19_0 = 0 then h_X8_copy_j51 x p0 p1 p2 p3 p4 8 S
  else oq (hsR S ((hsQ S x 0).getD 0) p0.toNatClampNeg) (oq (hsR S ((hsQ S x 0).getD 0) p2.toNatClampNeg) (h_X8_copy_j51 x p0 p1 p2 p3 p4 (h_X8_copyCause_nn p1 p3 p4 S) S)
    (fun (a_38 : Nat) => h_X8_copy_j51 x p0 p1 p2 p3 p4 (h_X8_copyCause_ns p1 a_38 p3 p4 S) S))
   (fun (a_31 : Nat) => oq (hsR S ((hsQ S x 0).getD 0) p2.toNatClampNeg) (h_X8_copy_j51 x p0 p1 p2 p3 p4 (h_X8_copyCause_sn a_31 p1 p3 p4 S) S)
    (fun (a_38 : Nat) => h_X8_copy_j51 x p0 p1 p2 p3 p4 (h_X8_copyCause_ss a_31 p1 a_38 p3 p4 S) S))
def ok_X8_copy_j19 (L : List Nat) (x : Nat) (p0 : Int32) (p1 : Int32) (p2 : Int32) (p3 : Int32) (p4 : Int32) (z_19_0 : Int32) (S : HS) : Prop :=
  ((z_19_0 = 0) → (ok_X8_copy_j51 L x p0 p1 p2 p3 p4 8 S)) ∧
  (¬ (z_19_0 = 0) → ((x ∈ L ∧ hsK S x = 6 ∧ hsQ S x 0 ≠ none) ∧ ((((hsQ S x 0).getD 0) ∈ L ∧ hsK S ((hsQ S x 0).getD 0) = 10 ∧ vp_in p0 (hsN S ((hsQ S x 0).getD 0))) ∧ (((hsR S ((hsQ S x 0).getD 0) p0.toNatClampNeg) = none → ((x ∈ L ∧ hsK S x = 6 ∧ hsQ S x 0 ≠ none) ∧ ((((hsQ S x 0).getD 0) ∈ L ∧ hsK S ((hsQ S x 0).getD 0) = 10 ∧ vp_in p2 (hsN S ((hsQ S x 0).getD 0))) ∧ (((hsR S ((hsQ S x 0).getD 0) p2.toNatClampNeg) = none → ((ok_X8_copyCause_nn L p1 p3 p4 S) ∧ (ok_X8_copy_j51 L x p0 p1 p2 p3 p4 (h_X8_copyCause_nn p1 p3 p4 S) S))) ∧
    (∀ a_38 : Nat, (hsR S ((hsQ S x 0).getD 0) p2.toNatClampNeg) = some a_38 → ((ok_X8_copyCause_ns L p1 a_38 p3 p4 S) ∧ (ok_X8_copy_j51 L x p0 p1 p2 p3 p4 (h_X8_copyCause_ns p1 a_38 p3 p4 S) S))))))) ∧
   (∀ a_31 : Nat, (hsR S ((hsQ S x 0).getD 0) p0.toNatClampNeg) = some a_31 → ((x ∈ L ∧ hsK S x = 6 ∧ hsQ S x 0 ≠ none) ∧ ((((hsQ S x 0).getD 0) ∈ L ∧ hsK S ((hsQ S x 0).getD 0) = 10 ∧ vp_in p2 (hsN S ((hsQ S x 0).getD 0))) ∧ (((hsR S ((hsQ S x 0).getD 0) p2.toNatClampNeg) = none → ((ok_X8_copyCause_sn L a_31 p1 p3 p4 S) ∧ (ok_X8_copy_j51 L x p0 p1 p2 p3 p4 (h_X8_copyCause_sn a_31 p1 p3 p4 S) S))) ∧
    (∀ a_38 : Nat, (hsR S ((hsQ S x 0).getD 0) p2.toNatClampNeg) = some a_38 → ((ok_X8_copyCause_ss L a_31 p1 a_38 p3 p4 S) ∧ (ok_X8_copy_j51 L x p0 p1 p2 p3 p4 (h_X8_copyCause_ss a_31 p1 a_38 p3 p4 S) S)))))))))))
def h_X8_copy (x : Nat) (p0 : Int32) (p1 : Int32) (p2 : Int32) (p3 : Int32) (p4 : Int32) (S : HS) : Int32 × HS :=
  if (s_X8_isCell p0) = 0 then h_X8_copy_j19 x p0 p1 p2 p3 p4 0 S
  else if (s_X8_isCell p2) = 0 then h_X8_copy_j19 x p0 p1 p2 p3 p4 0 S
   else h_X8_copy_j19 x p0 p1 p2 p3 p4 1 S
def ok_X8_copy (L : List Nat) (x : Nat) (p0 : Int32) (p1 : Int32) (p2 : Int32) (p3 : Int32) (p4 : Int32) (S : HS) : Prop :=
  (((s_X8_isCell p0) = 0) → (ok_X8_copy_j19 L x p0 p1 p2 p3 p4 0 S)) ∧
  (¬ ((s_X8_isCell p0) = 0) → ((((s_X8_isCell p2) = 0) → (ok_X8_copy_j19 L x p0 p1 p2 p3 p4 0 S)) ∧
   (¬ ((s_X8_isCell p2) = 0) → (ok_X8_copy_j19 L x p0 p1 p2 p3 p4 1 S))))
set_option maxHeartbeats 4000000 in
set_option maxRecDepth 100000 in
theorem hm_X8_copy (l : Launch) (G : GE) (L : List Nat) (S : HS) (x : Nat) (p0 : Int32) (p1 : Int32) (p2 : Int32) (p3 : Int32) (p4 : Int32) (hok : ok_X8_copy L x p0 p1 p2 p3 p4 S) : HmI l G yX8_copy wsX8_copy 4 95 [.ref x, .int p0, .int p1, .int p2, .int p3, .int p4] L S (h_X8_copy x p0 p1 p2 p3 p4 S) := by
  refine Met.ofW (cc := cX8_copy) (maxL := 8) (ret := (some .int)) (by decide) rfl ?_
  intro p e s m args below meth c s₁ B hml hv
  obtain ⟨rfl, hP, hK, hnd, hE⟩ := hv
  have hx := B.exec
  have hb := B.bytes
  have hr := B.returns
  have hts := atoms_spec (ws := wsX8_copy) B.pre
  have hown : s.vm.findClass RX8 = some m.cls := findClass_of_methodNamed B.named
  have hlocks := B.notSynchronized
  have hD := nd_D hnd
  have hS : va_S (AL L) s.heap s.heap [] := va_S.rf
  have hl := lv_entry ([.ref x, .int p0, .int p1, .int p2, .int p3, .int p4]) (n := 8) (Nat.le_of_ble_eq_true rfl)
  rw [lg_entry_eq]
  generalize (lg_sl ([.ref x, .int p0, .int p1, .int p2, .int p3, .int p4]) ++ List.replicate (8 - (lg_sl ([.ref x, .int p0, .int p1, .int p2, .int p3, .int p4])).length) Slot.unset).toArray = ls at hl ⊢
  have hl : lv_has ls 8 [(0, .ref x), (1, .int p0), (2, .int p1), (3, .int p2), (4, .int p3), (5, .int p4)] := hl
  obtain ⟨Z, hZ⟩ : ∃ z, z = MQ below (hm_QI G L (h_X8_copy x p0 p1 p2 p3 p4 S)) ([.ref x, .int p0, .int p1, .int p2, .int p3, .int p4] : List Value).toArray s 0 0 (AL L) := ⟨_, rfl⟩
  rw [← hZ]
  refine lv_iload_n hx hb dX8_copy_0 rfl (lv_at hl 1 rfl) ?_
  refine pm_callI (va_runS (As := [.int p0]) (rest := []) ⟨hx, hb, hml, hown, hts⟩ (pm_X8_isCell l p0) (va_cwS 1 hts gX8_copy_X8_isCell rfl rfl rfl hd_X8_isCell ⟨Nat.le_of_ble_eq_true rfl, Nat.le_of_ble_eq_true rfl⟩) ⟨pm_fbT, fun U hU hW => ⟨rfl, trivial⟩⟩ rfl rfl hl.1 rfl (lv_room (Nat.le_of_ble_eq_true rfl)) dX8_copy_1 ⟨Nat.le_refl 0, Nat.le_refl 0⟩) hS (fun H locs _ hk9 hS => ?_)
  replace hP := P_keep hP hk9
  have K_19 : ∀ (z_19_0 : Int32) (H : Heap) (locs : List Loc), va_P (gD G) vwCl (va_pl L (PF G S)) H → va_S (AL L) s.heap H locs → ∀ (ls : Array Slot), lv_has ls 8 [(0, .ref x), (1, .int p0), (2, .int p1), (3, .int p2), (4, .int p3), (5, .int p4)] → ok_X8_copy_j19 L x p0 p1 p2 p3 p4 z_19_0 S → h_X8_copy x p0 p1 p2 p3 p4 S = h_X8_copy_j19 x p0 p1 p2 p3 p4 z_19_0 S → W p l e (pm_R 4 95) s m ([.ref x, .int p0, .int p1, .int p2, .int p3, .int p4] : List Value).toArray below meth c H locs 0 0 Z (F0 m 19 ls [.int z_19_0]) := by
    intro z_19_0 H locs hP hS ls hl hok hK_19
    refine lv_istore (lv' := [(6, .int z_19_0), (0, .ref x), (1, .int p0), (2, .int p1), (3, .int p2), (4, .int p3), (5, .int p4)]) hx hb dX8_copy_19 hl (by decide) rfl (fun ls hl => ?_)
    refine lv_iload hx hb dX8_copy_21 (lv_at hl 0 rfl) ?_
    have K_51 : ∀ (z_51_0 : Int32) (H : Heap) (locs : List Loc), va_P (gD G) vwCl (va_pl L (PF G S)) H → va_S (AL L) s.heap H locs → ∀ (ls : Array Slot), lv_has ls 8 [(0, .ref x), (1, .int p0), (2, .int p1), (3, .int p2), (4, .int p3), (5, .int p4)] → ok_X8_copy_j51 L x p0 p1 p2 p3 p4 z_51_0 S → h_X8_copy x p0 p1 p2 p3 p4 S = h_X8_copy_j51 x p0 p1 p2 p3 p4 z_51_0 S → W p l e (pm_R 4 95) s m ([.ref x, .int p0, .int p1, .int p2, .int p3, .int p4] : List Value).toArray below meth c H locs 0 0 Z (F0 m 51 ls [.int z_51_0]) := by
      intro z_51_0 H locs hP hS ls hl hok hK_51
      refine lv_istore (lv' := [(7, .int z_51_0), (0, .ref x), (1, .int p0), (2, .int p1), (3, .int p2), (4, .int p3), (5, .int p4)]) hx hb dX8_copy_51 hl (by decide) rfl (fun ls hl => ?_)
      refine lv_iload hx hb dX8_copy_53 (lv_at hl 0 rfl) ?_
      have K_80 : ∀ (y_80_7 : Int32) (S_80 : HS) (H : Heap) (locs : List Loc), va_P (gD G) vwCl (va_pl L (PF G S_80)) H → va_S (AL L) s.heap H locs → ∀ (ls : Array Slot), lv_has ls 8 [(0, .ref x), (7, .int y_80_7)] → ok_X8_copy_j80 L x p0 p1 p2 p3 p4 y_80_7 S S_80 → h_X8_copy x p0 p1 p2 p3 p4 S = h_X8_copy_j80 x p0 p1 p2 p3 p4 y_80_7 S S_80 → W p l e (pm_R 4 95) s m ([.ref x, .int p0, .int p1, .int p2, .int p3, .int p4] : List Value).toArray below meth c H locs 0 0 Z (F0 m 80 ls []) := by
        intro y_80_7 S_80 H locs hP hS ls hl hok hK_80
        refine lv_aload_n hx hb dX8_copy_80 rfl (lv_at hl 0 rfl) ?_
        refine lv_iload hx hb dX8_copy_81 (lv_at hl 1 rfl) ?_
        obtain ⟨h_83k, hok⟩ := hok
        obtain ⟨h_83, hok⟩ := hok
        refine hm_callI (G := G) (a := ([.ref x, .int y_80_7] : List Value).toArray) (pr := (h_X8_stops x y_80_7 S_80)) (rest := []) ?_ hS (fun H locs hP hS => ?_)
        ·
          exact va_runV (As := [.int y_80_7]) (rest := []) ⟨hx, hb, hml, hown, hts⟩ (hm_X8_stops l G L S_80 x y_80_7 h_83) (cwV 1 hts gX8_copy_X8_stops rfl rfl rfl hdv_X8_stops ⟨Nat.le_of_ble_eq_true rfl, Nat.le_of_ble_eq_true rfl⟩) ⟨HW.fb, hp_recv hK hP h_83k.1 (PF_6 h_83k.2) rfl, fun U hU hW => ⟨rfl, HW.call hP hK hnd hE hS U hU hW⟩⟩ rfl rfl hl.1 rfl (lv_room (Nat.le_of_ble_eq_true rfl)) dX8_copy_83 ⟨Nat.le_refl 0, Nat.le_refl 0⟩
        ·
          refine lv_if_eq (tgt := 93) hx hb dX8_copy_86 (by decide) (fun c_86 => ?_) (fun c_86 => ?_)
          ·
            have hok := (hok).1 c_86
            refine lv_iconst (v := 1) hx hb dX8_copy_93 (by decide) ?_
            rw [hZ]
            exact hm_iret hx hb hr hlocks hS hP hK hnd hE (((hK_80).trans (if_pos c_86))) dX8_copy_94
          ·
            have hok := (hok).2 c_86
            refine lv_iconst (v := 0) hx hb dX8_copy_89 (by decide) ?_
            refine lv_goto (tgt := 94) hx hb dX8_copy_90 (by decide) ?_
            rw [hZ]
            exact hm_iret hx hb hr hlocks hS hP hK hnd hE (((hK_80).trans (if_neg c_86))) dX8_copy_94
      refine lv_if_ne (tgt := 80) hx hb dX8_copy_55 (by decide) (fun c_55 => ?_) (fun c_55 => ?_)
      ·
        have hok := (hok).2 c_55
        exact K_80 z_51_0 S _ _ hP hS ls (lv_sub hl [1, 0] rfl) hok (((hK_51).trans (if_neg c_55)))
      ·
        have hok := (hok).1 c_55
        refine lv_aload_n hx hb dX8_copy_58 rfl (lv_at hl 1 rfl) ?_
        obtain ⟨h_59, hok⟩ := hok
        refine hp_getR (ci := 6) (C := RX8) (T := TX8) (N := 4) hx hb hts iw_X8_copy_X8 hown hK hP h_59.1 (PF_6 h_59.2.1) rfl 0 (by decide) (hts _ (List.mem_of_getElem? (i := 1) rfl)) (fun _ h9 => h9) rfl h_59.2.2 dX8_copy_59 ?_
        refine lv_iload_n hx hb dX8_copy_62 rfl (lv_at hl 2 rfl) ?_
        obtain ⟨h_63, hok⟩ := hok
        refine hp_aald hx hb hK hP h_63.1 2 (PF_10 h_63.2.1) rfl h_63.2.2 dX8_copy_63 ?_
        refine lv_topq (fun r_63 er_63 => ?_)
        rcases r_63 with _ | a_63
        ·
          have hok := (hok).1 er_63.symm
          refine lv_iload_n hx hb dX8_copy_64 rfl (lv_at hl 3 rfl) ?_
          refine lv_aload_n hx hb dX8_copy_65 rfl (lv_at hl 1 rfl) ?_
          obtain ⟨h_66, hok⟩ := hok
          refine hp_getR (ci := 6) (C := RX8) (T := TX8) (N := 4) hx hb hts iw_X8_copy_X8 hown hK hP h_66.1 (PF_6 h_66.2.1) rfl 0 (by decide) (hts _ (List.mem_of_getElem? (i := 1) rfl)) (fun _ h9 => h9) rfl h_66.2.2 dX8_copy_66 ?_
          refine lv_iload_n hx hb dX8_copy_69 rfl (lv_at hl 4 rfl) ?_
          obtain ⟨h_70, hok⟩ := hok
          refine hp_aald hx hb hK hP h_70.1 2 (PF_10 h_70.2.1) rfl h_70.2.2 dX8_copy_70 ?_
          refine lv_topq (fun r_70 er_70 => ?_)
          rcases r_70 with _ | a_70
          ·
            have hok := (hok).1 er_70.symm
            refine lv_iload hx hb dX8_copy_71 (lv_at hl 5 rfl) ?_
            refine lv_iload hx hb dX8_copy_73 (lv_at hl 6 rfl) ?_
            obtain ⟨h_75, hok⟩ := hok
            refine hm_callI (G := G) (a := ([.null, .int p1, .null, .int p3, .int p4] : List Value).toArray) (pr := (h_X8_copyElements_nn p1 p3 p4 S)) (rest := []) ?_ hS (fun H locs hP hS => ?_)
            ·
              exact va_runS (As := [.null, .int p1, .null, .int p3, .int p4]) (rest := []) ⟨hx, hb, hml, hown, hts⟩ (hm_X8_copyElements_nn l G L S p1 p3 p4 h_75) (va_cwS 5 hts gX8_copy_X8_copyElements rfl rfl rfl hd_X8_copyElements ⟨Nat.le_of_ble_eq_true rfl, Nat.le_of_ble_eq_true rfl⟩) ⟨HW.fb, fun U hU hW => ⟨rfl, HW.call hP hK hnd hE hS U hU hW⟩⟩ rfl rfl hl.1 rfl (lv_room (Nat.le_of_ble_eq_true rfl)) dX8_copy_75 ⟨Nat.le_refl 0, Nat.le_refl 0⟩
            ·
              refine lv_istore (lv' := [(7, .int ((h_X8_copyElements_nn p1 p3 p4 S).1)), (0, .ref x), (1, .int p0), (2, .int p1), (3, .int p2), (4, .int p3), (5, .int p4)]) hx hb dX8_copy_78 hl (by decide) rfl (fun ls hl => ?_)
              exact K_80 ((h_X8_copyElements_nn p1 p3 p4 S).1) ((h_X8_copyElements_nn p1 p3 p4 S).2) _ _ hP hS ls (lv_sub hl [1, 0] rfl) hok (((hK_51).trans ((if_pos c_55).trans ((oq_none er_63.symm).trans (oq_none er_70.symm)))))
          ·
            have hok := (hok).2 _ er_70.symm
            refine lv_iload hx hb dX8_copy_71 (lv_at hl 5 rfl) ?_
            refine lv_iload hx hb dX8_copy_73 (lv_at hl 6 rfl) ?_
            obtain ⟨h_75, hok⟩ := hok
            refine hm_callI (G := G) (a := ([.null, .int p1, .ref a_70, .int p3, .int p4] : List Value).toArray) (pr := (h_X8_copyElements_ns p1 a_70 p3 p4 S)) (rest := []) ?_ hS (fun H locs hP hS => ?_)
            ·
              exact va_runS (As := [.null, .int p1, .ref a_70, .int p3, .int p4]) (rest := []) ⟨hx, hb, hml, hown, hts⟩ (hm_X8_copyElements_ns l G L S p1 a_70 p3 p4 h_75) (va_cwS 5 hts gX8_copy_X8_copyElements rfl rfl rfl hd_X8_copyElements ⟨Nat.le_of_ble_eq_true rfl, Nat.le_of_ble_eq_true rfl⟩) ⟨HW.fb, fun U hU hW => ⟨rfl, HW.call hP hK hnd hE hS U hU hW⟩⟩ rfl rfl hl.1 rfl (lv_room (Nat.le_of_ble_eq_true rfl)) dX8_copy_75 ⟨Nat.le_refl 0, Nat.le_refl 0⟩
            ·
              refine lv_istore (lv' := [(7, .int ((h_X8_copyElements_ns p1 a_70 p3 p4 S).1)), (0, .ref x), (1, .int p0), (2, .int p1), (3, .int p2), (4, .int p3), (5, .int p4)]) hx hb dX8_copy_78 hl (by decide) rfl (fun ls hl => ?_)
              exact K_80 ((h_X8_copyElements_ns p1 a_70 p3 p4 S).1) ((h_X8_copyElements_ns p1 a_70 p3 p4 S).2) _ _ hP hS ls (lv_sub hl [1, 0] rfl) hok (((hK_51).trans ((if_pos c_55).trans ((oq_none er_63.symm).trans (oq_some er_70.symm)))))
        ·
          have hok := (hok).2 _ er_63.symm
          refine lv_iload_n hx hb dX8_copy_64 rfl (lv_at hl 3 rfl) ?_
          refine lv_aload_n hx hb dX8_copy_65 rfl (lv_at hl 1 rfl) ?_
          obtain ⟨h_66, hok⟩ := hok
          refine hp_getR (ci := 6) (C := RX8) (T := TX8) (N := 4) hx hb hts iw_X8_copy_X8 hown hK hP h_66.1 (PF_6 h_66.2.1) rfl 0 (by decide) (hts _ (List.mem_of_getElem? (i := 1) rfl)) (fun _ h9 => h9) rfl h_66.2.2 dX8_copy_66 ?_
          refine lv_iload_n hx hb dX8_copy_69 rfl (lv_at hl 4 rfl) ?_
          obtain ⟨h_70, hok⟩ := hok
          refine hp_aald hx hb hK hP h_70.1 2 (PF_10 h_70.2.1) rfl h_70.2.2 dX8_copy_70 ?_
          refine lv_topq (fun r_70 er_70 => ?_)
          rcases r_70 with _ | a_70
          ·
            have hok := (hok).1 er_70.symm
            refine lv_iload hx hb dX8_copy_71 (lv_at hl 5 rfl) ?_
            refine lv_iload hx hb dX8_copy_73 (lv_at hl 6 rfl) ?_
            obtain ⟨h_75, hok⟩ := hok
            refine hm_callI (G := G) (a := ([.ref a_63, .int p1, .null, .int p3, .int p4] : List Value).toArray) (pr := (h_X8_copyElements_sn a_63 p1 p3 p4 S)) (rest := []) ?_ hS (fun H locs hP hS => ?_)
            ·
              exact va_runS (As := [.ref a_63, .int p1, .null, .int p3, .int p4]) (rest := []) ⟨hx, hb, hml, hown, hts⟩ (hm_X8_copyElements_sn l G L S a_63 p1 p3 p4 h_75) (va_cwS 5 hts gX8_copy_X8_copyElements rfl rfl rfl hd_X8_copyElements ⟨Nat.le_of_ble_eq_true rfl, Nat.le_of_ble_eq_true rfl⟩) ⟨HW.fb, fun U hU hW => ⟨rfl, HW.call hP hK hnd hE hS U hU hW⟩⟩ rfl rfl hl.1 rfl (lv_room (Nat.le_of_ble_eq_true rfl)) dX8_copy_75 ⟨Nat.le_refl 0, Nat.le_refl 0⟩
            ·
              refine lv_istore (lv' := [(7, .int ((h_X8_copyElements_sn a_63 p1 p3 p4 S).1)), (0, .ref x), (1, .int p0), (2, .int p1), (3, .int p2), (4, .int p3), (5, .int p4)]) hx hb dX8_copy_78 hl (by decide) rfl (fun ls hl => ?_)
              exact K_80 ((h_X8_copyElements_sn a_63 p1 p3 p4 S).1) ((h_X8_copyElements_sn a_63 p1 p3 p4 S).2) _ _ hP hS ls (lv_sub hl [1, 0] rfl) hok (((hK_51).trans ((if_pos c_55).trans ((oq_some er_63.symm).trans (oq_none er_70.symm)))))
          ·
            have hok := (hok).2 _ er_70.symm
            refine lv_iload hx hb dX8_copy_71 (lv_at hl 5 rfl) ?_
            refine lv_iload hx hb dX8_copy_73 (lv_at hl 6 rfl) ?_
            obtain ⟨h_75, hok⟩ := hok
            refine hm_callI (G := G) (a := ([.ref a_63, .int p1, .ref a_70, .int p3, .int p4] : List Value).toArray) (pr := (h_X8_copyElements_ss a_63 p1 a_70 p3 p4 S)) (rest := []) ?_ hS (fun H locs hP hS => ?_)
            ·
              exact va_runS (As := [.ref a_63, .int p1, .ref a_70, .int p3, .int p4]) (rest := []) ⟨hx, hb, hml, hown, hts⟩ (hm_X8_copyElements_ss l G L S a_63 p1 a_70 p3 p4 h_75) (va_cwS 5 hts gX8_copy_X8_copyElements rfl rfl rfl hd_X8_copyElements ⟨Nat.le_of_ble_eq_true rfl, Nat.le_of_ble_eq_true rfl⟩) ⟨HW.fb, fun U hU hW => ⟨rfl, HW.call hP hK hnd hE hS U hU hW⟩⟩ rfl rfl hl.1 rfl (lv_room (Nat.le_of_ble_eq_true rfl)) dX8_copy_75 ⟨Nat.le_refl 0, Nat.le_refl 0⟩
            ·
              refine lv_istore (lv' := [(7, .int ((h_X8_copyElements_ss a_63 p1 a_70 p3 p4 S).1)), (0, .ref x), (1, .int p0), (2, .int p1), (3, .int p2), (4, .int p3), (5, .int p4)]) hx hb dX8_copy_78 hl (by decide) rfl (fun ls hl => ?_)
              exact K_80 ((h_X8_copyElements_ss a_63 p1 a_70 p3 p4 S).1) ((h_X8_copyElements_ss a_63 p1 a_70 p3 p4 S).2) _ _ hP hS ls (lv_sub hl [1, 0] rfl) hok (((hK_51).trans ((if_pos c_55).trans ((oq_some er_63.symm).trans (oq_some er_70.symm)))))
    refine lv_if_eq (tgt := 49) hx hb dX8_copy_23 (by decide) (fun c_23 => ?_) (fun c_23 => ?_)
    ·
      have hok := (hok).1 c_23
      refine lv_bipush (v := 8) hx hb dX8_copy_49 (by decide) ?_
      exact K_51 8 _ _ hP hS ls (lv_sub hl [1, 2, 3, 4, 5, 6] rfl) hok (((hK_19).trans (if_pos c_23)))
    ·
      have hok := (hok).2 c_23
      refine lv_aload_n hx hb dX8_copy_26 rfl (lv_at hl 1 rfl) ?_
      obtain ⟨h_27, hok⟩ := hok
      refine hp_getR (ci := 6) (C := RX8) (T := TX8) (N := 4) hx hb hts iw_X8_copy_X8 hown hK hP h_27.1 (PF_6 h_27.2.1) rfl 0 (by decide) (hts _ (List.mem_of_getElem? (i := 1) rfl)) (fun _ h9 => h9) rfl h_27.2.2 dX8_copy_27 ?_
      refine lv_iload_n hx hb dX8_copy_30 rfl (lv_at hl 2 rfl) ?_
      obtain ⟨h_31, hok⟩ := hok
      refine hp_aald hx hb hK hP h_31.1 2 (PF_10 h_31.2.1) rfl h_31.2.2 dX8_copy_31 ?_
      refine lv_topq (fun r_31 er_31 => ?_)
      rcases r_31 with _ | a_31
      ·
        have hok := (hok).1 er_31.symm
        refine lv_iload_n hx hb dX8_copy_32 rfl (lv_at hl 3 rfl) ?_
        refine lv_aload_n hx hb dX8_copy_33 rfl (lv_at hl 1 rfl) ?_
        obtain ⟨h_34, hok⟩ := hok
        refine hp_getR (ci := 6) (C := RX8) (T := TX8) (N := 4) hx hb hts iw_X8_copy_X8 hown hK hP h_34.1 (PF_6 h_34.2.1) rfl 0 (by decide) (hts _ (List.mem_of_getElem? (i := 1) rfl)) (fun _ h9 => h9) rfl h_34.2.2 dX8_copy_34 ?_
        refine lv_iload_n hx hb dX8_copy_37 rfl (lv_at hl 4 rfl) ?_
        obtain ⟨h_38, hok⟩ := hok
        refine hp_aald hx hb hK hP h_38.1 2 (PF_10 h_38.2.1) rfl h_38.2.2 dX8_copy_38 ?_
        refine lv_topq (fun r_38 er_38 => ?_)
        rcases r_38 with _ | a_38
        ·
          have hok := (hok).1 er_38.symm
          refine lv_iload hx hb dX8_copy_39 (lv_at hl 5 rfl) ?_
          refine lv_iload hx hb dX8_copy_41 (lv_at hl 6 rfl) ?_
          obtain ⟨h_43, hok⟩ := hok
          refine hm_callIr (G := G) (S1 := S) (a := ([.null, .int p1, .null, .int p3, .int p4] : List Value).toArray) (rest := []) (h_X8_copyCause_nn p1 p3 p4 S) ?_ hS (fun H locs hP hS => ?_)
          ·
            exact va_runS (As := [.null, .int p1, .null, .int p3, .int p4]) (rest := []) ⟨hx, hb, hml, hown, hts⟩ (hm_X8_copyCause_nn l G L S p1 p3 p4 h_43) (va_cwS 5 hts gX8_copy_X8_copyCause rfl rfl rfl hd_X8_copyCause ⟨Nat.le_of_ble_eq_true rfl, Nat.le_of_ble_eq_true rfl⟩) ⟨HW.fb, fun U hU hW => ⟨rfl, HW.call hP hK hnd hE hS U hU hW⟩⟩ rfl rfl hl.1 rfl (lv_room (Nat.le_of_ble_eq_true rfl)) dX8_copy_43 ⟨Nat.le_refl 0, Nat.le_refl 0⟩
          ·
            refine lv_goto (tgt := 51) hx hb dX8_copy_46 (by decide) ?_
            exact K_51 (h_X8_copyCause_nn p1 p3 p4 S) _ _ hP hS ls (lv_sub hl [1, 2, 3, 4, 5, 6] rfl) hok (((hK_19).trans ((if_neg c_23).trans ((oq_none er_31.symm).trans (oq_none er_38.symm)))))
        ·
          have hok := (hok).2 _ er_38.symm
          refine lv_iload hx hb dX8_copy_39 (lv_at hl 5 rfl) ?_
          refine lv_iload hx hb dX8_copy_41 (lv_at hl 6 rfl) ?_
          obtain ⟨h_43, hok⟩ := hok
          refine hm_callIr (G := G) (S1 := S) (a := ([.null, .int p1, .ref a_38, .int p3, .int p4] : List Value).toArray) (rest := []) (h_X8_copyCause_ns p1 a_38 p3 p4 S) ?_ hS (fun H locs hP hS => ?_)
          ·
            exact va_runS (As := [.null, .int p1, .ref a_38, .int p3, .int p4]) (rest := []) ⟨hx, hb, hml, hown, hts⟩ (hm_X8_copyCause_ns l G L S p1 a_38 p3 p4 h_43) (va_cwS 5 hts gX8_copy_X8_copyCause rfl rfl rfl hd_X8_copyCause ⟨Nat.le_of_ble_eq_true rfl, Nat.le_of_ble_eq_true rfl⟩) ⟨HW.fb, fun U hU hW => ⟨rfl, HW.call hP hK hnd hE hS U hU hW⟩⟩ rfl rfl hl.1 rfl (lv_room (Nat.le_of_ble_eq_true rfl)) dX8_copy_43 ⟨Nat.le_refl 0, Nat.le_refl 0⟩
          ·
            refine lv_goto (tgt := 51) hx hb dX8_copy_46 (by decide) ?_
            exact K_51 (h_X8_copyCause_ns p1 a_38 p3 p4 S) _ _ hP hS ls (lv_sub hl [1, 2, 3, 4, 5, 6] rfl) hok (((hK_19).trans ((if_neg c_23).trans ((oq_none er_31.symm).trans (oq_some er_38.symm)))))
      ·
        have hok := (hok).2 _ er_31.symm
        refine lv_iload_n hx hb dX8_copy_32 rfl (lv_at hl 3 rfl) ?_
        refine lv_aload_n hx hb dX8_copy_33 rfl (lv_at hl 1 rfl) ?_
        obtain ⟨h_34, hok⟩ := hok
        refine hp_getR (ci := 6) (C := RX8) (T := TX8) (N := 4) hx hb hts iw_X8_copy_X8 hown hK hP h_34.1 (PF_6 h_34.2.1) rfl 0 (by decide) (hts _ (List.mem_of_getElem? (i := 1) rfl)) (fun _ h9 => h9) rfl h_34.2.2 dX8_copy_34 ?_
        refine lv_iload_n hx hb dX8_copy_37 rfl (lv_at hl 4 rfl) ?_
        obtain ⟨h_38, hok⟩ := hok
        refine hp_aald hx hb hK hP h_38.1 2 (PF_10 h_38.2.1) rfl h_38.2.2 dX8_copy_38 ?_
        refine lv_topq (fun r_38 er_38 => ?_)
        rcases r_38 with _ | a_38
        ·
          have hok := (hok).1 er_38.symm
          refine lv_iload hx hb dX8_copy_39 (lv_at hl 5 rfl) ?_
          refine lv_iload hx hb dX8_copy_41 (lv_at hl 6 rfl) ?_
          obtain ⟨h_43, hok⟩ := hok
          refine hm_callIr (G := G) (S1 := S) (a := ([.ref a_31, .int p1, .null, .int p3, .int p4] : List Value).toArray) (rest := []) (h_X8_copyCause_sn a_31 p1 p3 p4 S) ?_ hS (fun H locs hP hS => ?_)
          ·
            exact va_runS (As := [.ref a_31, .int p1, .null, .int p3, .int p4]) (rest := []) ⟨hx, hb, hml, hown, hts⟩ (hm_X8_copyCause_sn l G L S a_31 p1 p3 p4 h_43) (va_cwS 5 hts gX8_copy_X8_copyCause rfl rfl rfl hd_X8_copyCause ⟨Nat.le_of_ble_eq_true rfl, Nat.le_of_ble_eq_true rfl⟩) ⟨HW.fb, fun U hU hW => ⟨rfl, HW.call hP hK hnd hE hS U hU hW⟩⟩ rfl rfl hl.1 rfl (lv_room (Nat.le_of_ble_eq_true rfl)) dX8_copy_43 ⟨Nat.le_refl 0, Nat.le_refl 0⟩
          ·
            refine lv_goto (tgt := 51) hx hb dX8_copy_46 (by decide) ?_
            exact K_51 (h_X8_copyCause_sn a_31 p1 p3 p4 S) _ _ hP hS ls (lv_sub hl [1, 2, 3, 4, 5, 6] rfl) hok (((hK_19).trans ((if_neg c_23).trans ((oq_some er_31.symm).trans (oq_none er_38.symm)))))
        ·
          have hok := (hok).2 _ er_38.symm
          refine lv_iload hx hb dX8_copy_39 (lv_at hl 5 rfl) ?_
          refine lv_iload hx hb dX8_copy_41 (lv_at hl 6 rfl) ?_
          obtain ⟨h_43, hok⟩ := hok
          refine hm_callIr (G := G) (S1 := S) (a := ([.ref a_31, .int p1, .ref a_38, .int p3, .int p4] : List Value).toArray) (rest := []) (h_X8_copyCause_ss a_31 p1 a_38 p3 p4 S) ?_ hS (fun H locs hP hS => ?_)
          ·
            exact va_runS (As := [.ref a_31, .int p1, .ref a_38, .int p3, .int p4]) (rest := []) ⟨hx, hb, hml, hown, hts⟩ (hm_X8_copyCause_ss l G L S a_31 p1 a_38 p3 p4 h_43) (va_cwS 5 hts gX8_copy_X8_copyCause rfl rfl rfl hd_X8_copyCause ⟨Nat.le_of_ble_eq_true rfl, Nat.le_of_ble_eq_true rfl⟩) ⟨HW.fb, fun U hU hW => ⟨rfl, HW.call hP hK hnd hE hS U hU hW⟩⟩ rfl rfl hl.1 rfl (lv_room (Nat.le_of_ble_eq_true rfl)) dX8_copy_43 ⟨Nat.le_refl 0, Nat.le_refl 0⟩
          ·
            refine lv_goto (tgt := 51) hx hb dX8_copy_46 (by decide) ?_
            exact K_51 (h_X8_copyCause_ss a_31 p1 a_38 p3 p4 S) _ _ hP hS ls (lv_sub hl [1, 2, 3, 4, 5, 6] rfl) hok (((hK_19).trans ((if_neg c_23).trans ((oq_some er_31.symm).trans (oq_some er_38.symm)))))
  refine lv_if_eq (tgt := 18) hx hb dX8_copy_4 (by decide) (fun c_4 => ?_) (fun c_4 => ?_)
  ·
    have hok := (hok).1 c_4
    refine lv_iconst (v := 0) hx hb dX8_copy_18 (by decide) ?_
    exact K_19 0 _ _ hP hS ls (lv_sub hl [0, 1, 2, 3, 4, 5] rfl) hok ((if_pos c_4))
  ·
    have hok := (hok).2 c_4
    refine lv_iload_n hx hb dX8_copy_7 rfl (lv_at hl 3 rfl) ?_
    refine pm_callI (va_runS (As := [.int p2]) (rest := []) ⟨hx, hb, hml, hown, hts⟩ (pm_X8_isCell l p2) (va_cwS 1 hts gX8_copy_X8_isCell rfl rfl rfl hd_X8_isCell ⟨Nat.le_of_ble_eq_true rfl, Nat.le_of_ble_eq_true rfl⟩) ⟨pm_fbT, fun U hU hW => ⟨rfl, trivial⟩⟩ rfl rfl hl.1 rfl (lv_room (Nat.le_of_ble_eq_true rfl)) dX8_copy_8 ⟨Nat.le_refl 0, Nat.le_refl 0⟩) hS (fun H locs _ hk9 hS => ?_)
    replace hP := P_keep hP hk9
    refine lv_if_eq (tgt := 18) hx hb dX8_copy_11 (by decide) (fun c_11 => ?_) (fun c_11 => ?_)
    ·
      have hok := (hok).1 c_11
      refine lv_iconst (v := 0) hx hb dX8_copy_18 (by decide) ?_
      exact K_19 0 _ _ hP hS ls (lv_sub hl [0, 1, 2, 3, 4, 5] rfl) hok (((if_neg c_4).trans (if_pos c_11)))
    ·
      have hok := (hok).2 c_11
      refine lv_iconst (v := 1) hx hb dX8_copy_14 (by decide) ?_
      refine lv_goto (tgt := 19) hx hb dX8_copy_15 (by decide) ?_
      exact K_19 1 _ _ hP hS ls (lv_sub hl [0, 1, 2, 3, 4, 5] rfl) hok (((if_neg c_4).trans (if_neg c_11)))
theorem hdv_X8_write : yX8_write.cls = RX8 ∧ yX8_write.cls ≠ "java/lang/invoke/MethodHandle" ∧ yX8_write.cls ≠ "java/lang/invoke/VarHandle" ∧ (parseMethodDescriptor yX8_write.desc).map (fun d => d.parameters.length) = some 3 := by decide +kernel
theorem iw_X8_write_X8 : ∀ w ∈ u_ws RX8 TX8 4, w ∈ wsX8_write := by decide +kernel
theorem iw_X8_write_X2 : ∀ w ∈ u_ws RX2 TX2 3, w ∈ wsX8_write := by decide +kernel
theorem iw_X8_write_X4 : ∀ w ∈ u_ws RX4 TX4 3, w ∈ wsX8_write := by decide +kernel
theorem iw_X8_write_X5 : ∀ w ∈ u_ws RX5 TX5 3, w ∈ wsX8_write := by decide +kernel
def h_X8_write_j42 (x : Nat) (p0 : Int32) (p1 : Int32) (p2 : Int32) (z_42_0 : Int32) (S : HS) : Int32 × HS :=
  if ((h_X8_stops x z_42_0 S).1) = 0 then oq (hsR ((h_X8_stops x z_42_0 S).2) ((hsQ ((h_X8_stops x z_42_0 S).2) x 0).getD 0) p1.toNatClampNeg) ((1, (h_X8_stops x z_42_0 S).2))
   (fun (a_55 : Nat) => if 2 ≤ hsK ((h_X8_stops x z_42_0 S).2) a_55 ∧ hsK ((h_X8_stops x z_42_0 S).2) a_55 ≤ 4 then (1, (hwI ((h_X8_stops x z_42_0 S).2) a_55 2 p2))
    else (1, (h_X8_stops x z_42_0 S).2))
  else (0, (h_X8_stops x z_42_0 S).2)
def ok_X8_write_j42 (L : List Nat) (x : Nat) (p0 : Int32) (p1 : Int32) (p2 : Int32) (z_42_0 : Int32) (S : HS) : Prop :=
  (x ∈ L ∧ hsK S x = 6) ∧ ((ok_X8_stops L x z_42_0 S) ∧ (((((h_X8_stops x z_42_0 S).1) = 0) → ((x ∈ L ∧ hsK ((h_X8_stops x z_42_0 S).2) x = 6 ∧ hsQ ((h_X8_stops x z_42_0 S).2) x 0 ≠ none) ∧ ((((hsQ ((h_X8_stops x z_42_0 S).2) x 0).getD 0) ∈ L ∧ hsK ((h_X8_stops x z_42_0 S).2) ((hsQ ((h_X8_stops x z_42_0 S).2) x 0).getD 0) = 10 ∧ vp_in p1 (hsN ((h_X8_stops x z_42_0 S).2) ((hsQ ((h_X8_stops x z_42_0 S).2) x 0).getD 0))) ∧ (((hsR ((h_X8_stops x z_42_0 S).2) ((hsQ ((h_X8_stops x z_42_0 S).2) x 0).getD 0) p1.toNatClampNeg) = none → (True)) ∧
   (∀ a_55 : Nat, (hsR ((h_X8_stops x z_42_0 S).2) ((hsQ ((h_X8_stops x z_42_0 S).2) x 0).getD 0) p1.toNatClampNeg) = some a_55 → ((a_55 ∈ L ∧ 1 ≤ hsK ((h_X8_stops x z_42_0 S).2) a_55 ∧ hsK ((h_X8_stops x z_42_0 S).2) a_55 ≤ 5) ∧ (((2 ≤ hsK ((h_X8_stops x z_42_0 S).2) a_55 ∧ hsK ((h_X8_stops x z_42_0 S).2) a_55 ≤ 4) → ((a_55 ∈ L ∧ 2 ≤ hsK ((h_X8_stops x z_42_0 S).2) a_55 ∧ hsK ((h_X8_stops x z_42_0 S).2) a_55 ≤ 4) ∧ ((a_55 ∈ L ∧ 2 ≤ hsK ((h_X8_stops x z_42_0 S).2) a_55 ∧ hsK ((h_X8_stops x z_42_0 S).2) a_55 ≤ 4) ∧ (True)))) ∧
    (¬ (2 ≤ hsK ((h_X8_stops x z_42_0 S).2) a_55 ∧ hsK ((h_X8_stops x z_42_0 S).2) a_55 ≤ 4) → (True))))))))) ∧
  (¬ (((h_X8_stops x z_42_0 S).1) = 0) → (True))))
def h_X8_write_j19 (x : Nat) (p0 : Int32) (p1 : Int32) (p2 : Int32) (z_19_0 : Int32) (S : HS) : Int32 × HS :=
  if z_19_0 = 0 then h_X8_write_j42 x p0 p1 p2 8 S
  else oq (hsR S ((hsQ S x 0).getD 0) p1.toNatClampNeg) (h_X8_write_j42 x p0 p1 p2 (h_X8_castCause_n p0 S) S)
   (fun (a_33 : Nat) => h_X8_write_j42 x p0 p1 p2 (h_X8_castCause_s p0 a_33 S) S)
def ok_X8_write_j19 (L : List Nat) (x : Nat) (p0 : Int32) (p1 : Int32) (p2 : Int32) (z_19_0 : Int32) (S : HS) : Prop :=
  ((z_19_0 = 0) → (ok_X8_write_j42 L x p0 p1 p2 8 S)) ∧
  (¬ (z_19_0 = 0) → ((x ∈ L ∧ hsK S x = 6 ∧ hsQ S x 0 ≠ none) ∧ ((((hsQ S x 0).getD 0) ∈ L ∧ hsK S ((hsQ S x 0).getD 0) = 10 ∧ vp_in p1 (hsN S ((hsQ S x 0).getD 0))) ∧ (((hsR S ((hsQ S x 0).getD 0) p1.toNatClampNeg) = none → ((ok_X8_castCause_n L p0 S) ∧ (ok_X8_write_j42 L x p0 p1 p2 (h_X8_castCause_n p0 S) S))) ∧
   (∀ a_33 : Nat, (hsR S ((hsQ S x 0).getD 0) p1.toNatClampNeg) = some a_33 → ((ok_X8_castCause_s L p0 a_33 S) ∧ (ok_X8_write_j42 L x p0 p1 p2 (h_X8_castCause_s p0 a_33 S) S)))))))
def h_X8_write (x : Nat) (p0 : Int32) (p1 : Int32) (p2 : Int32) (S : HS) : Int32 × HS :=
  if (s_X8_isOwnType p0) = 0 then h_X8_write_j19 x p0 p1 p2 0 S
  else if (s_X8_isCell p1) = 0 then h_X8_write_j19 x p0 p1 p2 0 S
   else h_X8_write_j19 x p0 p1 p2 1 S
def ok_X8_write (L : List Nat) (x : Nat) (p0 : Int32) (p1 : Int32) (p2 : Int32) (S : HS) : Prop :=
  (((s_X8_isOwnType p0) = 0) → (ok_X8_write_j19 L x p0 p1 p2 0 S)) ∧
  (¬ ((s_X8_isOwnType p0) = 0) → ((((s_X8_isCell p1) = 0) → (ok_X8_write_j19 L x p0 p1 p2 0 S)) ∧
   (¬ ((s_X8_isCell p1) = 0) → (ok_X8_write_j19 L x p0 p1 p2 1 S))))
set_option maxHeartbeats 4000000 in
set_option maxRecDepth 100000 in
theorem hm_X8_write (l : Launch) (G : GE) (L : List Nat) (S : HS) (x : Nat) (p0 : Int32) (p1 : Int32) (p2 : Int32) (hok : ok_X8_write L x p0 p1 p2 S) : HmI l G yX8_write wsX8_write 3 63 [.ref x, .int p0, .int p1, .int p2] L S (h_X8_write x p0 p1 p2 S) := by
  refine Met.ofW (cc := cX8_write) (maxL := 7) (ret := (some .int)) (by decide) rfl ?_
  intro p e s m args below meth c s₁ B hml hv
  obtain ⟨rfl, hP, hK, hnd, hE⟩ := hv
  have hx := B.exec
  have hb := B.bytes
  have hr := B.returns
  have hts := atoms_spec (ws := wsX8_write) B.pre
  have hown : s.vm.findClass RX8 = some m.cls := findClass_of_methodNamed B.named
  have hlocks := B.notSynchronized
  have hD := nd_D hnd
  have hS : va_S (AL L) s.heap s.heap [] := va_S.rf
  have hl := lv_entry ([.ref x, .int p0, .int p1, .int p2]) (n := 7) (Nat.le_of_ble_eq_true rfl)
  rw [lg_entry_eq]
  generalize (lg_sl ([.ref x, .int p0, .int p1, .int p2]) ++ List.replicate (7 - (lg_sl ([.ref x, .int p0, .int p1, .int p2])).length) Slot.unset).toArray = ls at hl ⊢
  have hl : lv_has ls 7 [(0, .ref x), (1, .int p0), (2, .int p1), (3, .int p2)] := hl
  obtain ⟨Z, hZ⟩ : ∃ z, z = MQ below (hm_QI G L (h_X8_write x p0 p1 p2 S)) ([.ref x, .int p0, .int p1, .int p2] : List Value).toArray s 0 0 (AL L) := ⟨_, rfl⟩
  rw [← hZ]
  refine lv_iload_n hx hb dX8_write_0 rfl (lv_at hl 1 rfl) ?_
  refine pm_callI (va_runS (As := [.int p0]) (rest := []) ⟨hx, hb, hml, hown, hts⟩ (pm_X8_isOwnType l p0) (va_cwS 1 hts gX8_write_X8_isOwnType rfl rfl rfl hd_X8_isOwnType ⟨Nat.le_of_ble_eq_true rfl, Nat.le_of_ble_eq_true rfl⟩) ⟨pm_fbT, fun U hU hW => ⟨rfl, trivial⟩⟩ rfl rfl hl.1 rfl (lv_room (Nat.le_of_ble_eq_true rfl)) dX8_write_1 ⟨Nat.le_refl 0, Nat.le_refl 0⟩) hS (fun H locs _ hk9 hS => ?_)
  replace hP := P_keep hP hk9
  have K_19 : ∀ (z_19_0 : Int32) (H : Heap) (locs : List Loc), va_P (gD G) vwCl (va_pl L (PF G S)) H → va_S (AL L) s.heap H locs → ∀ (ls : Array Slot), lv_has ls 7 [(0, .ref x), (1, .int p0), (2, .int p1), (3, .int p2)] → ok_X8_write_j19 L x p0 p1 p2 z_19_0 S → h_X8_write x p0 p1 p2 S = h_X8_write_j19 x p0 p1 p2 z_19_0 S → W p l e (pm_R 3 63) s m ([.ref x, .int p0, .int p1, .int p2] : List Value).toArray below meth c H locs 0 0 Z (F0 m 19 ls [.int z_19_0]) := by
    intro z_19_0 H locs hP hS ls hl hok hK_19
    refine lv_istore (lv' := [(4, .int z_19_0), (0, .ref x), (1, .int p0), (2, .int p1), (3, .int p2)]) hx hb dX8_write_19 hl (by decide) rfl (fun ls hl => ?_)
    refine lv_aload_n hx hb dX8_write_21 rfl (lv_at hl 1 rfl) ?_
    refine lv_iload hx hb dX8_write_22 (lv_at hl 0 rfl) ?_
    have K_42 : ∀ (z_42_0 : Int32) (H : Heap) (locs : List Loc), va_P (gD G) vwCl (va_pl L (PF G S)) H → va_S (AL L) s.heap H locs → ∀ (ls : Array Slot), lv_has ls 7 [(0, .ref x), (2, .int p1), (3, .int p2)] → ok_X8_write_j42 L x p0 p1 p2 z_42_0 S → h_X8_write x p0 p1 p2 S = h_X8_write_j42 x p0 p1 p2 z_42_0 S → W p l e (pm_R 3 63) s m ([.ref x, .int p0, .int p1, .int p2] : List Value).toArray below meth c H locs 0 0 Z (F0 m 42 ls [.int z_42_0, .ref x]) := by
      intro z_42_0 H locs hP hS ls hl hok hK_42
      obtain ⟨h_42k, hok⟩ := hok
      obtain ⟨h_42, hok⟩ := hok
      refine hm_callI (G := G) (a := ([.ref x, .int z_42_0] : List Value).toArray) (pr := (h_X8_stops x z_42_0 S)) (rest := []) ?_ hS (fun H locs hP hS => ?_)
      ·
        exact va_runV (As := [.int z_42_0]) (rest := []) ⟨hx, hb, hml, hown, hts⟩ (hm_X8_stops l G L S x z_42_0 h_42) (cwV 1 hts gX8_write_X8_stops rfl rfl rfl hdv_X8_stops ⟨Nat.le_of_ble_eq_true rfl, Nat.le_of_ble_eq_true rfl⟩) ⟨HW.fb, hp_recv hK hP h_42k.1 (PF_6 h_42k.2) rfl, fun U hU hW => ⟨rfl, HW.call hP hK hnd hE hS U hU hW⟩⟩ rfl rfl hl.1 rfl (lv_room (Nat.le_of_ble_eq_true rfl)) dX8_write_42 ⟨Nat.le_refl 0, Nat.le_refl 0⟩
      ·
        refine lv_if_eq (tgt := 50) hx hb dX8_write_45 (by decide) (fun c_45 => ?_) (fun c_45 => ?_)
        ·
          have hok := (hok).1 c_45
          refine lv_aload_n hx hb dX8_write_50 rfl (lv_at hl 0 rfl) ?_
          obtain ⟨h_51, hok⟩ := hok
          refine hp_getR (ci := 6) (C := RX8) (T := TX8) (N := 4) hx hb hts iw_X8_write_X8 hown hK hP h_51.1 (PF_6 h_51.2.1) rfl 0 (by decide) (hts _ (List.mem_of_getElem? (i := 1) rfl)) (fun _ h9 => h9) rfl h_51.2.2 dX8_write_51 ?_
          refine lv_iload_n hx hb dX8_write_54 rfl (lv_at hl 1 rfl) ?_
          obtain ⟨h_55, hok⟩ := hok
          refine hp_aald hx hb hK hP h_55.1 2 (PF_10 h_55.2.1) rfl h_55.2.2 dX8_write_55 ?_
          refine lv_topq (fun r_55 er_55 => ?_)
          rcases r_55 with _ | a_55
          ·
            have hok := (hok).1 er_55.symm
            refine lv_astoreN (lv' := [(6, .null), (0, .ref x), (2, .int p1), (3, .int p2)]) hx hb dX8_write_56 hl (by decide) rfl (fun ls hl => ?_)
            refine lv_aloadN hx hb dX8_write_58 (lv_at hl 0 rfl) ?_
            refine lv_instN hx hb dX8_write_60 ?_
            refine lv_if_eq (tgt := 79) hx hb dX8_write_63 (by decide) (fun _ => ?_) (fun z9 => absurd z9 (by decide))
            refine lv_iconst (v := 1) hx hb dX8_write_79 (by decide) ?_
            rw [hZ]
            exact hm_iret hx hb hr hlocks hS hP hK hnd hE (((hK_42).trans ((if_pos c_45).trans (oq_none er_55.symm)))) dX8_write_80
          ·
            have hok := (hok).2 _ er_55.symm
            refine lv_astore (lv' := [(6, .ref a_55), (0, .ref x), (2, .int p1), (3, .int p2)]) hx hb dX8_write_56 hl (by decide) rfl (fun ls hl => ?_)
            refine lv_aload hx hb dX8_write_58 (lv_at hl 0 rfl) ?_
            obtain ⟨h_60, hok⟩ := hok
            refine hp_inst2 hx hb hE.2 hown (hts _ (List.mem_of_getElem? (i := 2) rfl)) hK hP h_60 dX8_write_60 (fun c_60 => ?_) (fun c_60 => ?_)
            ·
              have hok := (hok).1 c_60
              refine lv_if_eq (tgt := 79) hx hb dX8_write_63 (by decide) (fun z9 => absurd z9 (by decide)) (fun _ => ?_)
              refine lv_aload hx hb dX8_write_66 (lv_at hl 0 rfl) ?_
              obtain ⟨h_68, hok⟩ := hok
              refine hp_cast2 hx hb hE.2 hown (hts _ (List.mem_of_getElem? (i := 2) rfl)) hK hP h_68 dX8_write_68 ?_
              refine lv_astore (lv' := [(5, .ref a_55), (6, .ref a_55), (0, .ref x), (2, .int p1), (3, .int p2)]) hx hb dX8_write_71 hl (by decide) rfl (fun ls hl => ?_)
              refine lv_aload hx hb dX8_write_73 (lv_at hl 0 rfl) ?_
              refine lv_iload_n hx hb dX8_write_75 rfl (lv_at hl 4 rfl) ?_
              obtain ⟨h_76, hok⟩ := hok
              refine hp_putV (v := p2) hx hb hts iw_X8_write_X2 iw_X8_write_X4 iw_X8_write_X5 hown hK hP (hD _) hS h_76 (hts _ (List.mem_of_getElem? (i := 3) rfl)) (fun _ h9 => h9) dX8_write_76 (fun H locs hP hS => ?_)
              refine lv_iconst (v := 1) hx hb dX8_write_79 (by decide) ?_
              rw [hZ]
              exact hm_iret hx hb hr hlocks hS hP hK hnd hE (((hK_42).trans ((if_pos c_45).trans ((oq_some er_55.symm).trans (if_pos c_60))))) dX8_write_80
            ·
              have hok := (hok).2 c_60
              refine lv_if_eq (tgt := 79) hx hb dX8_write_63 (by decide) (fun _ => ?_) (fun z9 => absurd z9 (by decide))
              refine lv_iconst (v := 1) hx hb dX8_write_79 (by decide) ?_
              rw [hZ]
              exact hm_iret hx hb hr hlocks hS hP hK hnd hE (((hK_42).trans ((if_pos c_45).trans ((oq_some er_55.symm).trans (if_neg c_60))))) dX8_write_80
        ·
          have hok := (hok).2 c_45
          refine lv_iconst (v := 0) hx hb dX8_write_48 (by decide) ?_
          rw [hZ]
          exact hm_iret hx hb hr hlocks hS hP hK hnd hE (((hK_42).trans (if_neg c_45))) dX8_write_49
    refine lv_if_eq (tgt := 40) hx hb dX8_write_24 (by decide) (fun c_24 => ?_) (fun c_24 => ?_)
    ·
      have hok := (hok).1 c_24
      refine lv_bipush (v := 8) hx hb dX8_write_40 (by decide) ?_
      exact K_42 8 _ _ hP hS ls (lv_sub hl [1, 3, 4] rfl) hok (((hK_19).trans (if_pos c_24)))
    ·
      have hok := (hok).2 c_24
      refine lv_iload_n hx hb dX8_write_27 rfl (lv_at hl 2 rfl) ?_
      refine lv_aload_n hx hb dX8_write_28 rfl (lv_at hl 1 rfl) ?_
      obtain ⟨h_29, hok⟩ := hok
      refine hp_getR (ci := 6) (C := RX8) (T := TX8) (N := 4) hx hb hts iw_X8_write_X8 hown hK hP h_29.1 (PF_6 h_29.2.1) rfl 0 (by decide) (hts _ (List.mem_of_getElem? (i := 1) rfl)) (fun _ h9 => h9) rfl h_29.2.2 dX8_write_29 ?_
      refine lv_iload_n hx hb dX8_write_32 rfl (lv_at hl 3 rfl) ?_
      obtain ⟨h_33, hok⟩ := hok
      refine hp_aald hx hb hK hP h_33.1 2 (PF_10 h_33.2.1) rfl h_33.2.2 dX8_write_33 ?_
      refine lv_topq (fun r_33 er_33 => ?_)
      rcases r_33 with _ | a_33
      ·
        have hok := (hok).1 er_33.symm
        obtain ⟨h_34, hok⟩ := hok
        refine hm_callIr (G := G) (S1 := S) (a := ([.int p0, .null] : List Value).toArray) (rest := [.ref x]) (h_X8_castCause_n p0 S) ?_ hS (fun H locs hP hS => ?_)
        ·
          exact va_runS (As := [.int p0, .null]) (rest := [.ref x]) ⟨hx, hb, hml, hown, hts⟩ (hm_X8_castCause_n l G L S p0 h_34) (va_cwS 2 hts gX8_write_X8_castCause rfl rfl rfl hd_X8_castCause ⟨Nat.le_of_ble_eq_true rfl, Nat.le_of_ble_eq_true rfl⟩) ⟨HW.fb, fun U hU hW => ⟨rfl, HW.call hP hK hnd hE hS U hU hW⟩⟩ rfl rfl hl.1 rfl (lv_room (Nat.le_of_ble_eq_true rfl)) dX8_write_34 ⟨Nat.le_refl 0, Nat.le_refl 0⟩
        ·
          refine lv_goto (tgt := 42) hx hb dX8_write_37 (by decide) ?_
          exact K_42 (h_X8_castCause_n p0 S) _ _ hP hS ls (lv_sub hl [1, 3, 4] rfl) hok (((hK_19).trans ((if_neg c_24).trans (oq_none er_33.symm))))
      ·
        have hok := (hok).2 _ er_33.symm
        obtain ⟨h_34, hok⟩ := hok
        refine hm_callIr (G := G) (S1 := S) (a := ([.int p0, .ref a_33] : List Value).toArray) (rest := [.ref x]) (h_X8_castCause_s p0 a_33 S) ?_ hS (fun H locs hP hS => ?_)
        ·
          exact va_runS (As := [.int p0, .ref a_33]) (rest := [.ref x]) ⟨hx, hb, hml, hown, hts⟩ (hm_X8_castCause_s l G L S p0 a_33 h_34) (va_cwS 2 hts gX8_write_X8_castCause rfl rfl rfl hd_X8_castCause ⟨Nat.le_of_ble_eq_true rfl, Nat.le_of_ble_eq_true rfl⟩) ⟨HW.fb, fun U hU hW => ⟨rfl, HW.call hP hK hnd hE hS U hU hW⟩⟩ rfl rfl hl.1 rfl (lv_room (Nat.le_of_ble_eq_true rfl)) dX8_write_34 ⟨Nat.le_refl 0, Nat.le_refl 0⟩
        ·
          refine lv_goto (tgt := 42) hx hb dX8_write_37 (by decide) ?_
          exact K_42 (h_X8_castCause_s p0 a_33 S) _ _ hP hS ls (lv_sub hl [1, 3, 4] rfl) hok (((hK_19).trans ((if_neg c_24).trans (oq_some er_33.symm))))
  refine lv_if_eq (tgt := 18) hx hb dX8_write_4 (by decide) (fun c_4 => ?_) (fun c_4 => ?_)
  ·
    have hok := (hok).1 c_4
    refine lv_iconst (v := 0) hx hb dX8_write_18 (by decide) ?_
    exact K_19 0 _ _ hP hS ls (lv_sub hl [0, 1, 2, 3] rfl) hok ((if_pos c_4))
  ·
    have hok := (hok).2 c_4
    refine lv_iload_n hx hb dX8_write_7 rfl (lv_at hl 2 rfl) ?_
    refine pm_callI (va_runS (As := [.int p1]) (rest := []) ⟨hx, hb, hml, hown, hts⟩ (pm_X8_isCell l p1) (va_cwS 1 hts gX8_write_X8_isCell rfl rfl rfl hd_X8_isCell ⟨Nat.le_of_ble_eq_true rfl, Nat.le_of_ble_eq_true rfl⟩) ⟨pm_fbT, fun U hU hW => ⟨rfl, trivial⟩⟩ rfl rfl hl.1 rfl (lv_room (Nat.le_of_ble_eq_true rfl)) dX8_write_8 ⟨Nat.le_refl 0, Nat.le_refl 0⟩) hS (fun H locs _ hk9 hS => ?_)
    replace hP := P_keep hP hk9
    refine lv_if_eq (tgt := 18) hx hb dX8_write_11 (by decide) (fun c_11 => ?_) (fun c_11 => ?_)
    ·
      have hok := (hok).1 c_11
      refine lv_iconst (v := 0) hx hb dX8_write_18 (by decide) ?_
      exact K_19 0 _ _ hP hS ls (lv_sub hl [0, 1, 2, 3] rfl) hok (((if_neg c_4).trans (if_pos c_11)))
    ·
      have hok := (hok).2 c_11
      refine lv_iconst (v := 1) hx hb dX8_write_14 (by decide) ?_
      refine lv_goto (tgt := 19) hx hb dX8_write_15 (by decide) ?_
      exact K_19 1 _ _ hP hS ls (lv_sub hl [0, 1, 2, 3] rfl) hok (((if_neg c_4).trans (if_neg c_11)))
