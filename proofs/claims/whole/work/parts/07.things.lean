/-! ===== the class over its cells: what is asked of things (laid by program) ===== -/
theorem hdv_X6_isOf : yX6_isOf.cls = RX6 ∧ yX6_isOf.cls ≠ "java/lang/invoke/MethodHandle" ∧ yX6_isOf.cls ≠ "java/lang/invoke/VarHandle" ∧ (parseMethodDescriptor yX6_isOf.desc).map (fun d => d.parameters.length) = some 1 := by decide +kernel
theorem iw_X6_isOf_X1 : ∀ w ∈ u_ws RX1 TX1 3, w ∈ wsX6_isOf := by decide +kernel
theorem iw_X6_isOf_X2 : ∀ w ∈ u_ws RX2 TX2 3, w ∈ wsX6_isOf := by decide +kernel
theorem iw_X6_isOf_X4 : ∀ w ∈ u_ws RX4 TX4 3, w ∈ wsX6_isOf := by decide +kernel
theorem iw_X6_isOf_X5 : ∀ w ∈ u_ws RX5 TX5 3, w ∈ wsX6_isOf := by decide +kernel
theorem iw_X6_isOf_X7 : ∀ w ∈ u_ws RX7 TX7 3, w ∈ wsX6_isOf := by decide +kernel
def h_X6_isOf (x : Nat) (p0 : Int32) (S : HS) : Int32 :=
  if p0 = 8 then if (hsI S x 0) = 8 then 1
   else if (hsI S x 0) = 9 then 1
    else 0
  else if p0 = 9 then if (hsI S x 0) = p0 then 1
    else 0
   else if p0 = 10 then if (hsI S x 0) < 10 then 0
     else 1
    else if p0 = 11 then if (hsI S x 0) < 11 then 0
      else 1
     else if p0 = 12 then if (hsI S x 0) = p0 then 1
       else 0
      else if p0 = 13 then if (hsI S x 0) < 10 then 0
        else 1
       else if p0 = 14 then if (hsI S x 0) < 11 then 0
         else 1
        else if p0 = 15 then if (hsI S x 0) = 8 then 1
          else if (hsI S x 0) = 9 then 1
           else 0
         else if (hsI S x 0) = p0 then 1
          else 0
def ok_X6_isOf (L : List Nat) (x : Nat) (p0 : Int32) (S : HS) : Prop :=
  ((p0 = 8) → ((x ∈ L ∧ 1 ≤ hsK S x ∧ hsK S x ≤ 5) ∧ ((((hsI S x 0) = 8) → (True)) ∧
   (¬ ((hsI S x 0) = 8) → ((x ∈ L ∧ 1 ≤ hsK S x ∧ hsK S x ≤ 5) ∧ ((((hsI S x 0) = 9) → (True)) ∧
    (¬ ((hsI S x 0) = 9) → (True)))))))) ∧
  (¬ (p0 = 8) → (((p0 = 9) → ((x ∈ L ∧ 1 ≤ hsK S x ∧ hsK S x ≤ 5) ∧ ((((hsI S x 0) = p0) → (True)) ∧
    (¬ ((hsI S x 0) = p0) → (True))))) ∧
   (¬ (p0 = 9) → (((p0 = 10) → ((x ∈ L ∧ 1 ≤ hsK S x ∧ hsK S x ≤ 5) ∧ ((((hsI S x 0) < 10) → (True)) ∧
     (¬ ((hsI S x 0) < 10) → (True))))) ∧
    (¬ (p0 = 10) → (((p0 = 11) → ((x ∈ L ∧ 1 ≤ hsK S x ∧ hsK S x ≤ 5) ∧ ((((hsI S x 0) < 11) → (True)) ∧
      (¬ ((hsI S x 0) < 11) → (True))))) ∧
     (¬ (p0 = 11) → (((p0 = 12) → ((x ∈ L ∧ 1 ≤ hsK S x ∧ hsK S x ≤ 5) ∧ ((((hsI S x 0) = p0) → (True)) ∧
       (¬ ((hsI S x 0) = p0) → (True))))) ∧
      (¬ (p0 = 12) → (((p0 = 13) → ((x ∈ L ∧ 1 ≤ hsK S x ∧ hsK S x ≤ 5) ∧ ((((hsI S x 0) < 10) → (True)) ∧
        (¬ ((hsI S x 0) < 10) → (True))))) ∧
       (¬ (p0 = 13) → (((p0 = 14) → ((x ∈ L ∧ 1 ≤ hsK S x ∧ hsK S x ≤ 5) ∧ ((((hsI S x 0) < 11) → (True)) ∧
         (¬ ((hsI S x 0) < 11) → (True))))) ∧
        (¬ (p0 = 14) → (((p0 = 15) → ((x ∈ L ∧ 1 ≤ hsK S x ∧ hsK S x ≤ 5) ∧ ((((hsI S x 0) = 8) → (True)) ∧
          (¬ ((hsI S x 0) = 8) → ((x ∈ L ∧ 1 ≤ hsK S x ∧ hsK S x ≤ 5) ∧ ((((hsI S x 0) = 9) → (True)) ∧
           (¬ ((hsI S x 0) = 9) → (True)))))))) ∧
         (¬ (p0 = 15) → ((x ∈ L ∧ 1 ≤ hsK S x ∧ hsK S x ≤ 5) ∧ ((((hsI S x 0) = p0) → (True)) ∧
          (¬ ((hsI S x 0) = p0) → (True)))))))))))))))))))
set_option maxHeartbeats 4000000 in
set_option maxRecDepth 100000 in
theorem hm_X6_isOf (l : Launch) (G : GE) (L : List Nat) (S : HS) (x : Nat) (p0 : Int32) (hok : ok_X6_isOf L x p0 S) : HmI l G yX6_isOf wsX6_isOf 0 0 [.ref x, .int p0] L S ((h_X6_isOf x p0 S, S)) := by
  refine Met.ofW (cc := cX6_isOf) (maxL := 2) (ret := (some .boolean)) (by decide) rfl ?_
  intro p e s m args below meth c s₁ B hml hv
  obtain ⟨rfl, hP, hK, hnd, hE⟩ := hv
  have hx := B.exec
  have hb := B.bytes
  have hr := B.returns
  have hts := atoms_spec (ws := wsX6_isOf) B.pre
  have hown : s.vm.findClass RX6 = some m.cls := findClass_of_methodNamed B.named
  have hlocks := B.notSynchronized
  have hD := nd_D hnd
  have hS : va_S (AL L) s.heap s.heap [] := va_S.rf
  have hl := lv_entry ([.ref x, .int p0]) (n := 2) (Nat.le_of_ble_eq_true rfl)
  rw [lg_entry_eq]
  generalize (lg_sl ([.ref x, .int p0]) ++ List.replicate (2 - (lg_sl ([.ref x, .int p0])).length) Slot.unset).toArray = ls at hl ⊢
  have hl : lv_has ls 2 [(0, .ref x), (1, .int p0)] := hl
  obtain ⟨Z, hZ⟩ : ∃ z, z = MQ below (hm_QI G L ((h_X6_isOf x p0 S, S))) ([.ref x, .int p0] : List Value).toArray s 0 0 (AL L) := ⟨_, rfl⟩
  rw [← hZ]
  refine lv_iload_n hx hb dX6_isOf_0 rfl (lv_at hl 1 rfl) ?_
  by_cases c_1_8 : p0 = 8
  ·
    have hok := (hok).1 c_1_8
    refine lv_tableIn (off := 47) (tgt := 48) hx hb dX6_isOf_1 (by rw [c_1_8]; decide) (by rw [c_1_8]; decide) (by rw [c_1_8]; decide) (by decide) ?_
    refine lv_aload_n hx hb dX6_isOf_48 rfl (lv_at hl 0 rfl) ?_
    obtain ⟨h_49, hok⟩ := hok
    refine hp_kind hx hb hts iw_X6_isOf_X1 iw_X6_isOf_X2 iw_X6_isOf_X4 iw_X6_isOf_X5 iw_X6_isOf_X7 hown hK hP h_49 (hts _ (List.mem_of_getElem? (i := 1) rfl)) (fun _ h9 => h9) dX6_isOf_49 ?_
    refine lv_bipush (v := 8) hx hb dX6_isOf_52 (by decide) ?_
    refine lv_icmp_eq (tgt := 66) hx hb dX6_isOf_54 (by decide) (fun c_54 => ?_) (fun c_54 => ?_)
    ·
      have hok := (hok).1 c_54
      refine lv_iconst (v := 1) hx hb dX6_isOf_66 (by decide) ?_
      refine lv_goto (tgt := 71) hx hb dX6_isOf_67 (by decide) ?_
      rw [hZ]
      exact hm_zret hx hb hr hlocks hS (nz_1) hP hK hnd hE (congrArg (fun z => (z, S)) (((if_pos c_1_8).trans (if_pos c_54)))) dX6_isOf_71
    ·
      have hok := (hok).2 c_54
      refine lv_aload_n hx hb dX6_isOf_57 rfl (lv_at hl 0 rfl) ?_
      obtain ⟨h_58, hok⟩ := hok
      refine hp_kind hx hb hts iw_X6_isOf_X1 iw_X6_isOf_X2 iw_X6_isOf_X4 iw_X6_isOf_X5 iw_X6_isOf_X7 hown hK hP h_58 (hts _ (List.mem_of_getElem? (i := 1) rfl)) (fun _ h9 => h9) dX6_isOf_58 ?_
      refine lv_bipush (v := 9) hx hb dX6_isOf_61 (by decide) ?_
      refine lv_icmp_ne (tgt := 70) hx hb dX6_isOf_63 (by decide) (fun c_63 => ?_) (fun c_63 => ?_)
      ·
        have hok := (hok).2 c_63
        refine lv_iconst (v := 0) hx hb dX6_isOf_70 (by decide) ?_
        rw [hZ]
        exact hm_zret hx hb hr hlocks hS (nz_0) hP hK hnd hE (congrArg (fun z => (z, S)) (((if_pos c_1_8).trans ((if_neg c_54).trans (if_neg c_63))))) dX6_isOf_71
      ·
        have hok := (hok).1 c_63
        refine lv_iconst (v := 1) hx hb dX6_isOf_66 (by decide) ?_
        refine lv_goto (tgt := 71) hx hb dX6_isOf_67 (by decide) ?_
        rw [hZ]
        exact hm_zret hx hb hr hlocks hS (nz_1) hP hK hnd hE (congrArg (fun z => (z, S)) (((if_pos c_1_8).trans ((if_neg c_54).trans (if_pos c_63))))) dX6_isOf_71
  ·
    have hok := (hok).2 c_1_8
    by_cases c_1_9 : p0 = 9
    ·
      have hok := (hok).1 c_1_9
      refine lv_tableIn (off := 101) (tgt := 102) hx hb dX6_isOf_1 (by rw [c_1_9]; decide) (by rw [c_1_9]; decide) (by rw [c_1_9]; decide) (by decide) ?_
      refine lv_aload_n hx hb dX6_isOf_102 rfl (lv_at hl 0 rfl) ?_
      obtain ⟨h_103, hok⟩ := hok
      refine hp_kind hx hb hts iw_X6_isOf_X1 iw_X6_isOf_X2 iw_X6_isOf_X4 iw_X6_isOf_X5 iw_X6_isOf_X7 hown hK hP h_103 (hts _ (List.mem_of_getElem? (i := 1) rfl)) (fun _ h9 => h9) dX6_isOf_103 ?_
      refine lv_iload_n hx hb dX6_isOf_106 rfl (lv_at hl 1 rfl) ?_
      refine lv_icmp_ne (tgt := 114) hx hb dX6_isOf_107 (by decide) (fun c_107 => ?_) (fun c_107 => ?_)
      ·
        have hok := (hok).2 c_107
        refine lv_iconst (v := 0) hx hb dX6_isOf_114 (by decide) ?_
        rw [hZ]
        exact hm_zret hx hb hr hlocks hS (nz_0) hP hK hnd hE (congrArg (fun z => (z, S)) (((if_neg c_1_8).trans ((if_pos c_1_9).trans (if_neg c_107))))) dX6_isOf_115
      ·
        have hok := (hok).1 c_107
        refine lv_iconst (v := 1) hx hb dX6_isOf_110 (by decide) ?_
        refine lv_goto (tgt := 115) hx hb dX6_isOf_111 (by decide) ?_
        rw [hZ]
        exact hm_zret hx hb hr hlocks hS (nz_1) hP hK hnd hE (congrArg (fun z => (z, S)) (((if_neg c_1_8).trans ((if_pos c_1_9).trans (if_pos c_107))))) dX6_isOf_115
    ·
      have hok := (hok).2 c_1_9
      by_cases c_1_10 : p0 = 10
      ·
        have hok := (hok).1 c_1_10
        refine lv_tableIn (off := 71) (tgt := 72) hx hb dX6_isOf_1 (by rw [c_1_10]; decide) (by rw [c_1_10]; decide) (by rw [c_1_10]; decide) (by decide) ?_
        refine lv_aload_n hx hb dX6_isOf_72 rfl (lv_at hl 0 rfl) ?_
        obtain ⟨h_73, hok⟩ := hok
        refine hp_kind hx hb hts iw_X6_isOf_X1 iw_X6_isOf_X2 iw_X6_isOf_X4 iw_X6_isOf_X5 iw_X6_isOf_X7 hown hK hP h_73 (hts _ (List.mem_of_getElem? (i := 1) rfl)) (fun _ h9 => h9) dX6_isOf_73 ?_
        refine lv_bipush (v := 10) hx hb dX6_isOf_76 (by decide) ?_
        refine lv_icmp_lt (tgt := 85) hx hb dX6_isOf_78 (by decide) (fun c_78 => ?_) (fun c_78 => ?_)
        ·
          have hok := (hok).1 c_78
          refine lv_iconst (v := 0) hx hb dX6_isOf_85 (by decide) ?_
          rw [hZ]
          exact hm_zret hx hb hr hlocks hS (nz_0) hP hK hnd hE (congrArg (fun z => (z, S)) (((if_neg c_1_8).trans ((if_neg c_1_9).trans ((if_pos c_1_10).trans (if_pos c_78)))))) dX6_isOf_86
        ·
          have hok := (hok).2 c_78
          refine lv_iconst (v := 1) hx hb dX6_isOf_81 (by decide) ?_
          refine lv_goto (tgt := 86) hx hb dX6_isOf_82 (by decide) ?_
          rw [hZ]
          exact hm_zret hx hb hr hlocks hS (nz_1) hP hK hnd hE (congrArg (fun z => (z, S)) (((if_neg c_1_8).trans ((if_neg c_1_9).trans ((if_pos c_1_10).trans (if_neg c_78)))))) dX6_isOf_86
      ·
        have hok := (hok).2 c_1_10
        by_cases c_1_11 : p0 = 11
        ·
          have hok := (hok).1 c_1_11
          refine lv_tableIn (off := 86) (tgt := 87) hx hb dX6_isOf_1 (by rw [c_1_11]; decide) (by rw [c_1_11]; decide) (by rw [c_1_11]; decide) (by decide) ?_
          refine lv_aload_n hx hb dX6_isOf_87 rfl (lv_at hl 0 rfl) ?_
          obtain ⟨h_88, hok⟩ := hok
          refine hp_kind hx hb hts iw_X6_isOf_X1 iw_X6_isOf_X2 iw_X6_isOf_X4 iw_X6_isOf_X5 iw_X6_isOf_X7 hown hK hP h_88 (hts _ (List.mem_of_getElem? (i := 1) rfl)) (fun _ h9 => h9) dX6_isOf_88 ?_
          refine lv_bipush (v := 11) hx hb dX6_isOf_91 (by decide) ?_
          refine lv_icmp_lt (tgt := 100) hx hb dX6_isOf_93 (by decide) (fun c_93 => ?_) (fun c_93 => ?_)
          ·
            have hok := (hok).1 c_93
            refine lv_iconst (v := 0) hx hb dX6_isOf_100 (by decide) ?_
            rw [hZ]
            exact hm_zret hx hb hr hlocks hS (nz_0) hP hK hnd hE (congrArg (fun z => (z, S)) (((if_neg c_1_8).trans ((if_neg c_1_9).trans ((if_neg c_1_10).trans ((if_pos c_1_11).trans (if_pos c_93))))))) dX6_isOf_101
          ·
            have hok := (hok).2 c_93
            refine lv_iconst (v := 1) hx hb dX6_isOf_96 (by decide) ?_
            refine lv_goto (tgt := 101) hx hb dX6_isOf_97 (by decide) ?_
            rw [hZ]
            exact hm_zret hx hb hr hlocks hS (nz_1) hP hK hnd hE (congrArg (fun z => (z, S)) (((if_neg c_1_8).trans ((if_neg c_1_9).trans ((if_neg c_1_10).trans ((if_pos c_1_11).trans (if_neg c_93))))))) dX6_isOf_101
        ·
          have hok := (hok).2 c_1_11
          by_cases c_1_12 : p0 = 12
          ·
            have hok := (hok).1 c_1_12
            refine lv_tableIn (off := 101) (tgt := 102) hx hb dX6_isOf_1 (by rw [c_1_12]; decide) (by rw [c_1_12]; decide) (by rw [c_1_12]; decide) (by decide) ?_
            refine lv_aload_n hx hb dX6_isOf_102 rfl (lv_at hl 0 rfl) ?_
            obtain ⟨h_103, hok⟩ := hok
            refine hp_kind hx hb hts iw_X6_isOf_X1 iw_X6_isOf_X2 iw_X6_isOf_X4 iw_X6_isOf_X5 iw_X6_isOf_X7 hown hK hP h_103 (hts _ (List.mem_of_getElem? (i := 1) rfl)) (fun _ h9 => h9) dX6_isOf_103 ?_
            refine lv_iload_n hx hb dX6_isOf_106 rfl (lv_at hl 1 rfl) ?_
            refine lv_icmp_ne (tgt := 114) hx hb dX6_isOf_107 (by decide) (fun c_107 => ?_) (fun c_107 => ?_)
            ·
              have hok := (hok).2 c_107
              refine lv_iconst (v := 0) hx hb dX6_isOf_114 (by decide) ?_
              rw [hZ]
              exact hm_zret hx hb hr hlocks hS (nz_0) hP hK hnd hE (congrArg (fun z => (z, S)) (((if_neg c_1_8).trans ((if_neg c_1_9).trans ((if_neg c_1_10).trans ((if_neg c_1_11).trans ((if_pos c_1_12).trans (if_neg c_107)))))))) dX6_isOf_115
            ·
              have hok := (hok).1 c_107
              refine lv_iconst (v := 1) hx hb dX6_isOf_110 (by decide) ?_
              refine lv_goto (tgt := 115) hx hb dX6_isOf_111 (by decide) ?_
              rw [hZ]
              exact hm_zret hx hb hr hlocks hS (nz_1) hP hK hnd hE (congrArg (fun z => (z, S)) (((if_neg c_1_8).trans ((if_neg c_1_9).trans ((if_neg c_1_10).trans ((if_neg c_1_11).trans ((if_pos c_1_12).trans (if_pos c_107)))))))) dX6_isOf_115
          ·
            have hok := (hok).2 c_1_12
            by_cases c_1_13 : p0 = 13
            ·
              have hok := (hok).1 c_1_13
              refine lv_tableIn (off := 71) (tgt := 72) hx hb dX6_isOf_1 (by rw [c_1_13]; decide) (by rw [c_1_13]; decide) (by rw [c_1_13]; decide) (by decide) ?_
              refine lv_aload_n hx hb dX6_isOf_72 rfl (lv_at hl 0 rfl) ?_
              obtain ⟨h_73, hok⟩ := hok
              refine hp_kind hx hb hts iw_X6_isOf_X1 iw_X6_isOf_X2 iw_X6_isOf_X4 iw_X6_isOf_X5 iw_X6_isOf_X7 hown hK hP h_73 (hts _ (List.mem_of_getElem? (i := 1) rfl)) (fun _ h9 => h9) dX6_isOf_73 ?_
              refine lv_bipush (v := 10) hx hb dX6_isOf_76 (by decide) ?_
              refine lv_icmp_lt (tgt := 85) hx hb dX6_isOf_78 (by decide) (fun c_78 => ?_) (fun c_78 => ?_)
              ·
                have hok := (hok).1 c_78
                refine lv_iconst (v := 0) hx hb dX6_isOf_85 (by decide) ?_
                rw [hZ]
                exact hm_zret hx hb hr hlocks hS (nz_0) hP hK hnd hE (congrArg (fun z => (z, S)) (((if_neg c_1_8).trans ((if_neg c_1_9).trans ((if_neg c_1_10).trans ((if_neg c_1_11).trans ((if_neg c_1_12).trans ((if_pos c_1_13).trans (if_pos c_78))))))))) dX6_isOf_86
              ·
                have hok := (hok).2 c_78
                refine lv_iconst (v := 1) hx hb dX6_isOf_81 (by decide) ?_
                refine lv_goto (tgt := 86) hx hb dX6_isOf_82 (by decide) ?_
                rw [hZ]
                exact hm_zret hx hb hr hlocks hS (nz_1) hP hK hnd hE (congrArg (fun z => (z, S)) (((if_neg c_1_8).trans ((if_neg c_1_9).trans ((if_neg c_1_10).trans ((if_neg c_1_11).trans ((if_neg c_1_12).trans ((if_pos c_1_13).trans (if_neg c_78))))))))) dX6_isOf_86
            ·
              have hok := (hok).2 c_1_13
              by_cases c_1_14 : p0 = 14
              ·
                have hok := (hok).1 c_1_14
                refine lv_tableIn (off := 86) (tgt := 87) hx hb dX6_isOf_1 (by rw [c_1_14]; decide) (by rw [c_1_14]; decide) (by rw [c_1_14]; decide) (by decide) ?_
                refine lv_aload_n hx hb dX6_isOf_87 rfl (lv_at hl 0 rfl) ?_
                obtain ⟨h_88, hok⟩ := hok
                refine hp_kind hx hb hts iw_X6_isOf_X1 iw_X6_isOf_X2 iw_X6_isOf_X4 iw_X6_isOf_X5 iw_X6_isOf_X7 hown hK hP h_88 (hts _ (List.mem_of_getElem? (i := 1) rfl)) (fun _ h9 => h9) dX6_isOf_88 ?_
                refine lv_bipush (v := 11) hx hb dX6_isOf_91 (by decide) ?_
                refine lv_icmp_lt (tgt := 100) hx hb dX6_isOf_93 (by decide) (fun c_93 => ?_) (fun c_93 => ?_)
                ·
                  have hok := (hok).1 c_93
                  refine lv_iconst (v := 0) hx hb dX6_isOf_100 (by decide) ?_
                  rw [hZ]
                  exact hm_zret hx hb hr hlocks hS (nz_0) hP hK hnd hE (congrArg (fun z => (z, S)) (((if_neg c_1_8).trans ((if_neg c_1_9).trans ((if_neg c_1_10).trans ((if_neg c_1_11).trans ((if_neg c_1_12).trans ((if_neg c_1_13).trans ((if_pos c_1_14).trans (if_pos c_93)))))))))) dX6_isOf_101
                ·
                  have hok := (hok).2 c_93
                  refine lv_iconst (v := 1) hx hb dX6_isOf_96 (by decide) ?_
                  refine lv_goto (tgt := 101) hx hb dX6_isOf_97 (by decide) ?_
                  rw [hZ]
                  exact hm_zret hx hb hr hlocks hS (nz_1) hP hK hnd hE (congrArg (fun z => (z, S)) (((if_neg c_1_8).trans ((if_neg c_1_9).trans ((if_neg c_1_10).trans ((if_neg c_1_11).trans ((if_neg c_1_12).trans ((if_neg c_1_13).trans ((if_pos c_1_14).trans (if_neg c_93)))))))))) dX6_isOf_101
              ·
                have hok := (hok).2 c_1_14
                by_cases c_1_15 : p0 = 15
                ·
                  have hok := (hok).1 c_1_15
                  refine lv_tableIn (off := 47) (tgt := 48) hx hb dX6_isOf_1 (by rw [c_1_15]; decide) (by rw [c_1_15]; decide) (by rw [c_1_15]; decide) (by decide) ?_
                  refine lv_aload_n hx hb dX6_isOf_48 rfl (lv_at hl 0 rfl) ?_
                  obtain ⟨h_49, hok⟩ := hok
                  refine hp_kind hx hb hts iw_X6_isOf_X1 iw_X6_isOf_X2 iw_X6_isOf_X4 iw_X6_isOf_X5 iw_X6_isOf_X7 hown hK hP h_49 (hts _ (List.mem_of_getElem? (i := 1) rfl)) (fun _ h9 => h9) dX6_isOf_49 ?_
                  refine lv_bipush (v := 8) hx hb dX6_isOf_52 (by decide) ?_
                  refine lv_icmp_eq (tgt := 66) hx hb dX6_isOf_54 (by decide) (fun c_54 => ?_) (fun c_54 => ?_)
                  ·
                    have hok := (hok).1 c_54
                    refine lv_iconst (v := 1) hx hb dX6_isOf_66 (by decide) ?_
                    refine lv_goto (tgt := 71) hx hb dX6_isOf_67 (by decide) ?_
                    rw [hZ]
                    exact hm_zret hx hb hr hlocks hS (nz_1) hP hK hnd hE (congrArg (fun z => (z, S)) (((if_neg c_1_8).trans ((if_neg c_1_9).trans ((if_neg c_1_10).trans ((if_neg c_1_11).trans ((if_neg c_1_12).trans ((if_neg c_1_13).trans ((if_neg c_1_14).trans ((if_pos c_1_15).trans (if_pos c_54))))))))))) dX6_isOf_71
                  ·
                    have hok := (hok).2 c_54
                    refine lv_aload_n hx hb dX6_isOf_57 rfl (lv_at hl 0 rfl) ?_
                    obtain ⟨h_58, hok⟩ := hok
                    refine hp_kind hx hb hts iw_X6_isOf_X1 iw_X6_isOf_X2 iw_X6_isOf_X4 iw_X6_isOf_X5 iw_X6_isOf_X7 hown hK hP h_58 (hts _ (List.mem_of_getElem? (i := 1) rfl)) (fun _ h9 => h9) dX6_isOf_58 ?_
                    refine lv_bipush (v := 9) hx hb dX6_isOf_61 (by decide) ?_
                    refine lv_icmp_ne (tgt := 70) hx hb dX6_isOf_63 (by decide) (fun c_63 => ?_) (fun c_63 => ?_)
                    ·
                      have hok := (hok).2 c_63
                      refine lv_iconst (v := 0) hx hb dX6_isOf_70 (by decide) ?_
                      rw [hZ]
                      exact hm_zret hx hb hr hlocks hS (nz_0) hP hK hnd hE (congrArg (fun z => (z, S)) (((if_neg c_1_8).trans ((if_neg c_1_9).trans ((if_neg c_1_10).trans ((if_neg c_1_11).trans ((if_neg c_1_12).trans ((if_neg c_1_13).trans ((if_neg c_1_14).trans ((if_pos c_1_15).trans ((if_neg c_54).trans (if_neg c_63)))))))))))) dX6_isOf_71
                    ·
                      have hok := (hok).1 c_63
                      refine lv_iconst (v := 1) hx hb dX6_isOf_66 (by decide) ?_
                      refine lv_goto (tgt := 71) hx hb dX6_isOf_67 (by decide) ?_
                      rw [hZ]
                      exact hm_zret hx hb hr hlocks hS (nz_1) hP hK hnd hE (congrArg (fun z => (z, S)) (((if_neg c_1_8).trans ((if_neg c_1_9).trans ((if_neg c_1_10).trans ((if_neg c_1_11).trans ((if_neg c_1_12).trans ((if_neg c_1_13).trans ((if_neg c_1_14).trans ((if_pos c_1_15).trans ((if_neg c_54).trans (if_pos c_63)))))))))))) dX6_isOf_71
                ·
                  have hok := (hok).2 c_1_15
                  have nc_1_8 : (p0).toInt ≠ 8 := fun h => c_1_8 (Int32.toInt.inj (h.trans (by decide)))
                  have nc_1_9 : (p0).toInt ≠ 9 := fun h => c_1_9 (Int32.toInt.inj (h.trans (by decide)))
                  have nc_1_10 : (p0).toInt ≠ 10 := fun h => c_1_10 (Int32.toInt.inj (h.trans (by decide)))
                  have nc_1_11 : (p0).toInt ≠ 11 := fun h => c_1_11 (Int32.toInt.inj (h.trans (by decide)))
                  have nc_1_12 : (p0).toInt ≠ 12 := fun h => c_1_12 (Int32.toInt.inj (h.trans (by decide)))
                  have nc_1_13 : (p0).toInt ≠ 13 := fun h => c_1_13 (Int32.toInt.inj (h.trans (by decide)))
                  have nc_1_14 : (p0).toInt ≠ 14 := fun h => c_1_14 (Int32.toInt.inj (h.trans (by decide)))
                  have nc_1_15 : (p0).toInt ≠ 15 := fun h => c_1_15 (Int32.toInt.inj (h.trans (by decide)))
                  refine lv_tableOut (tgt := 102) hx hb dX6_isOf_1 (by omega) (by decide) ?_
                  refine lv_aload_n hx hb dX6_isOf_102 rfl (lv_at hl 0 rfl) ?_
                  obtain ⟨h_103, hok⟩ := hok
                  refine hp_kind hx hb hts iw_X6_isOf_X1 iw_X6_isOf_X2 iw_X6_isOf_X4 iw_X6_isOf_X5 iw_X6_isOf_X7 hown hK hP h_103 (hts _ (List.mem_of_getElem? (i := 1) rfl)) (fun _ h9 => h9) dX6_isOf_103 ?_
                  refine lv_iload_n hx hb dX6_isOf_106 rfl (lv_at hl 1 rfl) ?_
                  refine lv_icmp_ne (tgt := 114) hx hb dX6_isOf_107 (by decide) (fun c_107 => ?_) (fun c_107 => ?_)
                  ·
                    have hok := (hok).2 c_107
                    refine lv_iconst (v := 0) hx hb dX6_isOf_114 (by decide) ?_
                    rw [hZ]
                    exact hm_zret hx hb hr hlocks hS (nz_0) hP hK hnd hE (congrArg (fun z => (z, S)) (((if_neg c_1_8).trans ((if_neg c_1_9).trans ((if_neg c_1_10).trans ((if_neg c_1_11).trans ((if_neg c_1_12).trans ((if_neg c_1_13).trans ((if_neg c_1_14).trans ((if_neg c_1_15).trans (if_neg c_107))))))))))) dX6_isOf_115
                  ·
                    have hok := (hok).1 c_107
                    refine lv_iconst (v := 1) hx hb dX6_isOf_110 (by decide) ?_
                    refine lv_goto (tgt := 115) hx hb dX6_isOf_111 (by decide) ?_
                    rw [hZ]
                    exact hm_zret hx hb hr hlocks hS (nz_1) hP hK hnd hE (congrArg (fun z => (z, S)) (((if_neg c_1_8).trans ((if_neg c_1_9).trans ((if_neg c_1_10).trans ((if_neg c_1_11).trans ((if_neg c_1_12).trans ((if_neg c_1_13).trans ((if_neg c_1_14).trans ((if_neg c_1_15).trans (if_pos c_107))))))))))) dX6_isOf_115
theorem hdv_X6_holds : yX6_holds.cls = RX6 ∧ yX6_holds.cls ≠ "java/lang/invoke/MethodHandle" ∧ yX6_holds.cls ≠ "java/lang/invoke/VarHandle" ∧ (parseMethodDescriptor yX6_holds.desc).map (fun d => d.parameters.length) = some 1 := by decide +kernel
theorem iw_X6_holds_X1 : ∀ w ∈ u_ws RX1 TX1 3, w ∈ wsX6_holds := by decide +kernel
theorem iw_X6_holds_X2 : ∀ w ∈ u_ws RX2 TX2 3, w ∈ wsX6_holds := by decide +kernel
theorem iw_X6_holds_X4 : ∀ w ∈ u_ws RX4 TX4 3, w ∈ wsX6_holds := by decide +kernel
theorem iw_X6_holds_X5 : ∀ w ∈ u_ws RX5 TX5 3, w ∈ wsX6_holds := by decide +kernel
theorem iw_X6_holds_X7 : ∀ w ∈ u_ws RX7 TX7 3, w ∈ wsX6_holds := by decide +kernel
def h_X6_holds (x : Nat) (p0 : Int32) (S : HS) : Int32 :=
  if p0 < 0 then 0
  else if (hsI S x 1) ≤ p0 then 0
   else 1
def ok_X6_holds (L : List Nat) (x : Nat) (p0 : Int32) (S : HS) : Prop :=
  ((p0 < 0) → (True)) ∧
  (¬ (p0 < 0) → ((x ∈ L ∧ 1 ≤ hsK S x ∧ hsK S x ≤ 5) ∧ ((((hsI S x 1) ≤ p0) → (True)) ∧
   (¬ ((hsI S x 1) ≤ p0) → (True)))))
set_option maxHeartbeats 4000000 in
set_option maxRecDepth 100000 in
theorem hm_X6_holds (l : Launch) (G : GE) (L : List Nat) (S : HS) (x : Nat) (p0 : Int32) (hok : ok_X6_holds L x p0 S) : HmI l G yX6_holds wsX6_holds 0 0 [.ref x, .int p0] L S ((h_X6_holds x p0 S, S)) := by
  refine Met.ofW (cc := cX6_holds) (maxL := 2) (ret := (some .boolean)) (by decide) rfl ?_
  intro p e s m args below meth c s₁ B hml hv
  obtain ⟨rfl, hP, hK, hnd, hE⟩ := hv
  have hx := B.exec
  have hb := B.bytes
  have hr := B.returns
  have hts := atoms_spec (ws := wsX6_holds) B.pre
  have hown : s.vm.findClass RX6 = some m.cls := findClass_of_methodNamed B.named
  have hlocks := B.notSynchronized
  have hD := nd_D hnd
  have hS : va_S (AL L) s.heap s.heap [] := va_S.rf
  have hl := lv_entry ([.ref x, .int p0]) (n := 2) (Nat.le_of_ble_eq_true rfl)
  rw [lg_entry_eq]
  generalize (lg_sl ([.ref x, .int p0]) ++ List.replicate (2 - (lg_sl ([.ref x, .int p0])).length) Slot.unset).toArray = ls at hl ⊢
  have hl : lv_has ls 2 [(0, .ref x), (1, .int p0)] := hl
  obtain ⟨Z, hZ⟩ : ∃ z, z = MQ below (hm_QI G L ((h_X6_holds x p0 S, S))) ([.ref x, .int p0] : List Value).toArray s 0 0 (AL L) := ⟨_, rfl⟩
  rw [← hZ]
  refine lv_iload_n hx hb dX6_holds_0 rfl (lv_at hl 1 rfl) ?_
  refine lv_if_lt (tgt := 16) hx hb dX6_holds_1 (by decide) (fun c_1 => ?_) (fun c_1 => ?_)
  ·
    have hok := (hok).1 c_1
    refine lv_iconst (v := 0) hx hb dX6_holds_16 (by decide) ?_
    rw [hZ]
    exact hm_zret hx hb hr hlocks hS (nz_0) hP hK hnd hE (congrArg (fun z => (z, S)) ((if_pos c_1))) dX6_holds_17
  ·
    have hok := (hok).2 c_1
    refine lv_iload_n hx hb dX6_holds_4 rfl (lv_at hl 1 rfl) ?_
    refine lv_aload_n hx hb dX6_holds_5 rfl (lv_at hl 0 rfl) ?_
    obtain ⟨h_6, hok⟩ := hok
    refine hp_length hx hb hts iw_X6_holds_X1 iw_X6_holds_X2 iw_X6_holds_X4 iw_X6_holds_X5 iw_X6_holds_X7 hown hK hP h_6 (hts _ (List.mem_of_getElem? (i := 1) rfl)) (fun _ h9 => h9) dX6_holds_6 ?_
    refine lv_icmp_ge (tgt := 16) hx hb dX6_holds_9 (by decide) (fun c_9 => ?_) (fun c_9 => ?_)
    ·
      have hok := (hok).1 c_9
      refine lv_iconst (v := 0) hx hb dX6_holds_16 (by decide) ?_
      rw [hZ]
      exact hm_zret hx hb hr hlocks hS (nz_0) hP hK hnd hE (congrArg (fun z => (z, S)) (((if_neg c_1).trans (if_pos c_9)))) dX6_holds_17
    ·
      have hok := (hok).2 c_9
      refine lv_iconst (v := 1) hx hb dX6_holds_12 (by decide) ?_
      refine lv_goto (tgt := 17) hx hb dX6_holds_13 (by decide) ?_
      rw [hZ]
      exact hm_zret hx hb hr hlocks hS (nz_1) hP hK hnd hE (congrArg (fun z => (z, S)) (((if_neg c_1).trans (if_neg c_9)))) dX6_holds_17
theorem hdv_X2_size : yX2_size.cls = RX2 ∧ yX2_size.cls ≠ "java/lang/invoke/MethodHandle" ∧ yX2_size.cls ≠ "java/lang/invoke/VarHandle" ∧ (parseMethodDescriptor yX2_size.desc).map (fun d => d.parameters.length) = some 0 := by decide +kernel
theorem iw_X2_size_X2 : ∀ w ∈ u_ws RX2 TX2 3, w ∈ wsX2_size := by decide +kernel
theorem iw_X2_size_X4 : ∀ w ∈ u_ws RX4 TX4 3, w ∈ wsX2_size := by decide +kernel
theorem iw_X2_size_X5 : ∀ w ∈ u_ws RX5 TX5 3, w ∈ wsX2_size := by decide +kernel
def h_X2_size (x : Nat) (S : HS) : Int32 :=
  hsI S x 2
def ok_X2_size (L : List Nat) (x : Nat) (S : HS) : Prop :=
  (x ∈ L ∧ 2 ≤ hsK S x ∧ hsK S x ≤ 4) ∧ (True)
set_option maxHeartbeats 4000000 in
set_option maxRecDepth 100000 in
theorem hm_X2_size (l : Launch) (G : GE) (L : List Nat) (S : HS) (x : Nat) (hok : ok_X2_size L x S) : HmI l G yX2_size wsX2_size 0 0 [.ref x] L S ((h_X2_size x S, S)) := by
  refine Met.ofW (cc := cX2_size) (maxL := 1) (ret := (some .int)) (by decide) rfl ?_
  intro p e s m args below meth c s₁ B hml hv
  obtain ⟨rfl, hP, hK, hnd, hE⟩ := hv
  have hx := B.exec
  have hb := B.bytes
  have hr := B.returns
  have hts := atoms_spec (ws := wsX2_size) B.pre
  have hown : s.vm.findClass RX2 = some m.cls := findClass_of_methodNamed B.named
  have hlocks := B.notSynchronized
  have hD := nd_D hnd
  have hS : va_S (AL L) s.heap s.heap [] := va_S.rf
  have hl := lv_entry ([.ref x]) (n := 1) (Nat.le_of_ble_eq_true rfl)
  rw [lg_entry_eq]
  generalize (lg_sl ([.ref x]) ++ List.replicate (1 - (lg_sl ([.ref x])).length) Slot.unset).toArray = ls at hl ⊢
  have hl : lv_has ls 1 [(0, .ref x)] := hl
  obtain ⟨Z, hZ⟩ : ∃ z, z = MQ below (hm_QI G L ((h_X2_size x S, S))) ([.ref x] : List Value).toArray s 0 0 (AL L) := ⟨_, rfl⟩
  rw [← hZ]
  refine lv_aload_n hx hb dX2_size_0 rfl (lv_at hl 0 rfl) ?_
  obtain ⟨h_1, hok⟩ := hok
  refine hp_value hx hb hts iw_X2_size_X2 iw_X2_size_X4 iw_X2_size_X5 hown hK hP h_1 (hts _ (List.mem_of_getElem? (i := 1) rfl)) (fun _ h9 => h9) dX2_size_1 ?_
  rw [hZ]
  exact hm_iret hx hb hr hlocks hS hP hK hnd hE (congrArg (fun z => (z, S)) (rfl)) dX2_size_4
theorem hdv_X2_mark : yX2_mark.cls = RX2 ∧ yX2_mark.cls ≠ "java/lang/invoke/MethodHandle" ∧ yX2_mark.cls ≠ "java/lang/invoke/VarHandle" ∧ (parseMethodDescriptor yX2_mark.desc).map (fun d => d.parameters.length) = some 0 := by decide +kernel
theorem iw_X2_mark_X2 : ∀ w ∈ u_ws RX2 TX2 3, w ∈ wsX2_mark := by decide +kernel
theorem iw_X2_mark_X4 : ∀ w ∈ u_ws RX4 TX4 3, w ∈ wsX2_mark := by decide +kernel
theorem iw_X2_mark_X5 : ∀ w ∈ u_ws RX5 TX5 3, w ∈ wsX2_mark := by decide +kernel
def h_X2_mark (x : Nat) (S : HS) : Int32 :=
  (7 * (hsI S x 2)) + 1
def ok_X2_mark (L : List Nat) (x : Nat) (S : HS) : Prop :=
  (x ∈ L ∧ 2 ≤ hsK S x ∧ hsK S x ≤ 4) ∧ (True)
set_option maxHeartbeats 4000000 in
set_option maxRecDepth 100000 in
theorem hm_X2_mark (l : Launch) (G : GE) (L : List Nat) (S : HS) (x : Nat) (hok : ok_X2_mark L x S) : HmI l G yX2_mark wsX2_mark 0 0 [.ref x] L S ((h_X2_mark x S, S)) := by
  refine Met.ofW (cc := cX2_mark) (maxL := 1) (ret := (some .int)) (by decide) rfl ?_
  intro p e s m args below meth c s₁ B hml hv
  obtain ⟨rfl, hP, hK, hnd, hE⟩ := hv
  have hx := B.exec
  have hb := B.bytes
  have hr := B.returns
  have hts := atoms_spec (ws := wsX2_mark) B.pre
  have hown : s.vm.findClass RX2 = some m.cls := findClass_of_methodNamed B.named
  have hlocks := B.notSynchronized
  have hD := nd_D hnd
  have hS : va_S (AL L) s.heap s.heap [] := va_S.rf
  have hl := lv_entry ([.ref x]) (n := 1) (Nat.le_of_ble_eq_true rfl)
  rw [lg_entry_eq]
  generalize (lg_sl ([.ref x]) ++ List.replicate (1 - (lg_sl ([.ref x])).length) Slot.unset).toArray = ls at hl ⊢
  have hl : lv_has ls 1 [(0, .ref x)] := hl
  obtain ⟨Z, hZ⟩ : ∃ z, z = MQ below (hm_QI G L ((h_X2_mark x S, S))) ([.ref x] : List Value).toArray s 0 0 (AL L) := ⟨_, rfl⟩
  rw [← hZ]
  refine lv_bipush (v := 7) hx hb dX2_mark_0 (by decide) ?_
  refine lv_aload_n hx hb dX2_mark_2 rfl (lv_at hl 0 rfl) ?_
  obtain ⟨h_3, hok⟩ := hok
  refine hp_value hx hb hts iw_X2_mark_X2 iw_X2_mark_X4 iw_X2_mark_X5 hown hK hP h_3 (hts _ (List.mem_of_getElem? (i := 1) rfl)) (fun _ h9 => h9) dX2_mark_3 ?_
  refine lv_imul hx hb dX2_mark_6 ?_
  refine lv_iconst (v := 1) hx hb dX2_mark_7 (by decide) ?_
  refine lv_iadd hx hb dX2_mark_8 ?_
  rw [hZ]
  exact hm_iret hx hb hr hlocks hS hP hK hnd hE (congrArg (fun z => (z, S)) (rfl)) dX2_mark_9
theorem hdv_X2_step : yX2_step.cls = RX2 ∧ yX2_step.cls ≠ "java/lang/invoke/MethodHandle" ∧ yX2_step.cls ≠ "java/lang/invoke/VarHandle" ∧ (parseMethodDescriptor yX2_step.desc).map (fun d => d.parameters.length) = some 0 := by decide +kernel
theorem iw_X2_step_X2 : ∀ w ∈ u_ws RX2 TX2 3, w ∈ wsX2_step := by decide +kernel
theorem iw_X2_step_X4 : ∀ w ∈ u_ws RX4 TX4 3, w ∈ wsX2_step := by decide +kernel
theorem iw_X2_step_X5 : ∀ w ∈ u_ws RX5 TX5 3, w ∈ wsX2_step := by decide +kernel
def h_X2_step (x : Nat) (S : HS) : Int32 :=
  1000 + (hsI S x 2)
def ok_X2_step (L : List Nat) (x : Nat) (S : HS) : Prop :=
  (x ∈ L ∧ 2 ≤ hsK S x ∧ hsK S x ≤ 4) ∧ (True)
set_option maxHeartbeats 4000000 in
set_option maxRecDepth 100000 in
theorem hm_X2_step (l : Launch) (G : GE) (L : List Nat) (S : HS) (x : Nat) (hok : ok_X2_step L x S) : HmI l G yX2_step wsX2_step 0 0 [.ref x] L S ((h_X2_step x S, S)) := by
  refine Met.ofW (cc := cX2_step) (maxL := 1) (ret := (some .int)) (by decide) rfl ?_
  intro p e s m args below meth c s₁ B hml hv
  obtain ⟨rfl, hP, hK, hnd, hE⟩ := hv
  have hx := B.exec
  have hb := B.bytes
  have hr := B.returns
  have hts := atoms_spec (ws := wsX2_step) B.pre
  have hown : s.vm.findClass RX2 = some m.cls := findClass_of_methodNamed B.named
  have hlocks := B.notSynchronized
  have hD := nd_D hnd
  have hS : va_S (AL L) s.heap s.heap [] := va_S.rf
  have hl := lv_entry ([.ref x]) (n := 1) (Nat.le_of_ble_eq_true rfl)
  rw [lg_entry_eq]
  generalize (lg_sl ([.ref x]) ++ List.replicate (1 - (lg_sl ([.ref x])).length) Slot.unset).toArray = ls at hl ⊢
  have hl : lv_has ls 1 [(0, .ref x)] := hl
  obtain ⟨Z, hZ⟩ : ∃ z, z = MQ below (hm_QI G L ((h_X2_step x S, S))) ([.ref x] : List Value).toArray s 0 0 (AL L) := ⟨_, rfl⟩
  rw [← hZ]
  refine lv_sipush (v := 1000) hx hb dX2_step_0 (by decide) ?_
  refine lv_aload_n hx hb dX2_step_3 rfl (lv_at hl 0 rfl) ?_
  obtain ⟨h_4, hok⟩ := hok
  refine hp_value hx hb hts iw_X2_step_X2 iw_X2_step_X4 iw_X2_step_X5 hown hK hP h_4 (hts _ (List.mem_of_getElem? (i := 1) rfl)) (fun _ h9 => h9) dX2_step_4 ?_
  refine lv_iadd hx hb dX2_step_7 ?_
  rw [hZ]
  exact hm_iret hx hb hr hlocks hS hP hK hnd hE (congrArg (fun z => (z, S)) (rfl)) dX2_step_8
theorem hdv_X4_size : yX4_size.cls = RX4 ∧ yX4_size.cls ≠ "java/lang/invoke/MethodHandle" ∧ yX4_size.cls ≠ "java/lang/invoke/VarHandle" ∧ (parseMethodDescriptor yX4_size.desc).map (fun d => d.parameters.length) = some 0 := by decide +kernel
theorem iw_X4_size_X2 : ∀ w ∈ u_ws RX2 TX2 3, w ∈ wsX4_size := by decide +kernel
theorem iw_X4_size_X4 : ∀ w ∈ u_ws RX4 TX4 3, w ∈ wsX4_size := by decide +kernel
theorem iw_X4_size_X5 : ∀ w ∈ u_ws RX5 TX5 3, w ∈ wsX4_size := by decide +kernel
def h_X4_size (x : Nat) (S : HS) : Int32 :=
  2 * (hsI S x 2)
def ok_X4_size (L : List Nat) (x : Nat) (S : HS) : Prop :=
  (x ∈ L ∧ 2 ≤ hsK S x ∧ hsK S x ≤ 4) ∧ (True)
set_option maxHeartbeats 4000000 in
set_option maxRecDepth 100000 in
theorem hm_X4_size (l : Launch) (G : GE) (L : List Nat) (S : HS) (x : Nat) (hok : ok_X4_size L x S) : HmI l G yX4_size wsX4_size 0 0 [.ref x] L S ((h_X4_size x S, S)) := by
  refine Met.ofW (cc := cX4_size) (maxL := 1) (ret := (some .int)) (by decide) rfl ?_
  intro p e s m args below meth c s₁ B hml hv
  obtain ⟨rfl, hP, hK, hnd, hE⟩ := hv
  have hx := B.exec
  have hb := B.bytes
  have hr := B.returns
  have hts := atoms_spec (ws := wsX4_size) B.pre
  have hown : s.vm.findClass RX4 = some m.cls := findClass_of_methodNamed B.named
  have hlocks := B.notSynchronized
  have hD := nd_D hnd
  have hS : va_S (AL L) s.heap s.heap [] := va_S.rf
  have hl := lv_entry ([.ref x]) (n := 1) (Nat.le_of_ble_eq_true rfl)
  rw [lg_entry_eq]
  generalize (lg_sl ([.ref x]) ++ List.replicate (1 - (lg_sl ([.ref x])).length) Slot.unset).toArray = ls at hl ⊢
  have hl : lv_has ls 1 [(0, .ref x)] := hl
  obtain ⟨Z, hZ⟩ : ∃ z, z = MQ below (hm_QI G L ((h_X4_size x S, S))) ([.ref x] : List Value).toArray s 0 0 (AL L) := ⟨_, rfl⟩
  rw [← hZ]
  refine lv_iconst (v := 2) hx hb dX4_size_0 (by decide) ?_
  refine lv_aload_n hx hb dX4_size_1 rfl (lv_at hl 0 rfl) ?_
  obtain ⟨h_2, hok⟩ := hok
  refine hp_value hx hb hts iw_X4_size_X2 iw_X4_size_X4 iw_X4_size_X5 hown hK hP h_2 (hts _ (List.mem_of_getElem? (i := 1) rfl)) (fun x9 h9 => u_same (hts _ (List.mem_of_getElem? (i := 2) rfl)) x9 h9) dX4_size_2 ?_
  refine lv_imul hx hb dX4_size_5 ?_
  rw [hZ]
  exact hm_iret hx hb hr hlocks hS hP hK hnd hE (congrArg (fun z => (z, S)) (rfl)) dX4_size_6
theorem hdv_X5_size : yX5_size.cls = RX5 ∧ yX5_size.cls ≠ "java/lang/invoke/MethodHandle" ∧ yX5_size.cls ≠ "java/lang/invoke/VarHandle" ∧ (parseMethodDescriptor yX5_size.desc).map (fun d => d.parameters.length) = some 0 := by decide +kernel
theorem iw_X5_size_X2 : ∀ w ∈ u_ws RX2 TX2 3, w ∈ wsX5_size := by decide +kernel
theorem iw_X5_size_X4 : ∀ w ∈ u_ws RX4 TX4 3, w ∈ wsX5_size := by decide +kernel
theorem iw_X5_size_X5 : ∀ w ∈ u_ws RX5 TX5 3, w ∈ wsX5_size := by decide +kernel
def h_X5_size (x : Nat) (S : HS) : Int32 :=
  (2 * (hsI S x 2)) + 1
def ok_X5_size (L : List Nat) (x : Nat) (S : HS) : Prop :=
  (x ∈ L ∧ 2 ≤ hsK S x ∧ hsK S x ≤ 4) ∧ (True)
set_option maxHeartbeats 4000000 in
set_option maxRecDepth 100000 in
theorem hm_X5_size (l : Launch) (G : GE) (L : List Nat) (S : HS) (x : Nat) (hok : ok_X5_size L x S) : HmI l G yX5_size wsX5_size 0 0 [.ref x] L S ((h_X5_size x S, S)) := by
  refine Met.ofW (cc := cX5_size) (maxL := 1) (ret := (some .int)) (by decide) rfl ?_
  intro p e s m args below meth c s₁ B hml hv
  obtain ⟨rfl, hP, hK, hnd, hE⟩ := hv
  have hx := B.exec
  have hb := B.bytes
  have hr := B.returns
  have hts := atoms_spec (ws := wsX5_size) B.pre
  have hown : s.vm.findClass RX5 = some m.cls := findClass_of_methodNamed B.named
  have hlocks := B.notSynchronized
  have hD := nd_D hnd
  have hS : va_S (AL L) s.heap s.heap [] := va_S.rf
  have hl := lv_entry ([.ref x]) (n := 1) (Nat.le_of_ble_eq_true rfl)
  rw [lg_entry_eq]
  generalize (lg_sl ([.ref x]) ++ List.replicate (1 - (lg_sl ([.ref x])).length) Slot.unset).toArray = ls at hl ⊢
  have hl : lv_has ls 1 [(0, .ref x)] := hl
  obtain ⟨Z, hZ⟩ : ∃ z, z = MQ below (hm_QI G L ((h_X5_size x S, S))) ([.ref x] : List Value).toArray s 0 0 (AL L) := ⟨_, rfl⟩
  rw [← hZ]
  refine lv_iconst (v := 2) hx hb dX5_size_0 (by decide) ?_
  refine lv_aload_n hx hb dX5_size_1 rfl (lv_at hl 0 rfl) ?_
  obtain ⟨h_2, hok⟩ := hok
  refine hp_value hx hb hts iw_X5_size_X2 iw_X5_size_X4 iw_X5_size_X5 hown hK hP h_2 (hts _ (List.mem_of_getElem? (i := 1) rfl)) (fun x9 h9 => u_same (hts _ (List.mem_of_getElem? (i := 2) rfl)) x9 h9) dX5_size_2 ?_
  refine lv_imul hx hb dX5_size_5 ?_
  refine lv_iconst (v := 1) hx hb dX5_size_6 (by decide) ?_
  refine lv_iadd hx hb dX5_size_7 ?_
  rw [hZ]
  exact hm_iret hx hb hr hlocks hS hP hK hnd hE (congrArg (fun z => (z, S)) (rfl)) dX5_size_8
theorem hdo : True := trivial
theorem hd_X8_passesCast : yX8_passesCast.cls ≠ "java/lang/invoke/MethodHandle" ∧ yX8_passesCast.cls ≠ "java/lang/invoke/VarHandle" ∧ (parseMethodDescriptor yX8_passesCast.desc).map (fun d => d.parameters.length) = some 2 := by decide +kernel
def h_X8_passesCast_n (p0 : Int32) (S : HS) : Int32 :=
  1
def ok_X8_passesCast_n (L : List Nat) (p0 : Int32) (S : HS) : Prop :=
  True
set_option maxHeartbeats 4000000 in
set_option maxRecDepth 100000 in
theorem hm_X8_passesCast_n (l : Launch) (G : GE) (L : List Nat) (S : HS) (p0 : Int32) (hok : ok_X8_passesCast_n L p0 S) : HmI l G yX8_passesCast wsX8_passesCast 0 0 [.int p0, .null] L S ((h_X8_passesCast_n p0 S, S)) := by
  refine Met.ofW (cc := cX8_passesCast) (maxL := 2) (ret := (some .boolean)) (by decide) rfl ?_
  intro p e s m args below meth c s₁ B hml hv
  obtain ⟨rfl, hP, hK, hnd, hE⟩ := hv
  have hx := B.exec
  have hb := B.bytes
  have hr := B.returns
  have hts := atoms_spec (ws := wsX8_passesCast) B.pre
  have hown : s.vm.findClass RX8 = some m.cls := findClass_of_methodNamed B.named
  have hlocks := B.notSynchronized
  have hD := nd_D hnd
  have hS : va_S (AL L) s.heap s.heap [] := va_S.rf
  have hl := lv_entry ([.int p0, .null]) (n := 2) (Nat.le_of_ble_eq_true rfl)
  rw [lg_entry_eq]
  generalize (lg_sl ([.int p0, .null]) ++ List.replicate (2 - (lg_sl ([.int p0, .null])).length) Slot.unset).toArray = ls at hl ⊢
  have hl : lv_has ls 2 [(0, .int p0), (1, .null)] := hl
  obtain ⟨Z, hZ⟩ : ∃ z, z = MQ below (hm_QI G L ((h_X8_passesCast_n p0 S, S))) ([.int p0, .null] : List Value).toArray s 0 0 (AL L) := ⟨_, rfl⟩
  rw [← hZ]
  refine lv_aload_nN hx hb dX8_passesCast_0 rfl (lv_at hl 1 rfl) ?_
  refine lv_ifnullN (tgt := 12) hx hb dX8_passesCast_1 (by decide) ?_
  refine lv_iconst (v := 1) hx hb dX8_passesCast_12 (by decide) ?_
  refine lv_goto (tgt := 17) hx hb dX8_passesCast_13 (by decide) ?_
  rw [hZ]
  exact hm_zret hx hb hr hlocks hS (nz_1) hP hK hnd hE (congrArg (fun z => (z, S)) (rfl)) dX8_passesCast_17
def h_X8_passesCast_s (p0 : Int32) (p1 : Nat) (S : HS) : Int32 :=
  if (h_X6_isOf p1 p0 S) = 0 then 0
  else 1
def ok_X8_passesCast_s (L : List Nat) (p0 : Int32) (p1 : Nat) (S : HS) : Prop :=
  (p1 ∈ L ∧ (hsK S p1 = 1 ∨ hsK S p1 = 2 ∨ hsK S p1 = 3 ∨ hsK S p1 = 4 ∨ hsK S p1 = 5)) ∧ ((ok_X6_isOf L p1 p0 S) ∧ ((((h_X6_isOf p1 p0 S) = 0) → (True)) ∧
  (¬ ((h_X6_isOf p1 p0 S) = 0) → (True))))
set_option maxHeartbeats 4000000 in
set_option maxRecDepth 100000 in
theorem hm_X8_passesCast_s (l : Launch) (G : GE) (L : List Nat) (S : HS) (p0 : Int32) (p1 : Nat) (hok : ok_X8_passesCast_s L p0 p1 S) : HmI l G yX8_passesCast wsX8_passesCast 1 21 [.int p0, .ref p1] L S ((h_X8_passesCast_s p0 p1 S, S)) := by
  refine Met.ofW (cc := cX8_passesCast) (maxL := 2) (ret := (some .boolean)) (by decide) rfl ?_
  intro p e s m args below meth c s₁ B hml hv
  obtain ⟨rfl, hP, hK, hnd, hE⟩ := hv
  have hx := B.exec
  have hb := B.bytes
  have hr := B.returns
  have hts := atoms_spec (ws := wsX8_passesCast) B.pre
  have hown : s.vm.findClass RX8 = some m.cls := findClass_of_methodNamed B.named
  have hlocks := B.notSynchronized
  have hD := nd_D hnd
  have hS : va_S (AL L) s.heap s.heap [] := va_S.rf
  have hl := lv_entry ([.int p0, .ref p1]) (n := 2) (Nat.le_of_ble_eq_true rfl)
  rw [lg_entry_eq]
  generalize (lg_sl ([.int p0, .ref p1]) ++ List.replicate (2 - (lg_sl ([.int p0, .ref p1])).length) Slot.unset).toArray = ls at hl ⊢
  have hl : lv_has ls 2 [(0, .int p0), (1, .ref p1)] := hl
  obtain ⟨Z, hZ⟩ : ∃ z, z = MQ below (hm_QI G L ((h_X8_passesCast_s p0 p1 S, S))) ([.int p0, .ref p1] : List Value).toArray s 0 0 (AL L) := ⟨_, rfl⟩
  rw [← hZ]
  refine lv_aload_n hx hb dX8_passesCast_0 rfl (lv_at hl 1 rfl) ?_
  refine lv_ifnull hx hb dX8_passesCast_1 ?_
  refine lv_aload_n hx hb dX8_passesCast_4 rfl (lv_at hl 1 rfl) ?_
  refine lv_iload_n hx hb dX8_passesCast_5 rfl (lv_at hl 0 rfl) ?_
  obtain ⟨h_6k, hok⟩ := hok
  obtain ⟨h_6, hok⟩ := hok
  refine hm_callIr (G := G) (S1 := S) (a := ([.ref p1, .int p0] : List Value).toArray) (rest := []) (h_X6_isOf p1 p0 S) ?_ hS (fun H locs hP hS => ?_)
  ·
    rcases h_6k.2 with h9 | h9 | h9 | h9 | h9
    ·
      exact va_runU (As := [.int p0]) (rest := []) ⟨hx, hb, hml, hown, hts⟩ (hm_X6_isOf l G L S p1 p0 h_6) (va_cwU (x := ⟨"ThrowModels$Thing", "isOf", "(I)Z"⟩) 1 hts gX8_passesCast_X6_isOf_u63X1 rfl rfl rfl rfl (by decide +kernel) ⟨Nat.le_of_ble_eq_true rfl, Nat.le_of_ble_eq_true rfl⟩) ⟨HW.fb, hp_recv hK hP h_6k.1 (PF_1 h9) rfl, fun U hU hW => ⟨rfl, HW.call hP hK hnd hE hS U hU hW⟩⟩ rfl rfl hl.1 rfl (lv_room (Nat.le_of_ble_eq_true rfl)) dX8_passesCast_6 ⟨Nat.le_refl 0, Nat.le_refl 0⟩
    ·
      exact va_runU (As := [.int p0]) (rest := []) ⟨hx, hb, hml, hown, hts⟩ (hm_X6_isOf l G L S p1 p0 h_6) (va_cwU (x := ⟨"ThrowModels$Thing", "isOf", "(I)Z"⟩) 1 hts gX8_passesCast_X6_isOf_u63X2 rfl rfl rfl rfl (by decide +kernel) ⟨Nat.le_of_ble_eq_true rfl, Nat.le_of_ble_eq_true rfl⟩) ⟨HW.fb, hp_recv hK hP h_6k.1 (PF_2 h9) rfl, fun U hU hW => ⟨rfl, HW.call hP hK hnd hE hS U hU hW⟩⟩ rfl rfl hl.1 rfl (lv_room (Nat.le_of_ble_eq_true rfl)) dX8_passesCast_6 ⟨Nat.le_refl 0, Nat.le_refl 0⟩
    ·
      exact va_runU (As := [.int p0]) (rest := []) ⟨hx, hb, hml, hown, hts⟩ (hm_X6_isOf l G L S p1 p0 h_6) (va_cwU (x := ⟨"ThrowModels$Thing", "isOf", "(I)Z"⟩) 1 hts gX8_passesCast_X6_isOf_u63X4 rfl rfl rfl rfl (by decide +kernel) ⟨Nat.le_of_ble_eq_true rfl, Nat.le_of_ble_eq_true rfl⟩) ⟨HW.fb, hp_recv hK hP h_6k.1 (PF_3 h9) rfl, fun U hU hW => ⟨rfl, HW.call hP hK hnd hE hS U hU hW⟩⟩ rfl rfl hl.1 rfl (lv_room (Nat.le_of_ble_eq_true rfl)) dX8_passesCast_6 ⟨Nat.le_refl 0, Nat.le_refl 0⟩
    ·
      exact va_runU (As := [.int p0]) (rest := []) ⟨hx, hb, hml, hown, hts⟩ (hm_X6_isOf l G L S p1 p0 h_6) (va_cwU (x := ⟨"ThrowModels$Thing", "isOf", "(I)Z"⟩) 1 hts gX8_passesCast_X6_isOf_u63X5 rfl rfl rfl rfl (by decide +kernel) ⟨Nat.le_of_ble_eq_true rfl, Nat.le_of_ble_eq_true rfl⟩) ⟨HW.fb, hp_recv hK hP h_6k.1 (PF_4 h9) rfl, fun U hU hW => ⟨rfl, HW.call hP hK hnd hE hS U hU hW⟩⟩ rfl rfl hl.1 rfl (lv_room (Nat.le_of_ble_eq_true rfl)) dX8_passesCast_6 ⟨Nat.le_refl 0, Nat.le_refl 0⟩
    ·
      exact va_runU (As := [.int p0]) (rest := []) ⟨hx, hb, hml, hown, hts⟩ (hm_X6_isOf l G L S p1 p0 h_6) (va_cwU (x := ⟨"ThrowModels$Thing", "isOf", "(I)Z"⟩) 1 hts gX8_passesCast_X6_isOf_u63X7 rfl rfl rfl rfl (by decide +kernel) ⟨Nat.le_of_ble_eq_true rfl, Nat.le_of_ble_eq_true rfl⟩) ⟨HW.fb, hp_recv hK hP h_6k.1 (PF_5 h9) rfl, fun U hU hW => ⟨rfl, HW.call hP hK hnd hE hS U hU hW⟩⟩ rfl rfl hl.1 rfl (lv_room (Nat.le_of_ble_eq_true rfl)) dX8_passesCast_6 ⟨Nat.le_refl 0, Nat.le_refl 0⟩
  ·
    refine lv_if_eq (tgt := 16) hx hb dX8_passesCast_9 (by decide) (fun c_9 => ?_) (fun c_9 => ?_)
    ·
      have hok := (hok).1 c_9
      refine lv_iconst (v := 0) hx hb dX8_passesCast_16 (by decide) ?_
      rw [hZ]
      exact hm_zret hx hb hr hlocks hS (nz_0) hP hK hnd hE (congrArg (fun z => (z, S)) ((if_pos c_9))) dX8_passesCast_17
    ·
      have hok := (hok).2 c_9
      refine lv_iconst (v := 1) hx hb dX8_passesCast_12 (by decide) ?_
      refine lv_goto (tgt := 17) hx hb dX8_passesCast_13 (by decide) ?_
      rw [hZ]
      exact hm_zret hx hb hr hlocks hS (nz_1) hP hK hnd hE (congrArg (fun z => (z, S)) ((if_neg c_9))) dX8_passesCast_17
theorem hd_X8_castCause : yX8_castCause.cls ≠ "java/lang/invoke/MethodHandle" ∧ yX8_castCause.cls ≠ "java/lang/invoke/VarHandle" ∧ (parseMethodDescriptor yX8_castCause.desc).map (fun d => d.parameters.length) = some 2 := by decide +kernel
def h_X8_castCause_n (p0 : Int32) (S : HS) : Int32 :=
  if (h_X8_passesCast_n p0 S) = 0 then 4
  else 1
def ok_X8_castCause_n (L : List Nat) (p0 : Int32) (S : HS) : Prop :=
  (ok_X8_passesCast_n L p0 S) ∧ ((((h_X8_passesCast_n p0 S) = 0) → (True)) ∧
  (¬ ((h_X8_passesCast_n p0 S) = 0) → (True)))
set_option maxHeartbeats 4000000 in
set_option maxRecDepth 100000 in
theorem hm_X8_castCause_n (l : Launch) (G : GE) (L : List Nat) (S : HS) (p0 : Int32) (hok : ok_X8_castCause_n L p0 S) : HmI l G yX8_castCause wsX8_castCause 1 21 [.int p0, .null] L S ((h_X8_castCause_n p0 S, S)) := by
  refine Met.ofW (cc := cX8_castCause) (maxL := 2) (ret := (some .int)) (by decide) rfl ?_
  intro p e s m args below meth c s₁ B hml hv
  obtain ⟨rfl, hP, hK, hnd, hE⟩ := hv
  have hx := B.exec
  have hb := B.bytes
  have hr := B.returns
  have hts := atoms_spec (ws := wsX8_castCause) B.pre
  have hown : s.vm.findClass RX8 = some m.cls := findClass_of_methodNamed B.named
  have hlocks := B.notSynchronized
  have hD := nd_D hnd
  have hS : va_S (AL L) s.heap s.heap [] := va_S.rf
  have hl := lv_entry ([.int p0, .null]) (n := 2) (Nat.le_of_ble_eq_true rfl)
  rw [lg_entry_eq]
  generalize (lg_sl ([.int p0, .null]) ++ List.replicate (2 - (lg_sl ([.int p0, .null])).length) Slot.unset).toArray = ls at hl ⊢
  have hl : lv_has ls 2 [(0, .int p0), (1, .null)] := hl
  obtain ⟨Z, hZ⟩ : ∃ z, z = MQ below (hm_QI G L ((h_X8_castCause_n p0 S, S))) ([.int p0, .null] : List Value).toArray s 0 0 (AL L) := ⟨_, rfl⟩
  rw [← hZ]
  refine lv_iload_n hx hb dX8_castCause_0 rfl (lv_at hl 0 rfl) ?_
  refine lv_aload_nN hx hb dX8_castCause_1 rfl (lv_at hl 1 rfl) ?_
  obtain ⟨h_2, hok⟩ := hok
  refine hm_callIr (G := G) (S1 := S) (a := ([.int p0, .null] : List Value).toArray) (rest := []) (h_X8_passesCast_n p0 S) ?_ hS (fun H locs hP hS => ?_)
  ·
    exact va_runS (As := [.int p0, .null]) (rest := []) ⟨hx, hb, hml, hown, hts⟩ (hm_X8_passesCast_n l G L S p0 h_2) (va_cwS 2 hts gX8_castCause_X8_passesCast rfl rfl rfl hd_X8_passesCast ⟨Nat.le_of_ble_eq_true rfl, Nat.le_of_ble_eq_true rfl⟩) ⟨HW.fb, fun U hU hW => ⟨rfl, HW.call hP hK hnd hE hS U hU hW⟩⟩ rfl rfl hl.1 rfl (lv_room (Nat.le_of_ble_eq_true rfl)) dX8_castCause_2 ⟨Nat.le_refl 0, Nat.le_refl 0⟩
  ·
    refine lv_if_ne (tgt := 10) hx hb dX8_castCause_5 (by decide) (fun c_5 => ?_) (fun c_5 => ?_)
    ·
      have hok := (hok).2 c_5
      refine lv_aload_nN hx hb dX8_castCause_10 rfl (lv_at hl 1 rfl) ?_
      refine lv_ifnonnullN hx hb dX8_castCause_11 ?_
      refine lv_iconst (v := 1) hx hb dX8_castCause_14 (by decide) ?_
      refine lv_goto (tgt := 19) hx hb dX8_castCause_15 (by decide) ?_
      rw [hZ]
      exact hm_iret hx hb hr hlocks hS hP hK hnd hE (congrArg (fun z => (z, S)) ((if_neg c_5))) dX8_castCause_19
    ·
      have hok := (hok).1 c_5
      refine lv_iconst (v := 4) hx hb dX8_castCause_8 (by decide) ?_
      rw [hZ]
      exact hm_iret hx hb hr hlocks hS hP hK hnd hE (congrArg (fun z => (z, S)) ((if_pos c_5))) dX8_castCause_9
def h_X8_castCause_s (p0 : Int32) (p1 : Nat) (S : HS) : Int32 :=
  if (h_X8_passesCast_s p0 p1 S) = 0 then 4
  else 0
def ok_X8_castCause_s (L : List Nat) (p0 : Int32) (p1 : Nat) (S : HS) : Prop :=
  (ok_X8_passesCast_s L p0 p1 S) ∧ ((((h_X8_passesCast_s p0 p1 S) = 0) → (True)) ∧
  (¬ ((h_X8_passesCast_s p0 p1 S) = 0) → (True)))
set_option maxHeartbeats 4000000 in
set_option maxRecDepth 100000 in
theorem hm_X8_castCause_s (l : Launch) (G : GE) (L : List Nat) (S : HS) (p0 : Int32) (p1 : Nat) (hok : ok_X8_castCause_s L p0 p1 S) : HmI l G yX8_castCause wsX8_castCause 2 42 [.int p0, .ref p1] L S ((h_X8_castCause_s p0 p1 S, S)) := by
  refine Met.ofW (cc := cX8_castCause) (maxL := 2) (ret := (some .int)) (by decide) rfl ?_
  intro p e s m args below meth c s₁ B hml hv
  obtain ⟨rfl, hP, hK, hnd, hE⟩ := hv
  have hx := B.exec
  have hb := B.bytes
  have hr := B.returns
  have hts := atoms_spec (ws := wsX8_castCause) B.pre
  have hown : s.vm.findClass RX8 = some m.cls := findClass_of_methodNamed B.named
  have hlocks := B.notSynchronized
  have hD := nd_D hnd
  have hS : va_S (AL L) s.heap s.heap [] := va_S.rf
  have hl := lv_entry ([.int p0, .ref p1]) (n := 2) (Nat.le_of_ble_eq_true rfl)
  rw [lg_entry_eq]
  generalize (lg_sl ([.int p0, .ref p1]) ++ List.replicate (2 - (lg_sl ([.int p0, .ref p1])).length) Slot.unset).toArray = ls at hl ⊢
  have hl : lv_has ls 2 [(0, .int p0), (1, .ref p1)] := hl
  obtain ⟨Z, hZ⟩ : ∃ z, z = MQ below (hm_QI G L ((h_X8_castCause_s p0 p1 S, S))) ([.int p0, .ref p1] : List Value).toArray s 0 0 (AL L) := ⟨_, rfl⟩
  rw [← hZ]
  refine lv_iload_n hx hb dX8_castCause_0 rfl (lv_at hl 0 rfl) ?_
  refine lv_aload_n hx hb dX8_castCause_1 rfl (lv_at hl 1 rfl) ?_
  obtain ⟨h_2, hok⟩ := hok
  refine hm_callIr (G := G) (S1 := S) (a := ([.int p0, .ref p1] : List Value).toArray) (rest := []) (h_X8_passesCast_s p0 p1 S) ?_ hS (fun H locs hP hS => ?_)
  ·
    exact va_runS (As := [.int p0, .ref p1]) (rest := []) ⟨hx, hb, hml, hown, hts⟩ (hm_X8_passesCast_s l G L S p0 p1 h_2) (va_cwS 2 hts gX8_castCause_X8_passesCast rfl rfl rfl hd_X8_passesCast ⟨Nat.le_of_ble_eq_true rfl, Nat.le_of_ble_eq_true rfl⟩) ⟨HW.fb, fun U hU hW => ⟨rfl, HW.call hP hK hnd hE hS U hU hW⟩⟩ rfl rfl hl.1 rfl (lv_room (Nat.le_of_ble_eq_true rfl)) dX8_castCause_2 ⟨Nat.le_refl 0, Nat.le_refl 0⟩
  ·
    refine lv_if_ne (tgt := 10) hx hb dX8_castCause_5 (by decide) (fun c_5 => ?_) (fun c_5 => ?_)
    ·
      have hok := (hok).2 c_5
      refine lv_aload_n hx hb dX8_castCause_10 rfl (lv_at hl 1 rfl) ?_
      refine lv_ifnonnull (tgt := 18) hx hb dX8_castCause_11 (by decide) ?_
      refine lv_iconst (v := 0) hx hb dX8_castCause_18 (by decide) ?_
      rw [hZ]
      exact hm_iret hx hb hr hlocks hS hP hK hnd hE (congrArg (fun z => (z, S)) ((if_neg c_5))) dX8_castCause_19
    ·
      have hok := (hok).1 c_5
      refine lv_iconst (v := 4) hx hb dX8_castCause_8 (by decide) ?_
      rw [hZ]
      exact hm_iret hx hb hr hlocks hS hP hK hnd hE (congrArg (fun z => (z, S)) ((if_pos c_5))) dX8_castCause_9
theorem hd_X8_elementCause : yX8_elementCause.cls ≠ "java/lang/invoke/MethodHandle" ∧ yX8_elementCause.cls ≠ "java/lang/invoke/VarHandle" ∧ (parseMethodDescriptor yX8_elementCause.desc).map (fun d => d.parameters.length) = some 3 := by decide +kernel
def h_X8_elementCause_n (p0 : Int32) (p2 : Int32) (S : HS) : Int32 :=
  if (h_X8_castCause_n p0 S) = 0 then 2
  else h_X8_castCause_n p0 S
def ok_X8_elementCause_n (L : List Nat) (p0 : Int32) (p2 : Int32) (S : HS) : Prop :=
  (ok_X8_castCause_n L p0 S) ∧ ((((h_X8_castCause_n p0 S) = 0) → (True)) ∧
  (¬ ((h_X8_castCause_n p0 S) = 0) → (True)))
set_option maxHeartbeats 4000000 in
set_option maxRecDepth 100000 in
theorem hm_X8_elementCause_n (l : Launch) (G : GE) (L : List Nat) (S : HS) (p0 : Int32) (p2 : Int32) (hok : ok_X8_elementCause_n L p0 p2 S) : HmI l G yX8_elementCause wsX8_elementCause 2 42 [.int p0, .null, .int p2] L S ((h_X8_elementCause_n p0 p2 S, S)) := by
  refine Met.ofW (cc := cX8_elementCause) (maxL := 4) (ret := (some .int)) (by decide) rfl ?_
  intro p e s m args below meth c s₁ B hml hv
  obtain ⟨rfl, hP, hK, hnd, hE⟩ := hv
  have hx := B.exec
  have hb := B.bytes
  have hr := B.returns
  have hts := atoms_spec (ws := wsX8_elementCause) B.pre
  have hown : s.vm.findClass RX8 = some m.cls := findClass_of_methodNamed B.named
  have hlocks := B.notSynchronized
  have hD := nd_D hnd
  have hS : va_S (AL L) s.heap s.heap [] := va_S.rf
  have hl := lv_entry ([.int p0, .null, .int p2]) (n := 4) (Nat.le_of_ble_eq_true rfl)
  rw [lg_entry_eq]
  generalize (lg_sl ([.int p0, .null, .int p2]) ++ List.replicate (4 - (lg_sl ([.int p0, .null, .int p2])).length) Slot.unset).toArray = ls at hl ⊢
  have hl : lv_has ls 4 [(0, .int p0), (1, .null), (2, .int p2)] := hl
  obtain ⟨Z, hZ⟩ : ∃ z, z = MQ below (hm_QI G L ((h_X8_elementCause_n p0 p2 S, S))) ([.int p0, .null, .int p2] : List Value).toArray s 0 0 (AL L) := ⟨_, rfl⟩
  rw [← hZ]
  refine lv_iload_n hx hb dX8_elementCause_0 rfl (lv_at hl 0 rfl) ?_
  refine lv_aload_nN hx hb dX8_elementCause_1 rfl (lv_at hl 1 rfl) ?_
  obtain ⟨h_2, hok⟩ := hok
  refine hm_callIr (G := G) (S1 := S) (a := ([.int p0, .null] : List Value).toArray) (rest := []) (h_X8_castCause_n p0 S) ?_ hS (fun H locs hP hS => ?_)
  ·
    exact va_runS (As := [.int p0, .null]) (rest := []) ⟨hx, hb, hml, hown, hts⟩ (hm_X8_castCause_n l G L S p0 h_2) (va_cwS 2 hts gX8_elementCause_X8_castCause rfl rfl rfl hd_X8_castCause ⟨Nat.le_of_ble_eq_true rfl, Nat.le_of_ble_eq_true rfl⟩) ⟨HW.fb, fun U hU hW => ⟨rfl, HW.call hP hK hnd hE hS U hU hW⟩⟩ rfl rfl hl.1 rfl (lv_room (Nat.le_of_ble_eq_true rfl)) dX8_elementCause_2 ⟨Nat.le_refl 0, Nat.le_refl 0⟩
  ·
    refine lv_istore_n (lv' := [(3, .int (h_X8_castCause_n p0 S)), (0, .int p0), (1, .null), (2, .int p2)]) hx hb dX8_elementCause_5 rfl hl (by decide) rfl (fun ls hl => ?_)
    refine lv_iload_n hx hb dX8_elementCause_6 rfl (lv_at hl 0 rfl) ?_
    refine lv_if_eq (tgt := 12) hx hb dX8_elementCause_7 (by decide) (fun c_7 => ?_) (fun c_7 => ?_)
    ·
      have hok := (hok).1 c_7
      refine lv_aload_nN hx hb dX8_elementCause_12 rfl (lv_at hl 2 rfl) ?_
      refine lv_ifnullN (tgt := 28) hx hb dX8_elementCause_13 (by decide) ?_
      refine lv_iconst (v := 2) hx hb dX8_elementCause_28 (by decide) ?_
      rw [hZ]
      exact hm_iret hx hb hr hlocks hS hP hK hnd hE (congrArg (fun z => (z, S)) ((if_pos c_7))) dX8_elementCause_29
    ·
      have hok := (hok).2 c_7
      refine lv_iload_n hx hb dX8_elementCause_10 rfl (lv_at hl 0 rfl) ?_
      rw [hZ]
      exact hm_iret hx hb hr hlocks hS hP hK hnd hE (congrArg (fun z => (z, S)) ((if_neg c_7))) dX8_elementCause_11
def h_X8_elementCause_s (p0 : Int32) (p1 : Nat) (p2 : Int32) (S : HS) : Int32 :=
  if (h_X8_castCause_s p0 p1 S) = 0 then if (h_X6_holds p1 p2 S) = 0 then 2
   else 0
  else h_X8_castCause_s p0 p1 S
def ok_X8_elementCause_s (L : List Nat) (p0 : Int32) (p1 : Nat) (p2 : Int32) (S : HS) : Prop :=
  (ok_X8_castCause_s L p0 p1 S) ∧ ((((h_X8_castCause_s p0 p1 S) = 0) → ((p1 ∈ L ∧ (hsK S p1 = 1 ∨ hsK S p1 = 2 ∨ hsK S p1 = 3 ∨ hsK S p1 = 4 ∨ hsK S p1 = 5)) ∧ ((ok_X6_holds L p1 p2 S) ∧ ((((h_X6_holds p1 p2 S) = 0) → (True)) ∧
   (¬ ((h_X6_holds p1 p2 S) = 0) → (True)))))) ∧
  (¬ ((h_X8_castCause_s p0 p1 S) = 0) → (True)))
set_option maxHeartbeats 4000000 in
set_option maxRecDepth 100000 in
theorem hm_X8_elementCause_s (l : Launch) (G : GE) (L : List Nat) (S : HS) (p0 : Int32) (p1 : Nat) (p2 : Int32) (hok : ok_X8_elementCause_s L p0 p1 p2 S) : HmI l G yX8_elementCause wsX8_elementCause 3 63 [.int p0, .ref p1, .int p2] L S ((h_X8_elementCause_s p0 p1 p2 S, S)) := by
  refine Met.ofW (cc := cX8_elementCause) (maxL := 4) (ret := (some .int)) (by decide) rfl ?_
  intro p e s m args below meth c s₁ B hml hv
  obtain ⟨rfl, hP, hK, hnd, hE⟩ := hv
  have hx := B.exec
  have hb := B.bytes
  have hr := B.returns
  have hts := atoms_spec (ws := wsX8_elementCause) B.pre
  have hown : s.vm.findClass RX8 = some m.cls := findClass_of_methodNamed B.named
  have hlocks := B.notSynchronized
  have hD := nd_D hnd
  have hS : va_S (AL L) s.heap s.heap [] := va_S.rf
  have hl := lv_entry ([.int p0, .ref p1, .int p2]) (n := 4) (Nat.le_of_ble_eq_true rfl)
  rw [lg_entry_eq]
  generalize (lg_sl ([.int p0, .ref p1, .int p2]) ++ List.replicate (4 - (lg_sl ([.int p0, .ref p1, .int p2])).length) Slot.unset).toArray = ls at hl ⊢
  have hl : lv_has ls 4 [(0, .int p0), (1, .ref p1), (2, .int p2)] := hl
  obtain ⟨Z, hZ⟩ : ∃ z, z = MQ below (hm_QI G L ((h_X8_elementCause_s p0 p1 p2 S, S))) ([.int p0, .ref p1, .int p2] : List Value).toArray s 0 0 (AL L) := ⟨_, rfl⟩
  rw [← hZ]
  refine lv_iload_n hx hb dX8_elementCause_0 rfl (lv_at hl 0 rfl) ?_
  refine lv_aload_n hx hb dX8_elementCause_1 rfl (lv_at hl 1 rfl) ?_
  obtain ⟨h_2, hok⟩ := hok
  refine hm_callIr (G := G) (S1 := S) (a := ([.int p0, .ref p1] : List Value).toArray) (rest := []) (h_X8_castCause_s p0 p1 S) ?_ hS (fun H locs hP hS => ?_)
  ·
    exact va_runS (As := [.int p0, .ref p1]) (rest := []) ⟨hx, hb, hml, hown, hts⟩ (hm_X8_castCause_s l G L S p0 p1 h_2) (va_cwS 2 hts gX8_elementCause_X8_castCause rfl rfl rfl hd_X8_castCause ⟨Nat.le_of_ble_eq_true rfl, Nat.le_of_ble_eq_true rfl⟩) ⟨HW.fb, fun U hU hW => ⟨rfl, HW.call hP hK hnd hE hS U hU hW⟩⟩ rfl rfl hl.1 rfl (lv_room (Nat.le_of_ble_eq_true rfl)) dX8_elementCause_2 ⟨Nat.le_refl 0, Nat.le_refl 0⟩
  ·
    refine lv_istore_n (lv' := [(3, .int (h_X8_castCause_s p0 p1 S)), (0, .int p0), (1, .ref p1), (2, .int p2)]) hx hb dX8_elementCause_5 rfl hl (by decide) rfl (fun ls hl => ?_)
    refine lv_iload_n hx hb dX8_elementCause_6 rfl (lv_at hl 0 rfl) ?_
    refine lv_if_eq (tgt := 12) hx hb dX8_elementCause_7 (by decide) (fun c_7 => ?_) (fun c_7 => ?_)
    ·
      have hok := (hok).1 c_7
      refine lv_aload_n hx hb dX8_elementCause_12 rfl (lv_at hl 2 rfl) ?_
      refine lv_ifnull hx hb dX8_elementCause_13 ?_
      refine lv_aload_n hx hb dX8_elementCause_16 rfl (lv_at hl 2 rfl) ?_
      refine lv_iload_n hx hb dX8_elementCause_17 rfl (lv_at hl 3 rfl) ?_
      obtain ⟨h_18k, hok⟩ := hok
      obtain ⟨h_18, hok⟩ := hok
      refine hm_callIr (G := G) (S1 := S) (a := ([.ref p1, .int p2] : List Value).toArray) (rest := []) (h_X6_holds p1 p2 S) ?_ hS (fun H locs hP hS => ?_)
      ·
        rcases h_18k.2 with h9 | h9 | h9 | h9 | h9
        ·
          exact va_runU (As := [.int p2]) (rest := []) ⟨hx, hb, hml, hown, hts⟩ (hm_X6_holds l G L S p1 p2 h_18) (va_cwU (x := ⟨"ThrowModels$Thing", "holds", "(I)Z"⟩) 1 hts gX8_elementCause_X6_holds_u221X1 rfl rfl rfl rfl (by decide +kernel) ⟨Nat.le_of_ble_eq_true rfl, Nat.le_of_ble_eq_true rfl⟩) ⟨HW.fb, hp_recv hK hP h_18k.1 (PF_1 h9) rfl, fun U hU hW => ⟨rfl, HW.call hP hK hnd hE hS U hU hW⟩⟩ rfl rfl hl.1 rfl (lv_room (Nat.le_of_ble_eq_true rfl)) dX8_elementCause_18 ⟨Nat.le_refl 0, Nat.le_refl 0⟩
        ·
          exact va_runU (As := [.int p2]) (rest := []) ⟨hx, hb, hml, hown, hts⟩ (hm_X6_holds l G L S p1 p2 h_18) (va_cwU (x := ⟨"ThrowModels$Thing", "holds", "(I)Z"⟩) 1 hts gX8_elementCause_X6_holds_u221X2 rfl rfl rfl rfl (by decide +kernel) ⟨Nat.le_of_ble_eq_true rfl, Nat.le_of_ble_eq_true rfl⟩) ⟨HW.fb, hp_recv hK hP h_18k.1 (PF_2 h9) rfl, fun U hU hW => ⟨rfl, HW.call hP hK hnd hE hS U hU hW⟩⟩ rfl rfl hl.1 rfl (lv_room (Nat.le_of_ble_eq_true rfl)) dX8_elementCause_18 ⟨Nat.le_refl 0, Nat.le_refl 0⟩
        ·
          exact va_runU (As := [.int p2]) (rest := []) ⟨hx, hb, hml, hown, hts⟩ (hm_X6_holds l G L S p1 p2 h_18) (va_cwU (x := ⟨"ThrowModels$Thing", "holds", "(I)Z"⟩) 1 hts gX8_elementCause_X6_holds_u221X4 rfl rfl rfl rfl (by decide +kernel) ⟨Nat.le_of_ble_eq_true rfl, Nat.le_of_ble_eq_true rfl⟩) ⟨HW.fb, hp_recv hK hP h_18k.1 (PF_3 h9) rfl, fun U hU hW => ⟨rfl, HW.call hP hK hnd hE hS U hU hW⟩⟩ rfl rfl hl.1 rfl (lv_room (Nat.le_of_ble_eq_true rfl)) dX8_elementCause_18 ⟨Nat.le_refl 0, Nat.le_refl 0⟩
        ·
          exact va_runU (As := [.int p2]) (rest := []) ⟨hx, hb, hml, hown, hts⟩ (hm_X6_holds l G L S p1 p2 h_18) (va_cwU (x := ⟨"ThrowModels$Thing", "holds", "(I)Z"⟩) 1 hts gX8_elementCause_X6_holds_u221X5 rfl rfl rfl rfl (by decide +kernel) ⟨Nat.le_of_ble_eq_true rfl, Nat.le_of_ble_eq_true rfl⟩) ⟨HW.fb, hp_recv hK hP h_18k.1 (PF_4 h9) rfl, fun U hU hW => ⟨rfl, HW.call hP hK hnd hE hS U hU hW⟩⟩ rfl rfl hl.1 rfl (lv_room (Nat.le_of_ble_eq_true rfl)) dX8_elementCause_18 ⟨Nat.le_refl 0, Nat.le_refl 0⟩
        ·
          exact va_runU (As := [.int p2]) (rest := []) ⟨hx, hb, hml, hown, hts⟩ (hm_X6_holds l G L S p1 p2 h_18) (va_cwU (x := ⟨"ThrowModels$Thing", "holds", "(I)Z"⟩) 1 hts gX8_elementCause_X6_holds_u221X7 rfl rfl rfl rfl (by decide +kernel) ⟨Nat.le_of_ble_eq_true rfl, Nat.le_of_ble_eq_true rfl⟩) ⟨HW.fb, hp_recv hK hP h_18k.1 (PF_5 h9) rfl, fun U hU hW => ⟨rfl, HW.call hP hK hnd hE hS U hU hW⟩⟩ rfl rfl hl.1 rfl (lv_room (Nat.le_of_ble_eq_true rfl)) dX8_elementCause_18 ⟨Nat.le_refl 0, Nat.le_refl 0⟩
      ·
        refine lv_if_eq (tgt := 28) hx hb dX8_elementCause_21 (by decide) (fun c_21 => ?_) (fun c_21 => ?_)
        ·
          have hok := (hok).1 c_21
          refine lv_iconst (v := 2) hx hb dX8_elementCause_28 (by decide) ?_
          rw [hZ]
          exact hm_iret hx hb hr hlocks hS hP hK hnd hE (congrArg (fun z => (z, S)) (((if_pos c_7).trans (if_pos c_21)))) dX8_elementCause_29
        ·
          have hok := (hok).2 c_21
          refine lv_iconst (v := 0) hx hb dX8_elementCause_24 (by decide) ?_
          refine lv_goto (tgt := 29) hx hb dX8_elementCause_25 (by decide) ?_
          rw [hZ]
          exact hm_iret hx hb hr hlocks hS hP hK hnd hE (congrArg (fun z => (z, S)) (((if_pos c_7).trans (if_neg c_21)))) dX8_elementCause_29
    ·
      have hok := (hok).2 c_7
      refine lv_iload_n hx hb dX8_elementCause_10 rfl (lv_at hl 0 rfl) ?_
      rw [hZ]
      exact hm_iret hx hb hr hlocks hS hP hK hnd hE (congrArg (fun z => (z, S)) ((if_neg c_7))) dX8_elementCause_11
theorem hdv_X8_stops : yX8_stops.cls = RX8 ∧ yX8_stops.cls ≠ "java/lang/invoke/MethodHandle" ∧ yX8_stops.cls ≠ "java/lang/invoke/VarHandle" ∧ (parseMethodDescriptor yX8_stops.desc).map (fun d => d.parameters.length) = some 1 := by decide +kernel
theorem iw_X8_stops_X8 : ∀ w ∈ u_ws RX8 TX8 4, w ∈ wsX8_stops := by decide +kernel
def h_X8_stops (x : Nat) (p0 : Int32) (S : HS) : Int32 × HS :=
  if p0 < 1 then (0, (hwI S x 2 p0))
  else if p0 ≤ 8 then (1, (hwA (hwI S x 2 p0) ((hsQ (hwI S x 2 p0) x 1).getD 0) p0.toNatClampNeg ((hsA (hwI S x 2 p0) ((hsQ (hwI S x 2 p0) x 1).getD 0) p0.toNatClampNeg) + 1)))
   else (0, (hwI S x 2 p0))
def ok_X8_stops (L : List Nat) (x : Nat) (p0 : Int32) (S : HS) : Prop :=
  (x ∈ L ∧ hsK S x = 6) ∧ (((p0 < 1) → (True)) ∧
  (¬ (p0 < 1) → (((p0 ≤ 8) → ((x ∈ L ∧ hsK (hwI S x 2 p0) x = 6 ∧ hsQ (hwI S x 2 p0) x 1 ≠ none) ∧ ((((hsQ (hwI S x 2 p0) x 1).getD 0) ∈ L ∧ hsK (hwI S x 2 p0) ((hsQ (hwI S x 2 p0) x 1).getD 0) = 8 ∧ vp_in p0 (hsN (hwI S x 2 p0) ((hsQ (hwI S x 2 p0) x 1).getD 0))) ∧ ((((hsQ (hwI S x 2 p0) x 1).getD 0) ∈ L ∧ hsK (hwI S x 2 p0) ((hsQ (hwI S x 2 p0) x 1).getD 0) = 8 ∧ vp_in p0 (hsN (hwI S x 2 p0) ((hsQ (hwI S x 2 p0) x 1).getD 0))) ∧ (True))))) ∧
   (¬ (p0 ≤ 8) → (True)))))
set_option maxHeartbeats 4000000 in
set_option maxRecDepth 100000 in
theorem hm_X8_stops (l : Launch) (G : GE) (L : List Nat) (S : HS) (x : Nat) (p0 : Int32) (hok : ok_X8_stops L x p0 S) : HmI l G yX8_stops wsX8_stops 0 0 [.ref x, .int p0] L S (h_X8_stops x p0 S) := by
  refine Met.ofW (cc := cX8_stops) (maxL := 2) (ret := (some .boolean)) (by decide) rfl ?_
  intro p e s m args below meth c s₁ B hml hv
  obtain ⟨rfl, hP, hK, hnd, hE⟩ := hv
  have hx := B.exec
  have hb := B.bytes
  have hr := B.returns
  have hts := atoms_spec (ws := wsX8_stops) B.pre
  have hown : s.vm.findClass RX8 = some m.cls := findClass_of_methodNamed B.named
  have hlocks := B.notSynchronized
  have hD := nd_D hnd
  have hS : va_S (AL L) s.heap s.heap [] := va_S.rf
  have hl := lv_entry ([.ref x, .int p0]) (n := 2) (Nat.le_of_ble_eq_true rfl)
  rw [lg_entry_eq]
  generalize (lg_sl ([.ref x, .int p0]) ++ List.replicate (2 - (lg_sl ([.ref x, .int p0])).length) Slot.unset).toArray = ls at hl ⊢
  have hl : lv_has ls 2 [(0, .ref x), (1, .int p0)] := hl
  obtain ⟨Z, hZ⟩ : ∃ z, z = MQ below (hm_QI G L (h_X8_stops x p0 S)) ([.ref x, .int p0] : List Value).toArray s 0 0 (AL L) := ⟨_, rfl⟩
  rw [← hZ]
  refine lv_aload_n hx hb dX8_stops_0 rfl (lv_at hl 0 rfl) ?_
  refine lv_iload_n hx hb dX8_stops_1 rfl (lv_at hl 1 rfl) ?_
  obtain ⟨h_2, hok⟩ := hok
  refine hp_put (ci := 6) (C := RX8) (T := TX8) (N := 4) (ty := .int) (v := .int p0) (g := PF G (hwI S x 2 p0)) hx hb hts iw_X8_stops_X8 tyX8 tyX8_ok nmX8 hown hK hP (hD _) hS h_2.1 (PF_6 h_2.2) rfl 2 (by decide) (hts _ (List.mem_of_getElem? (i := 1) rfl)) (fun _ h9 => h9) rfl (by decide +kernel) rfl rfl (Nat.le_of_ble_eq_true rfl) (PF_s6_2 h_2.2) (fun _ hb9 => PF_wI hb9) dX8_stops_2 (fun H locs hP hS => ?_)
  refine lv_iload_n hx hb dX8_stops_5 rfl (lv_at hl 1 rfl) ?_
  refine lv_iconst (v := 1) hx hb dX8_stops_6 (by decide) ?_
  refine lv_icmp_lt (tgt := 16) hx hb dX8_stops_7 (by decide) (fun c_7 => ?_) (fun c_7 => ?_)
  ·
    have hok := (hok).1 c_7
    refine lv_iconst (v := 0) hx hb dX8_stops_16 (by decide) ?_
    rw [hZ]
    exact hm_zret hx hb hr hlocks hS (nz_0) hP hK hnd hE ((if_pos c_7)) dX8_stops_17
  ·
    have hok := (hok).2 c_7
    refine lv_iload_n hx hb dX8_stops_10 rfl (lv_at hl 1 rfl) ?_
    refine lv_bipush (v := 8) hx hb dX8_stops_11 (by decide) ?_
    refine lv_icmp_le (tgt := 18) hx hb dX8_stops_13 (by decide) (fun c_13 => ?_) (fun c_13 => ?_)
    ·
      have hok := (hok).1 c_13
      refine lv_aload_n hx hb dX8_stops_18 rfl (lv_at hl 0 rfl) ?_
      obtain ⟨h_19, hok⟩ := hok
      refine hp_getR (ci := 6) (C := RX8) (T := TX8) (N := 4) hx hb hts iw_X8_stops_X8 hown hK hP h_19.1 (PF_6 h_19.2.1) rfl 1 (by decide) (hts _ (List.mem_of_getElem? (i := 2) rfl)) (fun _ h9 => h9) rfl h_19.2.2 dX8_stops_19 ?_
      refine lv_iload_n hx hb dX8_stops_22 rfl (lv_at hl 1 rfl) ?_
      refine lv_dup2_11 hx hb dX8_stops_23 rfl rfl ?_
      obtain ⟨h_24, hok⟩ := hok
      refine hp_iald hx hb hK hP h_24.1 0 (PF_8 h_24.2.1) rfl h_24.2.2 dX8_stops_24 ?_
      refine lv_iconst (v := 1) hx hb dX8_stops_25 (by decide) ?_
      refine lv_iadd hx hb dX8_stops_26 ?_
      obtain ⟨h_27, hok⟩ := hok
      refine hp_iast (g2 := PF G (hwA (hwI S x 2 p0) ((hsQ (hwI S x 2 p0) x 1).getD 0) p0.toNatClampNeg ((hsA (hwI S x 2 p0) ((hsQ (hwI S x 2 p0) x 1).getD 0) p0.toNatClampNeg) + 1))) hx hb hK hP (hD _) hS h_27.1 0 (PF_8 h_27.2.1) rfl h_27.2.2 (PF_sA h_27.2.1) (fun _ hb9 => PF_wA hb9) dX8_stops_27 (fun H locs hP hS => ?_)
      refine lv_iconst (v := 1) hx hb dX8_stops_28 (by decide) ?_
      rw [hZ]
      exact hm_zret hx hb hr hlocks hS (nz_1) hP hK hnd hE (((if_neg c_7).trans (if_pos c_13))) dX8_stops_29
    ·
      have hok := (hok).2 c_13
      refine lv_iconst (v := 0) hx hb dX8_stops_16 (by decide) ?_
      rw [hZ]
      exact hm_zret hx hb hr hlocks hS (nz_0) hP hK hnd hE (((if_neg c_7).trans (if_neg c_13))) dX8_stops_17
