/-! ===== twin of the class ===== -/
theorem iw_X8_twin_X8 : ∀ w ∈ u_ws RX8 TX8 4, w ∈ wsX8_twin := by decide +kernel
theorem iw_X8_twin_X1 : ∀ w ∈ u_ws RX1 TX1 3, w ∈ wsX8_twin := by decide +kernel
/-- why twin stops, or 0 -/
def h_X8_twinCause (x : Nat) (p0 p1 : Int32) (S : HS) : Int32 := if s_X8_isCell p0 = 0 then 8 else if s_X8_isCell p1 = 0 then 8 else oq (hsR S ((hsQ S x 0).getD 0) p0.toNatClampNeg) (h_X8_castCause_n 0 S) (fun a => h_X8_castCause_s 0 a S)
/-- the world behind a twin: from the row a with its longs b, the new row q with its longs d -/
abbrev S_X8_twin (arr a b q d : Nat) (p1 : Int32) (S : HS) : HS := hwR (hwJc (S_X1_init q 0 (hsI S a 1) d (hnT S q 1)) b d 0 0 (hsI S a 1)) arr p1.toNatClampNeg (some q)
def ok_X8_twinAt (L : List Nat) (x : Nat) (p0 p1 : Int32) (S : HS) (a b : Nat) : Prop :=
  (x ∈ L ∧ hsK S x = 6 ∧ hsQ S x 0 ≠ none) ∧ (((hsQ S x 0).getD 0) ∈ L ∧ hsK S ((hsQ S x 0).getD 0) = 10 ∧ vp_in p0 (hsN S ((hsQ S x 0).getD 0)) ∧ vp_in p1 (hsN S ((hsQ S x 0).getD 0))) ∧ hsR S ((hsQ S x 0).getD 0) p0.toNatClampNeg = some a ∧ (a ∈ L ∧ hsK S a = 1) ∧ hsQ S a 2 = some b ∧ (b ∈ L ∧ hsK S b = 9) ∧ ¬ hsI S a 1 < 0 ∧ (hsI S a 1).toNatClampNeg ≤ 64 ∧ (hsI S a 1).toNatClampNeg ≤ hsN S b
def ok_X8_twin (L : List Nat) (x : Nat) (p0 p1 : Int32) (S : HS) : Prop := (x ∈ L ∧ hsK S x = 6) ∧ (¬ s_X8_isCell p0 = 0 → ¬ s_X8_isCell p1 = 0 → (x ∈ L ∧ hsK S x = 6 ∧ hsQ S x 0 ≠ none) ∧ (((hsQ S x 0).getD 0) ∈ L ∧ hsK S ((hsQ S x 0).getD 0) = 10 ∧ vp_in p0 (hsN S ((hsQ S x 0).getD 0))) ∧ (hsR S ((hsQ S x 0).getD 0) p0.toNatClampNeg = none → ok_X8_castCause_n L 0 S) ∧ ∀ a, hsR S ((hsQ S x 0).getD 0) p0.toNatClampNeg = some a → ok_X8_castCause_s L 0 a S) ∧ ok_X8_stops L x (h_X8_twinCause x p0 p1 S) S ∧ ((h_X8_stops x (h_X8_twinCause x p0 p1 S) S).1 = 0 → ∃ a b, ok_X8_twinAt L x p0 p1 (h_X8_stops x (h_X8_twinCause x p0 p1 S) S).2 a b)
set_option maxHeartbeats 4000000 in
theorem hm_X8_twin (l : Launch) (G : GE) (L0 : List Nat) (sz : Nat) (L : List Nat) (S : HS) (x : Nat) (p0 p1 : Int32) (hok : ok_X8_twin L x p0 p1 S) : HzI l G yX8_twin wsX8_twin 3 63 2 67 [.ref x, .int p0, .int p1] L0 sz L S (fun r L1 S1 => (¬ (h_X8_stops x (h_X8_twinCause x p0 p1 S) S).1 = 0 ∧ r = 0 ∧ L1 = L ∧ S1 = (h_X8_stops x (h_X8_twinCause x p0 p1 S) S).2) ∨ ((h_X8_stops x (h_X8_twinCause x p0 p1 S) S).1 = 0 ∧ r = 1 ∧ ∃ a b q d, ok_X8_twinAt L x p0 p1 (h_X8_stops x (h_X8_twinCause x p0 p1 S) S).2 a b ∧ q ∉ L ∧ d ∉ L ++ [q] ∧ L1 = (L ++ [q]) ++ [d] ∧ S1 = S_X8_twin ((hsQ (h_X8_stops x (h_X8_twinCause x p0 p1 S) S).2 x 0).getD 0) a b q d p1 (h_X8_stops x (h_X8_twinCause x p0 p1 S) S).2)) := by
  refine Met.ofW (cc := cX8_twin) (maxL := 6) (ret := (some .int)) (by decide) rfl ?_
  intro p e s m args below meth c s₁ B hml hv
  obtain ⟨rfl, ⟨hP, hK, hnd, hE0⟩, hLz, hSz, hE1⟩ := hv
  have hE : EZ G L0 sz s := ⟨hE1, hE0.2⟩
  have hx := B.exec
  have hb := B.bytes
  have hr := B.returns
  have hts := atoms_spec (ws := wsX8_twin) B.pre
  have hown : s.vm.findClass RX8 = some m.cls := findClass_of_methodNamed B.named
  have hlocks := B.notSynchronized
  have hS : va_S (AZ L0 sz) s.heap s.heap [] := va_S.rf
  have hl := lv_entry ([.ref x, .int p0, .int p1]) (n := 6) (Nat.le_of_ble_eq_true rfl)
  rw [lg_entry_eq]
  generalize (lg_sl ([.ref x, .int p0, .int p1]) ++ List.replicate (6 - (lg_sl ([.ref x, .int p0, .int p1])).length) Slot.unset).toArray = ls at hl ⊢
  have hl : lv_has ls 6 [(0, .ref x), (1, .int p0), (2, .int p1)] := hl
  obtain ⟨Z, hZ⟩ : ∃ z, z = MQ below (hz_QI G L0 sz (fun r L1 S1 => (¬ (h_X8_stops x (h_X8_twinCause x p0 p1 S) S).1 = 0 ∧ r = 0 ∧ L1 = L ∧ S1 = (h_X8_stops x (h_X8_twinCause x p0 p1 S) S).2) ∨ ((h_X8_stops x (h_X8_twinCause x p0 p1 S) S).1 = 0 ∧ r = 1 ∧ ∃ a b q d, ok_X8_twinAt L x p0 p1 (h_X8_stops x (h_X8_twinCause x p0 p1 S) S).2 a b ∧ q ∉ L ∧ d ∉ L ++ [q] ∧ L1 = (L ++ [q]) ++ [d] ∧ S1 = S_X8_twin ((hsQ (h_X8_stops x (h_X8_twinCause x p0 p1 S) S).2 x 0).getD 0) a b q d p1 (h_X8_stops x (h_X8_twinCause x p0 p1 S) S).2))) ([.ref x, .int p0, .int p1] : List Value).toArray s 2 67 (AZ L0 sz) := ⟨_, rfl⟩
  rw [← hZ]
  obtain ⟨hxk, hcells, hstop, hok⟩ := hok
  have hDz : ∀ f : Nat → va_E, va_D (AZ L0 sz) (va_pl L f) := fun f => nz_D hnd hLz
  have K_40 : ∀ (cz : Int32) (H : Heap) (locs : List Loc), cz = h_X8_twinCause x p0 p1 S → va_P (gD G) vwCl (va_pl L (PF G S)) H → va_S (AZ L0 sz) s.heap H locs → ∀ (ls : Array Slot), lv_has ls 6 [(0, .ref x), (1, .int p0), (2, .int p1)] → W p l e (hz_R 3 63 2 67) s m ([.ref x, .int p0, .int p1] : List Value).toArray below meth c H locs 0 0 Z (F0 m 40 ls [.int cz, .ref x]) := by
    intro cz H locs hcz hP hS ls hl
    subst hcz
    refine hz_rI (pr := (h_X8_stops x (h_X8_twinCause x p0 p1 S) S)) (va_runV (As := [.int (h_X8_twinCause x p0 p1 S)]) (rest := []) ⟨hx, hb, hml, hown, hts⟩ (hm_X8_stops l G L S x (h_X8_twinCause x p0 p1 S) hstop) (cwV 1 hts gX8_twin_X8_stops rfl rfl rfl hdv_X8_stops ⟨Nat.le_of_ble_eq_true rfl, Nat.le_of_ble_eq_true rfl⟩) ⟨HW.fb, hp_recv hK hP hxk.1 (PF_6 hxk.2) rfl, fun U hU hW => ⟨rfl, HZ.hw hP hK hnd hLz hE hS U hU hW⟩⟩ rfl rfl hl.1 rfl (lv_room (Nat.le_of_ble_eq_true rfl)) dX8_twin_40 ⟨Nat.le_of_ble_eq_true rfl, Nat.le_of_ble_eq_true rfl⟩) hS hLz (fun H locs hP hS => ?_)
    refine lv_if_eq (tgt := 48) hx hb dX8_twin_43 (by decide) (fun c_43 => ?_) (fun c_43 => ?_)
    ·
      obtain ⟨a, b, hat⟩ := hok c_43
      have hat' := hat
      obtain ⟨hg, ⟨r1, r2, r3, r4⟩, hR, ⟨a1, a2⟩, hQ, ⟨b1, b2⟩, n0, n64, nb⟩ := hat'
      refine lv_aload_n hx hb dX8_twin_48 rfl (lv_at hl 0 rfl) ?_
      refine hp_getR (ci := 6) (C := RX8) (T := TX8) (N := 4) hx hb hts iw_X8_twin_X8 hown hK hP hg.1 (PF_6 hg.2.1) rfl 0 (by decide) (hts _ (List.mem_of_getElem? (i := 1) rfl)) (fun _ h9 => h9) rfl hg.2.2 dX8_twin_49 ?_
      refine lv_iload_n hx hb dX8_twin_52 rfl (lv_at hl 1 rfl) ?_
      refine hp_aald hx hb hK hP r1 2 (PF_10 r2) rfl r3 dX8_twin_53 ?_
      refine lv_topq (fun r er => ?_)
      obtain rfl : r = some a := er.trans hR
      refine lv_astore (lv' := [(5, .ref a), (0, .ref x), (1, .int p0), (2, .int p1)]) hx hb dX8_twin_54 hl (by decide) rfl (fun ls hl => ?_)
      refine lv_aload hx hb dX8_twin_56 (lv_at hl 0 rfl) ?_
      refine hp_inst1 hx hb hE.2 hown (hts _ (List.mem_of_getElem? (i := 2) rfl)) hK hP ⟨a1, by omega, by omega⟩ dX8_twin_58 (fun _ => ?_) (fun z => absurd a2 z)
      refine lv_if_eq (tgt := 114) hx hb dX8_twin_61 (by decide) (fun z => absurd z (by decide)) (fun _ => ?_)
      refine lv_aload hx hb dX8_twin_64 (lv_at hl 0 rfl) ?_
      refine hp_cast1 hx hb hE.2 hown (hts _ (List.mem_of_getElem? (i := 2) rfl)) hK hP ⟨a1, a2⟩ dX8_twin_66 ?_
      refine lv_astore (lv' := [(4, .ref a), (5, .ref a), (0, .ref x), (1, .int p0), (2, .int p1)]) hx hb dX8_twin_69 hl (by decide) rfl (fun ls hl => ?_)
      obtain ⟨S2, hS2⟩ : ∃ z, z = (h_X8_stops x (h_X8_twinCause x p0 p1 S) S).2 := ⟨_, rfl⟩
      rw [← hS2] at hP hg r1 r2 r3 r4 hR a2 hQ b2 n0 n64 nb hat
      obtain ⟨arr, harr⟩ : ∃ z, z = (hsQ S2 x 0).getD 0 := ⟨_, rfl⟩
      rw [← harr] at r1 r2 r3 r4 hR
      refine hz_new (ci := 1) (k := 1) (C := RX1) (T := TX1) (N := 3) (fs := [.int 0, .int 0, .null]) hx hb hts iw_X8_twin_X1 tyX1 tyX1_ok hown (hts _ (List.mem_of_getElem? (i := 3) rfl)) (hts _ (List.mem_of_getElem? (i := 4) rfl)) (hts _ (List.mem_of_getElem? (i := 5) rfl)) hK hP hnd hLz hSz hS rfl (fun q => PF_nT1) (fun j hj => by rcases (show j = 0 ∨ j = 1 ∨ j = 2 by omega) with rfl | rfl | rfl <;> rfl) (Nat.le_of_ble_eq_true rfl) (Nat.le_of_ble_eq_true rfl) dX8_twin_71 (fun q H hq hP hnd hLz hS => ?_)
      have nq : ∀ z, z ∈ L → z ≠ q := fun z hz e => hq (e ▸ hz)
      refine lv_dup hx hb dX8_twin_74 rfl ?_
      refine lv_iconst (v := 0) hx hb dX8_twin_75 (by decide) ?_
      refine lv_aload hx hb dX8_twin_76 (lv_at hl 0 rfl) ?_
      have ea := hsEq.nT (S := S2) (k := 1) (nq a a1)
      refine hp_get (ci := 1) (C := RX1) (T := TX1) (N := 3) (v := .int (hsI S2 a 1)) hx hb hts iw_X8_twin_X1 hown hK hP (List.mem_append_left _ a1) (PF_1 (ea.1.trans a2)) rfl 1 (by decide) (hts _ (List.mem_of_getElem? (i := 6) rfl)) (fun x9 h9 => u_same (hts _ (List.mem_of_getElem? (i := 7) rfl)) x9 h9) (congrArg (fun z => some (Value.int z)) (congrFun ea.2.1 1)) dX8_twin_78 ?_
      refine hz_callV (va_runI (As := [.int 0, .int (hsI S2 a 1)]) (rest := [.ref q]) ⟨hx, hb, hml, hown, hts⟩ (hm_X1_init l G L0 sz (L ++ [q]) (hnT S2 q 1) q 0 (hsI S2 a 1) ⟨mem_l1, va_up_self _ _ _⟩ n0 n64) (cwI 2 hts gX8_twin_X1_init rfl rfl rfl (hts _ (List.mem_of_getElem? (i := 5) rfl)) (hts _ (List.mem_of_getElem? (i := 40) rfl)) (hts _ (List.mem_of_getElem? (i := 41) rfl)) rfl (by decide +kernel) ⟨Nat.le_of_ble_eq_true rfl, Nat.le_of_ble_eq_true rfl⟩) ⟨HZ.fb, fun U hU hW => ⟨rfl, HZ.of hP hK hnd hLz hSz hE hS U hU hW⟩⟩ rfl rfl hl.1 rfl (lv_room (Nat.le_of_ble_eq_true rfl)) dX8_twin_81 ⟨Nat.le_of_ble_eq_true rfl, Nat.le_of_ble_eq_true rfl⟩) hS (fun L1 S1 H locs hpost hP hnd hLz hS => ?_)
      obtain ⟨d, hd, rfl, rfl⟩ := hpost
      have nd : ∀ z, z ∈ L → z ≠ d := fun z hz e => hd (List.mem_append_left _ (e ▸ hz))
      have hqd : q ≠ d := fun z => hd (by rw [← z]; exact mem_l1)
      have in2 : ∀ z, z ∈ L → z ∈ (L ++ [q]) ++ [d] := fun z hz => List.mem_append_left _ (List.mem_append_left _ hz)
      have eo : ∀ z, z ∈ L → hsEq S2 (S_X1_init q 0 (hsI S2 a 1) d (hnT S2 q 1)) z := fun z hz => (hsEq.nT (nq z hz)).trans (hsEq.X1 (nq z hz) (nd z hz))
      obtain ⟨x1, x2, x3, x4, x5, x6, x7⟩ := X1_at (S := hnT S2 q 1) (p0 := 0) (p1 := hsI S2 a 1) hqd (va_up_self _ _ _)
      refine lv_astore (lv' := [(5, .ref q), (4, .ref a), (0, .ref x), (1, .int p0), (2, .int p1)]) hx hb dX8_twin_84 hl (by decide) rfl (fun ls hl => ?_)
      refine lv_aload hx hb dX8_twin_86 (lv_at hl 1 rfl) ?_
      refine hp_get (ci := 1) (C := RX1) (T := TX1) (N := 3) (v := .ref b) hx hb hts iw_X8_twin_X1 hown hK hP (in2 a a1) (PF_1 ((eo a a1).1.trans a2)) rfl 2 (by decide) (hts _ (List.mem_of_getElem? (i := 8) rfl)) (fun _ h9 => h9) (congrArg (fun z => some (va_rf z)) ((congrFun (eo a a1).2.2.1 2).trans hQ)) dX8_twin_88 ?_
      refine lv_iconst (v := 0) hx hb dX8_twin_91 (by decide) ?_
      refine lv_aload hx hb dX8_twin_92 (lv_at hl 0 rfl) ?_
      refine hp_get (ci := 1) (C := RX1) (T := TX1) (N := 3) (v := .ref d) hx hb hts iw_X8_twin_X1 hown hK hP (List.mem_append_left _ mem_l1) (PF_1 x1) rfl 2 (by decide) (hts _ (List.mem_of_getElem? (i := 8) rfl)) (fun _ h9 => h9) (congrArg (fun z => some (va_rf z)) x4) dX8_twin_94 ?_
      refine lv_iconst (v := 0) hx hb dX8_twin_97 (by decide) ?_
      refine lv_aload hx hb dX8_twin_98 (lv_at hl 1 rfl) ?_
      refine hp_get (ci := 1) (C := RX1) (T := TX1) (N := 3) (v := .int (hsI S2 a 1)) hx hb hts iw_X8_twin_X1 hown hK hP (in2 a a1) (PF_1 ((eo a a1).1.trans a2)) rfl 1 (by decide) (hts _ (List.mem_of_getElem? (i := 6) rfl)) (fun x9 h9 => u_same (hts _ (List.mem_of_getElem? (i := 7) rfl)) x9 h9) (congrArg (fun z => some (Value.int z)) (congrFun (eo a a1).2.1 1)) dX8_twin_100 ?_
      have hcp : (b ∈ (L ++ [q]) ++ [d] ∧ hsK (S_X1_init q 0 (hsI S2 a 1) d (hnT S2 q 1)) b = 9) ∧ (d ∈ (L ++ [q]) ++ [d] ∧ hsK (S_X1_init q 0 (hsI S2 a 1) d (hnT S2 q 1)) d = 9) ∧ ¬ (0 : Int32) < 0 ∧ ¬ (0 : Int32) < 0 ∧ ¬ hsI S2 a 1 < 0 ∧ (0 : Int32).toNatClampNeg + (hsI S2 a 1).toNatClampNeg ≤ hsN (S_X1_init q 0 (hsI S2 a 1) d (hnT S2 q 1)) b ∧ (0 : Int32).toNatClampNeg + (hsI S2 a 1).toNatClampNeg ≤ hsN (S_X1_init q 0 (hsI S2 a 1) d (hnT S2 q 1)) d := by
        refine ⟨⟨in2 b b1, (eo b b1).1.trans b2⟩, ⟨mem_l1, x5⟩, by decide, by decide, n0, ?_, ?_⟩
        · rw [show (0 : Int32).toNatClampNeg = 0 from by decide, Nat.zero_add, (eo b b1).2.2.2.1]
          exact nb
        · rw [show (0 : Int32).toNatClampNeg = 0 from by decide, Nat.zero_add, x6]
          exact Nat.le_refl _
      refine hp_copyl (S := S_X1_init q 0 (hsI S2 a 1) d (hnT S2 q 1)) hx hb (hml.trans hl.1.symm) hown (hts _ (List.mem_of_getElem? (i := 9) rfl)) (hts _ (List.mem_of_getElem? (i := 10) rfl)) (hts _ (List.mem_of_getElem? (i := 11) rfl)) (hts _ (List.mem_of_getElem? (i := 12) rfl)) hK hP (nz_D hnd hLz) hS hcp (Nat.le_of_ble_eq_true rfl) (Nat.le_of_ble_eq_true rfl) dX8_twin_103 (fun H locs hP hS => ?_)
      have hcarr : hsQ (S_X1_init q 0 (hsI S2 a 1) d (hnT S2 q 1)) x 0 = some arr := (congrFun (eo x hg.1).2.2.1 0).trans (by rw [harr]; exact some_get hg.2.2)
      refine lv_aload_n hx hb dX8_twin_106 rfl (lv_at hl 2 rfl) ?_
      refine hp_get (ci := 6) (C := RX8) (T := TX8) (N := 4) (v := .ref arr) hx hb hts iw_X8_twin_X8 hown hK hP (in2 x hg.1) (PF_6 (S := hwJc (S_X1_init q 0 (hsI S2 a 1) d (hnT S2 q 1)) b d 0 0 (hsI S2 a 1)) ((eo x hg.1).1.trans hg.2.1)) rfl 0 (by decide) (hts _ (List.mem_of_getElem? (i := 1) rfl)) (fun _ h9 => h9) (congrArg (fun z => some (va_rf z)) hcarr) dX8_twin_107 ?_
      refine lv_iload_n hx hb dX8_twin_110 rfl (lv_at hl 4 rfl) ?_
      refine lv_aload hx hb dX8_twin_111 (lv_at hl 0 rfl) ?_
      refine hp_aastT (S := hwJc (S_X1_init q 0 (hsI S2 a 1) d (hnT S2 q 1)) b d 0 0 (hsI S2 a 1)) (g2 := PF G (S_X8_twin arr a b q d p1 S2)) hx hb hE.2 hK hP (nz_D hnd hLz) hS (in2 arr r1) 2 (PF_10 ((eo arr r1).1.trans r2)) rfl ⟨List.mem_append_left _ mem_l1, (show 1 ≤ hsK (S_X1_init q 0 (hsI S2 a 1) d (hnT S2 q 1)) q by omega), (show hsK (S_X1_init q 0 (hsI S2 a 1) d (hnT S2 q 1)) q ≤ 5 by omega)⟩ (show vp_in p1 (hsN (S_X1_init q 0 (hsI S2 a 1) d (hnT S2 q 1)) arr) by rw [(eo arr r1).2.2.2.1]; exact r4) (PF_sR (S := hwJc (S_X1_init q 0 (hsI S2 a 1) d (hnT S2 q 1)) b d 0 0 (hsI S2 a 1)) ((eo arr r1).1.trans r2)) (fun _ hb9 => PF_wR hb9) dX8_twin_113 (fun H locs hP hS => ?_)
      refine lv_iconst (v := 1) hx hb dX8_twin_114 (by decide) ?_
      refine W.widen (k := 2) (n := 67) (Nat.le_of_ble_eq_true rfl) (Nat.le_of_ble_eq_true rfl) ?_
      rw [hZ]
      exact hz_iret hx hb hr hlocks hS hP hK hnd hLz hSz hE (Or.inr ⟨c_43, rfl, a, b, q, d, by rw [← hS2]; exact hat, hq, hd, rfl, by rw [← hS2, ← harr]⟩) dX8_twin_115
    ·
      refine lv_iconst (v := 0) hx hb dX8_twin_46 (by decide) ?_
      refine W.widen (k := 2) (n := 67) (Nat.le_of_ble_eq_true rfl) (Nat.le_of_ble_eq_true rfl) ?_
      rw [hZ]
      exact hz_iret hx hb hr hlocks hS hP hK hnd hLz hSz hE (Or.inl ⟨c_43, rfl, rfl, rfl⟩) dX8_twin_47
  have K_18 : ∀ (H : Heap) (locs : List Loc), h_X8_twinCause x p0 p1 S = 8 → va_P (gD G) vwCl (va_pl L (PF G S)) H → va_S (AZ L0 sz) s.heap H locs → ∀ (ls : Array Slot), lv_has ls 6 [(0, .ref x), (1, .int p0), (2, .int p1)] → W p l e (hz_R 3 63 2 67) s m ([.ref x, .int p0, .int p1] : List Value).toArray below meth c H locs 0 0 Z (F0 m 18 ls []) := by
    intro H locs hc8 hP hS ls hl
    refine lv_iconst (v := 0) hx hb dX8_twin_18 (by decide) ?_
    refine lv_istore_n (lv' := [(3, .int 0), (0, .ref x), (1, .int p0), (2, .int p1)]) hx hb dX8_twin_19 rfl hl (by decide) rfl (fun ls hl => ?_)
    refine lv_aload_n hx hb dX8_twin_20 rfl (lv_at hl 1 rfl) ?_
    refine lv_iload_n hx hb dX8_twin_21 rfl (lv_at hl 0 rfl) ?_
    refine lv_if_eq (tgt := 38) hx hb dX8_twin_22 (by decide) (fun _ => ?_) (fun z => absurd rfl z)
    refine lv_bipush (v := 8) hx hb dX8_twin_38 (by decide) ?_
    exact K_40 8 _ _ hc8.symm hP hS ls (lv_sub hl [1, 2, 3] rfl)
  refine lv_iload_n hx hb dX8_twin_0 rfl (lv_at hl 1 rfl) ?_
  refine pm_callI (va_runS (As := [.int p0]) (rest := []) ⟨hx, hb, hml, hown, hts⟩ (pm_X8_isCell l p0) (va_cwS 1 hts gX8_twin_X8_isCell rfl rfl rfl (by decide +kernel) ⟨Nat.le_of_ble_eq_true rfl, Nat.le_of_ble_eq_true rfl⟩) ⟨pm_fbT, fun U hU hW => ⟨rfl, trivial⟩⟩ rfl rfl hl.1 rfl (lv_room (Nat.le_of_ble_eq_true rfl)) dX8_twin_1 ⟨Nat.le_of_ble_eq_true rfl, Nat.le_of_ble_eq_true rfl⟩) hS (fun H locs _ hk9 hS => ?_)
  replace hP := P_keep hP hk9
  refine lv_if_eq (tgt := 18) hx hb dX8_twin_4 (by decide) (fun c_4 => ?_) (fun c_4 => ?_)
  · exact K_18 _ _ (if_pos c_4) hP hS ls hl
  refine lv_iload_n hx hb dX8_twin_7 rfl (lv_at hl 2 rfl) ?_
  refine pm_callI (va_runS (As := [.int p1]) (rest := []) ⟨hx, hb, hml, hown, hts⟩ (pm_X8_isCell l p1) (va_cwS 1 hts gX8_twin_X8_isCell rfl rfl rfl (by decide +kernel) ⟨Nat.le_of_ble_eq_true rfl, Nat.le_of_ble_eq_true rfl⟩) ⟨pm_fbT, fun U hU hW => ⟨rfl, trivial⟩⟩ rfl rfl hl.1 rfl (lv_room (Nat.le_of_ble_eq_true rfl)) dX8_twin_8 ⟨Nat.le_of_ble_eq_true rfl, Nat.le_of_ble_eq_true rfl⟩) hS (fun H locs _ hk9 hS => ?_)
  replace hP := P_keep hP hk9
  refine lv_if_eq (tgt := 18) hx hb dX8_twin_11 (by decide) (fun c_11 => ?_) (fun c_11 => ?_)
  · exact K_18 _ _ ((if_neg c_4).trans (if_pos c_11)) hP hS ls hl
  obtain ⟨hg, hr1, hno, hso⟩ := hcells c_4 c_11
  refine lv_iconst (v := 1) hx hb dX8_twin_14 (by decide) ?_
  refine lv_goto (tgt := 19) hx hb dX8_twin_15 (by decide) ?_
  refine lv_istore_n (lv' := [(3, .int 1), (0, .ref x), (1, .int p0), (2, .int p1)]) hx hb dX8_twin_19 rfl hl (by decide) rfl (fun ls hl => ?_)
  refine lv_aload_n hx hb dX8_twin_20 rfl (lv_at hl 1 rfl) ?_
  refine lv_iload_n hx hb dX8_twin_21 rfl (lv_at hl 0 rfl) ?_
  refine lv_if_eq (tgt := 38) hx hb dX8_twin_22 (by decide) (fun z => absurd z (by decide)) (fun _ => ?_)
  refine lv_iconst (v := 0) hx hb dX8_twin_25 (by decide) ?_
  refine lv_aload_n hx hb dX8_twin_26 rfl (lv_at hl 1 rfl) ?_
  refine hp_getR (ci := 6) (C := RX8) (T := TX8) (N := 4) hx hb hts iw_X8_twin_X8 hown hK hP hg.1 (PF_6 hg.2.1) rfl 0 (by decide) (hts _ (List.mem_of_getElem? (i := 1) rfl)) (fun _ h9 => h9) rfl hg.2.2 dX8_twin_27 ?_
  refine lv_iload_n hx hb dX8_twin_30 rfl (lv_at hl 2 rfl) ?_
  refine hp_aald hx hb hK hP hr1.1 2 (PF_10 hr1.2.1) rfl hr1.2.2 dX8_twin_31 ?_
  refine lv_topq (fun r er => ?_)
  rcases r with _ | a
  · refine hz_rIr (S1 := S) (h_X8_castCause_n 0 S) (va_runS (As := [.int 0, .null]) (rest := [.ref x]) ⟨hx, hb, hml, hown, hts⟩ (hm_X8_castCause_n l G L S 0 (hno er.symm)) (va_cwS 2 hts gX8_twin_X8_castCause rfl rfl rfl (by decide +kernel) ⟨Nat.le_of_ble_eq_true rfl, Nat.le_of_ble_eq_true rfl⟩) ⟨HW.fb, fun U hU hW => ⟨rfl, HZ.hw hP hK hnd hLz hE hS U hU hW⟩⟩ rfl rfl hl.1 rfl (lv_room (Nat.le_of_ble_eq_true rfl)) dX8_twin_32 ⟨Nat.le_of_ble_eq_true rfl, Nat.le_of_ble_eq_true rfl⟩) hS hLz (fun H locs hP hS => ?_)
    refine lv_goto (tgt := 40) hx hb dX8_twin_35 (by decide) ?_
    exact K_40 _ _ _ ((if_neg c_4).trans ((if_neg c_11).trans (oq_none er.symm))).symm hP hS ls (lv_sub hl [1, 2, 3] rfl)
  · refine hz_rIr (S1 := S) (h_X8_castCause_s 0 a S) (va_runS (As := [.int 0, .ref a]) (rest := [.ref x]) ⟨hx, hb, hml, hown, hts⟩ (hm_X8_castCause_s l G L S 0 a (hso a er.symm)) (va_cwS 2 hts gX8_twin_X8_castCause rfl rfl rfl (by decide +kernel) ⟨Nat.le_of_ble_eq_true rfl, Nat.le_of_ble_eq_true rfl⟩) ⟨HW.fb, fun U hU hW => ⟨rfl, HZ.hw hP hK hnd hLz hE hS U hU hW⟩⟩ rfl rfl hl.1 rfl (lv_room (Nat.le_of_ble_eq_true rfl)) dX8_twin_32 ⟨Nat.le_of_ble_eq_true rfl, Nat.le_of_ble_eq_true rfl⟩) hS hLz (fun H locs hP hS => ?_)
    refine lv_goto (tgt := 40) hx hb dX8_twin_35 (by decide) ?_
    exact K_40 _ _ _ ((if_neg c_4).trans ((if_neg c_11).trans (oq_some er.symm))).symm hP hS ls (lv_sub hl [1, 2, 3] rfl)
