/-! ===== rows of rows: newRows ===== -/
/-- a cell holds the same in both worlds -/
def hsEq (S S1 : HS) (b : Nat) : Prop := hsK S1 b = hsK S b ∧ hsI S1 b = hsI S b ∧ hsQ S1 b = hsQ S b ∧ hsN S1 b = hsN S b ∧ hsA S1 b = hsA S b ∧ hsJ S1 b = hsJ S b ∧ hsR S1 b = hsR S b
theorem hsEq.refl (S : HS) (b : Nat) : hsEq S S b := ⟨rfl, rfl, rfl, rfl, rfl, rfl, rfl⟩
theorem hsEq.trans {S S1 S2 : HS} {b : Nat} (h : hsEq S S1 b) (k : hsEq S1 S2 b) : hsEq S S2 b := ⟨k.1.trans h.1, k.2.1.trans h.2.1, k.2.2.1.trans h.2.2.1, k.2.2.2.1.trans h.2.2.2.1, k.2.2.2.2.1.trans h.2.2.2.2.1, k.2.2.2.2.2.1.trans h.2.2.2.2.2.1, k.2.2.2.2.2.2.trans h.2.2.2.2.2.2⟩
theorem hsEq.nT {S : HS} {q k b : Nat} (h : b ≠ q) : hsEq S (hnT S q k) b := ⟨va_up_ne _ _ h, va_up_ne _ _ h, va_up_ne _ _ h, rfl, rfl, rfl, rfl⟩
theorem hsEq.nA {S : HS} {q n b : Nat} (h : b ≠ q) : hsEq S (hnA S q n) b := ⟨va_up_ne _ _ h, rfl, rfl, va_up_ne _ _ h, va_up_ne _ _ h, rfl, rfl⟩
theorem hsEq.nJ {S : HS} {q n b : Nat} (h : b ≠ q) : hsEq S (hnJ S q n) b := ⟨va_up_ne _ _ h, rfl, rfl, va_up_ne _ _ h, rfl, va_up_ne _ _ h, rfl⟩
theorem hsEq.nR {S : HS} {q n b : Nat} (h : b ≠ q) : hsEq S (hnR S q n) b := ⟨va_up_ne _ _ h, rfl, rfl, va_up_ne _ _ h, rfl, rfl, va_up_ne _ _ h⟩
theorem hsEq.wI {S : HS} {a k b : Nat} {v : Int32} (h : b ≠ a) : hsEq S (hwI S a k v) b := ⟨rfl, up2_ne _ _ _ h, rfl, rfl, rfl, rfl, rfl⟩
theorem hsEq.wQ {S : HS} {a k b : Nat} {v : Option Nat} (h : b ≠ a) : hsEq S (hwQ S a k v) b := ⟨rfl, rfl, up2_ne _ _ _ h, rfl, rfl, rfl, rfl⟩
theorem hsEq.wA {S : HS} {a k b : Nat} {v : Int32} (h : b ≠ a) : hsEq S (hwA S a k v) b := ⟨rfl, rfl, rfl, rfl, up2_ne _ _ _ h, rfl, rfl⟩
theorem hsEq.wJ {S : HS} {a k b : Nat} {v : Int64} (h : b ≠ a) : hsEq S (hwJ S a k v) b := ⟨rfl, rfl, rfl, rfl, rfl, up2_ne _ _ _ h, rfl⟩
theorem hsEq.wR {S : HS} {a k b : Nat} {v : Option Nat} (h : b ≠ a) : hsEq S (hwR S a k v) b := ⟨rfl, rfl, rfl, rfl, rfl, rfl, up2_ne _ _ _ h⟩
theorem hsEq.X1 {S : HS} {x d b : Nat} {p0 p1 : Int32} (h1 : b ≠ x) (h2 : b ≠ d) : hsEq S (S_X1_init x p0 p1 d S) b := ((hsEq.wI h1).trans (hsEq.wI h1)).trans ((hsEq.nJ h2).trans (hsEq.wQ h1))
theorem hsEq.X7 {S : HS} {x d b : Nat} {p0 p1 : Int32} (h1 : b ≠ x) (h2 : b ≠ d) : hsEq S (S_X7_init x p0 p1 d S) b := ((hsEq.wI h1).trans (hsEq.wI h1)).trans ((hsEq.nR h2).trans (hsEq.wQ h1))
/-- what S_X1_init leaves at its two cells -/
theorem X1_at {S : HS} {x d : Nat} {p0 p1 : Int32} (h : x ≠ d) (hk : hsK S x = 1) : hsK (S_X1_init x p0 p1 d S) x = 1 ∧ hsI (S_X1_init x p0 p1 d S) x 0 = p0 ∧ hsI (S_X1_init x p0 p1 d S) x 1 = p1 ∧ hsQ (S_X1_init x p0 p1 d S) x 2 = some d ∧ hsK (S_X1_init x p0 p1 d S) d = 9 ∧ hsN (S_X1_init x p0 p1 d S) d = p1.toNatClampNeg ∧ hsJ (S_X1_init x p0 p1 d S) d = fun _ => 0 := by
  refine ⟨(va_up_ne _ _ h).trans hk, ?_, ?_, ?_, va_up_self _ _ _, va_up_self _ _ _, va_up_self _ _ _⟩
  · simp [hsI, S_X1_init, up2]
  · simp [hsI, S_X1_init, up2]
  · simp [hsQ, S_X1_init, up2]
theorem X7_at {S : HS} {x d : Nat} {p0 p1 : Int32} (h : x ≠ d) (hk : hsK S x = 5) : hsK (S_X7_init x p0 p1 d S) x = 5 ∧ hsI (S_X7_init x p0 p1 d S) x 0 = p0 ∧ hsI (S_X7_init x p0 p1 d S) x 1 = p1 ∧ hsQ (S_X7_init x p0 p1 d S) x 2 = some d ∧ hsK (S_X7_init x p0 p1 d S) d = 10 ∧ hsN (S_X7_init x p0 p1 d S) d = p1.toNatClampNeg ∧ hsR (S_X7_init x p0 p1 d S) d = fun _ => none := by
  refine ⟨(va_up_ne _ _ h).trans hk, ?_, ?_, ?_, va_up_self _ _ _, va_up_self _ _ _, va_up_self _ _ _⟩
  · simp [hsI, S_X7_init, up2]
  · simp [hsI, S_X7_init, up2]
  · simp [hsQ, S_X7_init, up2]
/-- i of n rows stand, each with its longs; what was there before is as it was -/
def NRow (L : List Nat) (S : HS) (q qe : Nat) (p0 p1 : Int32) (i : Nat) (ts ds : Nat → Nat) (L1 : List Nat) (S1 : HS) : Prop :=
  (∀ b ∈ L, b ∈ L1 ∧ hsEq S S1 b) ∧ (q ∉ L ∧ q ∈ L1 ∧ hsK S1 q = 5 ∧ hsI S1 q 0 = 7 ∧ hsI S1 q 1 = p0 ∧ hsQ S1 q 2 = some qe) ∧
  (qe ∉ L ∧ qe ∈ L1 ∧ hsK S1 qe = 10 ∧ hsN S1 qe = p0.toNatClampNeg ∧ (∀ j, j < i → hsR S1 qe j = some (ts j)) ∧ ∀ j, i ≤ j → hsR S1 qe j = none) ∧
  (∀ j, j < i → (ts j ∉ L ∧ ts j ∈ L1 ∧ hsK S1 (ts j) = 1 ∧ hsI S1 (ts j) 0 = 0 ∧ hsI S1 (ts j) 1 = p1 ∧ hsQ S1 (ts j) 2 = some (ds j)) ∧ ds j ∉ L ∧ ds j ∈ L1 ∧ hsK S1 (ds j) = 9 ∧ hsN S1 (ds j) = p1.toNatClampNeg ∧ hsJ S1 (ds j) = fun _ => 0) ∧
  ∀ j k, j < i → k < i → (ts j = ts k → j = k) ∧ (ds j = ds k → j = k)
theorem NRow.zero {L : List Nat} {S : HS} {q qe : Nat} {p0 p1 : Int32} (hq : q ∉ L) (hqe : qe ∉ L ++ [q]) : NRow L S q qe p0 p1 0 (fun _ => 0) (fun _ => 0) ((L ++ [q]) ++ [qe]) (S_X7_init q 7 p0 qe (hnT S q 5)) := by
  have hne : q ≠ qe := fun z => hqe (by rw [← z]; exact List.mem_append_right _ (List.mem_singleton.mpr rfl))
  obtain ⟨a1, a2, a3, a4, a5, a6, a7⟩ := X7_at (S := hnT S q 5) (p0 := 7) (p1 := p0) hne (va_up_self _ _ _)
  refine ⟨fun b hb => ⟨List.mem_append_left _ (List.mem_append_left _ hb), ?_⟩, ⟨hq, List.mem_append_left _ (List.mem_append_right _ (List.mem_singleton.mpr rfl)), a1, a2, a3, a4⟩, ⟨fun z => hqe (List.mem_append_left _ z), List.mem_append_right _ (List.mem_singleton.mpr rfl), a5, a6, fun j hj => absurd hj (Nat.not_lt_zero j), fun j _ => congrFun a7 j⟩, fun j hj => absurd hj (Nat.not_lt_zero j), fun j _ hj => absurd hj (Nat.not_lt_zero j)⟩
  have h1 : b ≠ q := fun z => hq (z ▸ hb)
  have h2 : b ≠ qe := fun z => hqe (List.mem_append_left _ (z ▸ hb))
  exact (hsEq.nT h1).trans (hsEq.X7 h1 h2)
theorem NRow.step {L : List Nat} {S : HS} {q qe : Nat} {p0 p1 : Int32} {i : Nat} {ts ds : Nat → Nat} {L1 : List Nat} {S1 : HS} (h : NRow L S q qe p0 p1 i ts ds L1 S1) {a d : Nat} (ha : a ∉ L1) (hd : d ∉ L1 ++ [a]) : NRow L S q qe p0 p1 (i + 1) (fun j => if j = i then a else ts j) (fun j => if j = i then d else ds j) ((L1 ++ [a]) ++ [d]) (hwR (S_X1_init a 0 p1 d (hnT S1 a 1)) qe i (some a)) := by
  obtain ⟨h1, ⟨q1, q2, q3, q4, q5, q6⟩, ⟨e1, e2, e3, e4, e5, e6⟩, ht, hj⟩ := h
  have had : a ≠ d := fun z => hd (by rw [← z]; exact List.mem_append_right _ (List.mem_singleton.mpr rfl))
  have in1 : ∀ b, b ∈ L1 → b ∈ (L1 ++ [a]) ++ [d] := fun b hb => List.mem_append_left _ (List.mem_append_left _ hb)
  have old : ∀ b, b ∈ L1 → b ≠ a ∧ b ≠ d ∧ hsEq S1 (S_X1_init a 0 p1 d (hnT S1 a 1)) b := fun b hb => by
    have n1 : b ≠ a := fun z => ha (z ▸ hb)
    have n2 : b ≠ d := fun z => hd (List.mem_append_left _ (z ▸ hb))
    exact ⟨n1, n2, (hsEq.nT n1).trans (hsEq.X1 n1 n2)⟩
  have nqe : ∀ b, b ∈ L → b ≠ qe := fun b hb z => e1 (z ▸ hb)
  obtain ⟨x1, x2, x3, x4, x5, x6, x7⟩ := X1_at (S := hnT S1 a 1) (p0 := 0) (p1 := p1) had (va_up_self _ _ _)
  have oq := (old q q2).2.2
  have oe := (old qe e2).2.2
  have anL : a ∉ L := fun z => ha (h1 a z).1
  have dnL : d ∉ L := fun z => hd (List.mem_append_left _ (h1 d z).1)
  refine ⟨fun b hb => ⟨in1 b (h1 b hb).1, ((h1 b hb).2.trans (old b (h1 b hb).1).2.2).trans (hsEq.wR (nqe b hb))⟩, ⟨q1, in1 q q2, oq.1.trans q3, (congrFun oq.2.1 0).trans q4, (congrFun oq.2.1 1).trans q5, (congrFun oq.2.2.1 2).trans q6⟩, ⟨e1, in1 qe e2, oe.1.trans e3, oe.2.2.2.1.trans e4, fun j hji => ?_, fun j hji => ?_⟩, fun j hji => ?_, fun j k hji hki => ?_⟩
  · by_cases hz : j = i
    · subst hz
      simp only [if_pos]
      exact up2_at _ _ _ _
    · simp only [if_neg hz]
      refine (up2_nk _ _ _ hz).trans ?_
      exact (congrFun oe.2.2.2.2.2.2 j).trans (e5 j (by omega))
  · refine (up2_nk _ _ _ (by omega)).trans ?_
    exact (congrFun oe.2.2.2.2.2.2 j).trans (e6 j (by omega))
  · by_cases hz : j = i
    · simp only [if_pos hz]
      exact ⟨⟨anL, List.mem_append_left _ (List.mem_append_right _ (List.mem_singleton.mpr rfl)), x1, x2, x3, x4⟩, dnL, List.mem_append_right _ (List.mem_singleton.mpr rfl), x5, x6, x7⟩
    · simp only [if_neg hz]
      obtain ⟨⟨t1, t2, t3, t4, t5, t6⟩, d1, d2, d3, d4, d5⟩ := ht j (by omega)
      have ot := (old _ t2).2.2
      have od := (old _ d2).2.2
      exact ⟨⟨t1, in1 _ t2, ot.1.trans t3, (congrFun ot.2.1 0).trans t4, (congrFun ot.2.1 1).trans t5, (congrFun ot.2.2.1 2).trans t6⟩, d1, in1 _ d2, od.1.trans d3, od.2.2.2.1.trans d4, od.2.2.2.2.2.1.trans d5⟩
  · by_cases hz : j = i <;> by_cases hy : k = i
    · exact ⟨fun _ => by omega, fun _ => by omega⟩
    · simp only [if_pos hz, if_neg hy]
      obtain ⟨⟨t1, t2, -⟩, d1, d2, -⟩ := ht k (by omega)
      exact ⟨fun z => absurd z.symm (old _ t2).1, fun z => absurd z.symm (old _ d2).2.1⟩
    · simp only [if_neg hz, if_pos hy]
      obtain ⟨⟨t1, t2, -⟩, d1, d2, -⟩ := ht j (by omega)
      exact ⟨fun z => absurd z (old _ t2).1, fun z => absurd z (old _ d2).2.1⟩
    · simp only [if_neg hz, if_neg hy]
      exact hj j k (by omega) (by omega)
theorem i_of {p : Int32} (h : ¬ p < 0) : p = Int32.ofNat p.toNatClampNeg := by
  apply Int32.toInt.inj
  have h1 := Int32.toInt_lt p
  have h2 : 0 ≤ p.toInt := by
    have := mt Int32.lt_iff_toInt_lt.mpr h
    simpa using this
  rw [Int32.toInt_ofNat_of_lt (by simp only [Int32.toNatClampNeg]; omega)]
  simp only [Int32.toNatClampNeg]
  omega
theorem i_toInt {n : Nat} (h : n < 2 ^ 31) : (Int32.ofNat n).toInt = n := Int32.toInt_ofNat_of_lt h
theorem i_nat {n : Nat} (h : n < 2 ^ 31) : (Int32.ofNat n).toNatClampNeg = n := by
  simp only [Int32.toNatClampNeg]
  rw [i_toInt h]
  omega
theorem i_le {n i : Nat} (h1 : n < 2 ^ 31) (h2 : i < 2 ^ 31) : Int32.ofNat n ≤ Int32.ofNat i ↔ n ≤ i := by
  rw [Int32.le_iff_toInt_le, i_toInt h1, i_toInt h2]
  omega
theorem i_nn {n : Nat} (h : n < 2 ^ 31) : ¬ Int32.ofNat n < 0 := by
  rw [Int32.lt_iff_toInt_lt, i_toInt h]
  simp
theorem iw_X8_newRows_X1 : ∀ w ∈ u_ws RX1 TX1 3, w ∈ wsX8_newRows := by decide +kernel
theorem iw_X8_newRows_X7 : ∀ w ∈ u_ws RX7 TX7 3, w ∈ wsX8_newRows := by decide +kernel
set_option maxHeartbeats 4000000 in
theorem hm_X8_newRows (l : Launch) (G : GE) (L0 : List Nat) (sz : Nat) (L : List Nat) (S : HS) (p0 p1 : Int32) (h0 : ¬ p0 < 0) (h64 : p0.toNatClampNeg ≤ 64) (g0 : ¬ p1 < 0) (g64 : p1.toNatClampNeg ≤ 64) : HzR l G yX8_newRows wsX8_newRows 3 57 130 4355 [.int p0, .int p1] L0 sz L S (fun q L1 S1 => ∃ (qe : Nat) (ts ds : Nat → Nat), NRow L S q qe p0 p1 p0.toNatClampNeg ts ds L1 S1) := by
  refine Met.ofW (cc := cX8_newRows) (maxL := 4) (ret := (some (.object "ThrowModels$ThingArray"))) (by decide) rfl ?_
  intro p e s m args below meth c s₁ B hml hv
  obtain ⟨rfl, ⟨hP, hK, hnd, hE0⟩, hLz, hSz, hE1⟩ := hv
  have hE : EZ G L0 sz s := ⟨hE1, hE0.2⟩
  have hx := B.exec
  have hb := B.bytes
  have hr := B.returns
  have hts := atoms_spec (ws := wsX8_newRows) B.pre
  have hown : s.vm.findClass RX8 = some m.cls := findClass_of_methodNamed B.named
  have hlocks := B.notSynchronized
  have hS : va_S (AZ L0 sz) s.heap s.heap [] := va_S.rf
  have hl := lv_entry ([.int p0, .int p1]) (n := 4) (Nat.le_of_ble_eq_true rfl)
  rw [lg_entry_eq]
  generalize (lg_sl ([.int p0, .int p1]) ++ List.replicate (4 - (lg_sl ([.int p0, .int p1])).length) Slot.unset).toArray = ls at hl ⊢
  have hl : lv_has ls 4 [(0, .int p0), (1, .int p1)] := hl
  obtain ⟨Z, hZ⟩ : ∃ z, z = MQ below (hz_QR G L0 sz (fun q L1 S1 => ∃ (qe : Nat) (ts ds : Nat → Nat), NRow L S q qe p0 p1 p0.toNatClampNeg ts ds L1 S1)) ([.int p0, .int p1] : List Value).toArray s 130 4355 (AZ L0 sz) := ⟨_, rfl⟩
  rw [← hZ]
  obtain ⟨n, hn⟩ : ∃ n, n = p0.toNatClampNeg := ⟨_, rfl⟩
  have h64' : n ≤ 64 := hn ▸ h64
  have hp0 : p0 = Int32.ofNat n := hn ▸ i_of h0
  refine hz_new (ci := 5) (k := 5) (C := RX7) (T := TX7) (N := 3) (fs := [.int 0, .int 0, .null]) hx hb hts iw_X8_newRows_X7 tyX7 tyX7_ok hown (hts _ (List.mem_of_getElem? (i := 1) rfl)) (hts _ (List.mem_of_getElem? (i := 2) rfl)) (hts _ (List.mem_of_getElem? (i := 3) rfl)) hK hP hnd hLz hSz hS rfl (fun q => PF_nT5) (fun j hj => by rcases (show j = 0 ∨ j = 1 ∨ j = 2 by omega) with rfl | rfl | rfl <;> rfl) (Nat.le_of_ble_eq_true rfl) (Nat.le_of_ble_eq_true rfl) dX8_newRows_0 (fun q H hq hP hnd hLz hS => ?_)
  refine lv_dup hx hb dX8_newRows_3 rfl ?_
  refine lv_bipush (v := 7) hx hb dX8_newRows_4 (by decide) ?_
  refine lv_iload_n hx hb dX8_newRows_6 rfl (lv_at hl 0 rfl) ?_
  have hqin : q ∈ L ++ [q] := List.mem_append_right _ (List.mem_singleton.mpr rfl)
  refine hz_callV (va_runI (As := [.int 7, .int p0]) (rest := [.ref q]) ⟨hx, hb, hml, hown, hts⟩ (hm_X7_init l G L0 sz (L ++ [q]) (hnT S q 5) q 7 p0 ⟨hqin, va_up_self _ _ _⟩ h0 h64) (cwI 2 hts gX8_newRows_X7_init rfl rfl rfl (hts _ (List.mem_of_getElem? (i := 3) rfl)) (hts _ (List.mem_of_getElem? (i := 10) rfl)) (hts _ (List.mem_of_getElem? (i := 11) rfl)) rfl (by decide +kernel) ⟨Nat.le_of_ble_eq_true rfl, Nat.le_of_ble_eq_true rfl⟩) ⟨HZ.fb, fun U hU hW => ⟨rfl, HZ.of hP hK hnd hLz hSz hE hS U hU hW⟩⟩ rfl rfl hl.1 rfl (lv_room (Nat.le_of_ble_eq_true rfl)) dX8_newRows_7 ⟨Nat.le_of_ble_eq_true rfl, Nat.le_of_ble_eq_true rfl⟩) hS (fun L1 S1 H locs hpost hP hnd hLz hS => ?_)
  obtain ⟨qe, hqe, rfl, rfl⟩ := hpost
  refine lv_astore_n (lv' := [(2, .ref q), (0, .int p0), (1, .int p1)]) hx hb dX8_newRows_10 rfl hl (by decide) rfl (fun ls hl => ?_)
  refine lv_iconst (v := 0) hx hb dX8_newRows_11 (by decide) ?_
  refine lv_istore_n (lv' := [(3, .int 0), (2, .ref q), (0, .int p0), (1, .int p1)]) hx hb dX8_newRows_12 rfl hl (by decide) rfl (fun ls hl => ?_)
  have K_13 : ∀ (k i : Nat), i + k = n → ∀ (ts ds : Nat → Nat) (L1 : List Nat) (S1 : HS) (H : Heap) (locs : List Loc), NRow L S q qe p0 p1 i ts ds L1 S1 → va_P (gD G) vwCl (va_pl L1 (PF G S1)) H → L1.Nodup → (∀ q ∈ L1, AZ L0 sz q) → va_S (AZ L0 sz) s.heap H locs → ∀ (ls : Array Slot), lv_has ls 4 [(3, .int (Int32.ofNat i)), (2, .ref q), (0, .int p0), (1, .int p1)] → W p l e (hz_R 3 57 130 4355) s m ([.int p0, .int p1] : List Value).toArray below meth c H locs (2 + 2 * i) (67 + 67 * i) Z (F0 m 13 ls []) := by
    intro k
    induction k with
    | zero =>
      intro i hi ts ds L1 S1 H locs hN hP hnd hLz hS ls hl
      have hin : i = n := by omega
      subst hin
      have hN' := hN
      obtain ⟨-, ⟨q1, q2, q3, q4, q5, q6⟩, -⟩ := hN'
      refine lv_iload_n hx hb dX8_newRows_13 rfl (lv_at hl 0 rfl) ?_
      refine lv_aload_n hx hb dX8_newRows_14 rfl (lv_at hl 1 rfl) ?_
      refine hp_get (ci := 5) (C := RX7) (T := TX7) (N := 3) (v := .int p0) hx hb hts iw_X8_newRows_X7 hown hK hP q2 (PF_5 q3) rfl 1 (by decide) (hts _ (List.mem_of_getElem? (i := 4) rfl)) (fun x9 h9 => u_same (hts _ (List.mem_of_getElem? (i := 5) rfl)) x9 h9) (congrArg (fun z => some (Value.int z)) q5) dX8_newRows_15 ?_
      refine lv_icmp_ge (tgt := 42) hx hb dX8_newRows_18 (by decide) (fun c_18 => ?_) (fun c_18 => absurd (by rw [hp0]; exact (i_le (by omega) (by omega)).mpr (Nat.le_refl i)) c_18)
      refine lv_aload_n hx hb dX8_newRows_42 rfl (lv_at hl 1 rfl) ?_
      refine W.widen (k := 130) (n := 4355) (by omega) (by omega) ?_
      rw [hZ]
      exact hz_aret hx hb hr ⟨_, rfl⟩ hlocks hS hP hK hnd hLz hSz hE ⟨qe, ts, ds, hn ▸ hN⟩ dX8_newRows_43
    | succ k ih =>
      intro i hi ts ds L1 S1 H locs hN hP hnd hLz hS ls hl
      have hN' := hN
      obtain ⟨-, ⟨q1, q2, q3, q4, q5, q6⟩, ⟨e1, e2, e3, e4, e5, e6⟩, -⟩ := hN'
      refine lv_iload_n hx hb dX8_newRows_13 rfl (lv_at hl 0 rfl) ?_
      refine lv_aload_n hx hb dX8_newRows_14 rfl (lv_at hl 1 rfl) ?_
      refine hp_get (ci := 5) (C := RX7) (T := TX7) (N := 3) (v := .int p0) hx hb hts iw_X8_newRows_X7 hown hK hP q2 (PF_5 q3) rfl 1 (by decide) (hts _ (List.mem_of_getElem? (i := 4) rfl)) (fun x9 h9 => u_same (hts _ (List.mem_of_getElem? (i := 5) rfl)) x9 h9) (congrArg (fun z => some (Value.int z)) q5) dX8_newRows_15 ?_
      refine lv_icmp_ge (tgt := 42) hx hb dX8_newRows_18 (by decide) (fun c_18 => absurd ((i_le (by omega) (by omega)).mp (hp0 ▸ c_18)) (by omega)) (fun c_18 => ?_)
      refine lv_aload_n hx hb dX8_newRows_21 rfl (lv_at hl 1 rfl) ?_
      refine hp_get (ci := 5) (C := RX7) (T := TX7) (N := 3) (v := .ref qe) hx hb hts iw_X8_newRows_X7 hown hK hP q2 (PF_5 q3) rfl 2 (by decide) (hts _ (List.mem_of_getElem? (i := 6) rfl)) (fun _ h9 => h9) (congrArg (fun z => some (va_rf z)) q6) dX8_newRows_22 ?_
      refine lv_iload_n hx hb dX8_newRows_25 rfl (lv_at hl 0 rfl) ?_
      refine hz_new (ci := 1) (k := 1) (C := RX1) (T := TX1) (N := 3) (fs := [.int 0, .int 0, .null]) hx hb hts iw_X8_newRows_X1 tyX1 tyX1_ok hown (hts _ (List.mem_of_getElem? (i := 7) rfl)) (hts _ (List.mem_of_getElem? (i := 8) rfl)) (hts _ (List.mem_of_getElem? (i := 9) rfl)) hK hP hnd hLz hSz hS rfl (fun q => PF_nT1) (fun j hj => by rcases (show j = 0 ∨ j = 1 ∨ j = 2 by omega) with rfl | rfl | rfl <;> rfl) (show 2 + 2 * i + 1 ≤ 130 by omega) (show 67 + 67 * i + 3 ≤ 4355 by omega) dX8_newRows_26 (fun a H ha hP hnd hLz hS => ?_)
      refine lv_dup hx hb dX8_newRows_29 rfl ?_
      refine lv_iconst (v := 0) hx hb dX8_newRows_30 (by decide) ?_
      refine lv_iload_n hx hb dX8_newRows_31 rfl (lv_at hl 3 rfl) ?_
      have hain : a ∈ L1 ++ [a] := List.mem_append_right _ (List.mem_singleton.mpr rfl)
      refine hz_callV (va_runI (As := [.int 0, .int p1]) (rest := [.ref a, .int (Int32.ofNat i), .ref qe]) ⟨hx, hb, hml, hown, hts⟩ (hm_X1_init l G L0 sz (L1 ++ [a]) (hnT S1 a 1) a 0 p1 ⟨hain, va_up_self _ _ _⟩ g0 g64) (cwI 2 hts gX8_newRows_X1_init rfl rfl rfl (hts _ (List.mem_of_getElem? (i := 9) rfl)) (hts _ (List.mem_of_getElem? (i := 24) rfl)) (hts _ (List.mem_of_getElem? (i := 25) rfl)) rfl (by decide +kernel) ⟨Nat.le_of_ble_eq_true rfl, Nat.le_of_ble_eq_true rfl⟩) ⟨HZ.fb, fun U hU hW => ⟨rfl, HZ.of hP hK hnd hLz hSz hE hS U hU hW⟩⟩ rfl rfl hl.1 rfl (lv_room (Nat.le_of_ble_eq_true rfl)) dX8_newRows_32 ⟨show 2 + 2 * i + 1 + 1 ≤ 130 by omega, show 67 + 67 * i + 3 + 64 ≤ 4355 by omega⟩) hS (fun L2 S2 H locs hpost hP hnd hLz hS => ?_)
      obtain ⟨d, hd, rfl, rfl⟩ := hpost
      have had : a ≠ d := fun z => hd (by rw [← z]; exact List.mem_append_right _ (List.mem_singleton.mpr rfl))
      have hqa : qe ≠ a := fun z => ha (z ▸ e2)
      have hqd : qe ≠ d := fun z => hd (List.mem_append_left _ (z ▸ e2))
      have oe := (hsEq.nT (S := S1) (k := 1) hqa).trans (hsEq.X1 (p0 := 0) (p1 := p1) hqa hqd)
      have ka := (X1_at (S := hnT S1 a 1) (p0 := 0) (p1 := p1) had (va_up_self _ _ _)).1
      have kin : vp_in (Int32.ofNat i) (hsN (S_X1_init a 0 p1 d (hnT S1 a 1)) qe) := by
        rw [oe.2.2.2.1, e4, ← hn]
        intro z
        rcases z with z | z
        · exact i_nn (by omega) z
        · rw [i_nat (by omega)] at z
          omega
      refine hp_aastT (S := S_X1_init a 0 p1 d (hnT S1 a 1)) (g2 := PF G (hwR (S_X1_init a 0 p1 d (hnT S1 a 1)) qe (Int32.ofNat i).toNatClampNeg (some a))) hx hb hE.2 hK hP (nz_D hnd hLz) hS (List.mem_append_left _ (List.mem_append_left _ e2)) 2 (PF_10 (oe.1.trans e3)) rfl ⟨List.mem_append_left _ hain, by omega, by omega⟩ kin (PF_sR (oe.1.trans e3)) (fun _ hb9 => PF_wR hb9) dX8_newRows_35 (fun H locs hP hS => ?_)
      rw [i_nat (by omega)] at hP
      refine lv_iinc (v := Int32.ofNat (i + 1)) (lv' := [(3, .int (Int32.ofNat (i + 1))), (2, .ref q), (0, .int p0), (1, .int p1)]) hx hb dX8_newRows_36 hl (k := 0) rfl (by rw [Int32.ofNat_add]; rfl) (by decide) rfl (fun ls hl => ?_)
      refine lv_goto (tgt := 13) hx hb dX8_newRows_39 (by decide) ?_
      refine W.widen (k := 2 + 2 * (i + 1)) (n := 67 + 67 * (i + 1)) (by omega) (by omega) ?_
      exact ih (i + 1) (by omega) _ _ _ _ H locs (hN.step ha hd) hP hnd hLz hS ls hl
  exact K_13 n 0 (by omega) _ _ _ _ H locs (NRow.zero hq hqe) hP hnd hLz hS ls hl
