/-! ===== what the class's private methods need and answer about things ===== -/
section OKX
variable {L : List Nat} {x cC cN : Nat} {ad rq : Nat → Nat} {A : AS} {S : HS} {k : Nat}
theorem RX.some (h : RX L x cC cN ad rq A S) (hw : WF k A) {p : Int32} (hp : ¬ s_X8_isCell p = 0) {a : Nat} (ha : hsR S ((hsQ S x 0).getD 0) p.toNatClampNeg = some a) : ∃ e, e = aC A p.toNatClampNeg ∧ e ≠ 0 ∧ e ≤ aT A ∧ a = ad e := by
  have hq : (hsQ S x 0).getD 0 = cC := by rw [h.q0]; rfl
  rw [hq, h.cell hp] at ha
  refine ⟨_, rfl, ?_⟩
  have he := h.cle hw hp
  generalize aC A p.toNatClampNeg = e at ha he
  by_cases h0 : e = 0
  · rw [h0, qa_0] at ha
    cases ha
  · rw [qa_s ad h0] at ha
    injection ha with ha
    exact ⟨h0, he, ha.symm⟩
variable {e : Nat}
theorem RX.okT_cc (h : RX L x cC cN ad rq A S) (hw : WF k A) (h1 : e ≠ 0) (h2 : e ≤ aT A) (ty : Int32) : ok_X8_castCause_s L ty (ad e) S := by
  obtain ⟨t1, t2, -, -⟩ := h.thing hw h1 h2
  unfold ok_X8_castCause_s ok_X8_passesCast_s ok_X6_isOf
  repeat' (first | exact trivial | exact t1 | exact t2 | (intro _) | (refine And.intro ?_ ?_))
theorem RX.okT_pc (h : RX L x cC cN ad rq A S) (hw : WF k A) (h1 : e ≠ 0) (h2 : e ≤ aT A) (ty : Int32) : ok_X8_passesCast_s L ty (ad e) S := (h.okT_cc hw h1 h2 ty).1
theorem RX.okT_ec (h : RX L x cC cN ad rq A S) (hw : WF k A) (h1 : e ≠ 0) (h2 : e ≤ aT A) (ty i : Int32) : ok_X8_elementCause_s L ty (ad e) i S := by
  obtain ⟨t1, t2, -, -⟩ := h.thing hw h1 h2
  have t3 := h.okT_cc hw h1 h2 ty
  unfold ok_X8_elementCause_s ok_X6_holds
  repeat' (first | exact trivial | exact t1 | exact t2 | exact t3 | (intro _) | (refine And.intro ?_ ?_))
theorem kx_1 {n : Nat} (hn : n ≤ 12) : kx n = 1 ↔ n < 7 := by
  unfold kx
  split
  · simp_all
  · split <;> omega
theorem kx_5 {n : Nat} (hn : n ≤ 12) : kx n = 5 ↔ 7 ≤ n ∧ n < 10 := by
  unfold kx
  split
  · omega
  · split
    · simp_all
    · omega
theorem kx_o {n : Nat} (hn : n ≤ 12) : (2 ≤ kx n ∧ kx n ≤ 4) ↔ 10 ≤ n := by
  unfold kx
  split
  · omega
  · split
    · omega
    · omega
theorem RX.row (h : RX L x cC cN ad rq A S) (h1 : e ≠ 0) (h2 : e ≤ aT A) (hk : aK A e < 10) : hsI S (ad e) 1 = aN A e ∧ hsQ S (ad e) 2 = Option.some (rq e) ∧ rq e ∈ L ∧ hsN S (rq e) = aLen A e := (h.2.2.2.1 e (by omega) h2).2.1 hk
theorem in_len {i n : Int32} (h0 : ¬ i < 0) (h1 : ¬ n ≤ i) : vp_in i n.toNatClampNeg ∧ i.toNatClampNeg < n.toNatClampNeg := by
  rw [Int32.lt_iff_toInt_lt, show (0 : Int32).toInt = 0 from by decide] at h0
  rw [Int32.le_iff_toInt_le] at h1
  have h2 : i.toNatClampNeg < n.toNatClampNeg := by
    simp only [Int32.toNatClampNeg]
    omega
  refine ⟨fun z => ?_, h2⟩
  rcases z with z | z
  · rw [Int32.lt_iff_toInt_lt, show (0 : Int32).toInt = 0 from by decide] at z
    exact h0 z
  · omega
theorem RX.holds (h : RX L x cC cN ad rq A S) (h1 : e ≠ 0) (h2 : e ≤ aT A) (hk : aK A e < 10) (i : Int32) : h_X6_holds (ad e) i S = if i < 0 then 0 else if aN A e ≤ i then 0 else 1 := by
  unfold h_X6_holds
  rw [(h.row h1 h2 hk).1]
theorem hold_in {i n : Int32} (h : ¬ (if i < 0 then (0 : Int32) else if n ≤ i then 0 else 1) = 0) : ¬ i < 0 ∧ ¬ n ≤ i := by
  by_cases h1 : i < 0
  · rw [if_pos h1] at h
    exact absurd rfl h
  · rw [if_neg h1] at h
    by_cases h2 : n ≤ i
    · rw [if_pos h2] at h
      exact absurd rfl h
    · exact ⟨h1, h2⟩
theorem RX.rowg (h : RX L x cC cN ad rq A S) (h1 : e ≠ 0) (h2 : e ≤ aT A) (hk : aK A e < 10) : (hsQ S (ad e) 2).getD 0 = rq e := by
  rw [(h.row h1 h2 hk).2.1]
  rfl
theorem RX.okT_nu (h : RX L x cC cN ad rq A S) (hw : WF k A) (h1 : e ≠ 0) (h2 : e ≤ aT A) (i : Int32) : ok_X8_numberAt_s L (ad e) i S := by
  obtain ⟨t1, t2, t3, -⟩ := h.thing hw h1 h2
  have hk := (hw.2.2.1 e (by omega) h2).1
  unfold ok_X8_numberAt_s
  refine ⟨t1, fun z => ?_, fun _ => trivial⟩
  have h7 : aK A e < 7 := (kx_1 hk).mp (t3.symm.trans z)
  refine ⟨⟨t1.1, z⟩, ⟨t1.1, z⟩, ?_, fun _ => trivial, fun y => ?_⟩
  · unfold ok_X6_holds
    repeat' (first | exact trivial | exact t1 | (intro _) | (refine And.intro ?_ ?_))
  · obtain ⟨r1, r2, r3, r4⟩ := h.row h1 h2 (by omega)
    rw [h.holds h1 h2 (by omega)] at y
    obtain ⟨y1, y2⟩ := hold_in y
    refine ⟨⟨t1.1, z, fun w => by rw [r2] at w; cases w⟩, ?_, trivial⟩
    rw [h.rowg h1 h2 (by omega)]
    refine ⟨r3, ((h.2.2.2.1 e (by omega) h2).2.2.1 h7).1, ?_⟩
    rw [r4]
    exact (in_len y1 y2).1
theorem RX.okT_el (h : RX L x cC cN ad rq A S) (hw : WF k A) (h1 : e ≠ 0) (h2 : e ≤ aT A) (i : Int32) : ok_X8_elementAt_s L (ad e) i S := by
  obtain ⟨t1, t2, t3, -⟩ := h.thing hw h1 h2
  have hk := (hw.2.2.1 e (by omega) h2).1
  unfold ok_X8_elementAt_s
  refine ⟨t1, fun z => ?_, fun _ => trivial⟩
  have h7 := (kx_5 hk).mp (t3.symm.trans z)
  refine ⟨⟨t1.1, z⟩, ⟨t1.1, z⟩, ?_, fun _ => trivial, fun y => ?_⟩
  · unfold ok_X6_holds
    repeat' (first | exact trivial | exact t1 | (intro _) | (refine And.intro ?_ ?_))
  · obtain ⟨r1, r2, r3, r4⟩ := h.row h1 h2 h7.2
    rw [h.holds h1 h2 h7.2] at y
    obtain ⟨y1, y2⟩ := hold_in y
    refine ⟨⟨t1.1, z, fun w => by rw [r2] at w; cases w⟩, ?_, fun _ => trivial, fun _ _ => trivial⟩
    rw [h.rowg h1 h2 h7.2]
    refine ⟨r3, ((h.2.2.2.1 e (by omega) h2).2.2.2.1 h7.1 h7.2).1, ?_⟩
    rw [r4]
    exact (in_len y1 y2).1
theorem RX.number (h : RX L x cC cN ad rq A S) (hw : WF k A) (h1 : e ≠ 0) (h2 : e ≤ aT A) (hk : aK A e < 7) {i : Int32} (i0 : ¬ i < 0) (i1 : ¬ aN A e ≤ i) : h_X8_numberAt_s (ad e) i S = aE A e i.toNatClampNeg := by
  obtain ⟨t1, t2, t3, -⟩ := h.thing hw h1 h2
  unfold h_X8_numberAt_s
  rw [if_pos (t3.trans ((kx_1 (by omega)).mpr hk)), h.holds h1 h2 (by omega), if_neg i0, if_neg i1, if_neg (by decide), h.rowg h1 h2 (by omega)]
  exact ((h.2.2.2.1 e (by omega) h2).2.2.1 hk).2 _ (in_len i0 i1).2
theorem oq_id (o : Option Nat) : oq o none (fun a => Option.some a) = o := by cases o <;> rfl
theorem RX.element (h : RX L x cC cN ad rq A S) (hw : WF k A) (h1 : e ≠ 0) (h2 : e ≤ aT A) (hk7 : 7 ≤ aK A e) (hk : aK A e < 10) {i : Int32} (i0 : ¬ i < 0) (i1 : ¬ aN A e ≤ i) : h_X8_elementAt_s (ad e) i S = qa ad (uN (aE A e i.toNatClampNeg)) := by
  obtain ⟨t1, t2, t3, -⟩ := h.thing hw h1 h2
  unfold h_X8_elementAt_s
  rw [if_pos (t3.trans ((kx_5 (by omega)).mpr ⟨hk7, hk⟩)), h.holds h1 h2 hk, if_neg i0, if_neg i1, if_neg (by decide), h.rowg h1 h2 hk, oq_id]
  exact ((h.2.2.2.1 e (by omega) h2).2.2.2.1 hk7 hk).2.2 _ (in_len i0 i1).2
theorem RX.elsome (h : RX L x cC cN ad rq A S) (hw : WF k A) (h1 : e ≠ 0) (h2 : e ≤ aT A) {i : Int32} {b : Nat} (hb : h_X8_elementAt_s (ad e) i S = Option.some b) : ∃ f, f ≠ 0 ∧ f ≤ aT A ∧ b = ad f := by
  obtain ⟨t1, t2, t3, -⟩ := h.thing hw h1 h2
  have hk := (hw.2.2.1 e (by omega) h2).1
  by_cases h5 : hsK S (ad e) = 5
  · obtain ⟨k1, k2⟩ := (kx_5 hk).mp (t3.symm.trans h5)
    by_cases i0 : i < 0
    · unfold h_X8_elementAt_s at hb
      rw [if_pos h5, h.holds h1 h2 k2, if_pos i0, if_pos rfl] at hb
      cases hb
    by_cases i1 : aN A e ≤ i
    · unfold h_X8_elementAt_s at hb
      rw [if_pos h5, h.holds h1 h2 k2, if_neg i0, if_pos i1, if_pos rfl] at hb
      cases hb
    rw [h.element hw h1 h2 k1 k2 i0 i1] at hb
    have hle := (hw.2.2.2.2 e (by omega) h2 k1 k2 _ (in_len i0 i1).2).1
    generalize uN (aE A e i.toNatClampNeg) = f at hb hle
    by_cases f0 : f = 0
    · rw [f0, qa_0] at hb
      cases hb
    · rw [qa_s ad f0] at hb
      injection hb with hb
      exact ⟨f, f0, hle, hb.symm⟩
  · unfold h_X8_elementAt_s at hb
    rw [if_neg h5] at hb
    cases hb
/-- own things -/
theorem RX.own (h : RX L x cC cN ad rq A S) (hw : WF k A) (h1 : e ≠ 0) (h2 : e ≤ aT A) (hk : 10 ≤ aK A e) : (ad e ∈ L ∧ 2 ≤ hsK S (ad e) ∧ hsK S (ad e) ≤ 4) ∧ hsI S (ad e) 2 = aN A e ∧ hsK S (ad e) = aK A e - 8 := by
  obtain ⟨t1, t2, t3, -⟩ := h.thing hw h1 h2
  have h12 := (hw.2.2.1 e (by omega) h2).1
  have h3 := (kx_o h12).mpr hk
  rw [← t3] at h3
  refine ⟨⟨t1.1, h3⟩, ((h.2.2.2.1 e (by omega) h2).2.2.2.2 hk).2, ?_⟩
  rw [t3]
  unfold kx
  rw [if_neg (by omega), if_neg (by omega)]
/-- a cause that hangs on a cell's thing -/
theorem RX.by (h : RX L x cC cN ad rq A S) {α : Type} (F : Int32 → α) {p n : Int32} (s : Nat → Int32) (hp : ¬ s_X8_isCell p = 0) : oq (hsR S ((hsQ S x 0).getD 0) p.toNatClampNeg) (F n) (fun a => F (s a)) = F (if aC A p.toNatClampNeg = 0 then n else s (ad (aC A p.toNatClampNeg))) := by
  have hq : (hsQ S x 0).getD 0 = cC := by rw [h.q0]; rfl
  rw [hq, h.cell hp, oq_qa]
  split <;> rfl
theorem RX.cellq (h : RX L x cC cN ad rq A S) {p : Int32} (hp : ¬ s_X8_isCell p = 0) : hsR S ((hsQ S x 0).getD 0) p.toNatClampNeg = qa ad (aC A p.toNatClampNeg) := by
  have hq : (hsQ S x 0).getD 0 = cC := by rw [h.q0]; rfl
  rw [hq, h.cell hp]
end OKX
section OKM
variable {L : List Nat} {m : Nat} {ma bs : Nat → Nat} {ui uo : Nat} {A : AS} {S : HS} {k : Nat} {e : Nat}
theorem RM.cellq (h : RM L m ma bs ui uo A S) {p : Int32} (hp : ¬ s_X8_isCell p = 0) : hsA S ((hsQ S m 8).getD 0) p.toNatClampNeg = Int32.ofNat (aC A p.toNatClampNeg) := by rw [h.q in_8, h.cell hp]
theorem RM.ok8 (h : RM L m ma bs ui uo A S) {p : Int32} (hp : ¬ s_X8_isCell p = 0) : (m ∈ L ∧ hsK S m = 7 ∧ hsQ S m 8 ≠ none) ∧ ((hsQ S m 8).getD 0 ∈ L ∧ hsK S ((hsQ S m 8).getD 0) = 8 ∧ vp_in p (hsN S ((hsQ S m 8).getD 0))) := ⟨h.okq in_8, h.oka in_8 (by decide) (cell_16 hp).2.2⟩
theorem RM.okt (h : RM L m ma bs ui uo A S) (hw : WF k A) (h2 : e ≤ aT A) {f : Nat} (hf : f = 0 ∨ f = 1 ∨ f = 2) : (m ∈ L ∧ hsK S m = 7 ∧ hsQ S m f ≠ none) ∧ ((hsQ S m f).getD 0 ∈ L ∧ hsK S ((hsQ S m f).getD 0) = 8 ∧ vp_in (Int32.ofNat e) (hsN S ((hsQ S m f).getD 0))) := by
  have h3 := wf_31 hw h2
  rcases hf with rfl | rfl | rfl
  · exact ⟨h.okq in_0, h.oka in_0 (by decide) (vp_n h3.1 h3.2)⟩
  · exact ⟨h.okq in_1, h.oka in_1 (by decide) (vp_n h3.1 h3.2)⟩
  · exact ⟨h.okq in_2, h.oka in_2 (by decide) (vp_n h3.1 h3.2)⟩
/-- the place of an element -/
theorem RM.place (h : RM L m ma bs ui uo A S) (hw : WF k A) (hui : ui ≤ 4096 * k) (huo : uo ≤ 64 * k) (h1 : e ≠ 0) (h2 : e ≤ aT A) (hk : aK A e < 10) {i : Int32} (i0 : ¬ i < 0) (i1 : ¬ aN A e ≤ i) : (hsA S ((hsQ S m 2).getD 0) (Int32.ofNat e).toNatClampNeg + i).toNatClampNeg = bs e + i.toNatClampNeg ∧ (aK A e = 0 → vp_in (hsA S ((hsQ S m 2).getD 0) (Int32.ofNat e).toNatClampNeg + i) 2130000) ∧ (1 ≤ aK A e → vp_in (hsA S ((hsQ S m 2).getD 0) (Int32.ofNat e).toNatClampNeg + i) 33400) := by
  have ht := h.2.2.2.2.1 e (by omega) h2
  have hl := (in_len i0 i1).2
  have hb : hsA S ((hsQ S m 2).getD 0) (Int32.ofNat e).toNatClampNeg = Int32.ofNat (bs e) := by
    rw [h.q in_2, nN (wf_31 hw h2).2]
    exact ht.2.1 hk
  have hk512 := hw.2.1
  have hi : i = Int32.ofNat i.toNatClampNeg := i_of i0
  have hbl : (aK A e = 0 → bs e + i.toNatClampNeg < 2130000) ∧ (1 ≤ aK A e → bs e + i.toNatClampNeg < 33400) := by
    refine ⟨fun z => ?_, fun z => ?_⟩
    · have := (ht.2.2.1 z).1
      unfold aLen at this
      omega
    · have := (ht.2.2.2 z hk).1
      unfold aLen at this
      omega
  have h31 : bs e + i.toNatClampNeg < 2 ^ 31 := by
    rcases Nat.eq_zero_or_pos (aK A e) with z | z
    · have := hbl.1 z
      omega
    · have := hbl.2 z
      omega
  have hsum : Int32.ofNat (bs e) + i = Int32.ofNat (bs e + i.toNatClampNeg) := by
    rw [Int32.ofNat_add, ← hi]
  rw [hb, hsum]
  exact ⟨nN h31, fun z => vp_n (hbl.1 z) h31, fun z => vp_n (hbl.2 z) h31⟩
theorem k_0 {n : Nat} (h : n ≤ 12) : Int32.ofNat n = 0 ↔ n = 0 := n0 (by omega)
theorem RM.okel (h : RM L m ma bs ui uo A S) (hw : WF k A) (hui : ui ≤ 4096 * k) (huo : uo ≤ 64 * k) (h1 : e ≠ 0) (h2 : e ≤ aT A) (hk : aK A e < 10) {i : Int32} (i0 : ¬ i < 0) (i1 : ¬ aN A e ≤ i) : ok_X9_element L m (Int32.ofNat e) i S := by
  obtain ⟨p1, p2, p3⟩ := h.place hw hui huo h1 h2 hk i0 i1
  have h3 := wf_31 hw h2
  have hkk : hsA S ((hsQ S m 0).getD 0) (Int32.ofNat e).toNatClampNeg = Int32.ofNat (aK A e) := by rw [h.q in_0, (h.kind hw h1 h2).1]
  have hc := k_0 (show aK A e ≤ 12 by omega)
  unfold ok_X9_element
  rw [hkk]
  refine ⟨h.okq in_0, h.oka in_0 (by decide) (vp_n h3.1 h3.2), fun z => ?_, fun z => ?_⟩
  · exact ⟨h.okq in_4, h.okq in_2, h.oka in_2 (by decide) (vp_n h3.1 h3.2), h.oka in_4 (by decide) (p2 (hc.mp z)), trivial⟩
  · have z1 : 1 ≤ aK A e := Nat.pos_of_ne_zero (fun y => z (hc.mpr y))
    exact ⟨h.okq in_6, h.okq in_2, h.oka in_2 (by decide) (vp_n h3.1 h3.2), h.okj (p3 z1), trivial⟩
theorem RM.okset (h : RM L m ma bs ui uo A S) (hw : WF k A) (hui : ui ≤ 4096 * k) (huo : uo ≤ 64 * k) (h1 : e ≠ 0) (h2 : e ≤ aT A) (hk : aK A e < 10) {i : Int32} (i0 : ¬ i < 0) (i1 : ¬ aN A e ≤ i) (v : Int64) : ok_X9_set L m (Int32.ofNat e) i v S := h.okel hw hui huo h1 h2 hk i0 i1
theorem RM.element (h : RM L m ma bs ui uo A S) (hw : WF k A) (hui : ui ≤ 4096 * k) (huo : uo ≤ 64 * k) (h1 : e ≠ 0) (h2 : e ≤ aT A) (hk : aK A e < 10) {i : Int32} (i0 : ¬ i < 0) (i1 : ¬ aN A e ≤ i) : h_X9_element m (Int32.ofNat e) i S = aE A e i.toNatClampNeg := by
  obtain ⟨p1, p2, p3⟩ := h.place hw hui huo h1 h2 hk i0 i1
  have hkk : hsA S ((hsQ S m 0).getD 0) (Int32.ofNat e).toNatClampNeg = Int32.ofNat (aK A e) := by rw [h.q in_0, (h.kind hw h1 h2).1]
  have hc := k_0 (show aK A e ≤ 12 by omega)
  have hl := (in_len i0 i1).2
  have ht := h.2.2.2.2.1 e (by omega) h2
  unfold h_X9_element
  rw [hkk, p1]
  by_cases z : aK A e = 0
  · rw [if_pos (hc.mpr z), h.q in_4]
    exact (ht.2.2.1 z).2 _ hl
  · rw [if_neg (fun y => z (hc.mp y)), h.q in_6]
    exact (ht.2.2.2 (by omega) hk).2 _ hl
end OKM
