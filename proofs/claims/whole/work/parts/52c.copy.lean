/-! ===== copy ===== -/
abbrev aAl (p q : Nat) : Prop := (7 ≤ p ∧ p < 10 ∧ 7 ≤ q ∧ q < 10) ∨ (p < 10 ∧ p = q)
abbrev aIn (A : AS) (a b : Nat) (i j n : Int32) : Prop := (¬ i < 0 ∧ ¬ j < 0 ∧ ¬ n < 0) ∧ i.toNatClampNeg + n.toNatClampNeg ≤ aLen A a ∧ j.toNatClampNeg + n.toNatClampNeg ≤ aLen A b
theorem tha_n : ∀ n, n < 13 → ((s_X8_isThingArrayType (Int32.ofNat n) = 0) ↔ ¬ (7 ≤ n ∧ n < 10)) := by decide +kernel
theorem ara_n : ∀ n, n < 13 → ((s_X8_isArrayType (Int32.ofNat n) = 0) ↔ ¬ n < 10) := by decide +kernel
theorem nin_n : ∀ n, n < 13 → ((9 : Int32) < Int32.ofNat n ↔ 10 ≤ n) := by decide +kernel
theorem l_len {i n N : Int32} {K : Nat} (i0 : ¬ i < 0) (n0 : ¬ n < 0) (hN : N.toInt = K) : (N.toInt64 < i.toInt64 + n.toInt64 ↔ K < i.toNatClampNeg + n.toNatClampNeg) ∧ (i.toInt64 + n.toInt64 ≤ N.toInt64 ↔ i.toNatClampNeg + n.toNatClampNeg ≤ K) := by
  have h1 := i.toInt_lt
  have h2 := n.toInt_lt
  rw [Int32.lt_iff_toInt_lt, show (0 : Int32).toInt = 0 from by decide] at i0 n0
  have e1 : (i.toInt64 + n.toInt64).toInt = i.toInt + n.toInt := by
    rw [Int64.toInt_add, Int32.toInt_toInt64, Int32.toInt_toInt64]
    exact Int.bmod_eq_of_le (by omega) (by omega)
  rw [lt_toInt, le_toInt, e1, Int32.toInt_toInt64, hN]
  simp only [Int32.toNatClampNeg]
  omega
section CPC
variable {k : Nat} {LX : List Nat} {x : Nat} {LM : List Nat} {m : Nat} {cC cN : Nat} {ad rq ma bs : Nat → Nat} {ui uo : Nat} {A : AS} {a b : Nat} {i j n : Int32}
theorem c63_00 (p q : Nat) (S : HS) : h_X8_copyCause_ss_j63 p i q j n 0 0 S = 5 := (if_pos rfl).trans (if_pos rfl)
theorem c63_01 (p q : Nat) (S : HS) : h_X8_copyCause_ss_j63 p i q j n 0 1 S = h_X8_copyCause_ss_j77 p i q j n S := (if_pos rfl).trans (if_neg (show ¬ (1 : Int32) = 0 by decide))
theorem c63_1 (p q : Nat) (z : Int32) (S : HS) : h_X8_copyCause_ss_j63 p i q j n 1 z S = h_X8_copyCause_ss_j77 p i q j n S := if_neg (show ¬ (1 : Int32) = 0 by decide)
theorem c125_0 (p q : Nat) (S : HS) : h_X8_copyCause_ss_j125 p i q j n 0 S = 2 := if_pos rfl
theorem c125_1 (p q : Nat) (S : HS) : h_X8_copyCause_ss_j125 p i q j n 1 S = 0 := if_neg (show ¬ (1 : Int32) = 0 by decide)
theorem RX.cpc77 {S : HS} (h : RX LX x cC cN ad rq A S) (hw : WF k A) (a1 : a ≠ 0) (a2 : a ≤ aT A) (b1 : b ≠ 0) (b2 : b ≤ aT A) (ha10 : aK A a < 10) (hb10 : aK A b < 10) : (¬ aIn A a b i j n → h_X8_copyCause_ss_j77 (ad a) i (ad b) j n S = 2) ∧ (aIn A a b i j n → h_X8_copyCause_ss_j77 (ad a) i (ad b) j n S = 0) := by
  have na := (h.row a1 a2 ha10).1
  have nb := (h.row b1 b2 hb10).1
  have la := (len_i hw a1 a2 ha10).1
  have lb := (len_i hw b1 b2 hb10).1
  unfold h_X8_copyCause_ss_j77
  rw [na, nb, c125_0, c125_1]
  by_cases i0 : i < 0
  · rw [if_pos i0]
    exact ⟨fun _ => rfl, fun z => absurd i0 z.1.1⟩
  rw [if_neg i0]
  by_cases j0 : j < 0
  · rw [if_pos j0]
    exact ⟨fun _ => rfl, fun z => absurd j0 z.1.2.1⟩
  rw [if_neg j0]
  by_cases n0 : n < 0
  · rw [if_pos n0]
    exact ⟨fun _ => rfl, fun z => absurd n0 z.1.2.2⟩
  rw [if_neg n0]
  have qa' := (l_len i0 n0 la).1
  have qb' := (l_len j0 n0 lb).1
  by_cases c1 : aLen A a < i.toNatClampNeg + n.toNatClampNeg
  · rw [if_pos (qa'.mpr c1)]
    exact ⟨fun _ => rfl, fun z => absurd z.2.1 (by omega)⟩
  rw [if_neg (fun z => c1 (qa'.mp z))]
  by_cases c2 : aLen A b < j.toNatClampNeg + n.toNatClampNeg
  · rw [if_pos (qb'.mpr c2)]
    exact ⟨fun _ => rfl, fun z => absurd z.2.2 (by omega)⟩
  rw [if_neg (fun z => c2 (qb'.mp z))]
  exact ⟨fun z => absurd ⟨⟨i0, j0, n0⟩, by omega, by omega⟩ z, fun _ => rfl⟩
theorem RX.cpcm {S : HS} (h : RX LX x cC cN ad rq A S) (hw : WF k A) (a1 : a ≠ 0) (a2 : a ≤ aT A) (b1 : b ≠ 0) (b2 : b ≤ aT A) : (¬ aAl (aK A a) (aK A b) → h_X8_copyCause_ss (ad a) i (ad b) j n S = 5) ∧ (aAl (aK A a) (aK A b) → h_X8_copyCause_ss (ad a) i (ad b) j n S = h_X8_copyCause_ss_j77 (ad a) i (ad b) j n S) := by
  have ka := (hw.2.2.1 a (by omega) a2).1
  have kb := (hw.2.2.1 b (by omega) b2).1
  have ia := (h.thing hw a1 a2).2.2.2
  have ib := (h.thing hw b1 b2).2.2.2
  have ta := tha_n (aK A a) (by omega)
  have tb := tha_n (aK A b) (by omega)
  have ra := ara_n (aK A a) (by omega)
  have kk := k_n ka kb
  unfold h_X8_copyCause_ss h_X8_copyCause_ss_j35
  rw [ia, ib]
  simp only [c63_00, c63_01, c63_1]
  by_cases fa : 7 ≤ aK A a ∧ aK A a < 10
  · rw [if_neg (fun z => ta.mp z fa)]
    by_cases fb : 7 ≤ aK A b ∧ aK A b < 10
    · rw [if_neg (fun z => tb.mp z fb), if_neg (fun z => ra.mp z fa.2)]
      refine ⟨fun z => absurd (Or.inl ⟨fa.1, fa.2, fb.1, fb.2⟩) z, fun _ => ?_⟩
      by_cases y : Int32.ofNat (aK A a) = Int32.ofNat (aK A b)
      · exact if_pos y
      · exact if_neg y
    · rw [if_pos (tb.mpr fb), if_neg (fun z => ra.mp z fa.2), if_neg (fun z => fb (by rw [← kk.mp z]; exact fa))]
      refine ⟨fun _ => rfl, fun z => ?_⟩
      rcases z with z | z
      · exact absurd ⟨z.2.2.1, z.2.2.2⟩ fb
      · exact absurd (by rw [← z.2]; exact fa) fb
  · rw [if_pos (ta.mpr fa)]
    by_cases a10 : aK A a < 10
    · rw [if_neg (fun z => ra.mp z a10)]
      by_cases hk : aK A a = aK A b
      · rw [if_pos (kk.mpr hk)]
        exact ⟨fun z => absurd (Or.inr ⟨a10, hk⟩) z, fun _ => rfl⟩
      · rw [if_neg (fun z => hk (kk.mp z))]
        refine ⟨fun _ => rfl, fun z => ?_⟩
        rcases z with z | z
        · exact absurd ⟨z.1, z.2.1⟩ fa
        · exact absurd z.2 hk
    · rw [if_pos (ra.mpr a10)]
      refine ⟨fun _ => rfl, fun z => ?_⟩
      rcases z with z | z
      · exact absurd ⟨z.1, z.2.1⟩ fa
      · exact absurd z.1 a10
theorem RX.cpc {S : HS} (h : RX LX x cC cN ad rq A S) (hw : WF k A) (a1 : a ≠ 0) (a2 : a ≤ aT A) (b1 : b ≠ 0) (b2 : b ≤ aT A) : (¬ aAl (aK A a) (aK A b) → h_X8_copyCause_ss (ad a) i (ad b) j n S = 5) ∧ (aAl (aK A a) (aK A b) → ¬ aIn A a b i j n → h_X8_copyCause_ss (ad a) i (ad b) j n S = 2) ∧ (aAl (aK A a) (aK A b) → aIn A a b i j n → h_X8_copyCause_ss (ad a) i (ad b) j n S = 0) := by
  have hm := h.cpcm (i := i) (j := j) (n := n) hw a1 a2 b1 b2
  have h77 := fun z y => h.cpc77 (i := i) (j := j) (n := n) hw a1 a2 b1 b2 z y
  have hlt : aAl (aK A a) (aK A b) → aK A a < 10 ∧ aK A b < 10 := fun z => by rcases z with z | z <;> omega
  exact ⟨hm.1, fun z y => (hm.2 z).trans ((h77 (hlt z).1 (hlt z).2).1 y), fun z y => (hm.2 z).trans ((h77 (hlt z).1 (hlt z).2).2 y)⟩
theorem RX.ok_cpc {S : HS} (h : RX LX x cC cN ad rq A S) (hw : WF k A) (a1 : a ≠ 0) (a2 : a ≤ aT A) (b1 : b ≠ 0) (b2 : b ≤ aT A) : ok_X8_copyCause_ss LX (ad a) i (ad b) j n S := by
  have ta := (h.thing hw a1 a2).1
  have tb := (h.thing hw b1 b2).1
  unfold ok_X8_copyCause_ss ok_X8_copyCause_ss_j35 ok_X8_copyCause_ss_j63 ok_X8_copyCause_ss_j77 ok_X8_copyCause_ss_j125
  repeat' (first | exact trivial | exact ta | exact tb | (intro _) | (refine And.intro ?_ ?_))
/-- the model's look at the ends -/
theorem RM.beyond {S : HS} (h : RM LM m ma bs ui uo A S) (hw : WF k A) (a1 : a ≠ 0) (a2 : a ≤ aT A) (hk : aK A a < 10) : (h_X9_isBeyond m (Int32.ofNat a) i n S = 0 ↔ ¬ i < 0 ∧ ¬ n < 0 ∧ i.toNatClampNeg + n.toNatClampNeg ≤ aLen A a) ∧ ok_X9_isBeyond LM m (Int32.ofNat a) i n S := by
  have hk1 : hsA S ((hsQ S m 1).getD 0) (Int32.ofNat a).toNatClampNeg = aN A a := by rw [h.q in_1, (h.kind hw a1 a2).2]
  have la := (len_i hw a1 a2 hk).1
  have ho := h.okt hw a2 (f := 1) (Or.inr (Or.inl rfl))
  refine ⟨?_, ?_⟩
  · unfold h_X9_isBeyond
    rw [hk1]
    by_cases i0 : i < 0
    · rw [if_pos i0]
      exact ⟨fun z => absurd z (by decide), fun z => absurd i0 z.1⟩
    rw [if_neg i0]
    by_cases n0 : n < 0
    · rw [if_pos n0]
      exact ⟨fun z => absurd z (by decide), fun z => absurd n0 z.2.1⟩
    rw [if_neg n0]
    have q := (l_len i0 n0 la).2
    by_cases c1 : i.toNatClampNeg + n.toNatClampNeg ≤ aLen A a
    · rw [if_pos (q.mpr c1)]
      exact ⟨fun _ => ⟨i0, n0, c1⟩, fun _ => rfl⟩
    · rw [if_neg (fun z => c1 (q.mp z))]
      exact ⟨fun z => absurd z (by decide), fun z => absurd z.2.2 c1⟩
  · unfold ok_X9_isBeyond
    exact ⟨fun _ => trivial, fun _ => ⟨fun _ => trivial, fun _ => ⟨ho.1, ho.2, fun _ => trivial, fun _ => trivial⟩⟩⟩
theorem c_len {i n : Int32} {K : Nat} (h : i.toNatClampNeg + n.toNatClampNeg ≤ K) (hK : K ≤ 64) : n.toNatClampNeg ≤ 64 := by omega
/-- the elements themselves, on both sides -/
theorem cp_el {SX SM : HS} {p0 p2 : Int32} (hX : RX LX x cC cN ad rq A SX) (hM0 : RM LM m ma bs ui uo A SM) (hw : WF k A) (hui : ui ≤ 4096 * k) (huo : uo ≤ 64 * k) (a1 : a ≠ 0) (a2 : a ≤ aT A) (b1 : b ≠ 0) (b2 : b ≤ aT A) (hal : aAl (aK A a) (aK A b)) (hin : aIn A a b i j n) (e1 : hsA (h_X9_begin m SM) ((hsQ (h_X9_begin m SM) m 8).getD 0) p0.toNatClampNeg = Int32.ofNat a) (e2 : hsA (h_X9_begin m SM) ((hsQ (h_X9_begin m SM) m 8).getD 0) p2.toNatClampNeg = Int32.ofNat b) :
    ok_X8_copyElements_ss LX (ad a) i (ad b) j n SX ∧ (a = b → j ≤ i → ok_X9_copy_l217a LM m p0 i p2 j n SM 100 0 (h_X9_begin m SM)) ∧ (a = b → ¬ j ≤ i → ok_X9_copy_l180 LM m p0 i p2 j n SM 100 (n - 1) (h_X9_begin m SM)) ∧ (a ≠ b → ok_X9_copy_l217 LM m p0 i p2 j n SM 100 0 (h_X9_begin m SM)) ∧
    ∃ (c : Int32) (A1 : AS) (X1 M1 : HS), (c = 0 ∨ c = 5) ∧ WF k A1 ∧ RX LX x cC cN ad rq A1 X1 ∧ RM LM m ma bs ui uo (aStop 0 A1) M1 ∧ h_X8_copyElements_ss (ad a) i (ad b) j n SX = (c, X1) ∧ (if a = b then if j ≤ i then h_X9_copy_l217a m p0 i p2 j n SM 100 0 (h_X9_begin m SM) else h_X9_copy_l180 m p0 i p2 j n SM 100 (n - 1) (h_X9_begin m SM) else h_X9_copy_l217 m p0 i p2 j n SM 100 0 (h_X9_begin m SM)) = if c = 0 then (1, M1) else ((h_X9_fails m 5 M1).1, (h_X9_fails m 5 M1).2) := by
  obtain ⟨⟨i0, j0, n0⟩, hia, hjb⟩ := hin
  have hM := hM0.begin
  have ha10 : aK A a < 10 := by rcases hal with z | z <;> omega
  have hb10 : aK A b < 10 := by rcases hal with z | z <;> omega
  obtain ⟨ta, -, ta3, ta4⟩ := hX.thing hw a1 a2
  obtain ⟨tb, -, tb3, tb4⟩ := hX.thing hw b1 b2
  obtain ⟨ra1, ra2, ra3, ra4⟩ := hX.row a1 a2 ha10
  obtain ⟨rb1, rb2, rb3, rb4⟩ := hX.row b1 b2 hb10
  have ga := hX.rowg a1 a2 ha10
  have gb := hX.rowg b1 b2 hb10
  have la := len_i hw a1 a2 ha10
  have lb := len_i hw b1 b2 hb10
  have hn64 : n.toNatClampNeg ≤ 64 := by omega
  have z0 : (0 : Int32).toNatClampNeg = 0 := by decide
  have zl : ¬ (0 : Int32) < 0 := by decide
  have hji : j ≤ i ↔ j.toNatClampNeg ≤ i.toNatClampNeg := by
    rw [Int32.lt_iff_toInt_lt, show (0 : Int32).toInt = 0 from by decide] at i0 j0
    rw [Int32.le_iff_toInt_le]
    simp only [Int32.toNatClampNeg]
    omega
  by_cases hk : aK A a < 7
  · have hkb : aK A b = aK A a := by rcases hal with z | z <;> omega
    have Ka : hsK SX (ad a) = 1 := ta3.trans ((kx_1 (by omega)).mpr hk)
    have Kb : hsK SX (ad b) = 1 := tb3.trans ((kx_1 (by omega)).mpr (by omega))
    have qa9 := ((hX.2.2.2.1 a (by omega) a2).2.2.1 hk).1
    have qb9 := ((hX.2.2.2.1 b (by omega) b2).2.2.1 (by omega)).1
    have hXr := hX.rng (i := i) (j := j) (n := n) hw a1 a2 b1 b2 hk (by omega) hia
    have hcl : h_X8_copyElements_ss (ad a) i (ad b) j n SX = (0, hwJc SX (rq a) (rq b) i j n) := by
      unfold h_X8_copyElements_ss h_X8_copyElements_ss_j43
      rw [if_pos Ka, if_pos Kb, ga, gb]
      exact if_neg (show ¬ hsK SX (ad a) = 5 by omega)
    have hokc : ok_X8_copyElements_ss LX (ad a) i (ad b) j n SX := by
      unfold ok_X8_copyElements_ss ok_X8_copyElements_ss_j43
      rw [ga, gb]
      refine ⟨ta, fun _ => ⟨⟨ta.1, Ka⟩, tb, fun _ => ⟨⟨tb.1, Kb⟩, ⟨ta.1, Ka, fun z => by rw [ra2] at z; cases z⟩, ⟨tb.1, Kb, fun z => by rw [rb2] at z; cases z⟩, ⟨⟨ra3, qa9⟩, ⟨rb3, qb9⟩, i0, j0, n0, by rw [ra4]; exact hia, by rw [rb4]; exact hjb⟩, ta, fun z => absurd z (show ¬ hsK SX (ad a) = 5 by omega), fun _ => trivial⟩, fun z => absurd Kb z⟩, fun z => absurd Ka z⟩
    have hcut : aK A a = 0 → ∀ q, q < aLen A a → (aE A a q).toInt32.toInt64 = aE A a q := fun z => hM0.cutid a1 a2 z
    have hcutb : aK A b = 0 → ∀ q, q < aLen A b → (aE A b q).toInt32.toInt64 = aE A b q := fun z => hM0.cutid b1 b2 z
    have hst : RM LM m ma bs ui uo (aStop 0 (aRng A a b i.toNatClampNeg j.toNatClampNeg 0 (0 : Int32).toNatClampNeg)) (h_X9_begin m SM) := by
      rw [z0, aRng_no A a b _ _ (Nat.le_refl 0)]
      exact hM
    by_cases hab : a = b
    · subst hab
      by_cases hle : j ≤ i
      · obtain ⟨o1, M1, g1, g2⟩ := md_rise (Or.inr (hji.mp hle)) a1 a1 i0 j0 e1 e2 hw hui huo a2 a2 hk rfl hia hjb hcut 100 0 _ hst zl (by omega) (by omega)
        refine ⟨hokc, fun _ _ => by rw [ok217_eq]; exact o1, fun _ z => absurd hle z, fun z => absurd rfl z, 0, _, _, M1, Or.inl rfl, hw.rng hk, hXr, g1, hcl, ?_⟩
        rw [if_pos rfl, if_pos hle, l217_eq, g2, if_pos rfl]
      · have hst2 : RM LM m ma bs ui uo (aStop 0 (aRng A a a i.toNatClampNeg j.toNatClampNeg n.toNatClampNeg n.toNatClampNeg)) (h_X9_begin m SM) := by
          rw [aRng_no A a a _ _ (Nat.le_refl _)]
          exact hM
        have hn1 : (n - 1).toInt = (n.toNatClampNeg : Int) - 1 := by
          have n1 : (1 : Int32).toInt = 1 := by decide
          have h3 := n.toInt_lt
          rw [Int32.lt_iff_toInt_lt, show (0 : Int32).toInt = 0 from by decide] at n0
          rw [i_sub (by rw [n1]; omega) (by rw [n1]; omega), n1]
          simp only [Int32.toNatClampNeg]
          omega
        obtain ⟨o1, M1, g1, g2⟩ := md_fall (Nat.not_le.mp (fun z => hle (hji.mpr z))) a1 i0 j0 e1 e2 hw hui huo a2 hk hia hjb hcut 100 (n - 1) n.toNatClampNeg _ hst2 hn1 (Nat.le_refl _) (by omega)
        refine ⟨hokc, fun _ z => absurd z hle, fun _ _ => o1, fun z => absurd rfl z, 0, _, _, M1, Or.inl rfl, hw.rng hk, hXr, g1, hcl, ?_⟩
        rw [if_pos rfl, if_neg hle, g2, if_pos rfl]
    · obtain ⟨o1, M1, g1, g2⟩ := md_rise (Or.inl hab) a1 b1 i0 j0 e1 e2 hw hui huo a2 b2 hk hkb hia hjb hcut 100 0 _ hst zl (by omega) (by omega)
      refine ⟨hokc, fun z => absurd z hab, fun z => absurd z hab, fun _ => o1, 0, _, _, M1, Or.inl rfl, hw.rng (by omega), hXr, g1, hcl, ?_⟩
      rw [if_neg hab, g2, if_pos rfl]
  · have hb7 : 7 ≤ aK A b := by rcases hal with z | z <;> omega
    have ha7 : 7 ≤ aK A a := by omega
    have Ka : hsK SX (ad a) = 5 := ta3.trans ((kx_5 (by omega)).mpr ⟨ha7, ha10⟩)
    have Kb : hsK SX (ad b) = 5 := tb3.trans ((kx_5 (by omega)).mpr ⟨hb7, hb10⟩)
    have hcl : h_X8_copyElements_ss (ad a) i (ad b) j n SX = if (some (ad a)) = (some (ad b)) then (0, h_X8_shiftThings (ad b) i j n SX) else ((h_X8_copyThings (ad a) i (ad b) j n SX).1, (h_X8_copyThings (ad a) i (ad b) j n SX).2) := by
      unfold h_X8_copyElements_ss h_X8_copyElements_ss_j43a
      rw [if_neg (show ¬ hsK SX (ad a) = 1 by omega), if_pos Ka, if_pos Kb]
    have hokc : (a = b → ok_X8_shiftThings LX (ad b) i j n SX) → (a ≠ b → ok_X8_copyThings LX (ad a) i (ad b) j n SX) → ok_X8_copyElements_ss LX (ad a) i (ad b) j n SX := fun f1 f2 => by
      unfold ok_X8_copyElements_ss ok_X8_copyElements_ss_j43a
      refine ⟨ta, fun z => absurd z (show ¬ hsK SX (ad a) = 1 by omega), fun _ => ⟨ta, fun _ => ⟨⟨ta.1, Ka⟩, tb, fun _ => ⟨⟨tb.1, Kb⟩, fun z => ⟨f1 ?_, trivial⟩, fun z => ⟨f2 (fun y => z (by rw [y])), trivial⟩⟩, fun z => absurd Kb z⟩, fun z => absurd Ka z⟩⟩
      injection z with z
      exact hX.2.2.2.2.1 a b (by omega) a2 (by omega) b2 z
    have hadn : a ≠ b → ¬ (some (ad a)) = (some (ad b)) := fun z y => by
      injection y with y
      exact z (hX.2.2.2.2.1 a b (by omega) a2 (by omega) b2 y)
    by_cases hab : a = b
    · subst hab
      rw [if_pos rfl] at hcl
      by_cases hle : j ≤ i
      · obtain ⟨o1, o2, A1, M1, g1, g2, g3, g4⟩ := sh_rise (S0 := SX) a1 i0 j0 hle e1 e2 (n.toNatClampNeg + 1) 100 0 A SX _ hw hX hM hui huo a2 ha7 ha10 hia hjb zl (by omega) (by omega) (by omega)
        refine ⟨hokc (fun _ => o1) (fun z => absurd rfl z), fun _ _ => by rw [ok217_eq]; exact o2, fun _ z => absurd hle z, fun z => absurd rfl z, 0, A1, _, M1, Or.inl rfl, g1, g2, g3, hcl, ?_⟩
        rw [if_pos rfl, if_pos hle, l217_eq, g4, if_pos rfl]
      · have hn1 : (n - 1).toInt = n.toInt - 1 - (0 : Int32).toInt := by
          have n1 : (1 : Int32).toInt = 1 := by decide
          have h3 := n.toInt_lt
          rw [Int32.lt_iff_toInt_lt, show (0 : Int32).toInt = 0 from by decide] at n0
          rw [i_sub (by rw [n1]; omega) (by rw [n1]; omega), n1, show (0 : Int32).toInt = 0 from by decide]
          omega
        obtain ⟨o1, o2, A1, M1, g1, g2, g3, g4⟩ := sh_fall (S0 := SX) a1 i0 j0 hle e1 e2 (n.toNatClampNeg + 1) 100 0 (n - 1) A SX _ hw hX hM hui huo a2 ha7 ha10 hia hjb zl (by omega) hn1 (by omega) (by omega)
        refine ⟨hokc (fun _ => o1) (fun z => absurd rfl z), fun _ z => absurd z hle, fun _ _ => o2, fun z => absurd rfl z, 0, A1, _, M1, Or.inl rfl, g1, g2, g3, hcl, ?_⟩
        rw [if_pos rfl, if_neg hle, g4, if_pos rfl]
    · obtain ⟨o1, o2, c, A1, X1, M1, g1, g2, g3, g4, g5, g6⟩ := cp_things (S0 := SX) hab a1 b1 i0 j0 e1 e2 (n.toNatClampNeg + 1) 100 0 A SX _ hw hX hM hui huo a2 b2 ha7 ha10 hb7 hb10 hia hjb tb4 zl (by omega) (by omega) (by omega)
      rw [if_neg (hadn hab)] at hcl
      refine ⟨hokc (fun z => absurd z hab) (fun _ => ⟨⟨tb.1, Kb⟩, o1⟩), fun z => absurd z hab, fun z => absurd z hab, fun _ => o2, c, A1, X1, M1, g1, g2, g3, g4, hcl.trans ?_, ?_⟩
      · show ((h_X8_copyThings_l12 (ad a) i (ad b) j n SX (n.toNatClampNeg + 1) 0 SX).1, (h_X8_copyThings_l12 (ad a) i (ad b) j n SX (n.toNatClampNeg + 1) 0 SX).2) = (c, X1)
        rw [g5]
      · rw [if_neg hab, g6]
end CPC
