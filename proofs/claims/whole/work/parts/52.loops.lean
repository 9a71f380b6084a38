/-! ===== copies: the loops of both sides, step by step ===== -/
theorem ix_of {i y n N : Int32} {K : Nat} (i0 : ¬ i < 0) (y0 : ¬ y < 0) (hy : ¬ n ≤ y) (hK : i.toNatClampNeg + n.toNatClampNeg ≤ K) (hN : N.toInt = K) (h64 : K ≤ 64) : ¬ (i + y) < 0 ∧ ¬ N ≤ i + y ∧ (i + y).toNatClampNeg = i.toNatClampNeg + y.toNatClampNeg := by
  rw [Int32.lt_iff_toInt_lt, show (0 : Int32).toInt = 0 from by decide] at i0 y0
  rw [Int32.le_iff_toInt_le] at hy
  simp only [Int32.toNatClampNeg] at hK ⊢
  have e1 : (i + y).toInt = i.toInt + y.toInt := i_add (by omega) (by omega)
  rw [Int32.lt_iff_toInt_lt, Int32.le_iff_toInt_le, e1, show (0 : Int32).toInt = 0 from by decide]
  omega
theorem y_up {y n : Int32} (y0 : ¬ y < 0) (hy : ¬ n ≤ y) : ¬ (y + 1) < 0 ∧ (y + 1).toNatClampNeg = y.toNatClampNeg + 1 ∧ y.toNatClampNeg < n.toNatClampNeg := by
  have n1 : (1 : Int32).toInt = 1 := by decide
  rw [Int32.lt_iff_toInt_lt, show (0 : Int32).toInt = 0 from by decide] at y0
  rw [Int32.le_iff_toInt_le] at hy
  have h1 := n.toInt_lt
  have e1 : (y + 1).toInt = y.toInt + 1 := by rw [i_add (by rw [n1]; omega) (by rw [n1]; omega), n1]
  rw [Int32.lt_iff_toInt_lt, show (0 : Int32).toInt = 0 from by decide]
  simp only [Int32.toNatClampNeg]
  omega
theorem fam_n : ∀ n, n < 13 → ((¬ s_X9_isFamily (Int32.ofNat n) = 0) ↔ 7 ≤ n ∧ n < 10) := by decide +kernel
theorem elk_eq (p : Int32) : s_X8_elementTypeOfKind p = s_X9_elementType p := rfl
theorem l217_eq (x : Nat) (p0 p1 p2 p3 p4 : Int32) (S : HS) : ∀ n y T, h_X9_copy_l217a x p0 p1 p2 p3 p4 S n y T = h_X9_copy_l217 x p0 p1 p2 p3 p4 S n y T := by
  intro n
  induction n with
  | zero => intro y T; rfl
  | succ n ih => intro y T; rw [h_X9_copy_l217a, h_X9_copy_l217]; simp only [ih]
theorem ok217_eq (L : List Nat) (x : Nat) (p0 p1 p2 p3 p4 : Int32) (S : HS) : ∀ n y T, ok_X9_copy_l217a L x p0 p1 p2 p3 p4 S n y T = ok_X9_copy_l217 L x p0 p1 p2 p3 p4 S n y T := by
  intro n
  induction n with
  | zero => intro y T; rfl
  | succ n ih => intro y T; rw [ok_X9_copy_l217a, ok_X9_copy_l217]; simp only [ih]
section CPL
variable {k : Nat} {LX : List Nat} {x : Nat} {LM : List Nat} {m : Nat} {cC cN : Nat} {ad rq ma bs : Nat → Nat} {ui uo : Nat}
/-- a row of references, at a place in it -/
theorem RX.okrow {L : List Nat} {A : AS} {S : HS} {t : Nat} (h : RX L x cC cN ad rq A S) (t1 : t ≠ 0) (t2 : t ≤ aT A) (hk7 : 7 ≤ aK A t) (hk : aK A t < 10) {p : Int32} (p0 : ¬ p < 0) (p1 : ¬ aN A t ≤ p) : (ad t ∈ L ∧ hsK S (ad t) = 5 ∧ hsQ S (ad t) 2 ≠ none) ∧ (((hsQ S (ad t) 2).getD 0) ∈ L ∧ hsK S ((hsQ S (ad t) 2).getD 0) = 10 ∧ vp_in p (hsN S ((hsQ S (ad t) 2).getD 0))) := by
  obtain ⟨⟨a1, a2, a3⟩, b, c, d, e⟩ := h.2.2.2.1 t (by omega) t2
  obtain ⟨r1, r2, r3, r4⟩ := b hk
  obtain ⟨d1, d2, d3⟩ := d hk7 hk
  have hK : hsK S (ad t) = 5 := a2.trans (by unfold kx; rw [if_neg (by omega), if_pos hk])
  refine ⟨⟨a1, hK, fun z => by rw [r2] at z; cases z⟩, ?_⟩
  rw [show (hsQ S (ad t) 2).getD 0 = rq t by rw [r2]; rfl]
  refine ⟨r3, d1, ?_⟩
  rw [r4]
  exact (in_len p0 p1).1
theorem fam_el {A : AS} (hw : WF k A) {e : Nat} (h1 : e ≠ 0) (h2 : e ≤ aT A) (k1 : 7 ≤ aK A e) (k2 : aK A e < 10) {p : Int32} (p0 : ¬ p < 0) (p1 : ¬ aN A e ≤ p) : uN (aE A e p.toNatClampNeg) ≤ aT A ∧ aPs A (s_X9_elementType (Int32.ofNat (aK A e))) (uN (aE A e p.toNatClampNeg)) := hw.2.2.2.2 e (by omega) h2 k1 k2 _ (in_len p0 p1).2
theorem aPs_P {A : AS} {ty : Int32} {e : Nat} (h : aPs A ty e) : ¬ aP A ty e = 0 := by
  unfold aP
  rcases h with h | h
  · rw [if_pos h]; decide
  · split
    · decide
    · decide
theorem len_i {A : AS} (hw : WF k A) {t : Nat} (t1 : t ≠ 0) (t2 : t ≤ aT A) (hk : aK A t < 10) : (aN A t).toInt = aLen A t ∧ aLen A t ≤ 64 := ⟨(len_64 hw (by omega) t2 hk).2, (len_64 hw (by omega) t2 hk).1⟩
theorem dn_of {y n : Int32} (y0 : ¬ y < 0) (hyn : y.toNatClampNeg ≤ n.toNatClampNeg) : n ≤ y → y.toNatClampNeg = n.toNatClampNeg := by
  intro h
  rw [Int32.lt_iff_toInt_lt, show (0 : Int32).toInt = 0 from by decide] at y0
  rw [Int32.le_iff_toInt_le] at h
  simp only [Int32.toNatClampNeg] at hyn ⊢
  omega
theorem up_to {y n : Int32} (y0 : ¬ y < 0) : ¬ n ≤ y → y.toNatClampNeg < n.toNatClampNeg := by
  intro h
  rw [Int32.lt_iff_toInt_lt, show (0 : Int32).toInt = 0 from by decide] at y0
  rw [Int32.le_iff_toInt_le] at h
  simp only [Int32.toNatClampNeg]
  omega
/-- both rising: the class's copyThings, the model's loop over things -/
theorem cp_things {a b : Nat} {i j n p0 p2 : Int32} {S0 S1 : HS} (hab : a ≠ b) (a1 : a ≠ 0) (b1 : b ≠ 0) (i0 : ¬ i < 0) (j0 : ¬ j < 0) (e1 : hsA (h_X9_begin m S1) ((hsQ (h_X9_begin m S1) m 8).getD 0) p0.toNatClampNeg = Int32.ofNat a) (e2 : hsA (h_X9_begin m S1) ((hsQ (h_X9_begin m S1) m 8).getD 0) p2.toNatClampNeg = Int32.ofNat b) :
    ∀ (nX nM : Nat) (y : Int32) (A : AS) (SX SM : HS), WF k A → RX LX x cC cN ad rq A SX → RM LM m ma bs ui uo (aStop 0 A) SM → ui ≤ 4096 * k → uo ≤ 64 * k → a ≤ aT A → b ≤ aT A → 7 ≤ aK A a → aK A a < 10 → 7 ≤ aK A b → aK A b < 10 → i.toNatClampNeg + n.toNatClampNeg ≤ aLen A a → j.toNatClampNeg + n.toNatClampNeg ≤ aLen A b → hsI S0 (ad b) 0 = Int32.ofNat (aK A b) → ¬ y < 0 → y.toNatClampNeg ≤ n.toNatClampNeg → n.toNatClampNeg < y.toNatClampNeg + nX → n.toNatClampNeg < y.toNatClampNeg + nM →
    ok_X8_copyThings_l12 LX (ad a) i (ad b) j n S0 nX y SX ∧ ok_X9_copy_l217 LM m p0 i p2 j n S1 nM y SM ∧ ∃ (c : Int32) (A1 : AS) (X1 M1 : HS), (c = 0 ∨ c = 5) ∧ WF k A1 ∧ RX LX x cC cN ad rq A1 X1 ∧ RM LM m ma bs ui uo (aStop 0 A1) M1 ∧ h_X8_copyThings_l12 (ad a) i (ad b) j n S0 nX y SX = (c, X1) ∧ h_X9_copy_l217 m p0 i p2 j n S1 nM y SM = if c = 0 then (1, M1) else ((h_X9_fails m 5 M1).1, (h_X9_fails m 5 M1).2) := by
  intro nX
  induction nX with
  | zero =>
    intro nM y A SX SM hw hX hM hui huo a2 b2 ka7 ka kb7 kb hia hjb hk0 y0 hyn f1 f2
    omega
  | succ nX ih =>
    intro nM y A SX SM hw hX hM hui huo a2 b2 ka7 ka kb7 kb hia hjb hk0 y0 hyn f1 f2
    cases nM with
    | zero => omega
    | succ nM =>
    rw [ok_X8_copyThings_l12, ok_X9_copy_l217, h_X8_copyThings_l12, h_X9_copy_l217]
    by_cases hy : n ≤ y
    · rw [if_pos hy, if_pos hy]
      exact ⟨⟨fun _ => trivial, fun z => absurd hy z⟩, ⟨fun _ => trivial, fun z => absurd hy z⟩, 0, A, SX, SM, Or.inl rfl, hw, hX, hM, rfl, (if_pos rfl).symm⟩
    rw [if_neg hy, if_neg hy]
    have hw0 := hw.stop 0
    obtain ⟨la1, la2⟩ := len_i hw a1 a2 ka
    obtain ⟨lb1, lb2⟩ := len_i hw b1 b2 kb
    obtain ⟨u1, u2, u3⟩ := y_up y0 hy
    obtain ⟨q1, q2, q3⟩ := ix_of i0 y0 hy hia la1 la2
    obtain ⟨r1, r2, r3⟩ := ix_of j0 y0 hy hjb lb1 lb2
    obtain ⟨oa, oa2⟩ := hX.okrow a1 a2 ka7 ka q1 q2
    obtain ⟨ob, ob2⟩ := hX.okrow b1 b2 kb7 kb r1 r2
    obtain ⟨v1, v2⟩ := fam_el hw a1 a2 ka7 ka q1 q2
    have hva : hsR SX ((hsQ SX (ad a) 2).getD 0) (i + y).toNatClampNeg = qa ad (uN (aE A a (i + y).toNatClampNeg)) := by
      rw [hX.rowg a1 a2 ka]
      exact (hX.2.2.2.1 a (by omega) a2).2.2.2.1 ka7 ka |>.2.2 _ (in_len q1 q2).2
    have hel : h_X9_element m (Int32.ofNat a) (i + y) SM = aE A a (i + y).toNatClampNeg := hM.element hw0 hui huo a1 a2 ka q1 q2
    have hv32 := el_32 hw v1
    have hoe := hM.okel hw0 hui huo a1 a2 ka q1 q2
    have hos := hM.okset hw0 hui huo b1 b2 kb r1 r2 (aE A a (i + y).toNatClampNeg)
    have hok := hM.okt hw0 b2 (f := 0) (Or.inl rfl)
    have hkk : hsA SM ((hsQ SM m 0).getD 0) (Int32.ofNat b).toNatClampNeg = Int32.ofNat (aK A b) := by rw [hM.q in_0, (hM.kind hw0 b1 b2).1]; rfl
    have hfam := (fam_n (aK A b) (by omega)).mpr ⟨kb7, kb⟩
    have hXs := hX.setRR (t := b) (i := (j + y).toNatClampNeg) (v := aE A a (i + y).toNatClampNeg) hw (by omega) b2 kb kb7
    have hMs := hM.set hw0 hui huo b1 b2 kb r1 r2 (v := aE A a (i + y).toNatClampNeg) (fun z => absurd z (by have : aK A b = aK (aStop 0 A) b := rfl; omega))
    have hrb := hX.rowg b1 b2 kb
    obtain ⟨v, hvv⟩ : ∃ v, aE A a (i + y).toNatClampNeg = v := ⟨_, rfl⟩
    rw [hvv] at v1 v2 hva hel hv32 hos hXs hMs
    rw [hrb] at ob2
    have hps : h_X9_passes m (Int32.ofNat (uN v)) (s_X9_elementType (Int32.ofNat (aK A b))) SM = aP A (s_X9_elementType (Int32.ofNat (aK A b))) (uN v) := hM.pass hw0 v1
    have hokp : ok_X9_passes LM m (Int32.ofNat (uN v)) (s_X9_elementType (Int32.ofNat (aK A b))) SM := hM.okpass hw0 v1
    have hof := hM.okfail isCa_5
    rw [e1, e2, hel, hkk, hv32, hva, oq_qa, hk0, elk_eq, hrb, hps]
    have hcls : (if uN v = 0 then (if h_X8_passesCast_n (s_X9_elementType (Int32.ofNat (aK A b))) SX = 0 then ((5 : Int32), SX) else h_X8_copyThings_l12 (ad a) i (ad b) j n S0 nX (y + 1) (hwR SX (rq b) (j + y).toNatClampNeg none)) else (if h_X8_passesCast_s (s_X9_elementType (Int32.ofNat (aK A b))) (ad (uN v)) SX = 0 then ((5 : Int32), SX) else h_X8_copyThings_l12 (ad a) i (ad b) j n S0 nX (y + 1) (hwR SX (rq b) (j + y).toNatClampNeg (some (ad (uN v)))))) = if aP A (s_X9_elementType (Int32.ofNat (aK A b))) (uN v) = 0 then ((5 : Int32), SX) else h_X8_copyThings_l12 (ad a) i (ad b) j n S0 nX (y + 1) (hwR SX (rq b) (j + y).toNatClampNeg (qa ad (uN v))) := by
      by_cases z : uN v = 0
      · rw [if_pos z, z, qa_0, ps0 (A := A)]
      · rw [if_neg z, qa_s ad z, hX.psS hw z v1]
    rw [hcls, if_neg hfam]
    have okc : (¬ aP A (s_X9_elementType (Int32.ofNat (aK A b))) (uN v) = 0 → ok_X8_copyThings_l12 LX (ad a) i (ad b) j n S0 nX (y + 1) (hwR SX (rq b) (j + y).toNatClampNeg (qa ad (uN v)))) → ((qa ad (uN v) = none → ok_X8_passesCast_n LX (s_X9_elementType (Int32.ofNat (aK A b))) SX ∧ (h_X8_passesCast_n (s_X9_elementType (Int32.ofNat (aK A b))) SX = 0 → True) ∧ (¬ h_X8_passesCast_n (s_X9_elementType (Int32.ofNat (aK A b))) SX = 0 → (ad b ∈ LX ∧ hsK SX (ad b) = 5 ∧ hsQ SX (ad b) 2 ≠ none) ∧ (rq b ∈ LX ∧ hsK SX (rq b) = 10 ∧ vp_in (j + y) (hsN SX (rq b))) ∧ ok_X8_copyThings_l12 LX (ad a) i (ad b) j n S0 nX (y + 1) (hwR SX (rq b) (j + y).toNatClampNeg none))) ∧ (∀ c : Nat, qa ad (uN v) = some c → ok_X8_passesCast_s LX (s_X9_elementType (Int32.ofNat (aK A b))) c SX ∧ (h_X8_passesCast_s (s_X9_elementType (Int32.ofNat (aK A b))) c SX = 0 → True) ∧ (¬ h_X8_passesCast_s (s_X9_elementType (Int32.ofNat (aK A b))) c SX = 0 → (ad b ∈ LX ∧ hsK SX (ad b) = 5 ∧ hsQ SX (ad b) 2 ≠ none) ∧ ((rq b ∈ LX ∧ hsK SX (rq b) = 10 ∧ vp_in (j + y) (hsN SX (rq b))) ∧ c ∈ LX ∧ 1 ≤ hsK SX c ∧ hsK SX c ≤ 5) ∧ ok_X8_copyThings_l12 LX (ad a) i (ad b) j n S0 nX (y + 1) (hwR SX (rq b) (j + y).toNatClampNeg (some c))))) := by
      intro hloop
      refine ⟨fun z => ?_, fun c z => ?_⟩
      · have z0 : uN v = 0 := Classical.byContradiction (fun h => by rw [qa_s ad h] at z; cases z)
        rw [z0, qa_0] at hloop
        exact ⟨trivial, fun _ => trivial, fun _ => ⟨ob, ob2, hloop (by unfold aP; rw [if_pos rfl]; decide)⟩⟩
      · have z0 : uN v ≠ 0 := fun h => by rw [h, qa_0] at z; cases z
        rw [qa_s ad z0] at z hloop
        injection z with z
        subst z
        refine ⟨hX.okT_pc hw z0 v1 _, fun _ => trivial, fun w => ⟨ob, ⟨ob2, (hX.thing hw z0 v1).1⟩, hloop ?_⟩⟩
        rw [hX.psS hw z0 v1] at w
        exact w
    by_cases hp : aP A (s_X9_elementType (Int32.ofNat (aK A b))) (uN v) = 0
    · rw [if_pos hp, if_pos hp]
      exact ⟨⟨fun z => absurd z hy, fun _ => ⟨oa, oa2, okc (fun z => absurd hp z)⟩⟩, ⟨fun z => absurd z hy, fun _ => ⟨hM.1, hoe, hok.1, hok.2, fun z => absurd z hfam, fun _ => ⟨hok.1, hok.2, hM.1, hokp, fun _ => ⟨hM.1, hof, trivial⟩, fun z => absurd hp z⟩⟩⟩, 5, A, SX, SM, Or.inr rfl, hw, hX, hM, rfl, (if_neg (by decide)).symm⟩
    · rw [if_neg hp, if_neg hp]
      obtain ⟨o1, o2, c, A1, X1, M1, g⟩ := ih nM (y + 1) (aSetE A b (j + y).toNatClampNeg v) (hwR SX (rq b) (j + y).toNatClampNeg (qa ad (uN v))) (h_X9_set m (Int32.ofNat b) (j + y) v SM) (hw.setE (fun _ _ => ⟨v1, aP_ps hp⟩)) hXs hMs hui huo a2 b2 ka7 ka kb7 kb hia hjb hk0 u1 (by omega) (by omega) (by omega)
      exact ⟨⟨fun z => absurd z hy, fun _ => ⟨oa, oa2, okc (fun _ => o1)⟩⟩, ⟨fun z => absurd z hy, fun _ => ⟨hM.1, hoe, hok.1, hok.2, fun z => absurd z hfam, fun _ => ⟨hok.1, hok.2, hM.1, hokp, fun z => absurd z hp, fun _ => ⟨hM.1, hos, o2⟩⟩⟩⟩, c, A1, X1, M1, g⟩
/-- within one thing, rising -/
theorem sh_rise {b : Nat} {i j n p0 p2 : Int32} {S0 S1 : HS} (b1 : b ≠ 0) (i0 : ¬ i < 0) (j0 : ¬ j < 0) (hji : j ≤ i) (e1 : hsA (h_X9_begin m S1) ((hsQ (h_X9_begin m S1) m 8).getD 0) p0.toNatClampNeg = Int32.ofNat b) (e2 : hsA (h_X9_begin m S1) ((hsQ (h_X9_begin m S1) m 8).getD 0) p2.toNatClampNeg = Int32.ofNat b) :
    ∀ (nX nM : Nat) (y : Int32) (A : AS) (SX SM : HS), WF k A → RX LX x cC cN ad rq A SX → RM LM m ma bs ui uo (aStop 0 A) SM → ui ≤ 4096 * k → uo ≤ 64 * k → b ≤ aT A → 7 ≤ aK A b → aK A b < 10 → i.toNatClampNeg + n.toNatClampNeg ≤ aLen A b → j.toNatClampNeg + n.toNatClampNeg ≤ aLen A b → ¬ y < 0 → y.toNatClampNeg ≤ n.toNatClampNeg → n.toNatClampNeg < y.toNatClampNeg + nX → n.toNatClampNeg < y.toNatClampNeg + nM →
    ok_X8_shiftThings_l3 LX (ad b) i j n S0 nX y SX ∧ ok_X9_copy_l217 LM m p0 i p2 j n S1 nM y SM ∧ ∃ (A1 : AS) (M1 : HS), WF k A1 ∧ RX LX x cC cN ad rq A1 (h_X8_shiftThings_l3 (ad b) i j n S0 nX y SX) ∧ RM LM m ma bs ui uo (aStop 0 A1) M1 ∧ h_X9_copy_l217 m p0 i p2 j n S1 nM y SM = (1, M1) := by
  intro nX
  induction nX with
  | zero =>
    intro nM y A SX SM hw hX hM hui huo b2 kb7 kb hia hjb y0 hyn f1 f2
    omega
  | succ nX ih =>
    intro nM y A SX SM hw hX hM hui huo b2 kb7 kb hia hjb y0 hyn f1 f2
    cases nM with
    | zero => omega
    | succ nM =>
    rw [ok_X8_shiftThings_l3, ok_X9_copy_l217, h_X8_shiftThings_l3, h_X9_copy_l217]
    by_cases hy : n ≤ y
    · rw [if_pos hy, if_pos hy]
      exact ⟨⟨fun _ => trivial, fun z => absurd hy z⟩, ⟨fun _ => trivial, fun z => absurd hy z⟩, A, SM, hw, hX, hM, rfl⟩
    rw [if_neg hy, if_neg hy, if_pos hji]
    have hw0 := hw.stop 0
    obtain ⟨lb1, lb2⟩ := len_i hw b1 b2 kb
    obtain ⟨u1, u2, u3⟩ := y_up y0 hy
    obtain ⟨q1, q2, q3⟩ := ix_of i0 y0 hy hia lb1 lb2
    obtain ⟨r1, r2, r3⟩ := ix_of j0 y0 hy hjb lb1 lb2
    obtain ⟨oa, oa2⟩ := hX.okrow b1 b2 kb7 kb q1 q2
    obtain ⟨ob, ob2⟩ := hX.okrow b1 b2 kb7 kb r1 r2
    obtain ⟨v1, v2⟩ := fam_el hw b1 b2 kb7 kb q1 q2
    have hva : hsR SX (rq b) (i + y).toNatClampNeg = qa ad (uN (aE A b (i + y).toNatClampNeg)) :=
      (hX.2.2.2.1 b (by omega) b2).2.2.2.1 kb7 kb |>.2.2 _ (in_len q1 q2).2
    have hel : h_X9_element m (Int32.ofNat b) (i + y) SM = aE A b (i + y).toNatClampNeg := hM.element hw0 hui huo b1 b2 kb q1 q2
    have hv32 := el_32 hw v1
    have hoe := hM.okel hw0 hui huo b1 b2 kb q1 q2
    have hos := hM.okset hw0 hui huo b1 b2 kb r1 r2 (aE A b (i + y).toNatClampNeg)
    have hok := hM.okt hw0 b2 (f := 0) (Or.inl rfl)
    have hkk : hsA SM ((hsQ SM m 0).getD 0) (Int32.ofNat b).toNatClampNeg = Int32.ofNat (aK A b) := by rw [hM.q in_0, (hM.kind hw0 b1 b2).1]; rfl
    have hfam := (fam_n (aK A b) (by omega)).mpr ⟨kb7, kb⟩
    have hXs := hX.setRR (t := b) (i := (j + y).toNatClampNeg) (v := aE A b (i + y).toNatClampNeg) hw (by omega) b2 kb kb7
    have hMs := hM.set hw0 hui huo b1 b2 kb r1 r2 (v := aE A b (i + y).toNatClampNeg) (fun z => absurd z (by have : aK A b = aK (aStop 0 A) b := rfl; omega))
    have hrb := hX.rowg b1 b2 kb
    obtain ⟨v, hvv⟩ : ∃ v, aE A b (i + y).toNatClampNeg = v := ⟨_, rfl⟩
    rw [hvv] at v1 v2 hva hel hv32 hos hXs hMs
    rw [hrb] at oa2 ob2
    have hps : h_X9_passes m (Int32.ofNat (uN v)) (s_X9_elementType (Int32.ofNat (aK A b))) SM = aP A (s_X9_elementType (Int32.ofNat (aK A b))) (uN v) := hM.pass hw0 v1
    have hokp : ok_X9_passes LM m (Int32.ofNat (uN v)) (s_X9_elementType (Int32.ofNat (aK A b))) SM := hM.okpass hw0 v1
    have hp := aPs_P v2
    rw [e1, e2, hel, hkk, hv32, hrb, hva, oq_qa, hps, if_neg hfam, if_neg hp]
    obtain ⟨o1, o2, A1, M1, g1, g2, g3, g4⟩ := ih nM (y + 1) (aSetE A b (j + y).toNatClampNeg v) (hwR SX (rq b) (j + y).toNatClampNeg (qa ad (uN v))) (h_X9_set m (Int32.ofNat b) (j + y) v SM) (hw.setE (fun _ _ => ⟨v1, v2⟩)) hXs hMs hui huo b2 kb7 kb hia hjb u1 (by omega) (by omega) (by omega)
    refine ⟨⟨fun z => absurd z hy, fun _ => ⟨fun _ => ⟨oa, ob, oa2, fun z => ?_, fun c z => ?_⟩, fun z => absurd hji z⟩⟩, ⟨fun z => absurd z hy, fun _ => ⟨hM.1, hoe, hok.1, hok.2, fun z => absurd z hfam, fun _ => ⟨hok.1, hok.2, hM.1, hokp, fun z => absurd z hp, fun _ => ⟨hM.1, hos, o2⟩⟩⟩⟩, A1, M1, g1, ?_, g3, g4⟩
    · have z0 : uN v = 0 := Classical.byContradiction (fun h => by rw [qa_s ad h] at z; cases z)
      rw [z0, qa_0] at o1
      exact ⟨ob2, o1⟩
    · have z0 : uN v ≠ 0 := fun h => by rw [h, qa_0] at z; cases z
      rw [qa_s ad z0] at z o1
      injection z with z
      subst z
      exact ⟨⟨ob2, (hX.thing hw z0 v1).1⟩, o1⟩
    · by_cases z0 : uN v = 0
      · rw [if_pos z0]
        rw [z0, qa_0] at g2
        exact g2
      · rw [if_neg z0]
        rw [qa_s ad z0] at g2
        exact g2
/-- within one thing, falling -/
theorem sh_fall {b : Nat} {i j n p0 p2 : Int32} {S0 S1 : HS} (b1 : b ≠ 0) (i0 : ¬ i < 0) (j0 : ¬ j < 0) (hji : ¬ j ≤ i) (e1 : hsA (h_X9_begin m S1) ((hsQ (h_X9_begin m S1) m 8).getD 0) p0.toNatClampNeg = Int32.ofNat b) (e2 : hsA (h_X9_begin m S1) ((hsQ (h_X9_begin m S1) m 8).getD 0) p2.toNatClampNeg = Int32.ofNat b) :
    ∀ (nX nM : Nat) (y w : Int32) (A : AS) (SX SM : HS), WF k A → RX LX x cC cN ad rq A SX → RM LM m ma bs ui uo (aStop 0 A) SM → ui ≤ 4096 * k → uo ≤ 64 * k → b ≤ aT A → 7 ≤ aK A b → aK A b < 10 → i.toNatClampNeg + n.toNatClampNeg ≤ aLen A b → j.toNatClampNeg + n.toNatClampNeg ≤ aLen A b → ¬ y < 0 → y.toNatClampNeg ≤ n.toNatClampNeg → w.toInt = n.toInt - 1 - y.toInt → n.toNatClampNeg < y.toNatClampNeg + nX → n.toNatClampNeg < y.toNatClampNeg + nM →
    ok_X8_shiftThings_l3 LX (ad b) i j n S0 nX y SX ∧ ok_X9_copy_l180 LM m p0 i p2 j n S1 nM w SM ∧ ∃ (A1 : AS) (M1 : HS), WF k A1 ∧ RX LX x cC cN ad rq A1 (h_X8_shiftThings_l3 (ad b) i j n S0 nX y SX) ∧ RM LM m ma bs ui uo (aStop 0 A1) M1 ∧ h_X9_copy_l180 m p0 i p2 j n S1 nM w SM = (1, M1) := by
  intro nX
  induction nX with
  | zero =>
    intro nM y w A SX SM hw hX hM hui huo b2 kb7 kb hia hjb y0 hyn hwy f1 f2
    omega
  | succ nX ih =>
    intro nM y w A SX SM hw hX hM hui huo b2 kb7 kb hia hjb y0 hyn hwy f1 f2
    cases nM with
    | zero => omega
    | succ nM =>
    rw [ok_X8_shiftThings_l3, ok_X9_copy_l180, h_X8_shiftThings_l3, h_X9_copy_l180]
    have hwn : w < 0 ↔ n ≤ y := by
      rw [Int32.lt_iff_toInt_lt, show (0 : Int32).toInt = 0 from by decide, Int32.le_iff_toInt_le, hwy]
      omega
    by_cases hy : n ≤ y
    · rw [if_pos hy, if_pos (hwn.mpr hy)]
      exact ⟨⟨fun _ => trivial, fun z => absurd hy z⟩, ⟨fun _ => trivial, fun z => absurd (hwn.mpr hy) z⟩, A, SM, hw, hX, hM, rfl⟩
    have hwz : ¬ w < 0 := fun z => hy (hwn.mp z)
    rw [if_neg hy, if_neg hwz, if_neg hji]
    have hw0 := hw.stop 0
    obtain ⟨lb1, lb2⟩ := len_i hw b1 b2 kb
    obtain ⟨u1, u2, u3⟩ := y_up y0 hy
    have hidx : n - 1 - y = w := by
      have n1 : (1 : Int32).toInt = 1 := by decide
      have h3 := n.toInt_lt
      have h2 := y0
      rw [Int32.lt_iff_toInt_lt, show (0 : Int32).toInt = 0 from by decide] at h2
      have h4 := hy
      rw [Int32.le_iff_toInt_le] at h4
      apply Int32.toInt.inj
      have e3 : (n - 1).toInt = n.toInt - 1 := by rw [i_sub (by rw [n1]; omega) (by rw [n1]; omega), n1]
      rw [i_sub (by rw [e3]; omega) (by rw [e3]; omega), e3, hwy]
    have hnw : ¬ n ≤ w := by
      have h2 := y0
      rw [Int32.lt_iff_toInt_lt, show (0 : Int32).toInt = 0 from by decide] at h2
      rw [Int32.le_iff_toInt_le, hwy]
      omega
    have hnext : (w + (-1)).toInt = n.toInt - 1 - (y + 1).toInt := by
      have n1 : (1 : Int32).toInt = 1 := by decide
      have nm1 : (-1 : Int32).toInt = -1 := by decide
      have h3 := n.toInt_lt
      have h2 := y0
      rw [Int32.lt_iff_toInt_lt, show (0 : Int32).toInt = 0 from by decide] at h2
      have h4 := hy
      rw [Int32.le_iff_toInt_le] at h4
      rw [i_add (by rw [nm1]; omega) (by rw [nm1]; omega), nm1, hwy, i_add (by rw [n1]; omega) (by rw [n1]; omega), n1]
      omega
    obtain ⟨q1, q2, q3⟩ := ix_of i0 hwz hnw hia lb1 lb2
    obtain ⟨r1, r2, r3⟩ := ix_of j0 hwz hnw hjb lb1 lb2
    obtain ⟨oa, oa2⟩ := hX.okrow b1 b2 kb7 kb q1 q2
    obtain ⟨ob, ob2⟩ := hX.okrow b1 b2 kb7 kb r1 r2
    obtain ⟨v1, v2⟩ := fam_el hw b1 b2 kb7 kb q1 q2
    have hva : hsR SX (rq b) (i + w).toNatClampNeg = qa ad (uN (aE A b (i + w).toNatClampNeg)) :=
      (hX.2.2.2.1 b (by omega) b2).2.2.2.1 kb7 kb |>.2.2 _ (in_len q1 q2).2
    have hel : h_X9_element m (Int32.ofNat b) (i + w) SM = aE A b (i + w).toNatClampNeg := hM.element hw0 hui huo b1 b2 kb q1 q2
    have hoe := hM.okel hw0 hui huo b1 b2 kb q1 q2
    have hos := hM.okset hw0 hui huo b1 b2 kb r1 r2 (aE A b (i + w).toNatClampNeg)
    have hXs := hX.setRR (t := b) (i := (j + w).toNatClampNeg) (v := aE A b (i + w).toNatClampNeg) hw (by omega) b2 kb kb7
    have hMs := hM.set hw0 hui huo b1 b2 kb r1 r2 (v := aE A b (i + w).toNatClampNeg) (fun z => absurd z (by have : aK A b = aK (aStop 0 A) b := rfl; omega))
    have hrb := hX.rowg b1 b2 kb
    obtain ⟨v, hvv⟩ : ∃ v, aE A b (i + w).toNatClampNeg = v := ⟨_, rfl⟩
    rw [hvv] at v1 v2 hva hel hos hXs hMs
    rw [hrb] at oa2 ob2
    rw [e1, e2, hel, hidx, hrb, hva, oq_qa]
    obtain ⟨o1, o2, A1, M1, g1, g2, g3, g4⟩ := ih nM (y + 1) (w + (-1)) (aSetE A b (j + w).toNatClampNeg v) (hwR SX (rq b) (j + w).toNatClampNeg (qa ad (uN v))) (h_X9_set m (Int32.ofNat b) (j + w) v SM) (hw.setE (fun _ _ => ⟨v1, v2⟩)) hXs hMs hui huo b2 kb7 kb hia hjb u1 (by omega) hnext (by omega) (by omega)
    refine ⟨⟨fun z => absurd z hy, fun _ => ⟨fun z => absurd z hji, fun _ => ⟨oa, ob, oa2, fun z => ?_, fun c z => ?_⟩⟩⟩, ⟨fun z => absurd z hwz, fun _ => ⟨hM.1, hoe, hM.1, hos, o2⟩⟩, A1, M1, g1, ?_, g3, g4⟩
    · have z0 : uN v = 0 := Classical.byContradiction (fun h => by rw [qa_s ad h] at z; cases z)
      rw [z0, qa_0] at o1
      exact ⟨ob2, o1⟩
    · have z0 : uN v ≠ 0 := fun h => by rw [h, qa_0] at z; cases z
      rw [qa_s ad z0] at z o1
      injection z with z
      subst z
      exact ⟨⟨ob2, (hX.thing hw z0 v1).1⟩, o1⟩
    · by_cases z0 : uN v = 0
      · rw [if_pos z0]
        rw [z0, qa_0] at g2
        exact g2
      · rw [if_neg z0]
        rw [qa_s ad z0] at g2
        exact g2
end CPL
