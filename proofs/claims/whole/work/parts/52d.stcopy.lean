/-! ===== copy on both sides ===== -/
section STC
variable {k : Nat} {LX : List Nat} {x : Nat} {LM : List Nat} {m : Nat} {SX SM : HS}
theorem ofN_eq {k : Nat} {A : AS} (hw : WF k A) {a b : Nat} (ha : a ≤ aT A) (hb : b ≤ aT A) : Int32.ofNat a = Int32.ofNat b ↔ a = b := by
  constructor
  · intro z
    have h1 := nN (wf_31 hw ha).2
    rw [z, nN (wf_31 hw hb).2] at h1
    exact h1.symm
  · intro z
    rw [z]
theorem st_copy (h : Rel k LX x LM m SX SM) (p0 p1 p2 p3 p4 : Int32) : ok_X8_copy LX x p0 p1 p2 p3 p4 SX ∧ ok_X9_copy LM m p0 p1 p2 p3 p4 SM ∧ (h_X8_copy x p0 p1 p2 p3 p4 SX).1 = (h_X9_copy m p0 p1 p2 p3 p4 SM).1 ∧ Rel k LX x LM m (h_X8_copy x p0 p1 p2 p3 p4 SX).2 (h_X9_copy m p0 p1 p2 p3 p4 SM).2 := by
  have hR := h
  obtain ⟨cC, cN, ad, rq, ma, bs, ui, uo, A, ⟨hw, hui, huo⟩, hX, hM⟩ := h
  have okc : ∀ c, isCa c → c ≠ 0 → ok_X8_copy_j51 LX x p0 p1 p2 p3 p4 c SX := fun c hc c0 => ⟨fun z => absurd z c0, fun _ => ⟨hX.okx, hX.okst hc, fun _ => trivial, fun _ => trivial⟩⟩
  have ok0 : ok_X8_copy_j19 LX x p0 p1 p2 p3 p4 0 SX := ⟨fun _ => okc 8 isCa_8 (by decide), fun z => absurd rfl z⟩
  have mf : ∀ c, isCa c → (m ∈ LM ∧ hsK (h_X9_begin m SM) m = 7) ∧ ok_X9_fails LM m c (h_X9_begin m SM) ∧ True := fun c hc => hM.b_okf hc
  have stc : ∀ c, isCa c → c ≠ 0 → h_X8_copy_j51 x p0 p1 p2 p3 p4 c SX = (0, (h_X8_stops x c SX).2) := fun c hc c0 => (if_neg c0).trans (if_neg (st_not hc c0 x SX))
  have hfail : ∀ c, isCa c → c ≠ 0 → h_X8_copy x p0 p1 p2 p3 p4 SX = h_X8_copy_j51 x p0 p1 p2 p3 p4 c SX → h_X9_copy m p0 p1 p2 p3 p4 SM = ((h_X9_fails m c (h_X9_begin m SM)).1, (h_X9_fails m c (h_X9_begin m SM)).2) → (h_X8_copy x p0 p1 p2 p3 p4 SX).1 = (h_X9_copy m p0 p1 p2 p3 p4 SM).1 ∧ Rel k LX x LM m (h_X8_copy x p0 p1 p2 p3 p4 SX).2 (h_X9_copy m p0 p1 p2 p3 p4 SM).2 := fun c hc c0 g1 g2 => by
    rw [g1, g2]
    exact hR.b32 ⟨c, 0, hc, stc c hc c0, by rw [mEnd_c c0]; rfl⟩
  by_cases hp : s_X8_isCell p0 = 0
  · have hp' : s_X9_isCell p0 = 0 := by rw [isCell_eq]; exact hp
    refine ⟨⟨fun _ => ok0, fun z => absurd hp z⟩, ⟨hM.1, ⟨hM.1, trivial⟩, fun _ => mf 8 isCa_8, fun z => absurd hp' z⟩, hfail 8 isCa_8 (by decide) ?_ ?_⟩
    · unfold h_X8_copy
      rw [if_pos hp]
      exact if_pos rfl
    · unfold h_X9_copy
      rw [if_pos hp']
  have hp' : ¬ s_X9_isCell p0 = 0 := by rw [isCell_eq]; exact hp
  by_cases hp2 : s_X8_isCell p2 = 0
  · have hp2' : s_X9_isCell p2 = 0 := by rw [isCell_eq]; exact hp2
    refine ⟨⟨fun z => absurd z hp, fun _ => ⟨fun _ => ok0, fun z => absurd hp2 z⟩⟩, ⟨hM.1, ⟨hM.1, trivial⟩, fun z => absurd z hp', fun _ => ⟨fun _ => mf 8 isCa_8, fun z => absurd hp2' z⟩⟩, hfail 8 isCa_8 (by decide) ?_ ?_⟩
    · unfold h_X8_copy
      rw [if_neg hp, if_pos hp2]
      exact if_pos rfl
    · unfold h_X9_copy
      rw [if_neg hp', if_pos hp2']
  have hp2' : ¬ s_X9_isCell p2 = 0 := by rw [isCell_eq]; exact hp2
  have he := hX.cle hw hp
  have hf := hX.cle hw hp2
  have q1 := hX.cellq hp
  have q2 := hX.cellq hp2
  have e1 := hM.b_cell hp
  have e2 := hM.b_cell hp2
  have f1 := hM.b_ok8 hp
  have f2 := hM.b_ok8 hp2
  obtain ⟨a, hae⟩ : ∃ a, aC A p0.toNatClampNeg = a := ⟨_, rfl⟩
  obtain ⟨b, hbe⟩ : ∃ b, aC A p2.toNatClampNeg = b := ⟨_, rfl⟩
  rw [hae] at he q1 e1
  rw [hbe] at hf q2 e2
  have hn1 := n0 (wf_31 hw he).2
  have hn2 := n0 (wf_31 hw hf).2
  have okx1 := hX.okc hp
  have okx2 := hX.okc hp2
  -- the class: what its two looks at the cells come to
  have hcl : h_X8_copy x p0 p1 p2 p3 p4 SX = if a = 0 then h_X8_copy_j51 x p0 p1 p2 p3 p4 1 SX else if b = 0 then h_X8_copy_j51 x p0 p1 p2 p3 p4 1 SX else h_X8_copy_j51 x p0 p1 p2 p3 p4 (h_X8_copyCause_ss (ad a) p1 (ad b) p3 p4 SX) SX := by
    unfold h_X8_copy h_X8_copy_j19
    rw [if_neg hp, if_neg hp2, if_neg (show ¬ (1 : Int32) = 0 by decide), q1, q2, oq_qa, oq_qa, oq_qa]
    by_cases z : a = 0
    · rw [if_pos z, if_pos z]
      split <;> rfl
    · rw [if_neg z, if_neg z]
      rfl
  have hokc : (a ≠ 0 → b ≠ 0 → ok_X8_copy_j51 LX x p0 p1 p2 p3 p4 (h_X8_copyCause_ss (ad a) p1 (ad b) p3 p4 SX) SX) → ok_X8_copy LX x p0 p1 p2 p3 p4 SX := fun g => by
    refine ⟨fun z => absurd z hp, fun _ => ⟨fun z => absurd z hp2, fun _ => ⟨fun z => absurd z (by decide), fun _ => ⟨okx1.1, okx1.2, fun _ => ⟨okx2.1, okx2.2, fun _ => ⟨trivial, okc 1 isCa_1 (by decide)⟩, fun b hb => ⟨trivial, okc 1 isCa_1 (by decide)⟩⟩, fun a' ha' => ⟨okx2.1, okx2.2, fun _ => ⟨trivial, okc 1 isCa_1 (by decide)⟩, fun b' hb' => ?_⟩⟩⟩⟩⟩
    rw [q1] at ha'
    rw [q2] at hb'
    have z1 : a ≠ 0 := fun y => by rw [y, qa_0] at ha'; cases ha'
    have z2 : b ≠ 0 := fun y => by rw [y, qa_0] at hb'; cases hb'
    rw [qa_s ad z1] at ha'
    rw [qa_s ad z2] at hb'
    injection ha' with ha'
    injection hb' with hb'
    subst ha' hb'
    exact ⟨hX.ok_cpc hw z1 he z2 hf, g z1 z2⟩
  -- the model: its own
  have hmo : ((¬ a = 0 → ¬ b = 0 → aAl (aK A a) (aK A b) → ok_X9_copy_j130 LM m p0 p1 p2 p3 p4 SM) → ok_X9_copy LM m p0 p1 p2 p3 p4 SM) ∧ (a = 0 ∨ b = 0 → h_X9_copy m p0 p1 p2 p3 p4 SM = ((h_X9_fails m 1 (h_X9_begin m SM)).1, (h_X9_fails m 1 (h_X9_begin m SM)).2)) ∧ (a ≠ 0 → b ≠ 0 → (¬ aAl (aK A a) (aK A b) → h_X9_copy m p0 p1 p2 p3 p4 SM = ((h_X9_fails m 5 (h_X9_begin m SM)).1, (h_X9_fails m 5 (h_X9_begin m SM)).2)) ∧ (aAl (aK A a) (aK A b) → h_X9_copy m p0 p1 p2 p3 p4 SM = h_X9_copy_j130 m p0 p1 p2 p3 p4 SM)) := by
    unfold ok_X9_copy h_X9_copy
    rw [e1, e2, if_neg hp', if_neg hp2']
    by_cases z1 : a = 0
    · rw [if_pos (hn1.mpr z1)]
      exact ⟨fun _ => ⟨hM.1, ⟨hM.1, trivial⟩, fun z => absurd z hp', fun _ => ⟨fun z => absurd z hp2', fun _ => ⟨f1.1, f1.2, f2.1, f2.2, fun _ => mf 1 isCa_1, fun z => absurd (hn1.mpr z1) z⟩⟩⟩, fun _ => rfl, fun z => absurd z1 z⟩
    rw [if_neg (fun z => z1 (hn1.mp z))]
    by_cases z2 : b = 0
    · rw [if_pos (hn2.mpr z2)]
      exact ⟨fun _ => ⟨hM.1, ⟨hM.1, trivial⟩, fun z => absurd z hp', fun _ => ⟨fun z => absurd z hp2', fun _ => ⟨f1.1, f1.2, f2.1, f2.2, fun z => absurd (hn1.mp z) z1, fun _ => ⟨fun _ => mf 1 isCa_1, fun z => absurd (hn2.mpr z2) z⟩⟩⟩⟩, fun _ => rfl, fun _ z => absurd z2 z⟩
    rw [if_neg (fun z => z2 (hn2.mp z)), hM.b_kind hw z1 he, hM.b_kind hw z2 hf]
    have k1 := (hw.2.2.1 a (by omega) he).1
    have k2 := (hw.2.2.1 b (by omega) hf).1
    have n1 := nin_n (aK A a) (by omega)
    have n2 := nin_n (aK A b) (by omega)
    have kk := k_n k1 k2
    have m1 := fam_n (aK A a) (by omega)
    have m2 := fam_n (aK A b) (by omega)
    have t1 := hM.b_okt hw he (f := 0) (Or.inl rfl)
    have t2 := hM.b_okt hw hf (f := 0) (Or.inl rfl)
    refine ⟨fun g => ⟨hM.1, ⟨hM.1, trivial⟩, fun z => absurd z hp', fun _ => ⟨fun z => absurd z hp2', fun _ => ⟨f1.1, f1.2, f2.1, f2.2, fun z => absurd (hn1.mp z) z1, fun _ => ⟨fun z => absurd (hn2.mp z) z2, fun _ => ⟨t1.1, t1.2, fun _ => mf 5 isCa_5, fun y1 => ⟨t2.1, t2.2, fun _ => mf 5 isCa_5, fun y2 => ⟨t1.1, t1.2, t2.1, t2.2, fun y3 => g z1 z2 (Or.inr ⟨?_, kk.mp y3⟩), fun _ => ⟨t1.1, t1.2, fun _ => mf 5 isCa_5, fun y4 => ⟨t2.1, t2.2, fun _ => mf 5 isCa_5, fun y5 => g z1 z2 (Or.inl ?_)⟩⟩⟩⟩⟩⟩⟩⟩⟩, fun z => absurd z (fun z => z.elim z1 z2), fun _ _ => ?_⟩
    · have w1 : ¬ 10 ≤ aK A a := fun z => y1 (n1.mpr z)
      omega
    · have w1 := m1.mp y4
      have w2 := m2.mp y5
      exact ⟨w1.1, w1.2, w2.1, w2.2⟩
    · by_cases y1 : 10 ≤ aK A a
      · rw [if_pos (n1.mpr y1)]
        exact ⟨fun _ => rfl, fun z => by rcases z with z | z <;> omega⟩
      rw [if_neg (fun z => y1 (n1.mp z))]
      by_cases y2 : 10 ≤ aK A b
      · rw [if_pos (n2.mpr y2)]
        exact ⟨fun _ => rfl, fun z => by rcases z with z | z <;> omega⟩
      rw [if_neg (fun z => y2 (n2.mp z))]
      by_cases y3 : aK A a = aK A b
      · rw [if_pos (kk.mpr y3)]
        exact ⟨fun z => absurd (Or.inr ⟨by omega, y3⟩) z, fun _ => rfl⟩
      rw [if_neg (fun z => y3 (kk.mp z))]
      by_cases y4 : 7 ≤ aK A a ∧ aK A a < 10
      · rw [if_neg (m1.mpr y4)]
        by_cases y5 : 7 ≤ aK A b ∧ aK A b < 10
        · rw [if_neg (m2.mpr y5)]
          exact ⟨fun z => absurd (Or.inl ⟨y4.1, y4.2, y5.1, y5.2⟩) z, fun _ => rfl⟩
        · rw [if_pos (Classical.byContradiction (fun z => y5 (m2.mp z)))]
          exact ⟨fun _ => rfl, fun z => by rcases z with z | z <;> omega⟩
      · rw [if_pos (Classical.byContradiction (fun z => y4 (m1.mp z)))]
        exact ⟨fun _ => rfl, fun z => by rcases z with z | z <;> omega⟩
  obtain ⟨hmok, hm1, hm2⟩ := hmo
  by_cases z1 : a = 0
  · rw [if_pos z1] at hcl
    exact ⟨hokc (fun y => absurd z1 y), hmok (fun y => absurd z1 y), hfail 1 isCa_1 (by decide) hcl (hm1 (Or.inl z1))⟩
  by_cases z2 : b = 0
  · rw [if_neg z1, if_pos z2] at hcl
    exact ⟨hokc (fun _ y => absurd z2 y), hmok (fun _ y => absurd z2 y), hfail 1 isCa_1 (by decide) hcl (hm1 (Or.inr z2))⟩
  rw [if_neg z1, if_neg z2] at hcl
  obtain ⟨g5, g2, g0⟩ := hX.cpc (i := p1) (j := p3) (n := p4) hw z1 he z2 hf
  by_cases hal : aAl (aK A a) (aK A b)
  · have ha10 : aK A a < 10 := by rcases hal with z | z <;> omega
    have hb10 : aK A b < 10 := by rcases hal with z | z <;> omega
    obtain ⟨by1, by1o⟩ := hM.begin.beyond (i := p1) (n := p4) (hw.stop 0) z1 he ha10
    obtain ⟨by2, by2o⟩ := hM.begin.beyond (i := p3) (n := p4) (hw.stop 0) z2 hf hb10
    have hab := ofN_eq hw he hf
    have hm3 := (hm2 z1 z2).2 hal
    by_cases hin : aIn A a b p1 p3 p4
    · have w1 := by1.mpr ⟨hin.1.1, hin.1.2.2, hin.2.1⟩
      have w2 := by2.mpr ⟨hin.1.2.1, hin.1.2.2, hin.2.2⟩
      obtain ⟨oc, o1, o2, o3, c, A1, X1, M1, hc, hw1, hX1, hM1, r1, r2⟩ := cp_el hX hM hw hui huo z1 he z2 hf hal hin e1 e2
      have hcc : isCa c := by
        rcases hc with rfl | rfl
        · exact isCa_0
        · exact isCa_5
      rw [g0 hal hin] at hcl hokc
      have hj51 : h_X8_copy_j51 x p0 p1 p2 p3 p4 0 SX = h_X8_copy_j80 x p0 p1 p2 p3 p4 c SX X1 := by
        unfold h_X8_copy_j51
        rw [if_pos rfl, q1, q2, qa_s ad z1, qa_s ad z2]
        show h_X8_copy_j80 x p0 p1 p2 p3 p4 ((h_X8_copyElements_ss (ad a) p1 (ad b) p3 p4 SX).1) SX ((h_X8_copyElements_ss (ad a) p1 (ad b) p3 p4 SX).2) = _
        rw [r1]
      have hj130 : h_X9_copy_j130 m p0 p1 p2 p3 p4 SM = if a = b then if p3 ≤ p1 then h_X9_copy_l217a m p0 p1 p2 p3 p4 SM 100 0 (h_X9_begin m SM) else h_X9_copy_l180 m p0 p1 p2 p3 p4 SM 100 (p4 - 1) (h_X9_begin m SM) else h_X9_copy_l217 m p0 p1 p2 p3 p4 SM 100 0 (h_X9_begin m SM) := by
        unfold h_X9_copy_j130
        rw [e1, e2, if_pos w1, if_pos w2]
        by_cases y : a = b
        · rw [if_pos y, if_pos (hab.mpr y)]
        · rw [if_neg y, if_neg (fun z => y (hab.mp z))]
      refine ⟨hokc (fun _ _ => ⟨fun _ => ⟨okx1.1, okx1.2, fun z => ?_, fun a' ha' => ⟨okx2.1, okx2.2, fun z => ?_, fun b' hb' => ?_⟩⟩, fun z => absurd rfl z⟩), hmok (fun _ _ _ => ?_), ?_⟩
      · rw [q1, qa_s ad z1] at z
        cases z
      · rw [q2, qa_s ad z2] at z
        cases z
      · rw [q1, qa_s ad z1] at ha'
        rw [q2, qa_s ad z2] at hb'
        injection ha' with ha'
        injection hb' with hb'
        subst ha' hb'
        rw [r1]
        exact ⟨oc, hX1.okx, hX1.okst hcc, fun _ => trivial, fun _ => trivial⟩
      · unfold ok_X9_copy_j130
        rw [e1, e2]
        exact ⟨hM.b_ok, by1o, fun _ => ⟨hM.b_ok, by2o, fun _ => ⟨fun z => ⟨fun y => o1 (hab.mp z) y, fun y => o2 (hab.mp z) y⟩, fun z => o3 (fun y => z (hab.mpr y))⟩, fun z => absurd w2 z⟩, fun z => absurd w1 z⟩
      · rw [hcl, hj51, hm3, hj130, r2]
        unfold h_X8_copy_j80
        rcases hc with rfl | rfl
        · rw [if_pos (st_01 x X1), if_pos rfl]
          exact ⟨rfl, cC, cN, ad, rq, ma, bs, ui, uo, aStop 0 A1, ⟨hw1.stop 0, hui, huo⟩, hX1.stop hw1 isCa_0, hM1⟩
        · rw [if_neg (st_not isCa_5 (by decide) x X1), if_neg (by decide)]
          refine ⟨rfl, cC, cN, ad, rq, ma, bs, ui, uo, aStop 5 A1, ⟨hw1.stop 5, hui, huo⟩, hX1.stop hw1 isCa_5, ?_⟩
          rw [← stop_stop]
          exact hM1.fails isCa_5 (by decide)
    · rw [g2 hal hin] at hcl hokc
      have hj130 : h_X9_copy_j130 m p0 p1 p2 p3 p4 SM = ((h_X9_fails m 2 (h_X9_begin m SM)).1, (h_X9_fails m 2 (h_X9_begin m SM)).2) := by
        unfold h_X9_copy_j130
        rw [e1, e2]
        by_cases w1 : h_X9_isBeyond m (Int32.ofNat a) p1 p4 (h_X9_begin m SM) = 0
        · rw [if_pos w1]
          by_cases w2 : h_X9_isBeyond m (Int32.ofNat b) p3 p4 (h_X9_begin m SM) = 0
          · have v1 := by1.mp w1
            have v2 := by2.mp w2
            exact absurd ⟨⟨v1.1, v2.1, v1.2.1⟩, v1.2.2, v2.2.2⟩ hin
          · rw [if_neg w2]
        · rw [if_neg w1]
      refine ⟨hokc (fun _ _ => okc 2 isCa_2 (by decide)), hmok (fun _ _ _ => ?_), hfail 2 isCa_2 (by decide) hcl (hm3.trans hj130)⟩
      unfold ok_X9_copy_j130
      rw [e1, e2]
      refine ⟨hM.b_ok, by1o, fun w1 => ⟨hM.b_ok, by2o, fun w2 => ?_, fun _ => mf 2 isCa_2⟩, fun _ => mf 2 isCa_2⟩
      have v1 := by1.mp w1
      have v2 := by2.mp w2
      exact absurd ⟨⟨v1.1, v2.1, v1.2.1⟩, v1.2.2, v2.2.2⟩ hin
  · rw [g5 hal] at hcl hokc
    exact ⟨hokc (fun _ _ => okc 5 isCa_5 (by decide)), hmok (fun _ _ y => absurd y hal), hfail 5 isCa_5 (by decide) hcl ((hm2 z1 z2).1 hal)⟩
end STC
