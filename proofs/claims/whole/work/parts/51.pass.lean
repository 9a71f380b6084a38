/-! ===== pass on both sides ===== -/
section PSS
variable {k : Nat} {LX : List Nat} {x : Nat} {LM : List Nat} {m : Nat} {SX SM : HS}
theorem st_pass (h : Rel k LX x LM m SX SM) (p0 p1 p2 : Int32) : ok_X8_pass LX x p0 p1 p2 SX ∧ ok_X9_pass LM m p0 p1 p2 SM ∧ (h_X8_pass x p0 p1 p2 SX).1 = (h_X9_pass m p0 p1 p2 SM).1 ∧ Rel k LX x LM m (h_X8_pass x p0 p1 p2 SX).2 (h_X9_pass m p0 p1 p2 SM).2 := by
  have hR := h
  obtain ⟨cC, cN, ad, rq, ma, bs, ui, uo, A, ⟨hw, hui, huo⟩, hX, hM⟩ := h
  have hty : ¬ s_X8_isNumberType p0 = 0 → arT p0 ∧ ∀ e, e ≠ 0 → e ≤ aT A → ¬ aIs A p0 e = 0 → aK A e < 7 := fun t => by
    obtain ⟨n, hn, rfl⟩ := num_ty.2 t
    refine ⟨arT_n n (by omega), fun e e1 e2 hz => ?_⟩
    have := nuT n hn (aK A e) (by have := (hw.2.2.1 e (by omega) e2).1; omega) hz
    omega
  have okt : ∀ v c, isCa c → ¬ s_X8_isCell p1 = 0 → (x ∈ LX ∧ hsK (hwI SX x 3 v) x = 6) ∧ ok_X8_stops LX x c (hwI SX x 3 v) ∧ ((x ∈ LX ∧ hsK (h_X8_stops x c (hwI SX x 3 v)).2 x = 6 ∧ hsQ (h_X8_stops x c (hwI SX x 3 v)).2 x 0 ≠ none) ∧ ((hsQ (h_X8_stops x c (hwI SX x 3 v)).2 x 0).getD 0 ∈ LX ∧ hsK (h_X8_stops x c (hwI SX x 3 v)).2 ((hsQ (h_X8_stops x c (hwI SX x 3 v)).2 x 0).getD 0) = 10 ∧ vp_in p1 (hsN (h_X8_stops x c (hwI SX x 3 v)).2 ((hsQ (h_X8_stops x c (hwI SX x 3 v)).2 x 0).getD 0)))) ∧ ∀ a, hsR (h_X8_stops x c (hwI SX x 3 v)).2 ((hsQ (h_X8_stops x c (hwI SX x 3 v)).2 x 0).getD 0) p1.toNatClampNeg = some a → ok_X8_numberAt_s LX a p2 (h_X8_stops x c (hwI SX x 3 v)).2 := by
    intro v c hc hp
    have h3 := hX.setR3 (v := v) hw
    refine ⟨h3.okx, h3.okst hc, h3.s_okc hw.setR hc hp, fun a ha => ?_⟩
    obtain ⟨e, -, e1, e2, rfl⟩ := h3.s_some hw.setR hc hp ha
    exact (h3.stop hw.setR hc).okT_nu (hw.setR.stop c) e1 e2 p2
  refine ⟨⟨fun _ => ⟨hX.okx, hX.okst isCa_8, trivial⟩, fun t => ⟨fun _ => ⟨hX.okx, hX.okst isCa_8, trivial⟩, fun hp => ⟨(hX.okc hp).1, (hX.okc hp).2, fun _ => ?_, fun a ha => ?_⟩⟩⟩, ?_, ?_⟩
  · refine ⟨RX.oken p0, hX.okx, fun z => absurd (show (1 : Int32) = 4 from z) (by decide), fun _ => ⟨fun z => absurd (show (1 : Int32) = 2 from z) (by decide), fun _ => ⟨fun _ => ?_, fun z => absurd rfl z⟩⟩⟩
    obtain ⟨o1, o2, o3, o4⟩ := okt (s_X8_traceOf (h_X8_elementCause_n p0 p2 SX)) (h_X8_elementCause_n p0 p2 SX) isCa_1 hp
    exact ⟨o1, o2, fun _ => ⟨fun _ => ⟨o3.1, o3.2, fun _ => ⟨trivial, trivial⟩, fun a ha => ⟨o4 a ha, trivial⟩⟩, fun z => absurd rfl z⟩, fun _ => trivial⟩
  · obtain ⟨e, -, e1, e2, rfl⟩ := hX.some hw hp ha
    have hv := hX.elemS hw (i := p2) (hty t).1 e1 e2
    have hj : ∀ z c, isCa c → ok_X8_pass_j76a LX x p0 p1 p2 z (ad e) c SX := fun z c hc => by
      obtain ⟨o1, o2, o3, o4⟩ := okt (s_X8_traceOf (h_X8_elementCause_s p0 (ad e) p2 SX)) c hc hp
      exact ⟨o1, o2, fun _ => ⟨fun _ => ⟨o3.1, o3.2, fun _ => ⟨trivial, trivial⟩, fun a ha => ⟨o4 a ha, trivial⟩⟩, fun _ => ⟨fun _ => trivial, fun _ => trivial⟩⟩, fun _ => trivial⟩
    have hj2 : ∀ z, ok_X8_pass_j62a LX x p0 p1 p2 (ad e) z SX := fun z => ⟨fun _ => hj z _ (by rw [hv]; exact aAgn_ca A p0 e p2), fun _ => hj z 0 isCa_0⟩
    exact ⟨hX.okT_ec hw e1 e2 p0 p2, hX.okx, fun _ => hj2 1, fun _ => ⟨fun _ => hj2 1, fun _ => hj2 0⟩⟩
  · unfold ok_X9_pass
    have g8 := hM.b_okf isCa_8
    refine ⟨hM.1, ⟨hM.1, trivial⟩, fun _ => g8, fun t => ⟨fun _ => g8, fun hp => ?_⟩⟩
    rw [isCell_eq] at hp
    have t' : ¬ s_X8_isNumberType p0 = 0 := fun z => t (num_ty.1.mp z)
    have he := hX.cle hw hp
    have f1 := hM.b_ok8 hp
    have f2 := hM.b_ok
    have h75 := hM.begin.setR3 (v := 75)
    have h41 := hM.begin.setR3 (v := 41)
    have f75 := h75.ok8 hp
    have f75a := h75.1
    have f41 := h41.1
    have f41b := h41.okfail isCa_1
    rw [hM.b_cell hp, hM.b_agn hw (hty t').1 he]
    generalize aC A p1.toNatClampNeg = e at he ⊢
    have f3 : ok_X9_against LM m p0 (Int32.ofNat e) p2 (h_X9_begin m SM) := hM.b_okagn hw he
    have hca := aAgn_ca A p0 e p2
    by_cases hz : aAgn A p0 e p2 = 0
    · obtain ⟨z1, z2, z3, z4⟩ := aAgn_0 hz
      have h7 := (hty t').2 e z1 he z2
      have f5 : ok_X9_element LM m (Int32.ofNat e) p2 (hwI (h_X9_begin m SM) m 11 75) := h75.okel (hw.stop 0) hui huo z1 he (show aK A e < 10 by omega) z3 z4
      repeat' (first | exact trivial | exact f1.1 | exact f1.2 | exact f2 | exact f3 | exact f5 | exact f75.1 | exact f75.2 | exact f75a | exact f41 | exact f41b | (intro _) | (refine And.intro ?_ ?_))
    · have hcs : aAgn A p0 e p2 = 1 ∨ aAgn A p0 e p2 = 2 ∨ aAgn A p0 e p2 = 4 := by
        unfold aAgn at hz ⊢
        by_cases e0 : e = 0
        · rw [if_pos e0]
          exact Or.inl rfl
        rw [if_neg e0] at hz ⊢
        by_cases a0 : aIs A p0 e = 0
        · rw [if_pos a0]
          exact Or.inr (Or.inr rfl)
        rw [if_neg a0] at hz ⊢
        by_cases i0 : p2 < 0
        · rw [if_pos i0]
          exact Or.inr (Or.inl rfl)
        rw [if_neg i0] at hz ⊢
        by_cases i1 : aN A e ≤ p2
        · rw [if_pos i1]
          exact Or.inr (Or.inl rfl)
        · rw [if_neg i1] at hz
          exact absurd rfl hz
      refine ⟨f1.1, f1.2, f2, f3, fun _ => ⟨f2, f41, f41b, trivial⟩, fun n1 => ⟨fun _ => ⟨f2, trivial⟩, fun n2 => ⟨fun n3 => ?_, fun _ => ⟨fun _ => ⟨f2, trivial⟩, fun n4 => ?_⟩⟩⟩⟩
      · rcases hcs with z | z | z
        · exact absurd z n1
        · exact absurd z n2
        · rw [z] at n3
          exact absurd n3 (by decide)
      · rcases hcs with z | z | z
        · exact absurd z n1
        · exact absurd z n2
        · exact absurd z n4
  · unfold h_X9_pass
    by_cases t : s_X8_isNumberType p0 = 0
    · unfold h_X8_pass
      rw [if_pos t, if_pos (num_ty.1.mp t)]
      exact hR.b64 ⟨8, 0, isCa_8, rfl, rfl⟩
    rw [if_neg (fun z => t (num_ty.1.mpr z))]
    by_cases hp : s_X8_isCell p1 = 0
    · unfold h_X8_pass
      rw [if_neg t, if_pos hp, if_pos (show s_X9_isCell p1 = 0 by rw [isCell_eq]; exact hp)]
      exact hR.b64 ⟨8, 0, isCa_8, rfl, rfl⟩
    have he := hX.cle hw hp
    rw [if_neg (show ¬ s_X9_isCell p1 = 0 by rw [isCell_eq]; exact hp), hM.b_cell hp, hM.b_agn hw (hty t).1 he]
    have h75 := hM.begin.setR3 (v := 75)
    unfold h_X8_pass
    rw [if_neg t, if_neg hp, hX.cellq hp, oq_qa]
    have hq : ∀ v, hsR (h_X8_stops x 0 (hwI SX x 3 v)).2 ((hsQ (h_X8_stops x 0 (hwI SX x 3 v)).2 x 0).getD 0) p1.toNatClampNeg = qa ad (aC A p1.toNatClampNeg) := fun v => (hX.setR3 (v := v) hw).s_cellq hw.setR isCa_0 hp
    generalize aC A p1.toNatClampNeg = e at he hq ⊢
    have fin : ∀ v, Rel k LX x LM m (h_X8_stops x 0 (hwI SX x 3 v)).2 (hwI (h_X9_begin m SM) m 11 v) := fun v =>
      ⟨cC, cN, ad, rq, ma, bs, ui, uo, aStop 0 (aSetR A v), ⟨hw, hui, huo⟩, (hX.setR3 (v := v) hw).stop hw.setR isCa_0, hM.begin.setR3 (v := v)⟩
    by_cases e0 : e = 0
    · have h1 : aAgn A p0 e p2 = 1 := if_pos e0
      rw [if_pos e0, h1, if_pos (show (1 : Int32) = 1 from rfl)]
      have hcls : (if h_X8_elementCause_n p0 p2 SX = 4 then h_X8_pass_j62 x p0 p1 p2 1 SX else if h_X8_elementCause_n p0 p2 SX = 2 then h_X8_pass_j62 x p0 p1 p2 1 SX else h_X8_pass_j62 x p0 p1 p2 0 SX) = (0, (h_X8_stops x 1 (hwI SX x 3 41)).2) := by
        refine (if_neg (show ¬ (1 : Int32) = 4 by decide)).trans ((if_neg (show ¬ (1 : Int32) = 2 by decide)).trans ?_)
        unfold h_X8_pass_j62 h_X8_pass_j76
        rw [if_pos rfl]
        exact if_neg (st_not isCa_1 (by decide) x _)
      rw [hcls]
      refine ⟨rfl, cC, cN, ad, rq, ma, bs, ui, uo, aStop 1 (aSetR A 41), ⟨hw, hui, huo⟩, (hX.setR3 (v := 41) hw).stop hw.setR isCa_1, ?_⟩
      exact (hM.begin.setR3 (v := 41)).fails isCa_1 (by decide)
    rw [if_neg e0, hX.elemS hw (hty t).1 e0 he]
    unfold h_X8_pass_j62a h_X8_pass_j76a
    rw [hX.elemS hw (hty t).1 e0 he]
    by_cases c4 : aAgn A p0 e p2 = 4
    · rw [c4, if_pos rfl, if_neg (show ¬ (1 : Int32) = 0 by decide), if_neg (show ¬ (4 : Int32) = 1 by decide), if_neg (show ¬ (4 : Int32) = 2 by decide), if_neg (show ¬ (4 : Int32) = 3 by decide), if_pos (show (4 : Int32) = 4 from rfl), if_pos (st_01 x _), if_neg (show ¬ (1 : Int32) = 0 by decide), if_pos (show (4 : Int32) = 4 from rfl)]
      exact ⟨rfl, fin 77⟩
    rw [if_neg c4]
    by_cases c2 : aAgn A p0 e p2 = 2
    · rw [c2, if_pos rfl, if_neg (show ¬ (1 : Int32) = 0 by decide), if_neg (show ¬ (2 : Int32) = 1 by decide), if_pos (show (2 : Int32) = 2 from rfl), if_pos (st_01 x _), if_neg (show ¬ (1 : Int32) = 0 by decide), if_neg (show ¬ (2 : Int32) = 4 by decide)]
      exact ⟨rfl, fin 25⟩
    rw [if_neg c2]
    have hz : aAgn A p0 e p2 = 0 := by
      unfold aAgn at c4 c2 ⊢
      rw [if_neg e0] at c4 c2 ⊢
      by_cases a0 : aIs A p0 e = 0
      · rw [if_pos a0] at c4
        exact absurd rfl c4
      rw [if_neg a0] at c4 c2 ⊢
      by_cases i0 : p2 < 0
      · rw [if_pos i0] at c2
        exact absurd rfl c2
      rw [if_neg i0] at c4 c2 ⊢
      by_cases i1 : aN A e ≤ p2
      · rw [if_pos i1] at c2
        exact absurd rfl c2
      · rw [if_neg i1]
    obtain ⟨z1, z2, z3, z4⟩ := aAgn_0 hz
    have h7 := (hty t).2 e z1 he z2
    have hel : h_X9_element m (Int32.ofNat e) p2 (hwI (h_X9_begin m SM) m 11 75) = aE A e p2.toNatClampNeg := h75.element (hw.stop 0) hui huo z1 he (show aK A e < 10 by omega) z3 z4
    have hnum : h_X8_numberAt_s (ad e) p2 (h_X8_stops x 0 (hwI SX x 3 75)).2 = aE A e p2.toNatClampNeg := (hX.setR3 (v := 75) hw).s_num hw.setR isCa_0 z1 he h7 z3 z4
    have ht0 : s_X8_traceOf 0 = 75 := by decide
    rw [hz, if_pos rfl, if_neg (show ¬ (0 : Int32) = 1 by decide), if_neg (show ¬ (0 : Int32) = 2 by decide), if_neg (show ¬ (0 : Int32) = 3 by decide), if_neg (show ¬ (0 : Int32) = 4 by decide), ht0, if_pos (st_01 x _), if_pos rfl, hq 75, qa_s ad z1, hel]
    refine ⟨?_, ?_⟩
    · show h_X8_numberAt_s (ad e) p2 (h_X8_stops x 0 (hwI SX x 3 75)).2 = _
      exact hnum
    · exact fin 75
end PSS
