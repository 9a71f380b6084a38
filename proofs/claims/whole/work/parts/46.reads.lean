/-! ===== length, field, load on both sides ===== -/
section RDS
variable {k : Nat} {LX : List Nat} {x : Nat} {LM : List Nat} {m : Nat} {SX SM : HS}
theorem st_length (h : Rel k LX x LM m SX SM) (p0 p1 : Int32) : ok_X8_length LX x p0 p1 SX ∧ ok_X9_length LM m p0 p1 SM ∧ (h_X8_length x p0 p1 SX).1 = (h_X9_length m p0 p1 SM).1 ∧ Rel k LX x LM m (h_X8_length x p0 p1 SX).2 (h_X9_length m p0 p1 SM).2 := by
  have hR := h
  obtain ⟨cC, cN, ad, rq, ma, bs, ui, uo, A, ⟨hw, hui, huo⟩, hX, hM⟩ := h
  have ok8 : ok_X8_length_j40 LX x p0 p1 8 SX := ⟨hX.okx, hX.okst isCa_8, fun z => absurd z (st_81 x SX), fun _ => trivial⟩
  have ok0 : ok_X8_length_j19 LX x p0 p1 0 SX := ⟨fun _ => ok8, fun z => absurd rfl z⟩
  have okF : ∀ c, isCa c → ¬ s_X8_isCell p1 = 0 → ok_X8_length_j40 LX x p0 p1 c SX := fun c hc hp => by
    refine ⟨hX.okx, hX.okst hc, fun _ => ⟨(hX.s_okc hw hc hp).1, (hX.s_okc hw hc hp).2, fun _ => trivial, fun a ha => ?_⟩, fun _ => trivial⟩
    obtain ⟨e, -, e1, e2, rfl⟩ := hX.s_some hw hc hp ha
    exact ⟨(hX.s_thing hw hc e1 e2).1, trivial⟩
  refine ⟨⟨fun _ => ok0, fun t => ⟨fun _ => ok0, fun hp => ⟨fun z => absurd z (by decide), fun _ => ⟨(hX.okc hp).1, (hX.okc hp).2, fun _ => ⟨RX.okn p0, okF 1 isCa_1 hp⟩, fun a ha => ?_⟩⟩⟩⟩, ?_, hR.b32 ?_⟩
  · obtain ⟨e, -, e1, e2, rfl⟩ := hX.some hw hp ha
    exact ⟨hX.okT_cc hw e1 e2 p0, okF _ (by rw [hX.castS hw e1 e2]; exact aCast_ca A p0 e) hp⟩
  · have hj : ok_X9_length_j20 LM m p0 p1 SM := by
      refine ⟨fun _ => hM.b_okf isCa_8, fun hp => ?_⟩
      rw [isCell_eq] at hp
      have he := hX.cle hw hp
      rw [hM.b_cell hp]
      exact ⟨(hM.b_ok8 hp).1, (hM.b_ok8 hp).2, hM.b_ok, hM.b_okpass hw he, fun _ => hM.b_okf isCa_4, fun _ => ⟨fun _ => hM.b_okf isCa_1, fun _ => ⟨(hM.b_okt hw he (Or.inr (Or.inl rfl))).1, (hM.b_okt hw he (Or.inr (Or.inl rfl))).2, trivial⟩⟩⟩
    exact ⟨hM.1, ⟨hM.1, trivial⟩, fun _ => ⟨fun _ => hj, fun _ => hM.b_okf isCa_8⟩, fun _ => hj⟩
  · have hmty : ¬ s_X8_isArrayType p0 = 0 → h_X9_length m p0 p1 SM = h_X9_length_j20 m p0 p1 SM := fun t => by
      unfold h_X9_length
      by_cases t1 : s_X9_in p0 0 9 = 0
      · rw [if_pos t1, if_pos (Classical.byContradiction (fun z => t (arr_ty.1.mpr ⟨t1, z⟩)))]
      · rw [if_neg t1]
    by_cases t : s_X8_isArrayType p0 = 0
    · obtain ⟨t1, t2⟩ := arr_ty.1.mp t
      unfold h_X8_length h_X9_length
      rw [if_pos t, if_pos t1, if_neg t2]
      exact ⟨8, 0, isCa_8, (if_pos rfl).trans (if_neg (st_81 x SX)), rfl⟩
    rw [hmty t]
    by_cases hp : s_X8_isCell p1 = 0
    · unfold h_X8_length h_X9_length_j20
      rw [if_neg t, if_pos hp, if_pos (by rw [isCell_eq]; exact hp)]
      exact ⟨8, 0, isCa_8, (if_pos rfl).trans (if_neg (st_81 x SX)), rfl⟩
    have he := hX.cle hw hp
    have hcl : h_X8_length x p0 p1 SX = h_X8_length_j40 x p0 p1 (aCast A p0 (aC A p1.toNatClampNeg)) SX := by
      unfold h_X8_length h_X8_length_j19
      rw [if_neg t, if_neg hp, if_neg (by decide)]
      exact (hX.by (fun z => h_X8_length_j40 x p0 p1 z SX) (fun a => h_X8_castCause_s p0 a SX) hp).trans (congrArg (fun z => h_X8_length_j40 x p0 p1 z SX) (hX.cast hw he))
    rw [hcl]
    unfold h_X9_length_j20
    rw [if_neg (by rw [isCell_eq]; exact hp), hM.b_cell hp, hM.b_pass hw he]
    have hq := fun c (hc : isCa c) => hX.s_cellq hw hc hp
    generalize aC A p1.toNatClampNeg = e at he hq ⊢
    have hn := n0 (wf_31 hw he).2
    unfold aCast h_X8_length_j40
    by_cases h0 : e = 0
    · rw [if_pos h0, if_pos h0, if_neg (show ¬ (1 : Int32) = 0 by decide), if_pos (hn.mpr h0)]
      exact ⟨1, 0, isCa_1, if_neg (st_not isCa_1 (by decide) x SX), rfl⟩
    rw [if_neg h0, if_neg h0]
    by_cases hz : aIs A p0 e = 0
    · rw [if_pos hz, if_pos hz, if_pos rfl]
      exact ⟨4, 0, isCa_4, if_neg (st_not isCa_4 (by decide) x SX), rfl⟩
    rw [if_neg hz, if_neg hz, if_neg (show ¬ (1 : Int32) = 0 by decide), if_neg (fun z => h0 (hn.mp z)), if_pos (st_01 x SX), hq 0 isCa_0, qa_s ad h0, hM.b_len hw h0 he]
    have hk : aK A e < 10 := arr_ty.2 t _ (by have := (hw.2.2.1 e (by omega) he).1; omega) hz
    refine ⟨0, aN A e, isCa_0, ?_, rfl⟩
    show (hsI (h_X8_stops x 0 SX).2 (ad e) 1, (h_X8_stops x 0 SX).2) = _
    rw [hX.s_row hw isCa_0 h0 he hk]
theorem st_field (h : Rel k LX x LM m SX SM) (p0 p1 : Int32) : ok_X8_field LX x p0 p1 SX ∧ ok_X9_field LM m p0 p1 SM ∧ (h_X8_field x p0 p1 SX).1 = (h_X9_field m p0 p1 SM).1 ∧ Rel k LX x LM m (h_X8_field x p0 p1 SX).2 (h_X9_field m p0 p1 SM).2 := by
  have hR := h
  obtain ⟨cC, cN, ad, rq, ma, bs, ui, uo, A, ⟨hw, hui, huo⟩, hX, hM⟩ := h
  have ok8 : ok_X8_field_j40 LX x p0 p1 8 SX := ⟨hX.okx, hX.okst isCa_8, fun z => absurd z (st_81 x SX), fun _ => trivial⟩
  have ok0 : ok_X8_field_j19 LX x p0 p1 0 SX := ⟨fun _ => ok8, fun z => absurd rfl z⟩
  have okF : ∀ c, isCa c → ¬ s_X8_isCell p1 = 0 → ok_X8_field_j40 LX x p0 p1 c SX := fun c hc hp => by
    refine ⟨hX.okx, hX.okst hc, fun _ => ⟨(hX.s_okc hw hc hp).1, (hX.s_okc hw hc hp).2, fun _ => trivial, fun a ha => ?_⟩, fun _ => trivial⟩
    obtain ⟨e, -, e1, e2, rfl⟩ := hX.s_some hw hc hp ha
    have ht := (hX.s_thing hw hc e1 e2).1
    exact ⟨ht, fun z => ⟨⟨ht.1, z⟩, ⟨ht.1, z⟩, trivial⟩, fun _ => trivial⟩
  refine ⟨⟨fun _ => ok0, fun t => ⟨fun _ => ok0, fun hp => ⟨fun z => absurd z (by decide), fun _ => ⟨(hX.okc hp).1, (hX.okc hp).2, fun _ => ⟨RX.okn p0, okF 1 isCa_1 hp⟩, fun a ha => ?_⟩⟩⟩⟩, ?_, hR.b32 ?_⟩
  · obtain ⟨e, -, e1, e2, rfl⟩ := hX.some hw hp ha
    exact ⟨hX.okT_cc hw e1 e2 p0, okF _ (by rw [hX.castS hw e1 e2]; exact aCast_ca A p0 e) hp⟩
  · refine ⟨hM.1, ⟨hM.1, trivial⟩, fun _ => hM.b_okf isCa_8, fun _ => ⟨fun _ => hM.b_okf isCa_8, fun hp => ?_⟩⟩
    rw [isCell_eq] at hp
    have he := hX.cle hw hp
    rw [hM.b_cell hp]
    exact ⟨(hM.b_ok8 hp).1, (hM.b_ok8 hp).2, hM.b_ok, hM.b_okpass hw he, fun _ => hM.b_okf isCa_4, fun _ => ⟨fun _ => hM.b_okf isCa_1, fun _ => ⟨(hM.b_okt hw he (Or.inr (Or.inl rfl))).1, (hM.b_okt hw he (Or.inr (Or.inl rfl))).2, trivial⟩⟩⟩
  · unfold h_X9_field
    by_cases t : s_X8_isOwnType p0 = 0
    · unfold h_X8_field
      rw [if_pos t, if_pos (own_ty.1.mp t)]
      exact ⟨8, 0, isCa_8, (if_pos rfl).trans (if_neg (st_81 x SX)), rfl⟩
    rw [if_neg (fun z => t (own_ty.1.mpr z))]
    by_cases hp : s_X8_isCell p1 = 0
    · unfold h_X8_field
      rw [if_neg t, if_pos hp, if_pos (by rw [isCell_eq]; exact hp)]
      exact ⟨8, 0, isCa_8, (if_pos rfl).trans (if_neg (st_81 x SX)), rfl⟩
    have he := hX.cle hw hp
    have hcl : h_X8_field x p0 p1 SX = h_X8_field_j40 x p0 p1 (aCast A p0 (aC A p1.toNatClampNeg)) SX := by
      unfold h_X8_field h_X8_field_j19
      rw [if_neg t, if_neg hp, if_neg (by decide)]
      exact (hX.by (fun z => h_X8_field_j40 x p0 p1 z SX) (fun a => h_X8_castCause_s p0 a SX) hp).trans (congrArg (fun z => h_X8_field_j40 x p0 p1 z SX) (hX.cast hw he))
    rw [hcl, if_neg (by rw [isCell_eq]; exact hp), hM.b_cell hp, hM.b_pass hw he]
    have hq := fun c (hc : isCa c) => hX.s_cellq hw hc hp
    generalize aC A p1.toNatClampNeg = e at he hq ⊢
    have hn := n0 (wf_31 hw he).2
    unfold aCast h_X8_field_j40
    by_cases h0 : e = 0
    · rw [if_pos h0, if_pos h0, if_neg (show ¬ (1 : Int32) = 0 by decide), if_pos (hn.mpr h0)]
      exact ⟨1, 0, isCa_1, if_neg (st_not isCa_1 (by decide) x SX), rfl⟩
    rw [if_neg h0, if_neg h0]
    by_cases hz : aIs A p0 e = 0
    · rw [if_pos hz, if_pos hz, if_pos rfl]
      exact ⟨4, 0, isCa_4, if_neg (st_not isCa_4 (by decide) x SX), rfl⟩
    rw [if_neg hz, if_neg hz, if_neg (show ¬ (1 : Int32) = 0 by decide), if_neg (fun z => h0 (hn.mp z)), if_pos (st_01 x SX), hq 0 isCa_0, qa_s ad h0, hM.b_len hw h0 he]
    have hk : 10 ≤ aK A e := own_ty.2 t _ (by have := (hw.2.2.1 e (by omega) he).1; omega) hz
    have ho := hX.s_own hw isCa_0 h0 he hk
    refine ⟨0, aN A e, isCa_0, ?_, rfl⟩
    show (if 2 ≤ hsK (h_X8_stops x 0 SX).2 (ad e) ∧ hsK (h_X8_stops x 0 SX).2 (ad e) ≤ 4 then (hsI (h_X8_stops x 0 SX).2 (ad e) 2, (h_X8_stops x 0 SX).2) else (0, (h_X8_stops x 0 SX).2)) = _
    rw [if_pos ho.1.2, ho.2.1]
theorem st_load (h : Rel k LX x LM m SX SM) (p0 p1 p2 : Int32) : ok_X8_load LX x p0 p1 p2 SX ∧ ok_X9_load LM m p0 p1 p2 SM ∧ (h_X8_load x p0 p1 p2 SX).1 = (h_X9_load m p0 p1 p2 SM).1 ∧ Rel k LX x LM m (h_X8_load x p0 p1 p2 SX).2 (h_X9_load m p0 p1 p2 SM).2 := by
  have hR := h
  obtain ⟨cC, cN, ad, rq, ma, bs, ui, uo, A, ⟨hw, hui, huo⟩, hX, hM⟩ := h
  have hty : ¬ s_X8_isNumberType p0 = 0 → arT p0 ∧ ∀ e, e ≠ 0 → e ≤ aT A → ¬ aIs A p0 e = 0 → aK A e < 7 := fun t => by
    obtain ⟨n, hn, rfl⟩ := num_ty.2 t
    refine ⟨arT_n n (by omega), fun e e1 e2 hz => ?_⟩
    have := nuT n hn (aK A e) (by have := (hw.2.2.1 e (by omega) e2).1; omega) hz
    omega
  have ok8 : ok_X8_load_j43 LX x p0 p1 p2 8 SX := ⟨hX.okx, hX.okst isCa_8, fun z => absurd z (st_81 x SX), fun _ => trivial⟩
  have ok0 : ok_X8_load_j19 LX x p0 p1 p2 0 SX := ⟨fun _ => ok8, fun z => absurd rfl z⟩
  have okF : ∀ c, isCa c → ¬ s_X8_isCell p1 = 0 → ok_X8_load_j43 LX x p0 p1 p2 c SX := fun c hc hp => by
    refine ⟨hX.okx, hX.okst hc, fun _ => ⟨(hX.s_okc hw hc hp).1, (hX.s_okc hw hc hp).2, fun _ => ⟨trivial, trivial⟩, fun a ha => ?_⟩, fun _ => trivial⟩
    obtain ⟨e, -, e1, e2, rfl⟩ := hX.s_some hw hc hp ha
    exact ⟨(hX.stop hw hc).okT_nu (hw.stop c) e1 e2 p2, trivial⟩
  refine ⟨⟨fun _ => ok0, fun t => ⟨fun _ => ok0, fun hp => ⟨fun z => absurd z (by decide), fun _ => ⟨(hX.okc hp).1, (hX.okc hp).2, fun _ => ⟨RX.oken p0, okF 1 isCa_1 hp⟩, fun a ha => ?_⟩⟩⟩⟩, ?_, hR.b64 ?_⟩
  · obtain ⟨e, -, e1, e2, rfl⟩ := hX.some hw hp ha
    exact ⟨hX.okT_ec hw e1 e2 p0 p2, okF _ (by rw [hX.elemS hw (hty t).1 e1 e2]; exact aAgn_ca A p0 e p2) hp⟩
  · refine ⟨hM.1, ⟨hM.1, trivial⟩, fun _ => hM.b_okf isCa_8, fun t => ⟨fun _ => hM.b_okf isCa_8, fun hp => ?_⟩⟩
    rw [isCell_eq] at hp
    have t' : ¬ s_X8_isNumberType p0 = 0 := fun z => t (num_ty.1.mp z)
    have he := hX.cle hw hp
    rw [hM.b_cell hp, hM.b_agn hw (hty t').1 he]
    refine ⟨(hM.b_ok8 hp).1, (hM.b_ok8 hp).2, hM.b_ok, hM.b_okagn hw he, fun z => ?_, fun _ => hM.b_okf (aAgn_ca A p0 _ p2)⟩
    obtain ⟨z1, z2, z3, z4⟩ := aAgn_0 ((ca_le (aAgn_ca A p0 _ p2)).mp z)
    have h7 := (hty t').2 _ z1 he z2
    exact ⟨(hM.b_ok8 hp).1, (hM.b_ok8 hp).2, hM.b_ok, hM.b_okel hw hui huo z1 he (by omega) z3 z4, trivial⟩
  · unfold h_X9_load
    by_cases t : s_X8_isNumberType p0 = 0
    · unfold h_X8_load
      rw [if_pos t, if_pos (num_ty.1.mp t)]
      exact ⟨8, 0, isCa_8, (if_pos rfl).trans (if_neg (st_81 x SX)), rfl⟩
    rw [if_neg (fun z => t (num_ty.1.mpr z))]
    by_cases hp : s_X8_isCell p1 = 0
    · unfold h_X8_load
      rw [if_neg t, if_pos hp, if_pos (by rw [isCell_eq]; exact hp)]
      exact ⟨8, 0, isCa_8, (if_pos rfl).trans (if_neg (st_81 x SX)), rfl⟩
    have he := hX.cle hw hp
    have hcl : h_X8_load x p0 p1 p2 SX = h_X8_load_j43 x p0 p1 p2 (aAgn A p0 (aC A p1.toNatClampNeg) p2) SX := by
      unfold h_X8_load h_X8_load_j19
      rw [if_neg t, if_neg hp, if_neg (by decide)]
      exact (hX.by (fun z => h_X8_load_j43 x p0 p1 p2 z SX) (fun a => h_X8_elementCause_s p0 a p2 SX) hp).trans (congrArg (fun z => h_X8_load_j43 x p0 p1 p2 z SX) (hX.elem hw (hty t).1 he))
    rw [hcl, if_neg (by rw [isCell_eq]; exact hp), hM.b_cell hp, hM.b_agn hw (hty t).1 he]
    have hq := fun c (hc : isCa c) => hX.s_cellq hw hc hp
    generalize aC A p1.toNatClampNeg = e at he hq ⊢
    have hca := aAgn_ca A p0 e p2
    unfold h_X8_load_j43
    by_cases hz : aAgn A p0 e p2 = 0
    · obtain ⟨z1, z2, z3, z4⟩ := aAgn_0 hz
      have h7 := (hty t).2 e z1 he z2
      rw [hz, if_pos (st_01 x SX), if_pos (show (0 : Int32) ≤ 0 by decide), hq 0 isCa_0, qa_s ad z1, hM.b_el hw hui huo z1 he (by omega) z3 z4]
      refine ⟨0, aE A e p2.toNatClampNeg, isCa_0, ?_, rfl⟩
      show (h_X8_numberAt_s (ad e) p2 (h_X8_stops x 0 SX).2, (h_X8_stops x 0 SX).2) = _
      rw [hX.s_num hw isCa_0 z1 he h7 z3 z4]
    · rw [if_neg (fun z => hz ((ca_le hca).mp z)), if_neg (st_not hca hz x SX)]
      exact ⟨_, 0, hca, rfl, by rw [mEnd_c hz]; rfl⟩
end RDS
