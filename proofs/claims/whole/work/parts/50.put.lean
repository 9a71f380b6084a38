/-! ===== put and pass on both sides ===== -/
def aP (A : AS) (ty : Int32) (e : Nat) : Int32 := if e = 0 then 1 else if aIs A ty e = 0 then 0 else 1
theorem aP_ps {A : AS} {ty : Int32} {e : Nat} (h : ¬ aP A ty e = 0) : aPs A ty e := by
  unfold aP at h
  by_cases h0 : e = 0
  · exact Or.inl h0
  · rw [if_neg h0] at h
    by_cases h1 : aIs A ty e = 0
    · rw [if_pos h1] at h
      exact absurd rfl h
    · exact Or.inr h1
def aPut (A : AS) (ty : Int32) (e : Nat) (i : Int32) (w : Nat) : Int32 := if aP A ty e = 0 then 4 else if aP A (s_X8_elementTypeOfType ty) w = 0 then 4 else if e = 0 then 1 else if i < 0 then 2 else if aN A e ≤ i then 2 else if aP A (s_X9_elementType (Int32.ofNat (aK A e))) w = 0 then 5 else 0
theorem aPut_ca (A : AS) (ty : Int32) (e : Nat) (i : Int32) (w : Nat) : isCa (aPut A ty e i w) := by
  unfold aPut
  repeat' split
  all_goals first | exact isCa_0 | exact isCa_1 | exact isCa_2 | exact isCa_4 | exact isCa_5
section PTX
variable {L : List Nat} {x cC cN : Nat} {ad rq : Nat → Nat} {A : AS} {S : HS} {k : Nat} {e w : Nat} {ty i : Int32}
theorem RX.psS (h : RX L x cC cN ad rq A S) (hw : WF k A) (h1 : e ≠ 0) (h2 : e ≤ aT A) : h_X8_passesCast_s ty (ad e) S = aP A ty e := by
  unfold h_X8_passesCast_s aP
  rw [v_is (h.thing hw h1 h2).2.2.2, if_neg h1]
theorem ps0 : h_X8_passesCast_n ty S = aP A ty 0 := (if_pos rfl).symm
theorem RX.put_n (h : RX L x cC cN ad rq A S) (hw : WF k A) (w2 : w ≤ aT A) : (if w = 0 then h_X8_putCause_nn ty i S else h_X8_putCause_ns ty i (ad w) S) = aPut A ty 0 i w := by
  unfold h_X8_putCause_nn h_X8_putCause_ns aPut
  rw [ps0 (A := A) (ty := ty)]
  by_cases w0 : w = 0
  · subst w0
    rw [if_pos rfl, ps0 (A := A) (ty := s_X8_elementTypeOfType ty), if_pos (show (0 : Nat) = 0 from rfl)]
  · rw [if_neg w0, h.psS hw w0 w2, if_pos (show (0 : Nat) = 0 from rfl)]
theorem RX.put_s (h : RX L x cC cN ad rq A S) (hw : WF k A) (hty : thT ty) (h1 : e ≠ 0) (h2 : e ≤ aT A) (w2 : w ≤ aT A) : (if w = 0 then h_X8_putCause_sn ty (ad e) i S else h_X8_putCause_ss ty (ad e) i (ad w) S) = aPut A ty e i w := by
  have hk0 := (h.thing hw h1 h2).2.2.2
  unfold h_X8_putCause_sn h_X8_putCause_ss aPut
  rw [h.psS hw h1 h2, hk0]
  by_cases hp : aP A ty e = 0
  · rw [if_pos hp, if_pos hp, if_pos hp]
    split <;> rfl
  have hz : ¬ aIs A ty e = 0 := (aP_ps hp).resolve_left h1
  obtain ⟨k1, k2⟩ := hty _ (by have := (hw.2.2.1 e (by omega) h2).1; omega) hz
  have hh := h.holds h1 h2 k2 i
  rw [if_neg hp, if_neg hp, if_neg hp, hh]
  rw [if_neg h1]
  have hfin : ∀ q, q = aP A (s_X9_elementType (Int32.ofNat (aK A e))) w → (if (if i < 0 then (0 : Int32) else if aN A e ≤ i then 0 else 1) = 0 then 2 else if q = 0 then 5 else 0) = (if i < 0 then 2 else if aN A e ≤ i then 2 else if aP A (s_X9_elementType (Int32.ofNat (aK A e))) w = 0 then 5 else (0 : Int32)) := by
    intro q hq
    rw [hq]
    by_cases i0 : i < 0
    · rw [if_pos i0, if_pos rfl, if_pos i0]
    · rw [if_neg i0, if_neg i0]
      by_cases i1 : aN A e ≤ i
      · rw [if_pos i1, if_pos rfl, if_pos i1]
      · rw [if_neg i1, if_neg (by decide), if_neg i1]
  by_cases w0 : w = 0
  · subst w0
    rw [if_pos rfl, ps0 (A := A) (ty := s_X8_elementTypeOfType ty)]
    split
    · rfl
    · exact hfin (h_X8_passesCast_n (s_X8_elementTypeOfKind (Int32.ofNat (aK A e))) S) ps0
  · rw [if_neg w0, h.psS hw w0 w2]
    split
    · rfl
    · exact hfin (h_X8_passesCast_s (s_X8_elementTypeOfKind (Int32.ofNat (aK A e))) (ad w) S) (h.psS hw w0 w2)
theorem RX.okT_ho (h : RX L x cC cN ad rq A S) (hw : WF k A) (h1 : e ≠ 0) (h2 : e ≤ aT A) (i : Int32) : ok_X6_holds L (ad e) i S := by
  obtain ⟨t1, -⟩ := h.thing hw h1 h2
  unfold ok_X6_holds
  repeat' (first | exact trivial | exact t1 | (intro _) | (refine And.intro ?_ ?_))
theorem ok_put_nn : ok_X8_putCause_nn L ty i S := by
  unfold ok_X8_putCause_nn ok_X8_passesCast_n
  repeat' (first | exact trivial | (intro _) | (refine And.intro ?_ ?_))
theorem RX.ok_put_ns (h : RX L x cC cN ad rq A S) (hw : WF k A) (w1 : w ≠ 0) (w2 : w ≤ aT A) : ok_X8_putCause_ns L ty i (ad w) S := by
  have g := fun ty => h.okT_pc hw w1 w2 ty
  unfold ok_X8_putCause_ns ok_X8_passesCast_n
  repeat' (first | exact trivial | exact g _ | (intro _) | (refine And.intro ?_ ?_))
theorem RX.ok_put_sn (h : RX L x cC cN ad rq A S) (hw : WF k A) (h1 : e ≠ 0) (h2 : e ≤ aT A) : ok_X8_putCause_sn L ty (ad e) i S := by
  have g := fun ty => h.okT_pc hw h1 h2 ty
  have g2 := h.okT_ho hw h1 h2 i
  obtain ⟨t1, t2, -⟩ := h.thing hw h1 h2
  unfold ok_X8_putCause_sn ok_X8_passesCast_n
  repeat' (first | exact trivial | exact g _ | exact g2 | exact t1 | exact t2 | (intro _) | (refine And.intro ?_ ?_))
theorem RX.ok_put_ss (h : RX L x cC cN ad rq A S) (hw : WF k A) (h1 : e ≠ 0) (h2 : e ≤ aT A) (w1 : w ≠ 0) (w2 : w ≤ aT A) : ok_X8_putCause_ss L ty (ad e) i (ad w) S := by
  have g := fun ty => h.okT_pc hw h1 h2 ty
  have g1 := fun ty => h.okT_pc hw w1 w2 ty
  have g2 := h.okT_ho hw h1 h2 i
  obtain ⟨t1, t2, -⟩ := h.thing hw h1 h2
  unfold ok_X8_putCause_ss
  repeat' (first | exact trivial | exact g _ | exact g1 _ | exact g2 | exact t1 | exact t2 | (intro _) | (refine And.intro ?_ ?_))
end PTX
theorem ett_eq (ty : Int32) : (if ty = 15 then (13 : Int32) else s_X9_elementType ty) = s_X8_elementTypeOfType ty := rfl
theorem aAgn_p {A : AS} {ty : Int32} {e : Nat} {i : Int32} (h : ¬ aP A ty e = 0) : aAgn A ty e i = if e = 0 then 1 else if i < 0 then 2 else if aN A e ≤ i then 2 else 0 := by
  unfold aAgn
  by_cases h0 : e = 0
  · rw [if_pos h0, if_pos h0]
  · rw [if_neg h0, if_neg h0, if_neg ((aP_ps h).resolve_left h0)]
section PTS
variable {k : Nat} {LX : List Nat} {x : Nat} {LM : List Nat} {m : Nat} {SX SM : HS}
theorem st_put (h : Rel k LX x LM m SX SM) (p0 p1 p2 p3 : Int32) : ok_X8_put LX x p0 p1 p2 p3 SX ∧ ok_X9_put LM m p0 p1 p2 p3 SM ∧ (h_X8_put x p0 p1 p2 p3 SX).1 = (h_X9_put m p0 p1 p2 p3 SM).1 ∧ Rel k LX x LM m (h_X8_put x p0 p1 p2 p3 SX).2 (h_X9_put m p0 p1 p2 p3 SM).2 := by
  have hR := h
  obtain ⟨cC, cN, ad, rq, ma, bs, ui, uo, A, ⟨hw, hui, huo⟩, hX, hM⟩ := h
  have ok8 : ok_X8_put_j58 LX x p0 p1 p2 p3 8 SX := ⟨hX.okx, hX.okst isCa_8, fun z => absurd z (st_81 x SX), fun _ => trivial⟩
  have ok0 : ok_X8_put_j27 LX x p0 p1 p2 p3 0 SX := ⟨fun _ => ok8, fun z => absurd rfl z⟩
  have okF : ∀ c, isCa c → ¬ s_X8_isCell p1 = 0 → ¬ s_X8_isCell p3 = 0 → ok_X8_put_j58 LX x p0 p1 p2 p3 c SX := fun c hc hp hp3 => by
    have hXc := hX.stop hw hc
    have hwc := hw.stop c
    refine ⟨hX.okx, hX.okst hc, fun _ => ⟨(hX.s_okc hw hc hp).1, (hX.s_okc hw hc hp).2, fun _ => trivial, fun a ha => ?_⟩, fun _ => trivial⟩
    obtain ⟨e, -, e1, e2, rfl⟩ := hX.s_some hw hc hp ha
    obtain ⟨n1, n2, -⟩ := hXc.okT_el hwc e1 e2 p2
    refine ⟨n1, fun z => ?_, fun _ => trivial⟩
    obtain ⟨m1, m2, m3, m4, m5⟩ := n2 z
    refine ⟨m1, m2, m3, m4, fun y => ⟨(m5 y).1, (hX.s_okc hw hc hp3).1, (hX.s_okc hw hc hp3).2, fun _ => ⟨(m5 y).2.1, trivial⟩, fun b hb => ?_⟩⟩
    obtain ⟨f, -, f1, f2, rfl⟩ := hX.s_some hw hc hp3 hb
    exact ⟨⟨(m5 y).2.1, (hX.s_thing hw hc f1 f2).1⟩, trivial⟩
  refine ⟨⟨fun _ => ok0, fun t => ⟨fun _ => ok0, fun hp => ⟨fun _ => ok0, fun hp3 => ⟨fun z => absurd z (by decide), fun _ => ⟨(hX.okc hp).1, (hX.okc hp).2, fun _ => ⟨(hX.okc hp3).1, (hX.okc hp3).2, fun _ => ⟨ok_put_nn, ?_⟩, fun b hb => ?_⟩, fun a ha => ⟨(hX.okc hp3).1, (hX.okc hp3).2, fun _ => ?_, fun b hb => ?_⟩⟩⟩⟩⟩⟩, ?_, ?_⟩
  · have hv := hX.put_n hw (ty := p0) (i := p2) (w := 0) (Nat.zero_le _)
    rw [if_pos rfl] at hv
    exact okF _ (by rw [hv]; exact aPut_ca _ _ _ _ _) hp hp3
  · obtain ⟨f, -, f1, f2, rfl⟩ := hX.some hw hp3 hb
    have hv := hX.put_n hw (ty := p0) (i := p2) f2
    rw [if_neg f1] at hv
    exact ⟨hX.ok_put_ns hw f1 f2, okF _ (by rw [hv]; exact aPut_ca _ _ _ _ _) hp hp3⟩
  · obtain ⟨e, -, e1, e2, rfl⟩ := hX.some hw hp ha
    have hv := hX.put_s hw (ty := p0) (i := p2) (w := 0) (hol_ty t).1 e1 e2 (Nat.zero_le _)
    rw [if_pos rfl] at hv
    exact ⟨hX.ok_put_sn hw e1 e2, okF _ (by rw [hv]; exact aPut_ca _ _ _ _ _) hp hp3⟩
  · obtain ⟨e, -, e1, e2, rfl⟩ := hX.some hw hp ha
    obtain ⟨f, -, f1, f2, rfl⟩ := hX.some hw hp3 hb
    have hv := hX.put_s hw (ty := p0) (i := p2) (hol_ty t).1 e1 e2 f2
    rw [if_neg f1] at hv
    exact ⟨hX.ok_put_ss hw e1 e2 f1 f2, okF _ (by rw [hv]; exact aPut_ca _ _ _ _ _) hp hp3⟩
  · unfold ok_X9_put
    rw [hol_eq]
    have g8 := hM.b_okf isCa_8
    refine ⟨hM.1, ⟨hM.1, trivial⟩, fun _ => g8, fun t => ⟨fun _ => g8, fun hp => ⟨fun _ => g8, fun hp3 => ?_⟩⟩⟩
    rw [isCell_eq] at hp hp3
    obtain ⟨hth, har, -⟩ := hol_ty t
    have he := hX.cle hw hp
    have hf := hX.cle hw hp3
    have hc1 := hM.b_cell hp
    have hc3 := hM.b_cell hp3
    have f1 := hM.b_ok8 hp
    have f0 := hM.b_ok8 hp3
    have f2 := hM.b_ok
    have hag := hM.b_agn hw (i := p2) har he
    generalize aC A p1.toNatClampNeg = e at he hc1 hag
    generalize aC A p3.toNatClampNeg = w at hf hc3
    have f3 : ok_X9_against LM m p0 (Int32.ofNat e) p2 (h_X9_begin m SM) := hM.b_okagn hw he
    have f4 := hM.b_okf (aAgn_ca A p0 e p2)
    have f5 := hM.b_okt hw he (f := 2) (Or.inr (Or.inr rfl))
    have f5a := hM.b_okt hw he (f := 0) (Or.inl rfl)
    have f6 := hM.begin.okq in_6
    have f7 : ∀ ty, ok_X9_passes LM m (Int32.ofNat w) ty (h_X9_begin m SM) := fun ty => hM.b_okpass hw hf
    have f8 : ok_X9_passes LM m (Int32.ofNat e) p0 (h_X9_begin m SM) := hM.b_okpass hw he
    have g4 := hM.b_okf isCa_4
    have g5 := hM.b_okf isCa_5
    have hj : ∀ z, ok_X9_put_j78 LM m p0 p1 p2 p3 z SM := fun z => by
      unfold ok_X9_put_j78
      rw [hc1, hc3, hag]
      by_cases hz : aAgn A p0 e p2 = 0
      · obtain ⟨z1, k1, k2, z3, z4, l1, l2⟩ := th_el hw hth he hz
        obtain ⟨-, g2⟩ := hM.b_j hw hui huo z1 he (by omega) k2 z3 z4
        repeat' (first | exact trivial | exact f1.1 | exact f1.2 | exact f0.1 | exact f0.2 | exact f2 | exact f3 | exact f4 | exact f5.1 | exact f5.2 | exact f5a.1 | exact f5a.2 | exact f6 | exact f7 _ | exact g2 | exact g4 | exact g5 | (intro _) | (refine And.intro ?_ ?_))
      · have hnot : ¬ aAgn A p0 e p2 ≤ 0 := fun z => hz ((ca_le (aAgn_ca A p0 e p2)).mp z)
        repeat' (first | exact trivial | exact absurd (by assumption) hnot | exact f1.1 | exact f1.2 | exact f0.1 | exact f0.2 | exact f2 | exact f3 | exact f4 | exact f7 _ | exact g4 | (intro _) | (refine And.intro ?_ ?_))
    rw [hc1]
    repeat' (first | exact trivial | exact f1.1 | exact f1.2 | exact f0.1 | exact f0.2 | exact f2 | exact f8 | exact g4 | exact hj _ | exact f7 _ | (intro _) | (refine And.intro ?_ ?_))
  · unfold h_X9_put
    rw [hol_eq]
    by_cases t : s_X8_isThingArrayType p0 = 0
    · unfold h_X8_put
      rw [if_pos t, if_pos t]
      exact hR.b32 ⟨8, 0, isCa_8, (if_pos rfl).trans (if_neg (st_81 x SX)), rfl⟩
    rw [if_neg t]
    by_cases hp : s_X8_isCell p1 = 0
    · unfold h_X8_put
      rw [if_neg t, if_pos hp, if_pos (show s_X9_isCell p1 = 0 by rw [isCell_eq]; exact hp)]
      exact hR.b32 ⟨8, 0, isCa_8, (if_pos rfl).trans (if_neg (st_81 x SX)), rfl⟩
    rw [if_neg (show ¬ s_X9_isCell p1 = 0 by rw [isCell_eq]; exact hp)]
    by_cases hp3 : s_X8_isCell p3 = 0
    · unfold h_X8_put
      rw [if_neg t, if_neg hp, if_pos hp3, if_pos (show s_X9_isCell p3 = 0 by rw [isCell_eq]; exact hp3)]
      exact hR.b32 ⟨8, 0, isCa_8, (if_pos rfl).trans (if_neg (st_81 x SX)), rfl⟩
    rw [if_neg (show ¬ s_X9_isCell p3 = 0 by rw [isCell_eq]; exact hp3)]
    obtain ⟨hth, har, -⟩ := hol_ty t
    have he := hX.cle hw hp
    have hf := hX.cle hw hp3
    have hcl : h_X8_put x p0 p1 p2 p3 SX = h_X8_put_j58 x p0 p1 p2 p3 (aPut A p0 (aC A p1.toNatClampNeg) p2 (aC A p3.toNatClampNeg)) SX := by
      unfold h_X8_put h_X8_put_j27
      rw [if_neg t, if_neg hp, if_neg hp3, if_neg (by decide), hX.cellq hp, hX.cellq hp3, oq_qa, oq_qa]
      by_cases e0 : aC A p1.toNatClampNeg = 0
      · have hv := hX.put_n hw (ty := p0) (i := p2) hf
        rw [if_pos e0, e0, ← hv]
        split <;> rfl
      · have hv := hX.put_s hw (ty := p0) (i := p2) hth e0 he hf
        rw [if_neg e0, ← hv, oq_qa]
        split <;> rfl
    rw [hcl]
    have hc1 := hM.b_cell hp
    have hc3 := hM.b_cell hp3
    have hag := hM.b_agn hw (i := p2) har he
    have hq1 := hX.s_cellq hw isCa_0 hp
    have hq3 := hX.s_cellq hw isCa_0 hp3
    unfold h_X9_put_j78
    rw [hc1, hc3, hag, hM.b_pass hw he]
    generalize aC A p1.toNatClampNeg = e at he hc1 hag hq1 ⊢
    generalize aC A p3.toNatClampNeg = w at hf hc3 hq3 ⊢
    have hcaP := aPut_ca A p0 e p2 w
    have hmod : ∀ (z : Int32), h_X9_passes m (Int32.ofNat w) z (h_X9_begin m SM) = aP A z w := fun z => hM.b_pass hw hf
    simp only [hmod]
    have hfail : ∀ c, isCa c → c ≠ 0 → aPut A p0 e p2 w = c → (h_X8_put_j58 x p0 p1 p2 p3 (aPut A p0 e p2 w) SX).1 = ((h_X9_fails m c (h_X9_begin m SM)).1, (h_X9_fails m c (h_X9_begin m SM)).2).1 ∧ Rel k LX x LM m (h_X8_put_j58 x p0 p1 p2 p3 (aPut A p0 e p2 w) SX).2 ((h_X9_fails m c (h_X9_begin m SM)).1, (h_X9_fails m c (h_X9_begin m SM)).2).2 := by
      intro c hc c0 hv
      rw [hv]
      exact hR.b32 ⟨c, 0, hc, if_neg (st_not hc c0 x SX), by rw [mEnd_c c0]; rfl⟩
    have hsel : ∀ (c1 c2 : Int32 × HS), (if p0 = 15 then c1 else c2) = (if p0 = 15 then c1 else c2) := fun _ _ => rfl
    by_cases q1 : aP A p0 e = 0
    · have hv : aPut A p0 e p2 w = 4 := if_pos q1
      rw [if_pos (show (if e = 0 then (1 : Int32) else if aIs A p0 e = 0 then 0 else 1) = 0 from q1)]
      exact hfail 4 isCa_4 (by decide) hv
    rw [if_neg (show ¬ (if e = 0 then (1 : Int32) else if aIs A p0 e = 0 then 0 else 1) = 0 from q1)]
    have hv1 : aPut A p0 e p2 w = if aP A (s_X8_elementTypeOfType p0) w = 0 then 4 else if e = 0 then 1 else if p2 < 0 then 2 else if aN A e ≤ p2 then 2 else if aP A (s_X9_elementType (Int32.ofNat (aK A e))) w = 0 then 5 else 0 := if_neg q1
    have hmain : (h_X8_put_j58 x p0 p1 p2 p3 (aPut A p0 e p2 w) SX).1 = (if aP A (s_X8_elementTypeOfType p0) w = 0 then ((h_X9_fails m 4 (h_X9_begin m SM)).1, (h_X9_fails m 4 (h_X9_begin m SM)).2) else if aAgn A p0 e p2 ≤ 0 then if aP A (s_X9_elementType (hsA (h_X9_begin m SM) ((hsQ (h_X9_begin m SM) m 0).getD 0) (Int32.ofNat e).toNatClampNeg)) w = 0 then ((h_X9_fails m 5 (h_X9_begin m SM)).1, (h_X9_fails m 5 (h_X9_begin m SM)).2) else (1, hwJ (h_X9_begin m SM) ((hsQ (h_X9_begin m SM) m 6).getD 0) (hsA (h_X9_begin m SM) ((hsQ (h_X9_begin m SM) m 2).getD 0) (Int32.ofNat e).toNatClampNeg + p2).toNatClampNeg (Int32.ofNat w).toInt64) else ((h_X9_fails m (aAgn A p0 e p2) (h_X9_begin m SM)).1, (h_X9_fails m (aAgn A p0 e p2) (h_X9_begin m SM)).2)).1 ∧ Rel k LX x LM m (h_X8_put_j58 x p0 p1 p2 p3 (aPut A p0 e p2 w) SX).2 (if aP A (s_X8_elementTypeOfType p0) w = 0 then ((h_X9_fails m 4 (h_X9_begin m SM)).1, (h_X9_fails m 4 (h_X9_begin m SM)).2) else if aAgn A p0 e p2 ≤ 0 then if aP A (s_X9_elementType (hsA (h_X9_begin m SM) ((hsQ (h_X9_begin m SM) m 0).getD 0) (Int32.ofNat e).toNatClampNeg)) w = 0 then ((h_X9_fails m 5 (h_X9_begin m SM)).1, (h_X9_fails m 5 (h_X9_begin m SM)).2) else (1, hwJ (h_X9_begin m SM) ((hsQ (h_X9_begin m SM) m 6).getD 0) (hsA (h_X9_begin m SM) ((hsQ (h_X9_begin m SM) m 2).getD 0) (Int32.ofNat e).toNatClampNeg + p2).toNatClampNeg (Int32.ofNat w).toInt64) else ((h_X9_fails m (aAgn A p0 e p2) (h_X9_begin m SM)).1, (h_X9_fails m (aAgn A p0 e p2) (h_X9_begin m SM)).2)).2 := by
      by_cases q2 : aP A (s_X8_elementTypeOfType p0) w = 0
      · rw [if_pos q2] at hv1
        rw [if_pos q2]
        exact hfail 4 isCa_4 (by decide) hv1
      rw [if_neg q2] at hv1
      rw [if_neg q2]
      have hag2 := aAgn_p (i := p2) q1
      have hca := aAgn_ca A p0 e p2
      by_cases hz : aAgn A p0 e p2 = 0
      · obtain ⟨z1, k1, k2, z3, z4, l1, l2⟩ := th_el hw hth he hz
        rw [if_neg z1, if_neg z3, if_neg z4] at hv1
        rw [hz, if_pos (show (0 : Int32) ≤ 0 by decide), hM.b_kind hw z1 he]
        by_cases q3 : aP A (s_X9_elementType (Int32.ofNat (aK A e))) w = 0
        · rw [if_pos q3] at hv1
          rw [if_pos q3]
          exact hfail 5 isCa_5 (by decide) hv1
        rw [if_neg q3] at hv1
        rw [if_neg q3]
        obtain ⟨p1', -, -⟩ := hM.begin.place (hw.stop 0) hui huo z1 he k2 z3 z4
        have hX0 := hX.stop hw isCa_0
        obtain ⟨t1, t2, t3⟩ := hX.s_thing hw isCa_0 z1 he
        have hK5 : hsK (h_X8_stops x 0 SX).2 (ad e) = 5 := t2.trans ((kx_5 (by omega)).mpr ⟨k1, k2⟩)
        have hhold : h_X6_holds (ad e) p2 (h_X8_stops x 0 SX).2 = 1 := by
          rw [hX0.holds z1 he k2]
          show (if p2 < 0 then (0 : Int32) else if aN A e ≤ p2 then 0 else 1) = 1
          rw [if_neg z3, if_neg z4]
        have hrow : (hsQ (h_X8_stops x 0 SX).2 (ad e) 2).getD 0 = rq e := hX0.rowg z1 he k2
        have huw : uN (Int32.ofNat w).toInt64 = w := uN_i64 (wf_31 hw hf).2
        have hcls : h_X8_put_j58 x p0 p1 p2 p3 0 SX = (1, hwR (h_X8_stops x 0 SX).2 (rq e) p2.toNatClampNeg (qa ad w)) := by
          unfold h_X8_put_j58
          rw [if_pos (st_01 x SX), hq1, hq3, qa_s ad z1]
          show (if hsK (h_X8_stops x 0 SX).2 (ad e) = 5 then if h_X6_holds (ad e) p2 (h_X8_stops x 0 SX).2 = 0 then ((1 : Int32), (h_X8_stops x 0 SX).2) else oq (qa ad w) (1, hwR (h_X8_stops x 0 SX).2 ((hsQ (h_X8_stops x 0 SX).2 (ad e) 2).getD 0) p2.toNatClampNeg none) (fun b => (1, hwR (h_X8_stops x 0 SX).2 ((hsQ (h_X8_stops x 0 SX).2 (ad e) 2).getD 0) p2.toNatClampNeg (some b))) else (1, (h_X8_stops x 0 SX).2)) = _
          rw [if_pos hK5, hhold, if_neg (by decide), hrow, oq_qa, hw_qa]
        rw [hv1, hcls]
        refine ⟨rfl, cC, cN, ad, rq, ma, bs, ui, uo, aSetE (aStop 0 A) e p2.toNatClampNeg (Int32.ofNat w).toInt64, ⟨WF.setE (hw.stop 0) (fun _ _ => ?_), hui, huo⟩, ?_, ?_⟩
        · rw [huw]
          exact ⟨hf, aP_ps q3⟩
        · have := hX0.setRR (t := e) (i := p2.toNatClampNeg) (v := (Int32.ofNat w).toInt64) (hw.stop 0) (by omega) he k2 k1
          rw [huw] at this
          exact this
        · have := hM.begin.setE6 (t := e) (i := p2.toNatClampNeg) (v := (Int32.ofNat w).toInt64) (by omega) he (show 1 ≤ aK A e by omega) k2 (in_len z3 z4).2
          rw [p1', hM.begin.q in_6]
          exact this
      · rw [if_neg (fun z => hz ((ca_le hca).mp z))]
        refine hfail _ hca hz ?_
        rw [hv1, hag2]
        rw [hag2] at hz
        by_cases e0 : e = 0
        · rw [if_pos e0, if_pos e0]
        · rw [if_neg e0] at hz ⊢
          rw [if_neg e0]
          by_cases i0 : p2 < 0
          · rw [if_pos i0, if_pos i0]
          · rw [if_neg i0] at hz ⊢
            rw [if_neg i0]
            by_cases i1 : aN A e ≤ p2
            · rw [if_pos i1, if_pos i1]
            · rw [if_neg i1] at hz
              exact absurd rfl hz
    by_cases c15 : p0 = 15
    · rw [if_pos c15]
      rw [show s_X8_elementTypeOfType p0 = 13 from if_pos c15] at hmain
      exact hmain
    · rw [if_neg c15]
      rw [show s_X8_elementTypeOfType p0 = s_X9_elementType p0 from if_neg c15] at hmain
      exact hmain
end PTS
