/-! ===== cross and call on both sides ===== -/
section CRX
variable {L : List Nat} {x cC cN : Nat} {ad rq : Nat → Nat} {A : AS} {S : HS} {k : Nat} {e : Nat}
theorem arT7 : arT 7 := arT_n 7 (by decide)
theorem arT0 : arT 0 := arT_n 0 (by decide)
def aCross (A : AS) (e : Nat) (i j : Int32) : Int32 := if aAgn A 7 e i = 0 then aAgn A 0 (uN (aE A e i.toNatClampNeg)) j else aAgn A 7 e i
theorem aCross_ca (A : AS) (e : Nat) (i j : Int32) : isCa (aCross A e i j) := by
  unfold aCross
  split
  · exact aAgn_ca _ _ _ _
  · exact aAgn_ca _ _ _ _
/-- an element of a thing array -/
theorem th_el (hw : WF k A) {ty : Int32} (hty : thT ty) {i : Int32} (h2 : e ≤ aT A) (hz : aAgn A ty e i = 0) : e ≠ 0 ∧ 7 ≤ aK A e ∧ aK A e < 10 ∧ ¬ i < 0 ∧ ¬ aN A e ≤ i ∧ uN (aE A e i.toNatClampNeg) ≤ aT A ∧ aPs A (s_X9_elementType (Int32.ofNat (aK A e))) (uN (aE A e i.toNatClampNeg)) := by
  obtain ⟨z1, z2, z3, z4⟩ := aAgn_0 hz
  have h12 := (hw.2.2.1 e (by omega) h2).1
  obtain ⟨k1, k2⟩ := hty _ (by omega) z2
  obtain ⟨l1, l2⟩ := hw.2.2.2.2 e (by omega) h2 k1 k2 _ (in_len z3 z4).2
  exact ⟨z1, k1, k2, z3, z4, l1, l2⟩
theorem thT7 : thT 7 := thT_n 0 (by decide)
theorem RX.cross (h : RX L x cC cN ad rq A S) (hw : WF k A) (h2 : e ≤ aT A) {i j : Int32} : (if e = 0 then h_X8_crossCause_n i j S else h_X8_crossCause_s (ad e) i j S) = aCross A e i j := by
  unfold aCross
  by_cases h0 : e = 0
  · rw [if_pos h0, show aAgn A 7 e i = 1 from if_pos h0]
    rfl
  · rw [if_neg h0]
    unfold h_X8_crossCause_s
    rw [h.elemS hw arT7 h0 h2]
    by_cases hz : aAgn A 7 e i = 0
    · rw [if_pos hz, if_pos hz]
      obtain ⟨z1, k1, k2, z3, z4, l1, l2⟩ := th_el hw thT7 h2 hz
      rw [h.element hw z1 h2 k1 k2 z3 z4, oq_qa]
      exact h.elem hw arT0 l1
    · rw [if_neg hz, if_neg hz]
theorem no_el {α : Prop} {i : Int32} {b : Nat} (h : h_X8_elementAt_n i S = Option.some b) : α := by
  have h2 : (none : Option Nat) = Option.some b := h
  cases h2
theorem okn_cross (i j : Int32) : ok_X8_crossCause_n L i j S := ⟨RX.oken 7, fun _ => ⟨trivial, fun _ => ⟨RX.oken 0, trivial⟩, fun _ hb => no_el hb⟩, fun _ => trivial⟩
theorem RX.okT_cross (h : RX L x cC cN ad rq A S) (hw : WF k A) (h1 : e ≠ 0) (h2 : e ≤ aT A) (i j : Int32) : ok_X8_crossCause_s L (ad e) i j S := by
  refine ⟨h.okT_ec hw h1 h2 7 i, fun _ => ⟨h.okT_el hw h1 h2 i, fun _ => ⟨RX.oken 0, trivial⟩, fun b hb => ?_⟩, fun _ => trivial⟩
  obtain ⟨f, f0, f1, rfl⟩ := h.elsome hw h1 h2 hb
  exact ⟨h.okT_ec hw f0 f1 0 j, trivial⟩
end CRX
section CRM
variable {L : List Nat} {m : Nat} {ma bs : Nat → Nat} {ui uo : Nat} {A : AS} {S : HS} {k : Nat} {e : Nat} {i : Int32}
theorem RM.b_j (h : RM L m ma bs ui uo A S) (hw : WF k A) (hui : ui ≤ 4096 * k) (huo : uo ≤ 64 * k) (h1 : e ≠ 0) (h2 : e ≤ aT A) (hk1 : 1 ≤ aK A e) (hk : aK A e < 10) (i0 : ¬ i < 0) (i1 : ¬ aN A e ≤ i) : hsJ (h_X9_begin m S) ((hsQ (h_X9_begin m S) m 6).getD 0) (hsA (h_X9_begin m S) ((hsQ (h_X9_begin m S) m 2).getD 0) (Int32.ofNat e).toNatClampNeg + i).toNatClampNeg = aE A e i.toNatClampNeg ∧ ((hsQ (h_X9_begin m S) m 6).getD 0 ∈ L ∧ hsK (h_X9_begin m S) ((hsQ (h_X9_begin m S) m 6).getD 0) = 9 ∧ vp_in (hsA (h_X9_begin m S) ((hsQ (h_X9_begin m S) m 2).getD 0) (Int32.ofNat e).toNatClampNeg + i) (hsN (h_X9_begin m S) ((hsQ (h_X9_begin m S) m 6).getD 0))) := by
  obtain ⟨p1, p2, p3⟩ := h.begin.place (hw.stop 0) hui huo h1 h2 hk i0 i1
  refine ⟨?_, h.begin.okj (p3 hk1)⟩
  rw [p1, h.begin.q in_6]
  exact ((h.begin.2.2.2.2.1 e (by omega) h2).2.2.2 hk1 hk).2 _ (in_len i0 i1).2
theorem RM.b_i (h : RM L m ma bs ui uo A S) (hw : WF k A) (hui : ui ≤ 4096 * k) (huo : uo ≤ 64 * k) (h1 : e ≠ 0) (h2 : e ≤ aT A) (hk : aK A e = 0) (i0 : ¬ i < 0) (i1 : ¬ aN A e ≤ i) : (hsA (h_X9_begin m S) ((hsQ (h_X9_begin m S) m 4).getD 0) (hsA (h_X9_begin m S) ((hsQ (h_X9_begin m S) m 2).getD 0) (Int32.ofNat e).toNatClampNeg + i).toNatClampNeg).toInt64 = aE A e i.toNatClampNeg ∧ ((hsQ (h_X9_begin m S) m 4).getD 0 ∈ L ∧ hsK (h_X9_begin m S) ((hsQ (h_X9_begin m S) m 4).getD 0) = 8 ∧ vp_in (hsA (h_X9_begin m S) ((hsQ (h_X9_begin m S) m 2).getD 0) (Int32.ofNat e).toNatClampNeg + i) (hsN (h_X9_begin m S) ((hsQ (h_X9_begin m S) m 4).getD 0))) := by
  obtain ⟨p1, p2, p3⟩ := h.begin.place (hw.stop 0) hui huo h1 h2 (show aK A e < 10 by omega) i0 i1
  refine ⟨?_, h.begin.oka in_4 (by decide) (p2 hk)⟩
  rw [p1, h.begin.q in_4]
  exact ((h.begin.2.2.2.2.1 e (by omega) h2).2.2.1 hk).2 _ (in_len i0 i1).2
theorem el_32 (hw : WF k A) {v : Int64} (h : uN v ≤ aT A) : v.toInt32 = Int32.ofNat (uN v) := uN_i32 (by have := wf_31 hw h; omega)
end CRM
section CRS
variable {k : Nat} {LX : List Nat} {x : Nat} {LM : List Nat} {m : Nat} {SX SM : HS}
theorem st_cross (h : Rel k LX x LM m SX SM) (p0 p1 p2 : Int32) : ok_X8_cross LX x p0 p1 p2 SX ∧ ok_X9_cross LM m p0 p1 p2 SM ∧ (h_X8_cross x p0 p1 p2 SX).1 = (h_X9_cross m p0 p1 p2 SM).1 ∧ Rel k LX x LM m (h_X8_cross x p0 p1 p2 SX).2 (h_X9_cross m p0 p1 p2 SM).2 := by
  have hR := h
  obtain ⟨cC, cN, ad, rq, ma, bs, ui, uo, A, ⟨hw, hui, huo⟩, hX, hM⟩ := h
  have ok8 : ok_X8_cross_j24 LX x p0 p1 p2 8 SX := ⟨hX.okx, hX.okst isCa_8, fun z => absurd z (st_81 x SX), fun _ => trivial⟩
  have okF : ∀ c, isCa c → ¬ s_X8_isCell p0 = 0 → ok_X8_cross_j24 LX x p0 p1 p2 c SX := fun c hc hp => by
    have hXc := hX.stop hw hc
    have hwc := hw.stop c
    refine ⟨hX.okx, hX.okst hc, fun _ => ⟨(hX.s_okc hw hc hp).1, (hX.s_okc hw hc hp).2, fun _ => ⟨trivial, fun _ => ⟨trivial, trivial⟩, fun _ hb => no_el hb⟩, fun a ha => ?_⟩, fun _ => trivial⟩
    obtain ⟨e, -, e1, e2, rfl⟩ := hX.s_some hw hc hp ha
    refine ⟨hXc.okT_el hwc e1 e2 p1, fun _ => ⟨trivial, trivial⟩, fun b hb => ?_⟩
    obtain ⟨f, f0, f1, rfl⟩ := hXc.elsome hwc e1 e2 hb
    exact ⟨hXc.okT_nu hwc f0 f1 p2, trivial⟩
  refine ⟨⟨fun _ => ok8, fun hp => ⟨(hX.okc hp).1, (hX.okc hp).2, fun _ => ⟨okn_cross p1 p2, okF 1 isCa_1 hp⟩, fun a ha => ?_⟩⟩, ?_, hR.b32 ?_⟩
  · obtain ⟨e, -, e1, e2, rfl⟩ := hX.some hw hp ha
    have hv := hX.cross hw (i := p1) (j := p2) e2
    rw [if_neg e1] at hv
    exact ⟨hX.okT_cross hw e1 e2 p1 p2, okF _ (by rw [hv]; exact aCross_ca A e p1 p2) hp⟩
  · unfold ok_X9_cross
    refine ⟨hM.1, ⟨hM.1, trivial⟩, fun _ => hM.b_okf isCa_8, fun hp => ?_⟩
    rw [isCell_eq] at hp
    have he := hX.cle hw hp
    have f1 := hM.b_ok8 hp
    have f2 := hM.b_ok
    rw [hM.b_cell hp, hM.b_agn hw arT7 he]
    generalize aC A p0.toNatClampNeg = e at he ⊢
    have f3 : ok_X9_against LM m 7 (Int32.ofNat e) p1 (h_X9_begin m SM) := hM.b_okagn hw he
    have f4 := hM.b_okf (aAgn_ca A 7 e p1)
    have f5 := hM.b_okt hw he (f := 2) (Or.inr (Or.inr rfl))
    have f6 := hM.begin.okq in_6
    have f7 := hM.begin.okq in_4
    by_cases hz : aAgn A 7 e p1 = 0
    · obtain ⟨z1, k1, k2, z3, z4, l1, l2⟩ := th_el hw thT7 he hz
      obtain ⟨g1, g2⟩ := hM.b_j hw hui huo z1 he (by omega) k2 z3 z4
      rw [g1, el_32 hw l1, hM.b_agn hw arT0 l1]
      generalize uN (aE A e p1.toNatClampNeg) = f at l1 l2 ⊢
      have g3 : ok_X9_against LM m 0 (Int32.ofNat f) p2 (h_X9_begin m SM) := hM.b_okagn hw l1
      have g4 := hM.b_okf (aAgn_ca A 0 f p2)
      have g5 := hM.b_okt hw l1 (f := 2) (Or.inr (Or.inr rfl))
      by_cases hy : aAgn A 0 f p2 = 0
      · obtain ⟨y1, y2, y3, y4⟩ := aAgn_0 hy
        have hk0 := nuT 0 (by decide) (aK A f) (by have := (hw.2.2.1 f (by omega) l1).1; omega) y2
        obtain ⟨g6, g7⟩ := hM.b_i hw hui huo y1 l1 hk0 y3 y4
        repeat' (first | exact trivial | exact f1.1 | exact f1.2 | exact f2 | exact f3 | exact f4 | exact f5.1 | exact f5.2 | exact f6 | exact f7 | exact g2 | exact g3 | exact g4 | exact g5.1 | exact g5.2 | exact g7 | (intro _) | (refine And.intro ?_ ?_))
      · have hnot : ¬ aAgn A 0 f p2 ≤ 0 := fun z => hy ((ca_le (aAgn_ca A 0 f p2)).mp z)
        repeat' (first | exact trivial | exact absurd (by assumption) hnot | exact f1.1 | exact f1.2 | exact f2 | exact f3 | exact f4 | exact f5.1 | exact f5.2 | exact f6 | exact f7 | exact g2 | exact g3 | exact g4 | exact g5.1 | exact g5.2 | (intro _) | (refine And.intro ?_ ?_))
    · have hnot : ¬ aAgn A 7 e p1 ≤ 0 := fun z => hz ((ca_le (aAgn_ca A 7 e p1)).mp z)
      repeat' (first | exact trivial | exact absurd (by assumption) hnot | exact f1.1 | exact f1.2 | exact f2 | exact f3 | exact f4 | (intro _) | (refine And.intro ?_ ?_))
  · unfold h_X8_cross h_X9_cross
    by_cases hp : s_X8_isCell p0 = 0
    · rw [if_pos hp, if_pos (by rw [isCell_eq]; exact hp)]
      exact ⟨8, 0, isCa_8, if_neg (st_81 x SX), rfl⟩
    have he := hX.cle hw hp
    rw [if_neg hp, if_neg (by rw [isCell_eq]; exact hp), hM.b_cell hp, hM.b_agn hw arT7 he]
    rw [show oq (hsR SX ((hsQ SX x 0).getD 0) p0.toNatClampNeg) (h_X8_cross_j24 x p0 p1 p2 (h_X8_crossCause_n p1 p2 SX) SX) (fun a => h_X8_cross_j24 x p0 p1 p2 (h_X8_crossCause_s a p1 p2 SX) SX) = h_X8_cross_j24 x p0 p1 p2 (aCross A (aC A p0.toNatClampNeg) p1 p2) SX from (hX.by (fun z => h_X8_cross_j24 x p0 p1 p2 z SX) (fun a => h_X8_crossCause_s a p1 p2 SX) hp).trans (congrArg (fun z => h_X8_cross_j24 x p0 p1 p2 z SX) (hX.cross hw he))]
    have hq := hX.s_cellq hw isCa_0 hp
    generalize aC A p0.toNatClampNeg = e at he hq ⊢
    have hca7 := aAgn_ca A 7 e p1
    unfold aCross h_X8_cross_j24
    by_cases hz : aAgn A 7 e p1 = 0
    · obtain ⟨z1, k1, k2, z3, z4, l1, l2⟩ := th_el hw thT7 he hz
      obtain ⟨g1, -⟩ := hM.b_j hw hui huo z1 he (by omega) k2 z3 z4
      have hel := hX.s_el hw isCa_0 z1 he k1 k2 z3 z4
      rw [g1, el_32 hw l1, hM.b_agn hw arT0 l1, hz, if_pos rfl, if_pos (show (0 : Int32) ≤ 0 by decide)]
      generalize hv : uN (aE A e p1.toNatClampNeg) = f at l1 l2 hel ⊢
      have hca0 := aAgn_ca A 0 f p2
      by_cases hy : aAgn A 0 f p2 = 0
      · obtain ⟨y1, y2, y3, y4⟩ := aAgn_0 hy
        have hk0 := nuT 0 (by decide) (aK A f) (by have := (hw.2.2.1 f (by omega) l1).1; omega) y2
        obtain ⟨g6, -⟩ := hM.b_i hw hui huo y1 l1 hk0 y3 y4
        have hnum := hX.s_num hw isCa_0 y1 l1 (by omega) y3 y4
        rw [hy, if_pos (st_01 x SX), if_pos (show (0 : Int32) ≤ 0 by decide), hq, qa_s ad z1]
        refine ⟨0, (aE A f p2.toNatClampNeg).toInt32, isCa_0, ?_, ?_⟩
        · show oq (h_X8_elementAt_s (ad e) p1 (h_X8_stops x 0 SX).2) _ _ = _
          rw [hel, qa_s ad y1]
          show ((h_X8_numberAt_s (ad f) p2 (h_X8_stops x 0 SX).2).toInt32, (h_X8_stops x 0 SX).2) = _
          rw [hnum]
        · rw [← g6, Int32.toInt32_toInt64]
          rfl
      · rw [if_neg (st_not hca0 hy x SX), if_neg (fun z => hy ((ca_le hca0).mp z))]
        exact ⟨_, 0, hca0, rfl, by rw [mEnd_c hy]; rfl⟩
    · rw [if_neg hz, if_neg (st_not hca7 hz x SX), if_neg (fun z => hz ((ca_le hca7).mp z))]
      exact ⟨_, 0, hca7, rfl, by rw [mEnd_c hz]; rfl⟩
end CRS
