/-! ===== class and model beside each other; the calls on numbers ===== -/
def Rel (k : Nat) (LX : List Nat) (x : Nat) (LM : List Nat) (m : Nat) (SX SM : HS) : Prop := ∃ (cC cN : Nat) (ad rq ma bs : Nat → Nat) (ui uo : Nat) (A : AS), (WF k A ∧ ui ≤ 4096 * k ∧ uo ≤ 64 * k) ∧ RX LX x cC cN ad rq A SX ∧ RM LM m ma bs ui uo A SM
section REL
variable {k : Nat} {LX : List Nat} {x : Nat} {LM : List Nat} {m : Nat} {SX SM : HS}
theorem Rel.next (h : Rel k LX x LM m SX SM) (hk : k < 512) : Rel (k + 1) LX x LM m SX SM := by
  obtain ⟨cC, cN, ad, rq, ma, bs, ui, uo, A, ⟨hw, hi, ho⟩, hX, hM⟩ := h
  exact ⟨cC, cN, ad, rq, ma, bs, ui, uo, A, ⟨hw.next hk, by omega, by omega⟩, hX, hM⟩
theorem Rel.ends (h : Rel k LX x LM m SX SM) {c : Int32} (hc : isCa c) : Rel k LX x LM m (h_X8_stops x c SX).2 (mEnd m c SM) := by
  obtain ⟨cC, cN, ad, rq, ma, bs, ui, uo, A, ⟨hw, hi, ho⟩, hX, hM⟩ := h
  exact ⟨cC, cN, ad, rq, ma, bs, ui, uo, aStop c A, ⟨hw.stop c, hi, ho⟩, hX.stop hw hc, hM.ends hc⟩
theorem Rel.b64 (h : Rel k LX x LM m SX SM) {rx rm : Int64 × HS} (hb : Both64 rx rm x m SX SM) : rx.1 = rm.1 ∧ Rel k LX x LM m rx.2 rm.2 := by
  obtain ⟨c, v, hc, rfl, rfl⟩ := hb
  exact ⟨rfl, h.ends hc⟩
theorem Rel.b32 (h : Rel k LX x LM m SX SM) {rx rm : Int32 × HS} (hb : Both32 rx rm x m SX SM) : rx.1 = rm.1 ∧ Rel k LX x LM m rx.2 rm.2 := by
  obtain ⟨c, v, hc, rfl, rfl⟩ := hb
  exact ⟨rfl, h.ends hc⟩
theorem Rel.okx (h : Rel k LX x LM m SX SM) : x ∈ LX ∧ hsK SX x = 6 := by
  obtain ⟨cC, cN, ad, rq, ma, bs, ui, uo, A, -, hX, hM⟩ := h
  exact hX.okx
theorem Rel.okm (h : Rel k LX x LM m SX SM) : m ∈ LM ∧ hsK SM m = 7 := by
  obtain ⟨cC, cN, ad, rq, ma, bs, ui, uo, A, -, hX, hM⟩ := h
  exact hM.1
theorem Rel.okst (h : Rel k LX x LM m SX SM) {c : Int32} (hc : isCa c) : ok_X8_stops LX x c SX := by
  obtain ⟨cC, cN, ad, rq, ma, bs, ui, uo, A, -, hX, hM⟩ := h
  exact hX.okst hc
theorem Rel.okb (h : Rel k LX x LM m SX SM) : ok_X9_begin LM m SM := ⟨h.okm, trivial⟩
theorem Rel.okf (h : Rel k LX x LM m SX SM) {c : Int32} (hc : isCa c) : (m ∈ LM ∧ hsK (h_X9_begin m SM) m = 7) ∧ ok_X9_fails LM m c (h_X9_begin m SM) ∧ True := by
  obtain ⟨cC, cN, ad, rq, ma, bs, ui, uo, A, -, hX, hM⟩ := h
  exact ⟨hM.begin.1, hM.begin.okfail hc, trivial⟩
theorem st_real (h : Rel k LX x LM m SX SM) (p0 : Int32) (p1 p2 : Int64) : ok_X8_real LX x p0 p1 p2 SX ∧ ok_X9_real LM m p0 p1 p2 SM ∧ (h_X8_real x p0 p1 p2 SX).1 = (h_X9_real m p0 p1 p2 SM).1 ∧ Rel k LX x LM m (h_X8_real x p0 p1 p2 SX).2 (h_X9_real m p0 p1 p2 SM).2 := by
  have a1 := h.okx
  have a2 := h.okst isCa_0
  have a3 := h.okst isCa_8
  have b1 := h.okm
  have b2 := h.okb
  have b3 := h.okf isCa_8
  refine ⟨?_, ?_, h.b64 (both_real x m p0 p1 p2 SX SM)⟩
  · unfold ok_X8_real ok_X8_real_j17
    repeat' (first | exact trivial | exact a1 | exact a2 | exact a3 | (intro _) | (refine And.intro ?_ ?_))
  · unfold ok_X9_real
    repeat' (first | exact trivial | exact b1 | exact b2 | exact b3 | (intro _) | (refine And.intro ?_ ?_))
theorem st_math (h : Rel k LX x LM m SX SM) (p0 : Int32) (p1 : Int64) : ok_X8_math LX x p0 p1 SX ∧ ok_X9_math LM m p0 p1 SM ∧ (h_X8_math x p0 p1 SX).1 = (h_X9_math m p0 p1 SM).1 ∧ Rel k LX x LM m (h_X8_math x p0 p1 SX).2 (h_X9_math m p0 p1 SM).2 := by
  have a1 := h.okx
  have a2 := h.okst isCa_0
  have a3 := h.okst isCa_8
  have b1 := h.okm
  have b2 := h.okb
  have b3 := h.okf isCa_8
  refine ⟨?_, ?_, h.b64 (both_math x m p0 p1 SX SM)⟩
  · unfold ok_X8_math ok_X8_math_j17
    repeat' (first | exact trivial | exact a1 | exact a2 | exact a3 | (intro _) | (refine And.intro ?_ ?_))
  · unfold ok_X9_math
    repeat' (first | exact trivial | exact b1 | exact b2 | exact b3 | (intro _) | (refine And.intro ?_ ?_))
theorem st_narrow (h : Rel k LX x LM m SX SM) (p0 : Int32) (p1 : Int64) : ok_X8_narrow LX x p0 p1 SX ∧ ok_X9_narrow LM m p0 p1 SM ∧ (h_X8_narrow x p0 p1 SX).1 = (h_X9_narrow m p0 p1 SM).1 ∧ Rel k LX x LM m (h_X8_narrow x p0 p1 SX).2 (h_X9_narrow m p0 p1 SM).2 := by
  have a1 := h.okx
  have a2 := h.okst isCa_0
  have a3 := h.okst isCa_8
  have b1 := h.okm
  have b2 := h.okb
  have b3 := h.okf isCa_8
  refine ⟨?_, ?_, h.b64 (both_narrow x m p0 p1 SX SM)⟩
  · unfold ok_X8_narrow ok_X8_narrow_j16
    repeat' (first | exact trivial | exact a1 | exact a2 | exact a3 | (intro _) | (refine And.intro ?_ ?_))
  · unfold ok_X9_narrow
    repeat' (first | exact trivial | exact b1 | exact b2 | exact b3 | (intro _) | (refine And.intro ?_ ?_))
theorem st_widen (h : Rel k LX x LM m SX SM) (p0 : Int32) (p1 : Int64) : ok_X8_widen LX x p0 p1 SX ∧ ok_X9_widen LM m p0 p1 SM ∧ (h_X8_widen x p0 p1 SX).1 = (h_X9_widen m p0 p1 SM).1 ∧ Rel k LX x LM m (h_X8_widen x p0 p1 SX).2 (h_X9_widen m p0 p1 SM).2 := by
  have a1 := h.okx
  have a2 := h.okst isCa_0
  have a3 := h.okst isCa_8
  have b1 := h.okm
  have b2 := h.okb
  have b3 := h.okf isCa_8
  refine ⟨?_, ?_, h.b64 (both_widen x m p0 p1 SX SM)⟩
  · unfold ok_X8_widen ok_X8_widen_j16
    repeat' (first | exact trivial | exact a1 | exact a2 | exact a3 | (intro _) | (refine And.intro ?_ ?_))
  · unfold ok_X9_widen
    repeat' (first | exact trivial | exact b1 | exact b2 | exact b3 | (intro _) | (refine And.intro ?_ ?_))
theorem st_compare (h : Rel k LX x LM m SX SM) (p0 : Int32) (p1 p2 : Int64) : ok_X8_compare LX x p0 p1 p2 SX ∧ ok_X9_compare LM m p0 p1 p2 SM ∧ (h_X8_compare x p0 p1 p2 SX).1 = (h_X9_compare m p0 p1 p2 SM).1 ∧ Rel k LX x LM m (h_X8_compare x p0 p1 p2 SX).2 (h_X9_compare m p0 p1 p2 SM).2 := by
  have a1 := h.okx
  have a2 := h.okst isCa_0
  have a3 := h.okst isCa_8
  have b1 := h.okm
  have b2 := h.okb
  have b3 := h.okf isCa_8
  refine ⟨?_, ?_, h.b32 (both_compare x m p0 p1 p2 SX SM)⟩
  · unfold ok_X8_compare ok_X8_compare_j17
    repeat' (first | exact trivial | exact a1 | exact a2 | exact a3 | (intro _) | (refine And.intro ?_ ?_))
  · unfold ok_X9_compare ok_X9_compare_j39 ok_X9_compare_j61
    repeat' (first | exact trivial | exact b1 | exact b2 | exact b3 | (intro _) | (refine And.intro ?_ ?_))
theorem div_ca (p0 : Int32) (p2 : Int64) : isCa (s_X8_divideCause p0 p2) ∧ (s_X8_divideCause p0 p2 = 0 → (p0 = 0 ∨ p0 = 1 → ¬ p2.toInt32 = 0) ∧ (¬ p0 = 0 → ¬ p0 = 1 → ¬ p2 = 0)) := by
  unfold s_X8_divideCause s_X8_divideCause_j41
  by_cases h1 : p0 < 0
  · rw [if_pos h1]
    exact ⟨isCa_8, fun z => absurd z (by decide)⟩
  rw [if_neg h1]
  by_cases h2 : p0 ≤ 3
  · rw [if_pos h2]
    by_cases h3 : 2 ≤ p0
    · rw [if_pos h3]
      by_cases h4 : p2 = 0
      · rw [if_pos h4, if_neg (by decide)]
        exact ⟨isCa_6, fun z => absurd z (by decide)⟩
      · rw [if_neg h4, if_pos rfl]
        refine ⟨isCa_0, fun _ => ⟨fun z => ?_, fun _ _ => h4⟩⟩
        rcases z with rfl | rfl
        · exact absurd h3 (by decide)
        · exact absurd h3 (by decide)
    · rw [if_neg h3]
      by_cases h4 : p2.toInt32 = 0
      · rw [if_pos h4, if_neg (by decide)]
        exact ⟨isCa_6, fun z => absurd z (by decide)⟩
      · rw [if_neg h4, if_pos rfl]
        refine ⟨isCa_0, fun _ => ⟨fun _ => h4, fun z0 z1 => ?_⟩⟩
        exfalso
        rw [Int32.lt_iff_toInt_lt, show (0 : Int32).toInt = 0 from by decide] at h1
        rw [Int32.le_iff_toInt_le, show (2 : Int32).toInt = 2 from by decide] at h3
        have : p0.toInt = 0 ∨ p0.toInt = 1 := by omega
        rcases this with t | t
        · exact z0 (Int32.toInt.inj (t.trans (by decide)))
        · exact z1 (Int32.toInt.inj (t.trans (by decide)))
  · rw [if_neg h2]
    exact ⟨isCa_8, fun z => absurd z (by decide)⟩
theorem st_divide (h : Rel k LX x LM m SX SM) (p0 : Int32) (p1 p2 : Int64) : ok_X8_divide LX x p0 p1 p2 SX ∧ ok_X9_divide LM m p0 p1 p2 SM ∧ (h_X8_divide x p0 p1 p2 SX).1 = (h_X9_divide m p0 p1 p2 SM).1 ∧ Rel k LX x LM m (h_X8_divide x p0 p1 p2 SX).2 (h_X9_divide m p0 p1 p2 SM).2 := by
  obtain ⟨hc, hz⟩ := div_ca p0 p2
  have a1 := h.okx
  have a2 := h.okst hc
  have b1 := h.okm
  have b2 := h.okb
  have b3 := h.okf isCa_8
  have b6 := h.okf isCa_6
  refine ⟨?_, ?_, h.b64 (both_divide x m p0 p1 p2 SX SM)⟩
  · refine ⟨a1, a2, fun z => ?_, fun _ => trivial⟩
    obtain ⟨z1, z2⟩ := hz (hc.stop.mp z)
    exact ⟨fun y => ⟨z1 (Or.inl y), trivial⟩, fun y => ⟨fun w => ⟨z1 (Or.inr w), trivial⟩, fun w => ⟨fun _ => ⟨z2 y w, trivial⟩, fun _ => ⟨z2 y w, trivial⟩⟩⟩⟩
  · refine ⟨b1, b2, fun _ => b3, fun hin => ?_⟩
    have hlo : ¬ p0 < 0 := fun z => hin (in_lo z)
    refine ⟨fun h2 => ⟨fun _ => b6, fun hp2 => ?_⟩, fun h2 => ⟨fun _ => b6, fun hp2 => ?_⟩⟩
    · refine ⟨fun y => absurd h2 (by rw [y]; decide), fun _ => ⟨fun y => absurd h2 (by rw [y]; decide), fun _ => ⟨fun _ => ⟨hp2, trivial⟩, fun _ => ⟨hp2, trivial⟩⟩⟩⟩
    · have h01 : p0 = 0 ∨ p0 = 1 := by
        rw [Int32.lt_iff_toInt_lt, show (0 : Int32).toInt = 0 from by decide] at hlo
        rw [Int32.le_iff_toInt_le, show (2 : Int32).toInt = 2 from by decide] at h2
        have : p0.toInt = 0 ∨ p0.toInt = 1 := by omega
        rcases this with t | t
        · exact Or.inl (Int32.toInt.inj (t.trans (by decide)))
        · exact Or.inr (Int32.toInt.inj (t.trans (by decide)))
      refine ⟨fun _ => ⟨hp2, trivial⟩, fun y => ⟨fun _ => ⟨hp2, trivial⟩, fun w => ?_⟩⟩
      rcases h01 with t | t
      · exact absurd t y
      · exact absurd t w
theorem st_trace (h : Rel k LX x LM m SX SM) : ok_X8_trace LX x SX ∧ ok_X9_trace LM m SM ∧ h_X8_trace x SX = h_X9_trace m SM := by
  refine ⟨⟨h.okx, trivial⟩, ⟨h.okm, trivial⟩, ?_⟩
  obtain ⟨cC, cN, ad, rq, ma, bs, ui, uo, A, -, hX, hM⟩ := h
  exact hX.1.2.2.2.2.2.trans hM.2.2.2.1.2.2.2.2.symm
theorem st_latest (h : Rel k LX x LM m SX SM) : ok_X8_latest LX x SX ∧ ok_X9_latest LM m SM ∧ h_X8_latest x SX = h_X9_latest m SM := by
  refine ⟨⟨h.okx, trivial⟩, ⟨h.okm, trivial⟩, ?_⟩
  obtain ⟨cC, cN, ad, rq, ma, bs, ui, uo, A, -, hX, hM⟩ := h
  exact hX.1.2.2.2.2.1.trans hM.2.2.2.1.2.2.2.1.symm
theorem st_thrown (h : Rel k LX x LM m SX SM) (p0 : Int32) : ok_X8_thrown LX x p0 SX ∧ ok_X9_thrown LM m p0 SM ∧ h_X8_thrown x p0 SX = h_X9_thrown m p0 SM := by
  obtain ⟨cC, cN, ad, rq, ma, bs, ui, uo, A, -, hX, hM⟩ := h
  have hin : ¬ p0 < 1 → ¬ 8 < p0 → p0.toNatClampNeg < 9 ∧ vp_in p0 9 := fun z y => by
    have hc : isCa p0 := Or.inr ⟨z, Int32.not_lt.mp y⟩
    exact ⟨ca_9 hc, ca_in hc⟩
  have hq := hX.q1
  have e9 : s_X9_in p0 1 8 = if p0 < 1 then 0 else if 8 < p0 then 0 else 1 := rfl
  refine ⟨?_, ?_, ?_⟩
  · refine ⟨fun _ => trivial, fun z => ⟨fun _ => trivial, fun y => ⟨⟨hX.1.1, hX.1.2.1, fun w => by rw [hq] at w; cases w⟩, ?_, trivial⟩⟩⟩
    rw [hq]
    exact ⟨hX.2.2.1.1, hX.2.2.1.2.1, by show vp_in p0 (hsN SX cN); rw [hX.2.2.1.2.2.1]; exact (hin z y).2⟩
  · refine ⟨fun _ => trivial, fun z => ⟨hM.okq in_10, hM.oka in_10 (by decide) ?_, trivial⟩⟩
    have h1 : ¬ p0 < 1 := fun w => z (in_lo w)
    have h2 : ¬ 8 < p0 := fun w => z (by rw [e9, if_neg h1, if_pos w])
    exact (hin h1 h2).2
  · unfold h_X8_thrown h_X9_thrown
    rw [e9]
    by_cases h1 : p0 < 1
    · rw [if_pos h1, if_pos h1, if_pos rfl]
    · rw [if_neg h1, if_neg h1]
      by_cases h2 : 8 < p0
      · rw [if_pos h2, if_pos h2, if_pos rfl]
      · rw [if_neg h2, if_neg h2, if_neg (by decide), hq, hM.q in_10]
        have h9 := (hin h1 h2).1
        exact (hX.2.2.1.2.2.2 _ h9).trans (hM.2.2.2.2.2.2.2.2 _ h9).symm
theorem st_is (h : Rel k LX x LM m SX SM) (p0 p1 : Int32) : ok_X8_is LX x p0 p1 SX ∧ ok_X9_is LM m p0 p1 SM ∧ h_X8_is x p0 p1 SX = h_X9_is m p0 p1 SM := by
  obtain ⟨cC, cN, ad, rq, ma, bs, ui, uo, A, ⟨hw, -, -⟩, hX, hM⟩ := h
  have hq := hX.q0
  have hqx : (hsQ SX x 0).getD 0 = cC := by rw [hq]; rfl
  refine ⟨?_, ?_, ?_⟩
  · refine ⟨fun _ => trivial, fun c => ⟨fun _ => trivial, fun _ => ⟨fun _ => ?_, fun _ => trivial⟩⟩⟩
    obtain ⟨o1, o2⟩ := hX.okc c
    refine ⟨o1, o2, fun _ => trivial, fun a ha => ?_⟩
    rw [hqx, hX.cell c] at ha
    have he := hX.cle hw c
    generalize aC A p0.toNatClampNeg = e at ha he
    by_cases h0 : e = 0
    · rw [h0, qa_0] at ha
      cases ha
    · rw [qa_s ad h0] at ha
      injection ha with ha
      subst ha
      obtain ⟨t1, t2, -, -⟩ := hX.thing hw h0 he
      refine ⟨t2, ?_, fun _ => trivial, fun _ => trivial⟩
      unfold ok_X6_isOf
      repeat' (first | exact trivial | exact t1 | (intro _) | (refine And.intro ?_ ?_))
  · refine ⟨fun _ => trivial, fun c => ?_⟩
    rw [isCell_eq] at c
    have hcl := hM.cell c
    have he := hX.cle hw c
    have ho := hM.oka in_8 (by decide) (p := p0) (cell_16 c).2.2
    have hoq := hM.okq in_8
    refine ⟨fun _ => trivial, fun _ => ⟨hoq, ho, fun _ => trivial, fun _ => ⟨hM.okq in_0, hoq, ho, hM.oka in_0 (by decide) ?_, fun _ => trivial, fun _ => trivial⟩⟩⟩
    rw [hM.q in_8, hcl]
    exact vp_n (wf_31 hw he).1 (wf_31 hw he).2
  · unfold h_X8_is h_X9_is
    rw [isCell_eq]
    by_cases c : s_X8_isCell p0 = 0
    · rw [if_pos c, if_pos c]
    rw [if_neg c, if_neg c, hqx, hX.cell c, oq_qa, hM.q in_8, hM.cell c, hM.q in_0]
    have he := hX.cle hw c
    generalize aC A p0.toNatClampNeg = e at he
    have hn := n0 (wf_31 hw he).2
    by_cases d : p1 < 0
    · rw [if_pos d, in_lo d, if_pos rfl]
    rw [if_neg d]
    by_cases d2 : p1 ≤ 15
    · rw [if_pos d2, in_in d d2, if_neg (show ¬ (1 : Int32) = 0 by decide)]
      by_cases h0 : e = 0
      · rw [if_pos h0, if_pos (hn.mpr h0)]
      · rw [if_neg h0, if_neg (fun z => h0 (hn.mp z)), v_is (hX.thing hw h0 he).2.2.2, (hM.kind hw h0 he).1]
        rfl
    · rw [if_neg d2, in_hi d d2, if_pos rfl]
theorem ad_inj {cC cN : Nat} {ad rq : Nat → Nat} {A : AS} (hX : RX LX x cC cN ad rq A SX) {e f : Nat} (he : e ≤ aT A) (hf : f ≤ aT A) : qa ad e = qa ad f ↔ e = f := by
  constructor
  · intro z
    by_cases h0 : e = 0
    · by_cases h1 : f = 0
      · rw [h0, h1]
      · rw [h0, qa_0, qa_s ad h1] at z
        cases z
    · by_cases h1 : f = 0
      · rw [h1, qa_0, qa_s ad h0] at z
        cases z
      · rw [qa_s ad h0, qa_s ad h1] at z
        injection z with z
        exact hX.2.2.2.2.1 e f (by omega) he (by omega) hf z
  · intro z
    rw [z]
theorem st_same (h : Rel k LX x LM m SX SM) (p0 p1 : Int32) : ok_X8_same LX x p0 p1 SX ∧ ok_X9_same LM m p0 p1 SM ∧ h_X8_same x p0 p1 SX = h_X9_same m p0 p1 SM := by
  obtain ⟨cC, cN, ad, rq, ma, bs, ui, uo, A, ⟨hw, -, -⟩, hX, hM⟩ := h
  have hq := hX.q0
  have hqx : (hsQ SX x 0).getD 0 = cC := by rw [hq]; rfl
  refine ⟨?_, ?_, ?_⟩
  · refine ⟨fun _ => trivial, fun c => ⟨fun _ => trivial, fun d => ?_⟩⟩
    obtain ⟨o1, o2⟩ := hX.okc c
    obtain ⟨o3, o4⟩ := hX.okc d
    exact ⟨o1, o2, o3, o4, fun _ => trivial, fun _ => trivial⟩
  · refine ⟨fun _ => trivial, fun c => ⟨fun _ => trivial, fun d => ?_⟩⟩
    rw [isCell_eq] at c d
    exact ⟨hM.okq in_8, hM.oka in_8 (by decide) (cell_16 c).2.2, hM.okq in_8, hM.oka in_8 (by decide) (cell_16 d).2.2, fun _ => trivial, fun _ => trivial⟩
  · unfold h_X8_same h_X9_same
    rw [isCell_eq, isCell_eq]
    by_cases c : s_X8_isCell p0 = 0
    · rw [if_pos c, if_pos c]
    rw [if_neg c, if_neg c]
    by_cases d : s_X8_isCell p1 = 0
    · rw [if_pos d, if_pos d]
    rw [if_neg d, if_neg d, hqx, hX.cell c, hX.cell d, hM.q in_8, hM.cell c, hM.cell d]
    have he := hX.cle hw c
    have hf := hX.cle hw d
    generalize aC A p0.toNatClampNeg = e at he ⊢
    generalize aC A p1.toNatClampNeg = f at hf ⊢
    have hi := ad_inj hX he hf
    by_cases hz : e = f
    · rw [if_pos (hi.mpr hz), if_pos (by rw [hz])]
    · rw [if_neg (fun z => hz (hi.mp z)), if_neg]
      intro z
      have h1 := nN (wf_31 hw he).2
      rw [z, nN (wf_31 hw hf).2] at h1
      exact hz h1.symm
end REL
