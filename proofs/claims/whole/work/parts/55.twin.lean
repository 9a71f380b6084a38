/-! ===== twin on both sides ===== -/
section TWM
variable {k : Nat} {LM : List Nat} {m : Nat} {ma bs : Nat → Nat} {ui uo : Nat} {A : AS} {SM : HS}
/-- the model's loop: the row e copied to the row t -/
theorem tw_loop {e t : Nat} {n p0 p1 : Int32} {S0 : HS} (hw : WF k A) (hui : ui ≤ 4096 * k) (huo : uo ≤ 64 * k) (hp : ¬ s_X8_isCell p1 = 0) (het : e ≠ t) (e1 : e ≠ 0) (e2 : e ≤ aT A) (t1 : t ≠ 0) (t2 : t ≤ aT A) (ke : aK A e = 0) (kt : aK A t = 0) (ne : aN A e = n) (nt : aN A t = n) (c1 : hsA (h_X9_begin m S0) ((hsQ (h_X9_begin m S0) m 8).getD 0) p0.toNatClampNeg = Int32.ofNat e) (c2 : hsA (h_X9_begin m S0) ((hsQ (h_X9_begin m S0) m 1).getD 0) (Int32.ofNat e).toNatClampNeg = n) (c3 : (h_X9_thing m 0 n (h_X9_begin m S0)).1 = Int32.ofNat t) :
    ∀ (nM : Nat) (y : Int32) (S1 : HS), RM LM m ma bs ui uo (aRng A e t 0 0 0 y.toNatClampNeg) S1 → ¬ y < 0 → y.toNatClampNeg ≤ n.toNatClampNeg → n.toNatClampNeg < y.toNatClampNeg + nM →
    ok_X9_twin_l73 LM m p0 p1 S0 nM y S1 ∧ ∃ M1 : HS, RM LM m ma bs ui uo (aSetC (aRng A e t 0 0 0 n.toNatClampNeg) p1.toNatClampNeg t) M1 ∧ h_X9_twin_l73 m p0 p1 S0 nM y S1 = (1, M1) := by
  intro nM
  induction nM with
  | zero => intro y S1 hM y0 hyn f; omega
  | succ nM ih =>
    intro y S1 hM y0 hyn f
    have hwr : WF k (aRng A e t 0 0 0 y.toNatClampNeg) := hw.rng (by omega)
    have hk1 : hsA S1 ((hsQ S1 m 1).getD 0) (Int32.ofNat e).toNatClampNeg = n := by rw [hM.q in_1, (hM.kind hwr e1 e2).2]; exact ne
    have ok1 := hM.okt hwr e2 (f := 1) (Or.inr (Or.inl rfl))
    have ok2 := hM.okt hwr e2 (f := 2) (Or.inr (Or.inr rfl))
    have ok3 := hM.okt hwr t2 (f := 2) (Or.inr (Or.inr rfl))
    have ok8 := hM.ok8 hp
    rw [ok_X9_twin_l73, h_X9_twin_l73, c1, c2, c3, hk1]
    by_cases hy : n ≤ y
    · rw [if_pos hy]
      refine ⟨⟨ok1.1, ok1.2, fun _ => ⟨ok8.1, ok8.2, trivial⟩, fun z => absurd hy z⟩, _, ?_, rfl⟩
      rw [hM.q in_8, ← dn_of y0 hyn hy]
      exact hM.setC (cell_16 hp).2.1
    rw [if_neg hy]
    obtain ⟨u1, u2, u3⟩ := y_up y0 hy
    obtain ⟨pe1, pe2, -⟩ := hM.place hwr hui huo e1 e2 (show aK A e < 10 by omega) y0 (show ¬ aN A e ≤ y by rw [ne]; exact hy)
    obtain ⟨pt1, pt2, -⟩ := hM.place hwr hui huo t1 t2 (show aK A t < 10 by omega) y0 (show ¬ aN A t ≤ y by rw [nt]; exact hy)
    have hval : (hsA S1 (ma 4) (bs e + y.toNatClampNeg)).toInt64 = aE A e y.toNatClampNeg := by
      rw [((hM.2.2.2.2.1 e (by omega) e2).2.2.1 ke).2 _ (show y.toNatClampNeg < (aN A e).toNatClampNeg by rw [ne]; exact u3)]
      rw [aRng_el, if_neg (fun z => het z.1)]
    have hset := hM.setE4 (t := t) (i := y.toNatClampNeg) (w := hsA S1 (ma 4) (bs e + y.toNatClampNeg)) (by omega) t2 kt (show y.toNatClampNeg < (aN A t).toNatClampNeg by rw [nt]; exact u3)
    have hup := aRng_up A e t 0 0 y.toNatClampNeg
    rw [Nat.zero_add] at hup
    rw [hval, hup, ← u2] at hset
    rw [hM.q in_4, pe1, pt1]
    have o4 := hM.okq in_4
    have oe4 := hM.oka in_4 (by decide) (pe2 ke)
    have ot4 := hM.oka in_4 (by decide) (pt2 kt)
    rw [hM.q in_4] at oe4 ot4
    obtain ⟨o2, M1, g1, g2⟩ := ih (y + 1) _ hset u1 (by omega) (by omega)
    exact ⟨⟨ok1.1, ok1.2, fun z => absurd z hy, fun _ => ⟨o4, ok3.1, ok3.2, o4, ok2.1, ok2.2, oe4, ot4, o2⟩⟩, M1, g1, g2⟩
end TWM
section TWS
variable {k : Nat} {LX : List Nat} {x : Nat} {LM : List Nat} {m : Nat} {SX SM : HS}
/-- what the class's twin answers -/
def twPost (LX : List Nat) (x : Nat) (p0 p1 : Int32) (SX : HS) (r : Int32) (L1 : List Nat) (S1 : HS) : Prop := (¬ (h_X8_stops x (h_X8_twinCause x p0 p1 SX) SX).1 = 0 ∧ r = 0 ∧ L1 = LX ∧ S1 = (h_X8_stops x (h_X8_twinCause x p0 p1 SX) SX).2) ∨ ((h_X8_stops x (h_X8_twinCause x p0 p1 SX) SX).1 = 0 ∧ r = 1 ∧ ∃ a b q d, ok_X8_twinAt LX x p0 p1 (h_X8_stops x (h_X8_twinCause x p0 p1 SX) SX).2 a b ∧ q ∉ LX ∧ d ∉ LX ++ [q] ∧ L1 = (LX ++ [q]) ++ [d] ∧ S1 = S_X8_twin ((hsQ (h_X8_stops x (h_X8_twinCause x p0 p1 SX) SX).2 x 0).getD 0) a b q d p1 (h_X8_stops x (h_X8_twinCause x p0 p1 SX) SX).2)
theorem st_twin (h : Rel k LX x LM m SX SM) (hk : k < 512) (p0 p1 : Int32) : ok_X8_twin LX x p0 p1 SX ∧ ok_X9_twin LM m p0 p1 SM ∧ ∀ (r : Int32) (L1 : List Nat) (S1 : HS), twPost LX x p0 p1 SX r L1 S1 → r = (h_X9_twin m p0 p1 SM).1 ∧ Rel (k + 1) L1 x LM m S1 (h_X9_twin m p0 p1 SM).2 := by
  have hR := h
  obtain ⟨cC, cN, ad, rq, ma, bs, ui, uo, A, ⟨hw, hui, huo⟩, hX, hM⟩ := h
  have f8 := hM.b_okf isCa_8
  have f4 := hM.b_okf isCa_4
  have f1 := hM.b_okf isCa_1
  have h1 := hw.1
  have hw0 := hw.stop 0
  have hfail : ∀ c, isCa c → c ≠ 0 → h_X8_twinCause x p0 p1 SX = c → h_X9_twin m p0 p1 SM = ((h_X9_fails m c (h_X9_begin m SM)).1, (h_X9_fails m c (h_X9_begin m SM)).2) → ∀ (r : Int32) (L1 : List Nat) (S1 : HS), twPost LX x p0 p1 SX r L1 S1 → r = (h_X9_twin m p0 p1 SM).1 ∧ Rel (k + 1) L1 x LM m S1 (h_X9_twin m p0 p1 SM).2 := fun c hc c0 e1 e2 r L1 S1 hpost => by
    unfold twPost at hpost
    rw [e1] at hpost
    rcases hpost with ⟨-, rfl, rfl, rfl⟩ | ⟨z, -⟩
    · rw [e2]
      have := hR.b32 (rx := (0, (h_X8_stops x c SX).2)) (rm := ((h_X9_fails m c (h_X9_begin m SM)).1, (h_X9_fails m c (h_X9_begin m SM)).2)) ⟨c, 0, hc, rfl, by rw [mEnd_c c0]; rfl⟩
      exact ⟨this.1, this.2.next hk⟩
    · exact absurd z (st_not hc c0 x SX)
  have okfail : ∀ c, isCa c → c ≠ 0 → h_X8_twinCause x p0 p1 SX = c → (¬ s_X8_isCell p0 = 0 → ¬ s_X8_isCell p1 = 0 → (x ∈ LX ∧ hsK SX x = 6 ∧ hsQ SX x 0 ≠ none) ∧ (((hsQ SX x 0).getD 0) ∈ LX ∧ hsK SX ((hsQ SX x 0).getD 0) = 10 ∧ vp_in p0 (hsN SX ((hsQ SX x 0).getD 0))) ∧ (hsR SX ((hsQ SX x 0).getD 0) p0.toNatClampNeg = none → ok_X8_castCause_n LX 0 SX) ∧ ∀ a, hsR SX ((hsQ SX x 0).getD 0) p0.toNatClampNeg = some a → ok_X8_castCause_s LX 0 a SX) → ok_X8_twin LX x p0 p1 SX := fun c hc c0 e1 g => by
    unfold ok_X8_twin
    rw [e1]
    exact ⟨hX.okx, g, hX.okst hc, fun z => absurd z (st_not hc c0 x SX)⟩
  have g0 : ¬ s_X8_isCell p0 = 0 → ¬ s_X8_isCell p1 = 0 → (x ∈ LX ∧ hsK SX x = 6 ∧ hsQ SX x 0 ≠ none) ∧ (((hsQ SX x 0).getD 0) ∈ LX ∧ hsK SX ((hsQ SX x 0).getD 0) = 10 ∧ vp_in p0 (hsN SX ((hsQ SX x 0).getD 0))) ∧ (hsR SX ((hsQ SX x 0).getD 0) p0.toNatClampNeg = none → ok_X8_castCause_n LX 0 SX) ∧ ∀ a, hsR SX ((hsQ SX x 0).getD 0) p0.toNatClampNeg = some a → ok_X8_castCause_s LX 0 a SX := fun hp _ => by
    refine ⟨(hX.okc hp).1, (hX.okc hp).2, fun _ => RX.okn 0, fun a ha => ?_⟩
    obtain ⟨e, -, e1, e2, rfl⟩ := hX.some hw hp ha
    exact hX.okT_cc hw e1 e2 0
  by_cases hp : s_X8_isCell p0 = 0
  · have hp' : s_X9_isCell p0 = 0 := by rw [isCell_eq]; exact hp
    have hc : h_X8_twinCause x p0 p1 SX = 8 := if_pos hp
    have hm : h_X9_twin m p0 p1 SM = ((h_X9_fails m 8 (h_X9_begin m SM)).1, (h_X9_fails m 8 (h_X9_begin m SM)).2) := if_pos hp'
    exact ⟨okfail 8 isCa_8 (by decide) hc g0, ⟨hM.1, ⟨hM.1, trivial⟩, fun _ => f8, fun z => absurd hp' z⟩, hfail 8 isCa_8 (by decide) hc hm⟩
  have hp' : ¬ s_X9_isCell p0 = 0 := by rw [isCell_eq]; exact hp
  by_cases hq : s_X8_isCell p1 = 0
  · have hq' : s_X9_isCell p1 = 0 := by rw [isCell_eq]; exact hq
    have hc : h_X8_twinCause x p0 p1 SX = 8 := (if_neg hp).trans (if_pos hq)
    have hm : h_X9_twin m p0 p1 SM = ((h_X9_fails m 8 (h_X9_begin m SM)).1, (h_X9_fails m 8 (h_X9_begin m SM)).2) := (if_neg hp').trans (if_pos hq')
    exact ⟨okfail 8 isCa_8 (by decide) hc g0, ⟨hM.1, ⟨hM.1, trivial⟩, fun z => absurd z hp', fun _ => ⟨fun _ => f8, fun z => absurd hq' z⟩⟩, hfail 8 isCa_8 (by decide) hc hm⟩
  have hq' : ¬ s_X9_isCell p1 = 0 := by rw [isCell_eq]; exact hq
  have he := hX.cle hw hp
  have qx := hX.cellq hp
  have c1 := hM.b_cell hp
  have o8 := hM.b_ok8 hp
  obtain ⟨e, hae⟩ : ∃ e, aC A p0.toNatClampNeg = e := ⟨_, rfl⟩
  rw [hae] at he qx c1
  have hn := n0 (wf_31 hw he).2
  have hcause : h_X8_twinCause x p0 p1 SX = aCast A 0 e := by
    unfold h_X8_twinCause
    rw [if_neg hp, if_neg hq, qx, oq_qa]
    exact hX.cast hw he
  have hps := hM.b_pass hw he (ty := 0)
  have okp := hM.b_okpass hw he (ty := 0)
  by_cases e0 : e = 0
  · have hc : h_X8_twinCause x p0 p1 SX = 1 := by rw [hcause]; unfold aCast; rw [if_pos e0]
    rw [if_pos e0] at hps
    have hm : h_X9_twin m p0 p1 SM = ((h_X9_fails m 1 (h_X9_begin m SM)).1, (h_X9_fails m 1 (h_X9_begin m SM)).2) := by
      unfold h_X9_twin
      rw [if_neg hp', if_neg hq', c1, hps, if_neg (by decide), if_pos (hn.mpr e0)]
    refine ⟨okfail 1 isCa_1 (by decide) hc g0, ?_, hfail 1 isCa_1 (by decide) hc hm⟩
    unfold ok_X9_twin
    rw [c1, hps]
    exact ⟨hM.1, ⟨hM.1, trivial⟩, fun z => absurd z hp', fun _ => ⟨fun z => absurd z hq', fun _ => ⟨o8.1, o8.2, hM.b_ok, okp, fun z => absurd z (by decide), fun _ => ⟨fun _ => f1, fun z => absurd (hn.mpr e0) z⟩⟩⟩⟩
  rw [if_neg e0] at hps
  by_cases hz : aIs A 0 e = 0
  · have hc : h_X8_twinCause x p0 p1 SX = 4 := by rw [hcause]; unfold aCast; rw [if_neg e0, if_pos hz]
    rw [if_pos hz] at hps
    have hm : h_X9_twin m p0 p1 SM = ((h_X9_fails m 4 (h_X9_begin m SM)).1, (h_X9_fails m 4 (h_X9_begin m SM)).2) := by
      unfold h_X9_twin
      rw [if_neg hp', if_neg hq', c1, hps, if_pos rfl]
    refine ⟨okfail 4 isCa_4 (by decide) hc g0, ?_, hfail 4 isCa_4 (by decide) hc hm⟩
    unfold ok_X9_twin
    rw [c1, hps]
    exact ⟨hM.1, ⟨hM.1, trivial⟩, fun z => absurd z hp', fun _ => ⟨fun z => absurd z hq', fun _ => ⟨o8.1, o8.2, hM.b_ok, okp, fun _ => f4, fun z => absurd rfl z⟩⟩⟩
  rw [if_neg hz] at hps
  have hc : h_X8_twinCause x p0 p1 SX = 0 := by rw [hcause]; unfold aCast; rw [if_neg e0, if_neg hz]
  have hk12 := (hw.2.2.1 e (by omega) he).1
  have ke : aK A e = 0 := nuT 0 (by decide) (aK A e) (by omega) hz
  have hX0 := hX.stop hw isCa_0
  have hM0 := hM.begin
  obtain ⟨le1, le2⟩ := len_i hw e0 he (by omega)
  have hn0 : ¬ aN A e < 0 := by
    rw [Int32.lt_iff_toInt_lt, show (0 : Int32).toInt = 0 from by decide, le1]
    omega
  have hn64 : (aN A e).toNatClampNeg ≤ 64 := le2
  have row := hX0.row e0 he (show aK A e < 10 by omega)
  have q0x := hX0.cellq hp
  have hrow9 := ((hX0.2.2.2.1 e (by omega) he).2.2.1 (show aK A e < 7 by omega)).1
  have tX := hX0.thing hw0 e0 he
  have hat : hsR (h_X8_stops x 0 SX).2 ((hsQ (h_X8_stops x 0 SX).2 x 0).getD 0) p0.toNatClampNeg = some (ad e) := by
    rw [q0x]
    show qa ad (aC A p0.toNatClampNeg) = _
    rw [hae, qa_s _ e0]
  have hK1 : hsK (h_X8_stops x 0 SX).2 (ad e) = 1 := tX.2.2.1.trans ((kx_1 hk12).mpr (by omega))
  have hC : (hsQ (h_X8_stops x 0 SX).2 x 0).getD 0 = cC := by rw [hX0.q0]; rfl
  have hokx : ok_X8_twin LX x p0 p1 SX := by
    unfold ok_X8_twin
    rw [hc]
    refine ⟨hX.okx, g0, hX.okst isCa_0, fun _ => ⟨ad e, rq e, ?_⟩⟩
    unfold ok_X8_twinAt
    obtain ⟨w1, w2, w3, w4⟩ := hX.s_okc hw isCa_0 hp
    have w5 := (hX.s_okc hw isCa_0 hq).2.2.2
    refine ⟨w1, ⟨w2, w3, w4, w5⟩, hat, ⟨tX.1.1, hK1⟩, row.2.1, ⟨row.2.2.1, hrow9⟩, ?_, ?_, ?_⟩
    · rw [row.1]; exact hn0
    · rw [row.1]; exact hn64
    · rw [row.1, row.2.2.2]; exact Nat.le_refl _
  have hbl := hM.b_len hw e0 he
  obtain ⟨b1, ui1, uo1, ⟨hb0, -, -⟩, hv, hM1⟩ := hM0.thing (by show aT A + 1 < 33400; omega) (k := 0) (by decide) (aN A e) (fun _ => hn0)
  obtain ⟨w1, w2, w3⟩ := hb0 rfl
  rw [w1, w2, w3] at hM1
  have hoth := hM0.ok_thing (by show aT A + 1 < 33400; omega) 0 (aN A e)
  have hT0 : aT (aStop 0 A) = aT A := rfl
  have hwn : WF (k + 1) (aNew (aStop 0 A) 0 (aN A e)) := hw0.new hk (by decide) (fun _ => by rw [le1]; omega)
  have kn : aK (aNew (aStop 0 A) 0 (aN A e)) (aT A + 1) = 0 := up1_at _ _ _
  have nn : aN (aNew (aStop 0 A) 0 (aN A e)) (aT A + 1) = aN A e := up1_at _ _ _
  have ko : aK (aNew (aStop 0 A) 0 (aN A e)) e = 0 := (up1_ne _ _ (by rw [hT0]; omega)).trans ke
  have no : aN (aNew (aStop 0 A) 0 (aN A e)) e = aN A e := up1_ne _ _ (by rw [hT0]; omega)
  have z0 : (0 : Int32).toNatClampNeg = 0 := by decide
  have hM2 : RM LM m ma (up1 bs (aT (aStop 0 A) + 1) ui) (ui + (aN A e).toNatClampNeg) uo (aRng (aNew (aStop 0 A) 0 (aN A e)) e (aT A + 1) 0 0 0 (0 : Int32).toNatClampNeg) (h_X9_thing m 0 (aN A e) (h_X9_begin m SM)).2 := by
    rw [z0, aRng_no _ _ _ _ _ (Nat.le_refl 0)]
    exact hM1
  obtain ⟨o2, M1, g1, g2⟩ := tw_loop (p0 := p0) (p1 := p1) (S0 := SM) hwn (by omega) (by omega) hq (show e ≠ aT A + 1 by omega) e0 (show e ≤ aT A + 1 by omega) (show aT A + 1 ≠ 0 by omega) (show aT A + 1 ≤ aT A + 1 by omega) ko kn no nn c1 hbl hv 100 0 _ hM2 (by decide) (by rw [z0]; omega) (by rw [z0]; omega)
  have hm : h_X9_twin m p0 p1 SM = (1, M1) := by
    unfold h_X9_twin
    rw [if_neg hp', if_neg hq', c1, hps, if_neg (by decide), if_neg (fun z => e0 (hn.mp z)), hbl]
    exact g2
  refine ⟨hokx, ?_, fun r L1 S1 hpost => ?_⟩
  · unfold ok_X9_twin
    rw [c1, hps, hbl]
    have ot := hM.b_okt hw he (f := 1) (Or.inr (Or.inl rfl))
    exact ⟨hM.1, ⟨hM.1, trivial⟩, fun z => absurd z hp', fun _ => ⟨fun z => absurd z hq', fun _ => ⟨o8.1, o8.2, hM.b_ok, okp, fun z => absurd z (by decide), fun _ => ⟨fun z => absurd (hn.mp z) e0, fun _ => ⟨ot.1, ot.2, hM.b_ok, hoth, o2⟩⟩⟩⟩⟩
  · unfold twPost at hpost
    rw [hc] at hpost
    rcases hpost with ⟨z, -⟩ | ⟨-, rfl, a, b, q, d, hta, hqL, hdL, rfl, rfl⟩
    · exact absurd (st_01 x SX) z
    rw [hm]
    refine ⟨rfl, ?_⟩
    have hab : a = ad e ∧ b = rq e := by
      obtain ⟨-, -, t3, -, t5, -⟩ := hta
      rw [hat] at t3
      injection t3 with t3
      rw [← t3, row.2.1] at t5
      injection t5 with t5
      exact ⟨t3.symm, t5.symm⟩
    obtain ⟨rfl, rfl⟩ := hab
    rw [hC]
    have hne : q ≠ d := fun y => hdL (y ▸ mem_l1)
    obtain ⟨x1, x2, x3, x4, x5, x6, x7⟩ := X1_at (S := hnT (h_X8_stops x 0 SX).2 q 1) (p0 := 0) (p1 := aN A e) hne (va_up_self _ _ _)
    have hold : ∀ c ∈ LX, c ∈ (LX ++ [q]) ++ [d] ∧ hsEq (h_X8_stops x 0 SX).2 (S_X1_init q 0 (aN A e) d (hnT (h_X8_stops x 0 SX).2 q 1)) c := fun c hcc => by
      have y1 : c ≠ q := fun y => hqL (y ▸ hcc)
      have y2 : c ≠ d := fun y => hdL (List.mem_append_left _ (y ▸ hcc))
      exact ⟨List.mem_append_left _ (List.mem_append_left _ hcc), (hsEq.nT y1).trans (hsEq.X1 y1 y2)⟩
    have hX1 := hX0.new1 (n0 := 0) (n := aN A e) (d := d) hw0 hold hqL (fun _ y => hdL (List.mem_append_left _ y)) ⟨List.mem_append_left _ mem_l1, x1, x2⟩ (fun _ => ⟨x3, x4, mem_l1, x6⟩) (fun _ => ⟨x5, fun i => congrFun x7 i⟩) (fun z => by omega) (fun z => by omega)
    have hX2 := hX1.rng (a := e) (b := aT A + 1) (i := 0) (j := 0) (n := aN A e) hwn e0 (show e ≤ aT A + 1 by omega) (by omega) (show aT A + 1 ≤ aT A + 1 by omega) (by omega) (by omega) (by
      rw [z0]
      show 0 + (aN A e).toNatClampNeg ≤ (aN (aNew (aStop 0 A) 0 (aN A e)) e).toNatClampNeg
      rw [no]
      omega)
    rw [z0, show up1 rq (aT (aStop 0 A) + 1) d (aT A + 1) = d from up1_at _ _ _, up1_ne _ _ (show e ≠ aT (aStop 0 A) + 1 by rw [hT0]; omega)] at hX2
    have hX3 := hX2.setC (c := p1.toNatClampNeg) (e := aT A + 1) (hwn.rng (by omega)) (cell_16 hq).2.1
    rw [qa_s _ (by omega), show up1 ad (aT (aStop 0 A) + 1) q (aT A + 1) = q from up1_at _ _ _] at hX3
    refine ⟨cC, cN, up1 ad (aT (aStop 0 A) + 1) q, up1 rq (aT (aStop 0 A) + 1) d, ma, up1 bs (aT (aStop 0 A) + 1) ui, ui + (aN A e).toNatClampNeg, uo, aSetC (aRng (aNew (aStop 0 A) 0 (aN A e)) e (aT A + 1) 0 0 0 (aN A e).toNatClampNeg) p1.toNatClampNeg (aT A + 1), ⟨(hwn.rng (by omega)).setC (show aT A + 1 ≤ aT A + 1 by omega), by omega, by omega⟩, ?_, g1⟩
    have e5 : hsI (h_X8_stops x 0 SX).2 (ad e) 1 = aN A e := row.1
    unfold S_X8_twin
    rw [e5]
    exact hX3
end TWS
