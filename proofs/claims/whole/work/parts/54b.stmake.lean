section MKT
variable {k : Nat} {LX : List Nat} {x : Nat} {LM : List Nat} {m : Nat} {SX SM : HS}
theorem ofN_c {q : Nat} (hq : q ≤ 12) {c : Nat} (hc : c ≤ 12) (h : Int32.ofNat q = Int32.ofNat c) : q = c := (k_n hq hc).mp h
theorem RX.newT {L L1 : List Nat} {x cC cN : Nat} {ad rq : Nat → Nat} {A : AS} {S S1 : HS} {q n0 : Nat} {n r : Int32} (hw : WF k A) (hX : RX L x cC cN ad rq A S) (hq : n0 ≤ 12) (h7 : n0 ≠ 7) (hN : NThing L S q (Int32.ofNat n0) n r L1 S1) : ∃ ad1 rq1 : Nat → Nat, ad1 (aT A + 1) = q ∧ RX L1 x cC cN ad1 rq1 (aNew A n0 n) S1 := by
  have hold := hN.old.1
  obtain ⟨hqL, h⟩ := hN
  rcases h with ⟨e, rfl, rfl⟩ | ⟨e, rfl, rfl⟩ | ⟨e, rfl, rfl⟩ | ⟨e, d, hd, rfl, rfl⟩ | ⟨e, -⟩ | ⟨⟨g7, g8, g9, g10, g11, g12⟩, d, hd, rfl, rfl⟩
  · have z : n0 = 10 := ofN_c hq (by decide) e
    subst z
    obtain ⟨x1, x2, x3, x4⟩ := X2_at (S := hnT S q 2) (x := q) (p0 := 10) (p1 := n)
    exact ⟨_, _, up1_at _ _ _, hX.new1 (d := 0) hw hold hqL (fun z => by omega) ⟨mem_l1, x1.trans (va_up_self _ _ _), x2⟩ (fun z => by omega) (fun z => by omega) (fun z y => by omega) (fun _ => ⟨x3, x4⟩)⟩
  · have z : n0 = 11 := ofN_c hq (by decide) e
    subst z
    obtain ⟨x1, x2, x3, x4⟩ := X2_at (S := hnT S q 3) (x := q) (p0 := 11) (p1 := n)
    exact ⟨_, _, up1_at _ _ _, hX.new1 (d := 0) hw hold hqL (fun z => by omega) ⟨mem_l1, x1.trans (va_up_self _ _ _), x2⟩ (fun z => by omega) (fun z => by omega) (fun z y => by omega) (fun _ => ⟨x3, x4⟩)⟩
  · have z : n0 = 12 := ofN_c hq (by decide) e
    subst z
    obtain ⟨x1, x2, x3, x4⟩ := X2_at (S := hnT S q 4) (x := q) (p0 := 12) (p1 := n)
    exact ⟨_, _, up1_at _ _ _, hX.new1 (d := 0) hw hold hqL (fun z => by omega) ⟨mem_l1, x1.trans (va_up_self _ _ _), x2⟩ (fun z => by omega) (fun z => by omega) (fun z y => by omega) (fun _ => ⟨x3, x4⟩)⟩
  · have z : n0 = 8 ∨ n0 = 9 := by
      rcases e with e | e
      · exact Or.inl (ofN_c hq (by decide) e)
      · exact Or.inr (ofN_c hq (by decide) e)
    have hne : q ≠ d := fun y => hd (y ▸ mem_l1)
    obtain ⟨x1, x2, x3, x4, x5, x6, x7⟩ := X7_at (S := hnT S q 5) (p0 := Int32.ofNat n0) (p1 := n) hne (va_up_self _ _ _)
    have hk5 : kx n0 = 5 := by unfold kx; rw [if_neg (by omega), if_pos (by omega)]
    exact ⟨_, _, up1_at _ _ _, hX.new1 (d := d) hw hold hqL (fun _ y => hd (List.mem_append_left _ y)) ⟨List.mem_append_left _ mem_l1, x1.trans hk5.symm, x2⟩ (fun _ => ⟨x3, x4, mem_l1, x6⟩) (fun z => by omega) (fun _ _ => ⟨x5, fun i => congrFun x7 i⟩) (fun z => by omega)⟩
  · exact absurd (ofN_c hq (by decide) e) h7
  · have z : n0 < 7 := by
      have a8 : n0 ≠ 8 := fun y => g8 (by rw [y]; rfl)
      have a9 : n0 ≠ 9 := fun y => g9 (by rw [y]; rfl)
      have a10 : n0 ≠ 10 := fun y => g10 (by rw [y]; rfl)
      have a11 : n0 ≠ 11 := fun y => g11 (by rw [y]; rfl)
      have a12 : n0 ≠ 12 := fun y => g12 (by rw [y]; rfl)
      omega
    have hne : q ≠ d := fun y => hd (y ▸ mem_l1)
    obtain ⟨x1, x2, x3, x4, x5, x6, x7⟩ := X1_at (S := hnT S q 1) (p0 := Int32.ofNat n0) (p1 := n) hne (va_up_self _ _ _)
    have hk1 : kx n0 = 1 := by unfold kx; rw [if_pos z]
    exact ⟨_, _, up1_at _ _ _, hX.new1 (d := d) hw hold hqL (fun _ y => hd (List.mem_append_left _ y)) ⟨List.mem_append_left _ mem_l1, x1.trans hk1.symm, x2⟩ (fun _ => ⟨x3, x4, mem_l1, x6⟩) (fun _ => ⟨x5, fun i => congrFun x7 i⟩) (fun z => by omega) (fun z => by omega)⟩
theorem r_64 {n : Int32} (h0 : ¬ n < 0) (h : n ≤ 64) : (0 ≤ n.toInt ∧ n.toInt ≤ 64) ∧ n.toNatClampNeg ≤ 64 := by
  rw [Int32.lt_iff_toInt_lt, show (0 : Int32).toInt = 0 from by decide] at h0
  rw [Int32.le_iff_toInt_le, show (64 : Int32).toInt = 64 from by decide] at h
  simp only [Int32.toNatClampNeg]
  omega
/-- what the class's make answers -/
def mkPost (LX : List Nat) (x : Nat) (p0 p1 p2 p3 : Int32) (SX : HS) (r : Int32) (L1 : List Nat) (S1 : HS) : Prop := (¬ (h_X8_stops x (s_X8_makeCause p0 p1 p2 p3) SX).1 = 0 ∧ r = 0 ∧ L1 = LX ∧ S1 = (h_X8_stops x (s_X8_makeCause p0 p1 p2 p3) SX).2) ∨ ((h_X8_stops x (s_X8_makeCause p0 p1 p2 p3) SX).1 = 0 ∧ r = 1 ∧ ∃ (q : Nat) (S2 : HS), NThing LX (h_X8_stops x (s_X8_makeCause p0 p1 p2 p3) SX).2 q p0 p2 p3 L1 S2 ∧ S1 = hwR S2 ((hsQ (h_X8_stops x (s_X8_makeCause p0 p1 p2 p3) SX).2 x 0).getD 0) p1.toNatClampNeg (some q))
theorem st_make (h : Rel k LX x LM m SX SM) (hk : k < 512) (p0 p1 p2 p3 : Int32) : ok_X8_make2 LX x p0 p1 p2 p3 SX ∧ ok_X9_make LM m p0 p1 p2 p3 SM ∧ ∀ (r : Int32) (L1 : List Nat) (S1 : HS), mkPost LX x p0 p1 p2 p3 SX r L1 S1 → r = (h_X9_make m p0 p1 p2 p3 SM).1 ∧ Rel (k + 1) L1 x LM m S1 (h_X9_make m p0 p1 p2 p3 SM).2 := by
  have hR := h
  obtain ⟨cC, cN, ad, rq, ma, bs, ui, uo, A, ⟨hw, hui, huo⟩, hX, hM⟩ := h
  have f8 := hM.b_okf isCa_8
  have f3 := hM.b_okf isCa_3
  have h1 := hw.1
  have hw0 := hw.stop 0
  -- the road on which a thing is made
  have main : ¬ s_X8_isCell p1 = 0 → (∃ q, q ≤ 12 ∧ p0 = Int32.ofNat q) → (p0 < 10 → ¬ p2 < 0 ∧ p2 ≤ 64) → (p0 = 7 → ¬ p3 < 0 ∧ p3 ≤ 64) → ok_X9_make_j80 LM m p0 p1 p2 p3 SM ∧ (h_X9_make_j80 m p0 p1 p2 p3 SM).1 = 1 ∧ ∀ (L1 : List Nat) (S2 : HS) (q : Nat), NThing LX (h_X8_stops x 0 SX).2 q p0 p2 p3 L1 S2 → Rel (k + 1) L1 x LM m (hwR S2 cC p1.toNatClampNeg (some q)) (h_X9_make_j80 m p0 p1 p2 p3 SM).2 := by
    intro hp hq hn hr
    obtain ⟨q0, hq12, rfl⟩ := hq
    have l10 : Int32.ofNat q0 < 10 ↔ q0 < 10 := by
      rw [Int32.lt_iff_toInt_lt, i_toInt (by omega), show (10 : Int32).toInt = 10 from by decide]
      omega
    have hn' : q0 < 10 → (0 ≤ p2.toInt ∧ p2.toInt ≤ 64) ∧ p2.toNatClampNeg ≤ 64 := fun z => r_64 (hn (l10.mpr z)).1 (hn (l10.mpr z)).2
    have hX0 := hX.stop hw isCa_0
    have hM0 := hM.begin
    have hT0 : aT (aStop 0 A) = aT A := rfl
    obtain ⟨b1, ui1, uo1, ⟨hb0, hb1, hb2⟩, hv, hM1⟩ := hM0.thing (by rw [hT0]; omega) hq12 p2 (fun z => (hn (l10.mpr z)).1)
    have hoth := hM0.ok_thing (by rw [hT0]; omega) (Int32.ofNat q0) p2
    have hc16 := (cell_16 hp).2.1
    unfold ok_X9_make_j80 h_X9_make_j80
    by_cases z7 : q0 = 7
    · subst z7
      obtain ⟨hr1, hr2⟩ := hr rfl
      obtain ⟨hrr, hr64⟩ := r_64 hr1 hr2
      obtain ⟨hnn, hn64⟩ := hn' (by decide)
      obtain ⟨-, w2, w3⟩ := hb1 (by decide) (by decide)
      rw [w2, w3] at hM1
      have hM1' : RM LM m ma (up1 bs (aT (aStop 0 A) + 1) b1) ui (uo + p2.toNatClampNeg) (aRows (aStop 0 A) p2 p3 (0 : Int32).toNatClampNeg) (h_X9_thing m (Int32.ofNat 7) p2 (h_X9_begin m SM)).2 := by
        rw [show (0 : Int32).toNatClampNeg = 0 from by decide, aRows_0]
        exact hM1
      have z0 : (0 : Int32).toNatClampNeg = 0 := by decide
      obtain ⟨o2, bs', ui', uo', M1, g1, g2, g3, g4⟩ := mk_rows hk hw0 (hn (l10.mpr (by decide))).1 hn64 hr1 hr64 hp hv (p2.toNatClampNeg + 1) 0 _ _ _ _ hM1' (by rw [z0]; omega) (by omega) (by decide) (by rw [z0]; omega) (by rw [z0]; omega)
      refine ⟨⟨hM.b_ok, hoth, o2⟩, congrArg Prod.fst g4, fun L1 S2 q hN => ?_⟩
      obtain ⟨hqL, hh⟩ := hN
      have hNR : ∃ (qe : Nat) (ts ds : Nat → Nat), NRow LX (h_X8_stops x 0 SX).2 q qe p2 p3 p2.toNatClampNeg ts ds L1 S2 := by
        rcases hh with ⟨e, -⟩ | ⟨e, -⟩ | ⟨e, -⟩ | ⟨e, -⟩ | ⟨-, hh⟩ | ⟨⟨e, -⟩, -⟩
        · exact absurd e (by decide)
        · exact absurd e (by decide)
        · exact absurd e (by decide)
        · rcases e with e | e <;> exact absurd e (by decide)
        · exact hh
        · exact absurd rfl e
      obtain ⟨qe, ts, ds, hNR⟩ := hNR
      obtain ⟨ad1, rq1, ha, hX1⟩ := hX0.rows hw0 hNR rfl (by rw [hT0]; omega)
      have hwr := hw0.rows (j := p2.toNatClampNeg) hk hnn hrr (Nat.le_refl _)
      have hset := hX1.setC (e := aT A + 1) hwr hc16
      rw [qa_s _ (by omega), show ad1 (aT A + 1) = q from ha] at hset
      refine ⟨cC, cN, ad1, rq1, ma, bs', ui', uo', aSetC (aRows (aStop 0 A) p2 p3 p2.toNatClampNeg) p1.toNatClampNeg (aT A + 1), ⟨hwr.setC (show aT A + 1 ≤ aT A + 1 + p2.toNatClampNeg by omega), g1, g2⟩, hset, ?_⟩
      have e4 : (h_X9_make_l91 m (Int32.ofNat 7) p1 p2 p3 SM (p2.toNatClampNeg + 1) 0 (h_X9_thing m (Int32.ofNat 7) p2 (h_X9_begin m SM)).2).2 = M1 := congrArg Prod.snd g4
      rw [e4]
      exact g3
    · have z7' : ¬ Int32.ofNat q0 = 7 := fun z => z7 (ofN_c hq12 (by decide) z)
      have o8 := hM1.ok8 hp
      rw [ok_X9_make_l91, h_X9_make_l91]
      unfold h_X9_make_j132 ok_X9_make_j132
      rw [if_neg z7', hv]
      refine ⟨⟨hM.b_ok, hoth, fun z => absurd z z7', fun _ => ⟨o8.1, o8.2, trivial⟩⟩, rfl, fun L1 S2 q hN => ?_⟩
      obtain ⟨ad1, rq1, ha, hX1⟩ := hX0.newT hw0 hq12 z7 hN
      have hwr := hw0.new hk hq12 (fun z => (hn' z).1) (n := p2)
      have hset := hX1.setC (e := aT A + 1) hwr hc16
      rw [qa_s _ (by omega), show ad1 (aT A + 1) = q from ha] at hset
      have hub : ui1 ≤ 4096 * (k + 1) ∧ uo1 ≤ 64 * (k + 1) := by
        by_cases y0 : q0 = 0
        · have := hb0 y0
          have := (hn' (by omega)).2
          omega
        · by_cases y10 : q0 < 10
          · have := hb1 (by omega) y10
            have := (hn' y10).2
            omega
          · have := hb2 (by omega)
            omega
      refine ⟨cC, cN, ad1, rq1, ma, up1 bs (aT (aStop 0 A) + 1) b1, ui1, uo1, aSetC (aNew (aStop 0 A) q0 p2) p1.toNatClampNeg (aT A + 1), ⟨hwr.setC (show aT A + 1 ≤ aT A + 1 by omega), hub.1, hub.2⟩, hset, ?_⟩
      show RM LM m ma _ _ _ _ (hwA _ ((hsQ _ m 8).getD 0) _ _)
      rw [hM1.q in_8]
      exact hM1.setC hc16
  have hin : ¬ s_X9_in p0 0 12 = 0 → ∃ q, q ≤ 12 ∧ p0 = Int32.ofNat q := fun t => by
    have c1 : ¬ p0 < 0 := fun z => t (in_lo z)
    have c2 : p0 ≤ 12 := Classical.byContradiction (fun z => t (in_hi c1 z))
    rw [Int32.lt_iff_toInt_lt, show (0 : Int32).toInt = 0 from by decide] at c1
    rw [Int32.le_iff_toInt_le, show (12 : Int32).toInt = 12 from by decide] at c2
    exact ⟨p0.toInt.toNat, by omega, i_tn (by omega)⟩
  have hokm : ok_X9_make LM m p0 p1 p2 p3 SM := by
    have o33 : ¬ s_X9_in p0 0 12 = 0 → ¬ s_X8_isCell p1 = 0 → (p0 < 10 → p2 ≤ 64) → ok_X9_make_j33 LM m p0 p1 p2 p3 SM := fun t hp g => by
      have o63 : (p0 < 10 → ¬ p2 < 0) → (p0 = 7 → p3 ≤ 64) → ok_X9_make_j63 LM m p0 p1 p2 p3 SM := fun g1 g2 =>
        ⟨fun e7 => ⟨fun e => (main hp (hin t) (fun z => ⟨g1 z, g z⟩) (fun z => ⟨Int32.not_lt.mpr e, g2 z⟩)).1, fun _ => f3⟩, fun e7 => (main hp (hin t) (fun z => ⟨g1 z, g z⟩) (fun z => absurd z e7)).1⟩
      have o53 : (p0 = 7 → p3 ≤ 64) → ok_X9_make_j53 LM m p0 p1 p2 p3 SM := fun g2 =>
        ⟨fun e => o63 (fun z => absurd e (Int32.not_le.mpr z)) g2, fun _ => ⟨fun _ => f3, fun e => o63 (fun _ => e) g2⟩⟩
      exact ⟨fun e7 => ⟨fun e => o53 (fun _ => e), fun _ => f8⟩, fun e7 => o53 (fun z => absurd z e7)⟩
    refine ⟨hM.1, ⟨hM.1, trivial⟩, fun _ => f8, fun t => ⟨fun _ => f8, fun hp => ?_⟩⟩
    rw [isCell_eq] at hp
    exact ⟨fun e => o33 t hp (fun z => absurd e (Int32.not_le.mpr z)), fun _ => ⟨fun _ => f8, fun e => o33 t hp (fun _ => Int32.not_lt.mp e)⟩⟩
  refine ⟨?_, hokm, ?_⟩
  · rcases mk_cause p0 p1 p2 p3 m SM with ⟨hc, -⟩ | ⟨hc, -⟩ | ⟨hc, -, hq, hp, hn, hr⟩
    · unfold ok_X8_make2
      rw [hc]
      exact ⟨hX.okx, hX.okst isCa_8, fun z => absurd z (st_not isCa_8 (by decide) x SX)⟩
    · unfold ok_X8_make2
      rw [hc]
      exact ⟨hX.okx, hX.okst isCa_3, fun z => absurd z (st_not isCa_3 (by decide) x SX)⟩
    · unfold ok_X8_make2
      rw [hc]
      refine ⟨hX.okx, hX.okst isCa_0, fun _ => ⟨(hX.s_okc hw isCa_0 hp).1, (hX.s_okc hw isCa_0 hp).2, fun a10 a11 a12 => ?_, fun e7 => ?_⟩⟩
      · have hlt : p0 < 10 := by
          obtain ⟨q, hq12, rfl⟩ := hq
          have : q ≠ 10 := fun z => a10 (by rw [z]; rfl)
          have : q ≠ 11 := fun z => a11 (by rw [z]; rfl)
          have : q ≠ 12 := fun z => a12 (by rw [z]; rfl)
          rw [Int32.lt_iff_toInt_lt, i_toInt (by omega), show (10 : Int32).toInt = 10 from by decide]
          omega
        exact ⟨(hn hlt).1, (r_64 (hn hlt).1 (hn hlt).2).2⟩
      · exact ⟨(hr e7).1, (r_64 (hr e7).1 (hr e7).2).2⟩
  · intro r L1 S1 hpost
    unfold mkPost at hpost
    have hfail : ∀ c, isCa c → c ≠ 0 → s_X8_makeCause p0 p1 p2 p3 = c → h_X9_make m p0 p1 p2 p3 SM = ((h_X9_fails m c (h_X9_begin m SM)).1, (h_X9_fails m c (h_X9_begin m SM)).2) → r = (h_X9_make m p0 p1 p2 p3 SM).1 ∧ Rel (k + 1) L1 x LM m S1 (h_X9_make m p0 p1 p2 p3 SM).2 := fun c hc c0 e1 e2 => by
      rw [e1] at hpost
      rcases hpost with ⟨-, rfl, rfl, rfl⟩ | ⟨z, -⟩
      · rw [e2]
        have := hR.b32 (rx := (0, (h_X8_stops x c SX).2)) (rm := ((h_X9_fails m c (h_X9_begin m SM)).1, (h_X9_fails m c (h_X9_begin m SM)).2)) ⟨c, 0, hc, rfl, by rw [mEnd_c c0]; rfl⟩
        exact ⟨this.1, this.2.next hk⟩
      · exact absurd z (st_not hc c0 x SX)
    rcases mk_cause p0 p1 p2 p3 m SM with ⟨hc, e⟩ | ⟨hc, e⟩ | ⟨hc, e, hq, hp, hn, hr⟩
    · exact hfail 8 isCa_8 (by decide) hc e
    · exact hfail 3 isCa_3 (by decide) hc e
    · rw [hc] at hpost
      obtain ⟨-, m1, m2⟩ := main hp hq hn hr
      rcases hpost with ⟨z, -⟩ | ⟨-, rfl, q, S2, hN, rfl⟩
      · exact absurd (st_01 x SX) z
      · have hC : (hsQ (h_X8_stops x 0 SX).2 x 0).getD 0 = cC := by
          rw [(hX.stop hw isCa_0).q0]
          rfl
        rw [e, hC]
        exact ⟨m1.symm, m2 L1 S2 q hN⟩
end MKT
