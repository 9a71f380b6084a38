/-! ===== store, write, move, take on both sides ===== -/
theorem fb_real {b : Int32} (h : isF b) : s_X9_floatBits (s_X9_singleBits b) = b.toInt64 := by
  have h1 : s_X9_singleBits b = b.toUInt32 := if_pos h
  have h2 : FP.Core.val32 b.toUInt32 ≠ .nan := by
    rw [FP.Core.ne_nan32]
    exact (isF_nat b).mp h
  have h3 := fEq_of ((FP.Core.notNaN_iff32 _).mpr h2)
  rw [h1]
  unfold s_X9_floatBits s_Jxf58ca_floatToIntBits_5c35a s_Jxf58ca_isNaN_12338
  rw [if_pos h3, if_pos h3, if_pos rfl]
  rfl
theorem fb_nan {b : Int32} (h : ¬ isF b) : s_X9_floatBits (s_X9_singleBits b) = 2143289344 := by
  have h1 : s_X9_singleBits b = 2143289344 := if_neg h
  rw [h1]
  decide +kernel
theorem cut_eq : ∀ n, n < 7 → ∀ v, s_X8_cutToWidth (Int32.ofNat n) v = s_X9_cut (Int32.ofNat n) v := by
  intro n hn v
  unfold s_X8_cutToWidth s_X9_cut
  rcases (show n = 0 ∨ n = 1 ∨ n = 2 ∨ n = 3 ∨ n = 4 ∨ n = 5 ∨ n = 6 by omega) with rfl | rfl | rfl | rfl | rfl | rfl | rfl
  · rw [if_neg (by decide), if_neg (by decide), if_neg (by decide), if_neg (by decide), if_neg (by decide), if_neg (by decide), if_pos (by decide)]
  · rw [if_pos (by decide), if_neg (by decide), if_pos (by decide)]
  · rw [if_neg (by decide), if_pos (by decide), if_neg (by decide), if_neg (by decide), if_pos (by decide)]
  · rw [if_neg (by decide), if_neg (by decide), if_pos (by decide), if_neg (by decide), if_neg (by decide), if_neg (by decide), if_pos (by decide)]
  · rw [if_neg (by decide), if_neg (by decide), if_neg (by decide), if_pos (by decide), if_neg (by decide), if_neg (by decide), if_neg (by decide), if_neg (by decide), if_pos (by decide)]
  · have hL : s_X8_cutToWidth (Int32.ofNat 5) v = if (s_X0_isNaN 23 (-149) 2139095040 2147483648 v) = 0 then v.toInt32.toInt64 else s_X0_plainNaN 23 (-149) 2139095040 2147483648 := (if_neg (by decide)).trans ((if_neg (by decide)).trans ((if_neg (by decide)).trans ((if_neg (by decide)).trans (if_pos (by decide)))))
    have hR : s_X9_cut (Int32.ofNat 5) v = s_X9_floatBits (s_X9_singleBits v.toInt32) := (if_neg (by decide)).trans ((if_neg (by decide)).trans ((if_neg (by decide)).trans ((if_neg (by decide)).trans ((if_neg (by decide)).trans (if_pos (by decide))))))
    refine hL.trans (Eq.trans ?_ hR.symm)
    rw [x0f_num]
    by_cases h : isF v.toInt32
    · rw [if_pos h, if_pos rfl, fb_real h]
    · rw [if_neg h, if_neg (by decide), fb_nan h]
      decide +kernel
  · have hL : s_X8_cutToWidth (Int32.ofNat 6) v = if (s_X0_isNaN 52 (-1074) 9218868437227405312 (-9223372036854775808) v) = 0 then v else s_X0_plainNaN 52 (-1074) 9218868437227405312 (-9223372036854775808) := (if_neg (by decide)).trans ((if_neg (by decide)).trans ((if_neg (by decide)).trans ((if_neg (by decide)).trans ((if_neg (by decide)).trans (if_pos (by decide))))))
    have hR : s_X9_cut (Int32.ofNat 6) v = s_X9_doubleBits (s_X9_realBits v) := (if_neg (by decide)).trans ((if_neg (by decide)).trans ((if_neg (by decide)).trans ((if_neg (by decide)).trans ((if_neg (by decide)).trans ((if_neg (by decide)).trans (if_pos (by decide)))))))
    refine hL.trans (Eq.trans ?_ hR.symm)
    by_cases h : isN v
    · rw [x0_num h, if_pos rfl, db_real h]
    · rw [x0_nan h, if_neg (by decide), rb_nan h, db_nan, pn_64]
theorem RM.set {L : List Nat} {m : Nat} {ma bs : Nat → Nat} {ui uo : Nat} {A : AS} {S : HS} {k e : Nat} (h : RM L m ma bs ui uo A S) (hw : WF k A) (hui : ui ≤ 4096 * k) (huo : uo ≤ 64 * k) (h1 : e ≠ 0) (h2 : e ≤ aT A) (hk : aK A e < 10) {i : Int32} (i0 : ¬ i < 0) (i1 : ¬ aN A e ≤ i) {v : Int64} (hv : aK A e = 0 → v.toInt32.toInt64 = v) : RM L m ma bs ui uo (aSetE A e i.toNatClampNeg v) (h_X9_set m (Int32.ofNat e) i v S) := by
  obtain ⟨p1, p2, p3⟩ := h.place hw hui huo h1 h2 hk i0 i1
  have hkk : hsA S ((hsQ S m 0).getD 0) (Int32.ofNat e).toNatClampNeg = Int32.ofNat (aK A e) := by rw [h.q in_0, (h.kind hw h1 h2).1]
  have hc := k_0 (show aK A e ≤ 12 by omega)
  have hl := (in_len i0 i1).2
  unfold h_X9_set
  rw [hkk, p1]
  by_cases z : aK A e = 0
  · rw [if_pos (hc.mpr z), h.q in_4]
    have := h.setE4 (t := e) (i := i.toNatClampNeg) (w := v.toInt32) (by omega) h2 z hl
    rw [hv z] at this
    exact this
  · rw [if_neg (fun y => z (hc.mp y)), h.q in_6]
    exact h.setE6 (by omega) h2 (by omega) hk hl
section ACS
variable {k : Nat} {LX : List Nat} {x : Nat} {LM : List Nat} {m : Nat} {SX SM : HS}
theorem st_store (h : Rel k LX x LM m SX SM) (p0 p1 p2 : Int32) (p3 : Int64) : ok_X8_store LX x p0 p1 p2 p3 SX ∧ ok_X9_store LM m p0 p1 p2 p3 SM ∧ (h_X8_store x p0 p1 p2 p3 SX).1 = (h_X9_store m p0 p1 p2 p3 SM).1 ∧ Rel k LX x LM m (h_X8_store x p0 p1 p2 p3 SX).2 (h_X9_store m p0 p1 p2 p3 SM).2 := by
  have hR := h
  obtain ⟨cC, cN, ad, rq, ma, bs, ui, uo, A, ⟨hw, hui, huo⟩, hX, hM⟩ := h
  have hty : ¬ s_X8_isNumberType p0 = 0 → arT p0 ∧ ∃ n, n < 7 ∧ p0 = Int32.ofNat n ∧ ∀ e, e ≠ 0 → e ≤ aT A → ¬ aIs A p0 e = 0 → aK A e = n := fun t => by
    obtain ⟨n, hn, rfl⟩ := num_ty.2 t
    exact ⟨arT_n n (by omega), n, hn, rfl, fun e e1 e2 hz => nuT n hn (aK A e) (by have := (hw.2.2.1 e (by omega) e2).1; omega) hz⟩
  have ok8 : ok_X8_store_j43 LX x p0 p1 p2 p3 8 SX := ⟨hX.okx, hX.okst isCa_8, fun z => absurd z (st_81 x SX), fun _ => trivial⟩
  have ok0 : ok_X8_store_j19 LX x p0 p1 p2 p3 0 SX := ⟨fun _ => ok8, fun z => absurd rfl z⟩
  have okF : ∀ c, isCa c → ¬ s_X8_isCell p1 = 0 → ok_X8_store_j43 LX x p0 p1 p2 p3 c SX := fun c hc hp => by
    refine ⟨hX.okx, hX.okst hc, fun _ => ⟨(hX.s_okc hw hc hp).1, (hX.s_okc hw hc hp).2, fun _ => trivial, fun a ha => ?_⟩, fun _ => trivial⟩
    obtain ⟨e, -, e1, e2, rfl⟩ := hX.s_some hw hc hp ha
    obtain ⟨n1, n2, -⟩ := (hX.stop hw hc).okT_nu (hw.stop c) e1 e2 p2
    refine ⟨n1, fun z => ?_, fun _ => trivial⟩
    obtain ⟨m1, m2, m3, m4, m5⟩ := n2 z
    exact ⟨m1, m2, m3, m4, fun y => ⟨(m5 y).1, m1, (m5 y).2.1, trivial⟩⟩
  refine ⟨⟨fun _ => ok0, fun t => ⟨fun _ => ok0, fun hp => ⟨fun z => absurd z (by decide), fun _ => ⟨(hX.okc hp).1, (hX.okc hp).2, fun _ => ⟨RX.oken p0, okF 1 isCa_1 hp⟩, fun a ha => ?_⟩⟩⟩⟩, ?_, ?_⟩
  · obtain ⟨e, -, e1, e2, rfl⟩ := hX.some hw hp ha
    exact ⟨hX.okT_ec hw e1 e2 p0 p2, okF _ (by rw [hX.elemS hw (hty t).1 e1 e2]; exact aAgn_ca A p0 e p2) hp⟩
  · unfold ok_X9_store
    refine ⟨hM.1, ⟨hM.1, trivial⟩, fun _ => hM.b_okf isCa_8, fun t => ⟨fun _ => hM.b_okf isCa_8, fun hp => ?_⟩⟩
    rw [isCell_eq] at hp
    have t' : ¬ s_X8_isNumberType p0 = 0 := fun z => t (num_ty.1.mp z)
    have he := hX.cle hw hp
    have f1 := hM.b_ok8 hp
    have f2 := hM.b_ok
    rw [hM.b_cell hp, hM.b_agn hw (hty t').1 he]
    generalize aC A p1.toNatClampNeg = e at he ⊢
    have f3 : ok_X9_against LM m p0 (Int32.ofNat e) p2 (h_X9_begin m SM) := hM.b_okagn hw he
    have f4 := hM.b_okf (aAgn_ca A p0 e p2)
    by_cases hz : aAgn A p0 e p2 = 0
    · obtain ⟨z1, z2, z3, z4⟩ := aAgn_0 hz
      obtain ⟨-, n, hn, -, hke⟩ := hty t'
      have h7 := hke e z1 he z2
      have f5 := hM.begin.okset (hw.stop 0) hui huo z1 he (show aK A e < 10 by omega) z3 z4 (s_X9_cut p0 p3)
      repeat' (first | exact trivial | exact f1.1 | exact f1.2 | exact f2 | exact f3 | exact f4 | exact f5 | (intro _) | (refine And.intro ?_ ?_))
    · have hnot : ¬ aAgn A p0 e p2 ≤ 0 := fun z => hz ((ca_le (aAgn_ca A p0 e p2)).mp z)
      repeat' (first | exact trivial | exact absurd (by assumption) hnot | exact f1.1 | exact f1.2 | exact f2 | exact f3 | exact f4 | (intro _) | (refine And.intro ?_ ?_))
  · unfold h_X9_store
    by_cases t : s_X8_isNumberType p0 = 0
    · unfold h_X8_store
      rw [if_pos t, if_pos (num_ty.1.mp t)]
      exact hR.b32 ⟨8, 0, isCa_8, (if_pos rfl).trans (if_neg (st_81 x SX)), rfl⟩
    rw [if_neg (fun z => t (num_ty.1.mpr z))]
    by_cases hp : s_X8_isCell p1 = 0
    · unfold h_X8_store
      rw [if_neg t, if_pos hp, if_pos (by rw [isCell_eq]; exact hp)]
      exact hR.b32 ⟨8, 0, isCa_8, (if_pos rfl).trans (if_neg (st_81 x SX)), rfl⟩
    have he := hX.cle hw hp
    obtain ⟨har, n, hn, hp0, hke⟩ := hty t
    have hcl : h_X8_store x p0 p1 p2 p3 SX = h_X8_store_j43 x p0 p1 p2 p3 (aAgn A p0 (aC A p1.toNatClampNeg) p2) SX := by
      unfold h_X8_store h_X8_store_j19
      rw [if_neg t, if_neg hp, if_neg (by decide)]
      exact (hX.by (fun z => h_X8_store_j43 x p0 p1 p2 p3 z SX) (fun a => h_X8_elementCause_s p0 a p2 SX) hp).trans (congrArg (fun z => h_X8_store_j43 x p0 p1 p2 p3 z SX) (hX.elem hw har he))
    rw [hcl, if_neg (by rw [isCell_eq]; exact hp), hM.b_cell hp, hM.b_agn hw har he]
    have hq := hX.s_cellq hw isCa_0 hp
    generalize aC A p1.toNatClampNeg = e at he hq ⊢
    have hca := aAgn_ca A p0 e p2
    unfold h_X8_store_j43
    by_cases hz : aAgn A p0 e p2 = 0
    · obtain ⟨z1, z2, z3, z4⟩ := aAgn_0 hz
      have h7 := hke e z1 he z2
      obtain ⟨t1, t2, t3⟩ := hX.s_thing hw isCa_0 z1 he
      have hX0 := hX.stop hw isCa_0
      have hK1 : hsK (h_X8_stops x 0 SX).2 (ad e) = 1 := t2.trans ((kx_1 (by omega)).mpr (by omega))
      have hhold : h_X6_holds (ad e) p2 (h_X8_stops x 0 SX).2 = 1 := by
        rw [hX0.holds z1 he (show aK A e < 10 by omega)]
        show (if p2 < 0 then (0 : Int32) else if aN A e ≤ p2 then 0 else 1) = 1
        rw [if_neg z3, if_neg z4]
      have hrow : (hsQ (h_X8_stops x 0 SX).2 (ad e) 2).getD 0 = rq e := hX0.rowg z1 he (show aK A e < 10 by omega)
      rw [hz, if_pos (st_01 x SX), if_pos (show (0 : Int32) ≤ 0 by decide), hq, qa_s ad z1]
      have hcls : oq (some (ad e)) ((1 : Int32), (h_X8_stops x 0 SX).2) (fun a => if hsK (h_X8_stops x 0 SX).2 a = 1 then if h_X6_holds a p2 (h_X8_stops x 0 SX).2 = 0 then (1, (h_X8_stops x 0 SX).2) else (1, hwJ (h_X8_stops x 0 SX).2 ((hsQ (h_X8_stops x 0 SX).2 a 2).getD 0) p2.toNatClampNeg (s_X8_cutToWidth (hsI (h_X8_stops x 0 SX).2 a 0) p3)) else (1, (h_X8_stops x 0 SX).2)) = (1, hwJ (h_X8_stops x 0 SX).2 (rq e) p2.toNatClampNeg (s_X9_cut p0 p3)) := by
        show (if hsK (h_X8_stops x 0 SX).2 (ad e) = 1 then if h_X6_holds (ad e) p2 (h_X8_stops x 0 SX).2 = 0 then ((1 : Int32), (h_X8_stops x 0 SX).2) else (1, hwJ (h_X8_stops x 0 SX).2 ((hsQ (h_X8_stops x 0 SX).2 (ad e) 2).getD 0) p2.toNatClampNeg (s_X8_cutToWidth (hsI (h_X8_stops x 0 SX).2 (ad e) 0) p3)) else (1, (h_X8_stops x 0 SX).2)) = _
        rw [if_pos hK1, hhold, if_neg (by decide), hrow, t3, h7, cut_eq n hn, hp0]
      refine ⟨(congrArg Prod.fst hcls).trans rfl, ?_⟩
      show Rel k LX x LM m (Prod.snd _) _
      rw [hcls]
      refine ⟨cC, cN, ad, rq, ma, bs, ui, uo, aSetE (aStop 0 A) e p2.toNatClampNeg (s_X9_cut p0 p3), ⟨WF.setE (hw.stop 0) (fun z _ => absurd z (show ¬ 7 ≤ aK A e by omega)), hui, huo⟩, ?_, ?_⟩
      · exact hX0.setJ (hw.stop 0) (by omega) he (show aK A e < 7 by omega)
      · refine hM.begin.set (hw.stop 0) hui huo z1 he (show aK A e < 10 by omega) z3 z4 (fun z => ?_)
        have z0 : aK A e = 0 := z
        have hn0 : n = 0 := by omega
        subst hn0
        rw [hp0]
        show (p3.toInt32.toInt64).toInt32.toInt64 = p3.toInt32.toInt64
        rw [Int32.toInt32_toInt64]
    · rw [if_neg (fun z => hz ((ca_le hca).mp z)), if_neg (st_not hca hz x SX)]
      exact hR.b32 ⟨_, 0, hca, rfl, by rw [mEnd_c hz]; rfl⟩
theorem st_write (h : Rel k LX x LM m SX SM) (p0 p1 p2 : Int32) : ok_X8_write LX x p0 p1 p2 SX ∧ ok_X9_write LM m p0 p1 p2 SM ∧ (h_X8_write x p0 p1 p2 SX).1 = (h_X9_write m p0 p1 p2 SM).1 ∧ Rel k LX x LM m (h_X8_write x p0 p1 p2 SX).2 (h_X9_write m p0 p1 p2 SM).2 := by
  have hR := h
  obtain ⟨cC, cN, ad, rq, ma, bs, ui, uo, A, ⟨hw, hui, huo⟩, hX, hM⟩ := h
  have ok8 : ok_X8_write_j42 LX x p0 p1 p2 8 SX := ⟨hX.okx, hX.okst isCa_8, fun z => absurd z (st_81 x SX), fun _ => trivial⟩
  have ok0 : ok_X8_write_j19 LX x p0 p1 p2 0 SX := ⟨fun _ => ok8, fun z => absurd rfl z⟩
  have okF : ∀ c, isCa c → ¬ s_X8_isCell p1 = 0 → ok_X8_write_j42 LX x p0 p1 p2 c SX := fun c hc hp => by
    refine ⟨hX.okx, hX.okst hc, fun _ => ⟨(hX.s_okc hw hc hp).1, (hX.s_okc hw hc hp).2, fun _ => trivial, fun a ha => ?_⟩, fun _ => trivial⟩
    obtain ⟨e, -, e1, e2, rfl⟩ := hX.s_some hw hc hp ha
    have ht := (hX.s_thing hw hc e1 e2).1
    exact ⟨ht, fun z => ⟨⟨ht.1, z⟩, ⟨ht.1, z⟩, trivial⟩, fun _ => trivial⟩
  refine ⟨⟨fun _ => ok0, fun t => ⟨fun _ => ok0, fun hp => ⟨fun z => absurd z (by decide), fun _ => ⟨(hX.okc hp).1, (hX.okc hp).2, fun _ => ⟨RX.okn p0, okF 1 isCa_1 hp⟩, fun a ha => ?_⟩⟩⟩⟩, ?_, ?_⟩
  · obtain ⟨e, -, e1, e2, rfl⟩ := hX.some hw hp ha
    exact ⟨hX.okT_cc hw e1 e2 p0, okF _ (by rw [hX.castS hw e1 e2]; exact aCast_ca A p0 e) hp⟩
  · unfold ok_X9_write
    refine ⟨hM.1, ⟨hM.1, trivial⟩, fun _ => hM.b_okf isCa_8, fun _ => ⟨fun _ => hM.b_okf isCa_8, fun hp => ?_⟩⟩
    rw [isCell_eq] at hp
    have he := hX.cle hw hp
    have f1 := hM.b_ok8 hp
    have f2 := hM.b_ok
    rw [hM.b_cell hp]
    generalize aC A p1.toNatClampNeg = e at he ⊢
    have f3 : ok_X9_passes LM m (Int32.ofNat e) p0 (h_X9_begin m SM) := hM.b_okpass hw he
    have f4 := hM.b_okt hw he (f := 1) (Or.inr (Or.inl rfl))
    have g1 := hM.b_okf isCa_4
    have g2 := hM.b_okf isCa_1
    repeat' (first | exact trivial | exact f1.1 | exact f1.2 | exact f2 | exact f3 | exact f4.1 | exact f4.2 | exact g1 | exact g2 | (intro _) | (refine And.intro ?_ ?_))
  · unfold h_X9_write
    by_cases t : s_X8_isOwnType p0 = 0
    · unfold h_X8_write
      rw [if_pos t, if_pos (own_ty.1.mp t)]
      exact hR.b32 ⟨8, 0, isCa_8, (if_pos rfl).trans (if_neg (st_81 x SX)), rfl⟩
    rw [if_neg (fun z => t (own_ty.1.mpr z))]
    by_cases hp : s_X8_isCell p1 = 0
    · unfold h_X8_write
      rw [if_neg t, if_pos hp, if_pos (by rw [isCell_eq]; exact hp)]
      exact hR.b32 ⟨8, 0, isCa_8, (if_pos rfl).trans (if_neg (st_81 x SX)), rfl⟩
    have he := hX.cle hw hp
    have hcl : h_X8_write x p0 p1 p2 SX = h_X8_write_j42 x p0 p1 p2 (aCast A p0 (aC A p1.toNatClampNeg)) SX := by
      unfold h_X8_write h_X8_write_j19
      rw [if_neg t, if_neg hp, if_neg (by decide)]
      exact (hX.by (fun z => h_X8_write_j42 x p0 p1 p2 z SX) (fun a => h_X8_castCause_s p0 a SX) hp).trans (congrArg (fun z => h_X8_write_j42 x p0 p1 p2 z SX) (hX.cast hw he))
    rw [hcl, if_neg (by rw [isCell_eq]; exact hp), hM.b_cell hp, hM.b_pass hw he]
    have hq := hX.s_cellq hw isCa_0 hp
    generalize aC A p1.toNatClampNeg = e at he hq ⊢
    have hn := n0 (wf_31 hw he).2
    unfold aCast h_X8_write_j42
    by_cases h0 : e = 0
    · rw [if_pos h0, if_pos h0, if_neg (show ¬ (1 : Int32) = 0 by decide), if_pos (hn.mpr h0)]
      exact hR.b32 ⟨1, 0, isCa_1, if_neg (st_not isCa_1 (by decide) x SX), rfl⟩
    rw [if_neg h0, if_neg h0]
    by_cases hz : aIs A p0 e = 0
    · rw [if_pos hz, if_pos hz, if_pos rfl]
      exact hR.b32 ⟨4, 0, isCa_4, if_neg (st_not isCa_4 (by decide) x SX), rfl⟩
    rw [if_neg hz, if_neg hz, if_neg (show ¬ (1 : Int32) = 0 by decide), if_neg (fun z => h0 (hn.mp z)), if_pos (st_01 x SX), hq, qa_s ad h0]
    have hk : 10 ≤ aK A e := own_ty.2 t _ (by have := (hw.2.2.1 e (by omega) he).1; omega) hz
    obtain ⟨o1, o2, o3⟩ := hX.s_own hw isCa_0 h0 he hk
    have hcls : oq (some (ad e)) ((1 : Int32), (h_X8_stops x 0 SX).2) (fun a => if 2 ≤ hsK (h_X8_stops x 0 SX).2 a ∧ hsK (h_X8_stops x 0 SX).2 a ≤ 4 then (1, hwI (h_X8_stops x 0 SX).2 a 2 p2) else (1, (h_X8_stops x 0 SX).2)) = (1, hwI (h_X8_stops x 0 SX).2 (ad e) 2 p2) := by
      show (if 2 ≤ hsK (h_X8_stops x 0 SX).2 (ad e) ∧ hsK (h_X8_stops x 0 SX).2 (ad e) ≤ 4 then ((1 : Int32), hwI (h_X8_stops x 0 SX).2 (ad e) 2 p2) else (1, (h_X8_stops x 0 SX).2)) = _
      rw [if_pos o1.2]
    refine ⟨(congrArg Prod.fst hcls).trans rfl, ?_⟩
    show Rel k LX x LM m (Prod.snd _) _
    rw [hcls]
    refine ⟨cC, cN, ad, rq, ma, bs, ui, uo, aSetN (aStop 0 A) e p2, ⟨WF.setV (hw.stop 0) hk, hui, huo⟩, (hX.stop hw isCa_0).setV (hw.stop 0) (by omega) he hk, ?_⟩
    show RM LM m ma bs ui uo _ (hwA (h_X9_begin m SM) ((hsQ (h_X9_begin m SM) m 1).getD 0) (Int32.ofNat e).toNatClampNeg p2)
    rw [hM.begin.q in_1, nN (wf_31 hw he).2]
    exact hM.begin.setV hk
theorem hw_qa (S : HS) (c j : Nat) (ad : Nat → Nat) (e : Nat) : (if e = 0 then ((1 : Int32), hwR S c j none) else (1, hwR S c j (some (ad e)))) = (1, hwR S c j (qa ad e)) := by
  by_cases h : e = 0
  · rw [if_pos h, h, qa_0]
  · rw [if_neg h, qa_s ad h]
theorem m1_cell {p : Int32} : ¬ s_X9_in p (-1) 15 = 0 ↔ p = -1 ∨ ¬ s_X8_isCell p = 0 := by
  have n1 : (-1 : Int32).toInt = -1 := by decide
  have n0 : (0 : Int32).toInt = 0 := by decide
  have n15 : (15 : Int32).toInt = 15 := by decide
  have n16 : (16 : Int32).toInt = 16 := by decide
  unfold s_X9_in s_X8_isCell
  by_cases h1 : p < -1
  · rw [if_pos h1]
    refine ⟨fun z => absurd rfl z, fun z => ?_⟩
    rw [Int32.lt_iff_toInt_lt, n1] at h1
    rcases z with rfl | z
    · rw [n1] at h1
      omega
    · rw [if_pos (by rw [Int32.lt_iff_toInt_lt, n0]; omega)] at z
      exact absurd rfl z
  · rw [if_neg h1]
    rw [Int32.lt_iff_toInt_lt, n1] at h1
    by_cases h2 : 15 < p
    · rw [if_pos h2]
      refine ⟨fun z => absurd rfl z, fun z => ?_⟩
      rw [Int32.lt_iff_toInt_lt, n15] at h2
      rcases z with rfl | z
      · rw [n1] at h2
        omega
      · rw [if_neg (by rw [Int32.lt_iff_toInt_lt, n0]; omega), if_pos (by rw [Int32.le_iff_toInt_le, n16]; omega)] at z
        exact absurd rfl z
    · rw [if_neg h2]
      refine ⟨fun _ => ?_, fun _ => by decide⟩
      rw [Int32.lt_iff_toInt_lt, n15] at h2
      by_cases h3 : p = -1
      · exact Or.inl h3
      · right
        have h4 : p.toInt ≠ -1 := fun z => h3 (Int32.toInt.inj (z.trans n1.symm))
        rw [if_neg (by rw [Int32.lt_iff_toInt_lt, n0]; omega), if_neg (by rw [Int32.le_iff_toInt_le, n16]; omega)]
        decide
theorem st_move (h : Rel k LX x LM m SX SM) (p0 p1 : Int32) : ok_X8_move LX x p0 p1 SX ∧ ok_X9_move LM m p0 p1 SM ∧ (h_X8_move x p0 p1 SX).1 = (h_X9_move m p0 p1 SM).1 ∧ Rel k LX x LM m (h_X8_move x p0 p1 SX).2 (h_X9_move m p0 p1 SM).2 := by
  have hR := h
  obtain ⟨cC, cN, ad, rq, ma, bs, ui, uo, A, ⟨hw, hui, huo⟩, hX, hM⟩ := h
  have ok8 : ok_X8_move_j36 LX x p0 p1 8 SX := ⟨hX.okx, hX.okst isCa_8, fun z => absurd z (st_81 x SX), fun _ => trivial⟩
  have ok0 : ok_X8_move_j24 LX x p0 p1 0 SX := ⟨fun _ => ok8, fun z => absurd rfl z⟩
  have okF : (p0 = -1 ∨ ¬ s_X8_isCell p0 = 0) → ¬ s_X8_isCell p1 = 0 → ok_X8_move_j24 LX x p0 p1 1 SX := fun hp0 hp1 => by
    refine ⟨fun z => absurd z (by decide), fun _ => ⟨hX.okx, hX.okst isCa_0, fun _ => ?_, fun _ => trivial⟩⟩
    obtain ⟨a1, a2⟩ := hX.s_okc hw isCa_0 hp1
    refine ⟨a1, fun _ => ⟨a2, trivial⟩, fun z => ?_⟩
    obtain ⟨b1, b2⟩ := hX.s_okc hw isCa_0 (hp0.resolve_left z)
    refine ⟨b1, b2, fun _ => ⟨a2, trivial⟩, fun a ha => ?_⟩
    obtain ⟨e, -, e1, e2, rfl⟩ := hX.s_some hw isCa_0 (hp0.resolve_left z) ha
    exact ⟨⟨a2, (hX.s_thing hw isCa_0 e1 e2).1⟩, trivial⟩
  refine ⟨⟨fun z => ⟨fun _ => ok0, fun hp1 => okF (Or.inl z) hp1⟩, fun z => ⟨fun _ => ok0, fun hp0 => ⟨fun _ => ok0, fun hp1 => okF (Or.inr hp0) hp1⟩⟩⟩, ?_, ?_⟩
  · unfold ok_X9_move
    have f2 := hM.b_ok
    have g1 := hM.b_okf isCa_8
    refine ⟨hM.1, ⟨hM.1, trivial⟩, fun _ => g1, fun t => ⟨fun _ => g1, fun hp1 => ?_⟩⟩
    rw [isCell_eq] at hp1
    have f3 := hM.b_ok8 hp1
    have f4 : ∀ z : 0 ≤ p0, ((hsQ (h_X9_begin m SM) m 8).getD 0 ∈ LM ∧ hsK (h_X9_begin m SM) ((hsQ (h_X9_begin m SM) m 8).getD 0) = 8 ∧ vp_in p0 (hsN (h_X9_begin m SM) ((hsQ (h_X9_begin m SM) m 8).getD 0))) := fun z => by
      rcases m1_cell.mp t with y | y
      · rw [y] at z
        exact absurd z (by decide)
      · exact (hM.b_ok8 y).2
    repeat' (first | exact trivial | exact f3.1 | exact f3.2 | exact f2 | exact f4 (by assumption) | (intro _) | (refine And.intro ?_ ?_))
  · unfold h_X8_move h_X9_move h_X8_move_j12
    by_cases t : s_X9_in p0 (-1) 15 = 0
    · rw [if_pos t]
      have t1 : ¬ p0 = -1 := fun z => m1_cell.mpr (Or.inl z) t
      have t2 : s_X8_isCell p0 = 0 := Classical.byContradiction (fun z => m1_cell.mpr (Or.inr z) t)
      rw [if_neg t1, if_pos t2]
      exact hR.b32 ⟨8, 0, isCa_8, (if_pos rfl).trans (if_neg (st_81 x SX)), rfl⟩
    rw [if_neg t]
    have htc := m1_cell.mp t
    by_cases hp1 : s_X8_isCell p1 = 0
    · rw [if_pos (show s_X9_isCell p1 = 0 by rw [isCell_eq]; exact hp1), if_pos hp1]
      have hcl : (if p0 = -1 then h_X8_move_j24 x p0 p1 0 SX else if s_X8_isCell p0 = 0 then h_X8_move_j24 x p0 p1 0 SX else h_X8_move_j24 x p0 p1 0 SX) = h_X8_move_j24 x p0 p1 0 SX := by
        split
        · rfl
        · split <;> rfl
      rw [hcl]
      exact hR.b32 ⟨8, 0, isCa_8, (if_pos rfl).trans (if_neg (st_81 x SX)), rfl⟩
    rw [if_neg (show ¬ s_X9_isCell p1 = 0 by rw [isCell_eq]; exact hp1), if_neg hp1]
    have hcl : (if p0 = -1 then h_X8_move_j24 x p0 p1 1 SX else if s_X8_isCell p0 = 0 then h_X8_move_j24 x p0 p1 0 SX else h_X8_move_j24 x p0 p1 1 SX) = h_X8_move_j36 x p0 p1 0 SX := by
      rcases htc with z | z
      · rw [if_pos z]
        exact if_neg (by decide)
      · rw [if_neg z]
        split <;> exact if_neg (by decide)
    rw [hcl]
    have hC : (hsQ (h_X8_stops x 0 SX).2 x 0).getD 0 = cC := by
      rw [(hX.stop hw isCa_0).q0]
      rfl
    have hc16 := (cell_16 hp1).2.1
    have fin : ∀ e, e ≤ aT A → Rel k LX x LM m (hwR (h_X8_stops x 0 SX).2 cC p1.toNatClampNeg (qa ad e)) (hwA (h_X9_begin m SM) (ma 8) p1.toNatClampNeg (Int32.ofNat e)) := fun e he =>
      ⟨cC, cN, ad, rq, ma, bs, ui, uo, aSetC (aStop 0 A) p1.toNatClampNeg e, ⟨WF.setC (hw.stop 0) he, hui, huo⟩, (hX.stop hw isCa_0).setC (hw.stop 0) hc16, hM.begin.setC hc16⟩
    unfold h_X8_move_j36
    rw [if_pos (st_01 x SX), hC, hM.begin.q in_8]
    by_cases z : p0 = -1
    · rw [if_pos z, if_neg (show ¬ 0 ≤ p0 by rw [z]; decide)]
      have := fin 0 (Nat.zero_le _)
      rw [qa_0] at this
      exact ⟨rfl, this⟩
    · have hp0 := htc.resolve_left z
      have he := hX.cle hw hp0
      have hq := hX.s_cellq hw isCa_0 hp0
      have hcm := hM.begin.cell hp0
      rw [hC] at hq
      rw [if_neg z, if_pos (Int32.not_lt.mp (cell_16 hp0).1), hq, oq_qa, hcm, hw_qa]
      exact ⟨rfl, fin _ he⟩
theorem st_take (h : Rel k LX x LM m SX SM) (p0 p1 p2 p3 : Int32) : ok_X8_take LX x p0 p1 p2 p3 SX ∧ ok_X9_take LM m p0 p1 p2 p3 SM ∧ (h_X8_take x p0 p1 p2 p3 SX).1 = (h_X9_take m p0 p1 p2 p3 SM).1 ∧ Rel k LX x LM m (h_X8_take x p0 p1 p2 p3 SX).2 (h_X9_take m p0 p1 p2 p3 SM).2 := by
  have hR := h
  obtain ⟨cC, cN, ad, rq, ma, bs, ui, uo, A, ⟨hw, hui, huo⟩, hX, hM⟩ := h
  have ok8 : ok_X8_take_j51 LX x p0 p1 p2 p3 8 SX := ⟨hX.okx, hX.okst isCa_8, fun z => absurd z (st_81 x SX), fun _ => trivial⟩
  have ok0 : ok_X8_take_j27 LX x p0 p1 p2 p3 0 SX := ⟨fun _ => ok8, fun z => absurd rfl z⟩
  have okF : ∀ c, isCa c → ¬ s_X8_isCell p1 = 0 → ¬ s_X8_isCell p3 = 0 → ok_X8_take_j51 LX x p0 p1 p2 p3 c SX := fun c hc hp hp3 => by
    have hXc := hX.stop hw hc
    have hwc := hw.stop c
    obtain ⟨a1, a2⟩ := hX.s_okc hw hc hp3
    obtain ⟨b1, b2⟩ := hX.s_okc hw hc hp
    refine ⟨hX.okx, hX.okst hc, fun _ => ⟨a1, b1, b2, fun _ => ⟨trivial, fun _ => ⟨a2, trivial⟩, fun _ hb => no_el hb⟩, fun a ha => ?_⟩, fun _ => trivial⟩
    obtain ⟨e, -, e1, e2, rfl⟩ := hX.s_some hw hc hp ha
    refine ⟨hXc.okT_el hwc e1 e2 p2, fun _ => ⟨a2, trivial⟩, fun b hb => ?_⟩
    obtain ⟨f, f0, f1, rfl⟩ := hXc.elsome hwc e1 e2 hb
    exact ⟨⟨a2, (hX.s_thing hw hc f0 f1).1⟩, trivial⟩
  refine ⟨⟨fun _ => ok0, fun t => ⟨fun _ => ok0, fun hp => ⟨fun _ => ok0, fun hp3 => ⟨fun z => absurd z (by decide), fun _ => ⟨(hX.okc hp).1, (hX.okc hp).2, fun _ => ⟨RX.oken p0, okF 1 isCa_1 hp hp3⟩, fun a ha => ?_⟩⟩⟩⟩⟩, ?_, ?_⟩
  · obtain ⟨e, -, e1, e2, rfl⟩ := hX.some hw hp ha
    exact ⟨hX.okT_ec hw e1 e2 p0 p2, okF _ (by rw [hX.elemS hw (hol_ty t).2.1 e1 e2]; exact aAgn_ca A p0 e p2) hp hp3⟩
  · unfold ok_X9_take
    rw [hol_eq]
    refine ⟨hM.1, ⟨hM.1, trivial⟩, fun _ => hM.b_okf isCa_8, fun t => ⟨fun _ => hM.b_okf isCa_8, fun hp => ⟨fun _ => hM.b_okf isCa_8, fun hp3 => ?_⟩⟩⟩
    rw [isCell_eq] at hp hp3
    obtain ⟨hth, har, -⟩ := hol_ty t
    have he := hX.cle hw hp
    have f1 := hM.b_ok8 hp
    have f0 := hM.b_ok8 hp3
    have f2 := hM.b_ok
    rw [hM.b_cell hp, hM.b_agn hw har he]
    generalize aC A p1.toNatClampNeg = e at he ⊢
    have f3 : ok_X9_against LM m p0 (Int32.ofNat e) p2 (h_X9_begin m SM) := hM.b_okagn hw he
    have f4 := hM.b_okf (aAgn_ca A p0 e p2)
    have f5 := hM.b_okt hw he (f := 2) (Or.inr (Or.inr rfl))
    have f6 := hM.begin.okq in_6
    by_cases hz : aAgn A p0 e p2 = 0
    · obtain ⟨z1, k1, k2, z3, z4, l1, l2⟩ := th_el hw hth he hz
      obtain ⟨g1, g2⟩ := hM.b_j hw hui huo z1 he (by omega) k2 z3 z4
      repeat' (first | exact trivial | exact f1.1 | exact f1.2 | exact f0.1 | exact f0.2 | exact f2 | exact f3 | exact f4 | exact f5.1 | exact f5.2 | exact f6 | exact g2 | (intro _) | (refine And.intro ?_ ?_))
    · have hnot : ¬ aAgn A p0 e p2 ≤ 0 := fun z => hz ((ca_le (aAgn_ca A p0 e p2)).mp z)
      repeat' (first | exact trivial | exact absurd (by assumption) hnot | exact f1.1 | exact f1.2 | exact f2 | exact f3 | exact f4 | (intro _) | (refine And.intro ?_ ?_))
  · unfold h_X9_take
    rw [hol_eq]
    by_cases t : s_X8_isThingArrayType p0 = 0
    · unfold h_X8_take
      rw [if_pos t, if_pos t]
      exact hR.b32 ⟨8, 0, isCa_8, (if_pos rfl).trans (if_neg (st_81 x SX)), rfl⟩
    rw [if_neg t]
    by_cases hp : s_X8_isCell p1 = 0
    · unfold h_X8_take
      rw [if_neg t, if_pos hp, if_pos (by rw [isCell_eq]; exact hp)]
      exact hR.b32 ⟨8, 0, isCa_8, (if_pos rfl).trans (if_neg (st_81 x SX)), rfl⟩
    rw [if_neg (by rw [isCell_eq]; exact hp)]
    by_cases hp3 : s_X8_isCell p3 = 0
    · unfold h_X8_take
      rw [if_neg t, if_neg hp, if_pos hp3, if_pos (by rw [isCell_eq]; exact hp3)]
      exact hR.b32 ⟨8, 0, isCa_8, (if_pos rfl).trans (if_neg (st_81 x SX)), rfl⟩
    obtain ⟨hth, har, -⟩ := hol_ty t
    have he := hX.cle hw hp
    have hcl : h_X8_take x p0 p1 p2 p3 SX = h_X8_take_j51 x p0 p1 p2 p3 (aAgn A p0 (aC A p1.toNatClampNeg) p2) SX := by
      unfold h_X8_take h_X8_take_j27
      rw [if_neg t, if_neg hp, if_neg hp3, if_neg (by decide)]
      exact (hX.by (fun z => h_X8_take_j51 x p0 p1 p2 p3 z SX) (fun a => h_X8_elementCause_s p0 a p2 SX) hp).trans (congrArg (fun z => h_X8_take_j51 x p0 p1 p2 p3 z SX) (hX.elem hw har he))
    rw [hcl, if_neg (by rw [isCell_eq]; exact hp3), hM.b_cell hp, hM.b_agn hw har he]
    have hq := hX.s_cellq hw isCa_0 hp
    have hC : (hsQ (h_X8_stops x 0 SX).2 x 0).getD 0 = cC := by
      rw [(hX.stop hw isCa_0).q0]
      rfl
    rw [hC] at hq
    generalize aC A p1.toNatClampNeg = e at he hq ⊢
    have hca := aAgn_ca A p0 e p2
    unfold h_X8_take_j51
    by_cases hz : aAgn A p0 e p2 = 0
    · obtain ⟨z1, k1, k2, z3, z4, l1, l2⟩ := th_el hw hth he hz
      obtain ⟨g1, -⟩ := hM.b_j hw hui huo z1 he (by omega) k2 z3 z4
      have hel := hX.s_el hw isCa_0 z1 he k1 k2 z3 z4
      have hc16 := (cell_16 hp3).2.1
      rw [hz, if_pos (st_01 x SX), if_pos (show (0 : Int32) ≤ 0 by decide), hC, hq, qa_s ad z1, g1, el_32 hw l1, hM.begin.q in_8]
      generalize uN (aE A e p2.toNatClampNeg) = f at l1 l2 hel ⊢
      have hcls : oq (some (ad e)) (oq (h_X8_elementAt_n p2 (h_X8_stops x 0 SX).2) ((1 : Int32), hwR (h_X8_stops x 0 SX).2 cC p3.toNatClampNeg none) (fun a => (1, hwR (h_X8_stops x 0 SX).2 cC p3.toNatClampNeg (some a)))) (fun a => oq (h_X8_elementAt_s a p2 (h_X8_stops x 0 SX).2) ((1 : Int32), hwR (h_X8_stops x 0 SX).2 cC p3.toNatClampNeg none) (fun a => (1, hwR (h_X8_stops x 0 SX).2 cC p3.toNatClampNeg (some a)))) = (1, hwR (h_X8_stops x 0 SX).2 cC p3.toNatClampNeg (qa ad f)) := by
        show oq (h_X8_elementAt_s (ad e) p2 (h_X8_stops x 0 SX).2) _ _ = _
        rw [hel, oq_qa, hw_qa]
      refine ⟨(congrArg Prod.fst hcls).trans rfl, ?_⟩
      show Rel k LX x LM m (Prod.snd _) _
      rw [hcls]
      exact ⟨cC, cN, ad, rq, ma, bs, ui, uo, aSetC (aStop 0 A) p3.toNatClampNeg f, ⟨WF.setC (hw.stop 0) l1, hui, huo⟩, (hX.stop hw isCa_0).setC (hw.stop 0) hc16, hM.begin.setC hc16⟩
    · rw [if_neg (fun z => hz ((ca_le hca).mp z)), if_neg (st_not hca hz x SX)]
      exact hR.b32 ⟨_, 0, hca, rfl, by rw [mEnd_c hz]; rfl⟩
end ACS
