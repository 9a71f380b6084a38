/-! ===== longs to floating numbers; finite numbers packed anew ===== -/
theorem pack_0 (fb le : Int32) (inf sb : Int64) (e : Int32) : s_X0_pack fb le inf sb 0 e 0 = 0 := by
  unfold s_X0_pack s_X0_pack_j12
  rw [if_pos rfl, if_pos rfl]
theorem enc_zero {f : FP.Core.Fmt} (hf : FP.Core.Good f) (e : Int) : FP.Core.encode f (FP.Core.roundRatio f false 0 1 e) = 0 := by
  unfold FP.Core.roundRatio
  rw [if_pos rfl]
  show (if 0 < f.tails then FP.Core.assemble f false 0 0 else _) = 0
  rw [if_pos (by have := FP.Core.tails_two hf; omega)]
  unfold FP.Core.assemble
  simp
theorem fromLong_eq {f : FP.Core.Fmt} {FB : Nat} {fb le : Int32} {inf sb : Int64} (hF : FmtIs f FB fb le inf sb) (v : Int64) : uN (s_X3_fromLong fb le inf sb v) = FP.Core.fromInt f v.toInt := by
  have hl := uN_lt v
  have hgood := hF.1
  have h00 : (0 : Int32).toInt = 0 := by decide
  have h11 : (1 : Int32).toInt = 1 := by decide
  show _ = FP.Core.encode f (FP.Core.roundRatio f (decide (v.toInt < 0)) v.toInt.natAbs 1 0)
  unfold s_X3_fromLong
  by_cases c1 : v = -9223372036854775808
  · rw [if_pos c1, c1]
    rw [pack_eq hF 1 1 (by decide) (by decide) (by rw [h11]; decide), h11]
    congr 1
    rw [show decide ((1 : Int32) ≠ 0) = decide ((-9223372036854775808 : Int64).toInt < 0) from by decide]
    exact FP.Core.roundRatio_congr (by decide) (by decide) (by decide)
  rw [if_neg c1]
  have hne : uN v ≠ 2 ^ 63 := fun z => c1 (uN_inj (z.trans uN_min.symm))
  unfold s_X3_fromLong_j30
  by_cases c2 : 0 ≤ v
  · rw [if_pos c2]
    have g := (ge0_uN v).mp c2
    have gi := uN_pos g
    by_cases c3 : 0 < v
    · rw [if_pos c3, pack_eq hF 0 0 g (by rintro rfl; exact absurd c3 (by decide)) (by rw [h00]; decide), h00]
      congr 2
      · rw [gi]
        simp
      · rw [gi]
        simp
    · rw [if_neg c3]
      have hv0 : v = 0 := by
        rw [lt_toInt, show (0 : Int64).toInt = 0 from rfl, gi] at c3
        exact uN_inj (by rw [uN_0]; omega)
      subst hv0
      rw [show (-(0 : Int64)) = 0 from by decide, pack_0, uN_0]
      exact (enc_zero hgood 0).symm
  · rw [if_neg c2]
    have g : 2 ^ 63 ≤ uN v := by
      rw [ge0_uN] at c2
      omega
    have gi := uN_neg g
    have c3 : ¬ 0 < v := by
      rw [lt_toInt, show (0 : Int64).toInt = 0 from rfl, gi]
      omega
    have hn : uN (-v) = 2 ^ 64 - uN v := by rw [uN_neg1]; omega
    rw [if_neg c3, pack_eq hF 1 0 (by rw [hn]; omega) (fun z => by have := congrArg uN z; rw [hn, uN_0] at this; omega) (by rw [h00]; decide), h00]
    congr 2
    · rw [gi]
      exact (decide_eq_true (show ((1 : Int32) ≠ 0) by decide)).trans (decide_eq_true (by omega)).symm
    · rw [hn, gi]
      omega
/-- a finite number's parts, packed with the exponent moved by j, are the number times 2 ^ j, rounded -/
theorem pack_sub {f g : FP.Core.Fmt} {FB FB2 : Nat} {fb le fb2 le2 : Int32} {inf sb inf2 sb2 : Int64} (hF : FmtIs f FB fb le inf sb) (hG : FmtIs g FB2 fb2 le2 inf2 sb2) (a : Int64) {M : Nat} (hM : uN a % (f.exps * f.tails) = M) (h0 : M ≠ 0) (h1 : M < f.tails) (neg j : Int32) (hj : -1000 ≤ j.toInt ∧ j.toInt ≤ 1000) : uN (s_X0_pack fb2 le2 inf2 sb2 neg (s_X0_exponent fb le inf sb a + j) (s_X0_significand fb le inf sb a)) = FP.Core.encode g (FP.Core.roundRatio g (decide (neg ≠ 0)) M 1 (f.qmin + j.toInt)) := by
  obtain ⟨k, hk, e1, e2, e3, e4⟩ := fin_sub hF a hM h0 h1
  obtain ⟨-, -, ⟨hFB0, hFB⟩, -, -, ⟨hq1, hq2⟩, -⟩ := hF
  have hp := Nat.two_pow_pos FB
  have hF1 : 2 ^ (FB + 1) ≤ 2 ^ 53 := Nat.pow_le_pow_right (by decide) (by omega)
  have e5 : (s_X0_exponent fb le inf sb a + j).toInt = f.qmin - k + j.toInt := by rw [i_add (by rw [e4]; omega) (by rw [e4]; omega), e4]
  rw [pack_eq hG neg _ (by rw [e1]; omega) (fun z => by rw [z, uN_0] at e1; omega) (by rw [e5]; omega), e5, e1]
  congr 1
  refine FP.Core.roundRatio_congr (by decide) (by decide) ?_
  rw [show (f.qmin - k + j.toInt - (f.qmin + j.toInt)).toNat = 0 by omega, show (f.qmin + j.toInt - (f.qmin - k + j.toInt)).toNat = k by omega, Nat.pow_zero, Nat.mul_one, Nat.mul_one, Nat.mul_one]
theorem pack_norm {f g : FP.Core.Fmt} {FB FB2 : Nat} {fb le fb2 le2 : Int32} {inf sb inf2 sb2 : Int64} (hF : FmtIs f FB fb le inf sb) (hG : FmtIs g FB2 fb2 le2 inf2 sb2) (a : Int64) {M : Nat} (hM : uN a % (f.exps * f.tails) = M) (h1 : f.tails ≤ M) (h2 : M < f.exps * f.tails) (neg j : Int32) (hj : -1000 ≤ j.toInt ∧ j.toInt ≤ 1000) : uN (s_X0_pack fb2 le2 inf2 sb2 neg (s_X0_exponent fb le inf sb a + j) (s_X0_significand fb le inf sb a)) = FP.Core.encode g (FP.Core.roundRatio g (decide (neg ≠ 0)) (f.tails + M % f.tails) 1 (f.qmin + ((M / f.tails : Nat) : Int) - 1 + j.toInt)) := by
  obtain ⟨e1, e4⟩ := fin_norm hF a hM h1 h2
  obtain ⟨hf, -, ⟨hFB0, hFB⟩, hp, -, ⟨hq1, hq2⟩, -, -, hex, -⟩ := hF
  have htl : f.tails = 2 ^ FB := by unfold FP.Core.Fmt.tails; rw [hp]; rfl
  have hF1 : 2 ^ FB ≤ 2 ^ 52 := Nat.pow_le_pow_right (by decide) (by omega)
  have htp := FP.Core.tails_two hf
  have hml := Nat.mod_lt M (show 0 < f.tails by omega)
  have hdl : M / f.tails < f.exps := Nat.div_lt_of_lt_mul (by rw [Nat.mul_comm]; exact h2)
  generalize M / f.tails = D at hdl e4 ⊢
  have e5 : (s_X0_exponent fb le inf sb a + j).toInt = f.qmin + (D : Int) - 1 + j.toInt := by rw [i_add (by rw [e4]; omega) (by rw [e4]; omega), e4]
  rw [pack_eq hG neg _ (by rw [e1]; omega) (fun z => by rw [z, uN_0] at e1; omega) (by rw [e5]; omega), e5, e1]
