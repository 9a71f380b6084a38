/-! ===== one format to the other ===== -/
theorem and_bit (n K : Nat) : n &&& 2 ^ K = 0 ↔ n.testBit K = false := by
  constructor
  · intro h
    have h1 := Nat.testBit_and n (2 ^ K) K
    rw [h, Nat.zero_testBit, Nat.testBit_two_pow] at h1
    simpa using h1.symm
  · intro h
    apply Nat.eq_of_testBit_eq
    intro i
    rw [Nat.testBit_and, Nat.testBit_two_pow, Nat.zero_testBit]
    by_cases hi : K = i
    · subst hi
      rw [h]
      rfl
    · simp [hi]
theorem neg_uN {f : FP.Core.Fmt} {FB : Nat} {fb le : Int32} {inf sb : Int64} (hF : FmtIs f FB fb le inf sb) (a : Int64) : s_X0_isNegative fb le inf sb a = if FP.Core.fieldS f (uN a) = true then 1 else 0 := by
  obtain ⟨hf, -, -, -, -, -, -, hsb, -, -⟩ := hF
  unfold s_X0_isNegative FP.Core.fieldS
  have e : a &&& sb = 0 ↔ ¬ (uN a / f.tails / f.exps % 2 == 1) = true := by
    rw [eq_uN, uN_and, hsb, uN_0, et_pow, and_bit, Nat.testBit_eq_decide_div_mod_eq, ← et_pow, Nat.div_div_eq_div_mul, Nat.mul_comm f.tails]
    by_cases h : uN a / (f.exps * f.tails) % 2 = 1
    · simp [h]
    · simp [h]
  by_cases h : (uN a / f.tails / f.exps % 2 == 1) = true
  · rw [if_neg (fun z => (e.mp z) h), if_pos h]
  · rw [if_pos (e.mpr h), if_neg h]
theorem enc_fin0 {g : FP.Core.Fmt} (hg : FP.Core.Good g) (s : Bool) (e : Int) : FP.Core.encode g (FP.Core.roundRatio g s 0 1 e) = s.toNat * g.exps * g.tails := by
  unfold FP.Core.roundRatio
  rw [if_pos rfl]
  show (if 0 < g.tails then FP.Core.assemble g s 0 0 else _) = _
  rw [if_pos (by have := FP.Core.tails_two hg; omega)]
  unfold FP.Core.assemble
  simp
theorem pack_s0 (fb le : Int32) (inf sb : Int64) (neg e : Int32) : s_X0_pack fb le inf sb neg e 0 = if neg = 0 then 0 else sb := by
  unfold s_X0_pack s_X0_pack_j12
  by_cases h : neg = 0
  · rw [if_pos h, if_pos rfl, if_pos h]
  · rw [if_neg h, if_pos rfl, if_neg h]
theorem sig_0 {f : FP.Core.Fmt} {FB : Nat} {fb le : Int32} {inf sb : Int64} (hF : FmtIs f FB fb le inf sb) (a : Int64) (hM : uN a % (f.exps * f.tails) = 0) : s_X0_significand fb le inf sb a = 0 := by
  have hmag := (mag_uN hF a).trans hM
  have h0 : s_X0_magnitude fb le inf sb a = 0 := uN_inj (hmag.trans uN_0.symm)
  obtain ⟨hf, rfl, ⟨hFB0, hFB⟩, hp, hle, ⟨hq1, hq2⟩, hinf, hsb, hex, hsz⟩ := hF
  have hFBp : 2 ^ FB ≤ 2 ^ 52 := Nat.pow_le_pow_right (by decide) hFB
  have hpos := Nat.two_pow_pos FB
  have h1fb : uN (lShl 1 (Int32.ofNat FB)) = 2 ^ FB := by rw [uN_shl _ (by omega), uN_1, Nat.one_mul, Nat.mod_eq_of_lt (by omega)]
  unfold s_X0_significand
  rw [h0, if_neg (by rw [le_uN (by rw [h1fb]; omega) (by decide), h1fb, uN_0]; omega)]
  unfold lShl
  exact Int64.zero_shiftLeft
/-- of a number that is no NaN -/
theorem converted_eq {f g : FP.Core.Fmt} {FB FB2 : Nat} {fb le fb2 le2 : Int32} {inf sb inf2 sb2 : Int64} (hF : FmtIs f FB fb le inf sb) (hG : FmtIs g FB2 fb2 le2 inf2 sb2) (a : Int64) (hn : uN a % (f.exps * f.tails) ≤ (f.exps - 1) * f.tails) : uN (s_X3_converted fb le inf sb fb2 le2 inf2 sb2 a) = FP.Core.convert f g (uN a) := by
  have hF' := hF
  have hG' := hG
  obtain ⟨hf, -, -, -, -, -, hinf, -, hex, hsz⟩ := hF'
  obtain ⟨hg, -, -, -, -, -, hinf2, hsb2, hex2, hsz2⟩ := hG'
  have htp := FP.Core.tails_two hf
  have htp2 := FP.Core.tails_two hg
  have hE := FP.Core.emax_exps hf
  have hE1 := FP.Core.emax_pos hf
  have hE2 := FP.Core.emax_exps hg
  have hexp : (f.exps - 1) * f.tails < f.exps * f.tails := Nat.mul_lt_mul_of_pos_right (by omega) (by omega)
  have hexp2 : (g.exps - 1) * g.tails < g.exps * g.tails := Nat.mul_lt_mul_of_pos_right (by omega) (by omega)
  obtain ⟨M, hM⟩ : ∃ M, uN a % (f.exps * f.tails) = M := ⟨_, rfl⟩
  have hmag := (mag_uN hF a).trans hM
  rw [hM] at hn
  have hfE : FP.Core.fieldE f (uN a) = M / f.tails := by
    unfold FP.Core.fieldE
    rw [← hM, Nat.mul_comm f.exps, Nat.mod_mul_right_div_self]
  have hfT : FP.Core.fieldT f (uN a) = M % f.tails := by
    unfold FP.Core.fieldT
    rw [← hM, Nat.mul_comm f.exps, Nat.mod_mul_right_mod]
  have hnan : s_X0_isNaN fb le inf sb a = 0 := by
    unfold s_X0_isNaN
    rw [if_pos ((le_uN (by rw [hmag]; omega) (by rw [hinf]; omega)).mpr (by rw [hmag, hinf]; exact hn))]
  have hng := neg_uN hF a
  unfold s_X3_converted
  rw [if_pos hnan]
  show _ = FP.Core.encode g (FP.Core.round g (FP.Core.decode f (uN a)))
  by_cases ci : M = (f.exps - 1) * f.tails
  · have hi : s_X0_isInfinite fb le inf sb a = 1 := by
      unfold s_X0_isInfinite
      rw [if_pos (uN_inj (by rw [hmag, hinf, ci]))]
    have hd : FP.Core.decode f (uN a) = .inf (FP.Core.fieldS f (uN a)) := by
      unfold FP.Core.decode
      rw [hfE, hfT, ci, Nat.mul_div_cancel _ (by omega), Nat.mul_mod_left, if_pos rfl, if_pos rfl]
    rw [hi, if_neg (by decide), hd, hng]
    show _ = FP.Core.assemble g (FP.Core.fieldS f (uN a)) (g.exps - 1) 0
    unfold FP.Core.assemble
    cases hsg : FP.Core.fieldS f (uN a) with
    | false =>
      rw [if_pos (show (if false = true then (1 : Int32) else 0) = 0 by decide), hinf2]
      simp
    | true =>
      rw [if_pos rfl, if_neg (by decide), uN_or, hsb2, hinf2]
      have := or_sign (f := g) 1 hexp2
      rw [Nat.one_mul] at this
      rw [this, Nat.add_mul]
      simp
  · have hi : s_X0_isInfinite fb le inf sb a = 0 := by
      unfold s_X0_isInfinite
      rw [if_neg (fun z => ci (by rw [← hmag, ← hinf, z]))]
    have hlt : M < (f.exps - 1) * f.tails := by omega
    have hEl : M / f.tails < f.exps - 1 := Nat.div_lt_of_lt_mul (by rw [Nat.mul_comm]; exact hlt)
    rw [hi, if_pos rfl]
    have hdec : decide (s_X0_isNegative fb le inf sb a ≠ 0) = FP.Core.fieldS f (uN a) := by
      rw [hng]
      cases FP.Core.fieldS f (uN a) <;> rfl
    rw [← Int32.add_zero (s_X0_exponent fb le inf sb a)]
    by_cases c0 : M = 0
    · rw [sig_0 hF a (hM.trans c0), pack_s0]
      have hd : FP.Core.decode f (uN a) = .fin (FP.Core.fieldS f (uN a)) 0 f.qmin := by
        unfold FP.Core.decode
        rw [hfE, hfT, c0, Nat.zero_div, Nat.zero_mod, if_neg (by omega), if_pos rfl]
      rw [hd]
      show _ = FP.Core.encode g (FP.Core.roundRatio g (FP.Core.fieldS f (uN a)) 0 1 f.qmin)
      rw [enc_fin0 hg, hng]
      cases FP.Core.fieldS f (uN a) with
      | false =>
        rw [if_pos (show (if false = true then (1 : Int32) else 0) = 0 by decide), uN_0]
        simp
      | true =>
        rw [if_pos rfl, if_neg (by decide), hsb2]
        simp
    · by_cases cs : M < f.tails
      · rw [pack_sub hF hG a hM c0 cs _ 0 (by decide), hdec, show (0 : Int32).toInt = 0 from by decide, Int.add_zero]
        have hd : FP.Core.decode f (uN a) = .fin (FP.Core.fieldS f (uN a)) M f.qmin := by
          unfold FP.Core.decode
          rw [hfE, hfT, Nat.div_eq_of_lt cs, Nat.mod_eq_of_lt cs, if_neg (by omega), if_pos rfl]
        rw [hd]
        rfl
      · have cs' : f.tails ≤ M := by omega
        have hd1 : 1 ≤ M / f.tails := (Nat.one_le_div_iff (by omega)).mpr cs'
        rw [pack_norm hF hG a hM cs' (by omega) _ 0 (by decide), hdec, show (0 : Int32).toInt = 0 from by decide, Int.add_zero]
        have hd : FP.Core.decode f (uN a) = .fin (FP.Core.fieldS f (uN a)) (f.tails + M % f.tails) (f.qmin + (((M / f.tails : Nat) : Int) - 1)) := by
          unfold FP.Core.decode
          rw [hfE, hfT, if_neg (by omega), if_neg (by omega)]
        rw [hd]
        show _ = FP.Core.encode g (FP.Core.roundRatio g (FP.Core.fieldS f (uN a)) (f.tails + M % f.tails) 1 (f.qmin + (((M / f.tails : Nat) : Int) - 1)))
        rw [Int.add_sub_assoc]
