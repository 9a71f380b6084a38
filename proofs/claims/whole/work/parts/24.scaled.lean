/-! ===== times a power of two ===== -/
theorem fE_M {f : FP.Core.Fmt} {n M : Nat} (hM : n % (f.exps * f.tails) = M) : FP.Core.fieldE f n = M / f.tails ∧ FP.Core.fieldT f n = M % f.tails := by
  refine ⟨?_, ?_⟩
  · unfold FP.Core.fieldE
    rw [← hM, Nat.mul_comm f.exps, Nat.mod_mul_right_div_self]
  · unfold FP.Core.fieldT
    rw [← hM, Nat.mul_comm f.exps, Nat.mod_mul_right_mod]
theorem dec_sub {f : FP.Core.Fmt} (hf : FP.Core.Good f) {n M : Nat} (hM : n % (f.exps * f.tails) = M) (h : M < f.tails) : FP.Core.decode f n = .fin (FP.Core.fieldS f n) M f.qmin := by
  have hE := FP.Core.emax_exps hf
  have hE1 := FP.Core.emax_pos hf
  unfold FP.Core.decode
  rw [(fE_M hM).1, (fE_M hM).2, Nat.div_eq_of_lt h, Nat.mod_eq_of_lt h, if_neg (by omega), if_pos rfl]
theorem dec_norm {f : FP.Core.Fmt} (hf : FP.Core.Good f) {n M : Nat} (hM : n % (f.exps * f.tails) = M) (h1 : f.tails ≤ M) (h2 : M < (f.exps - 1) * f.tails) : FP.Core.decode f n = .fin (FP.Core.fieldS f n) (f.tails + M % f.tails) (f.qmin + (((M / f.tails : Nat) : Int) - 1)) := by
  have ht := FP.Core.tails_two hf
  have hEl : M / f.tails < f.exps - 1 := Nat.div_lt_of_lt_mul (by rw [Nat.mul_comm]; exact h2)
  have hd1 : 1 ≤ M / f.tails := (Nat.one_le_div_iff (by omega)).mpr h1
  unfold FP.Core.decode
  rw [(fE_M hM).1, (fE_M hM).2, if_neg (by omega), if_neg (by omega)]
theorem dec_inf {f : FP.Core.Fmt} (hf : FP.Core.Good f) {n : Nat} (hM : n % (f.exps * f.tails) = (f.exps - 1) * f.tails) : FP.Core.decode f n = .inf (FP.Core.fieldS f n) := by
  have ht := FP.Core.tails_two hf
  unfold FP.Core.decode
  rw [(fE_M hM).1, (fE_M hM).2, Nat.mul_div_cancel _ (by omega), Nat.mul_mod_left, if_pos rfl, if_pos rfl]
theorem sign_0 (a : Int64) : FP.Core.fieldS FP.Core.b64 (uN a) = decide (¬ 0 ≤ a) := by
  have hl := uN_lt a
  show (uN a / 4503599627370496 / 2048 % 2 == 1) = _
  by_cases h : 0 ≤ a
  · have h1 := (ge0_uN a).mp h
    rw [show uN a / 4503599627370496 / 2048 % 2 = 0 by omega]
    simp [h]
  · have h1 : 2 ^ 63 ≤ uN a := by
      rw [ge0_uN] at h
      omega
    rw [show uN a / 4503599627370496 / 2048 % 2 = 1 by omega]
    simp [h]
theorem scaled_pk (a : Int64) (j : Int32) (h : s_X0_isInfinite 52 (-1074) 9218868437227405312 (-9223372036854775808) a = 0) : s_X3_scaled a j = s_X3_scaled_j26 a j (if 0 ≤ a then 0 else 1) := by
  unfold s_X3_scaled
  rw [if_pos h]
  by_cases h0 : 0 ≤ a
  · rw [if_pos h0, if_pos h0]
  · rw [if_neg h0, if_neg h0]
theorem mul_pow (s : Bool) (c : Nat) (q jj : Int) : FP.Core.round FP.Core.b64 (FP.Core.exactProduct (.fin s c q) (.fin false (2 ^ 52) (jj - 52))) = FP.Core.roundRatio FP.Core.b64 s c 1 (q + jj) := by
  show FP.Core.roundRatio FP.Core.b64 (s != false) (c * 2 ^ 52) 1 (q + (jj - 52)) = _
  rw [show (s != false) = s from by cases s <;> rfl]
  refine FP.Core.roundRatio_congr (by decide) (by decide) ?_
  rw [show (q + (jj - 52) - (q + jj)).toNat = 0 by omega, show (q + jj - (q + (jj - 52))).toNat = 52 by omega, Nat.pow_zero, Nat.mul_one, Nat.mul_one, Nat.mul_one]
theorem scaled_eq {a : Int64} (hn : isN a) {j : Int32} {y : UInt64} (hj : -1000 ≤ j.toInt ∧ j.toInt ≤ 1000) (hy : FP.Core.decode FP.Core.b64 y.toNat = .fin false (2 ^ 52) (j.toInt - 52)) : s_X9_doubleBits (FP.dmul (s_X9_realBits a) y) = s_X3_scaled a j := by
  have hl := uN_lt a
  have hM := (isN_uN a).mp hn
  have hm := x0_mag a
  obtain ⟨M, hMM⟩ : ∃ M, uN a % 2 ^ 63 = M := ⟨_, rfl⟩
  rw [hMM] at hM
  have hMf : uN a % (FP.Core.b64.exps * FP.Core.b64.tails) = M := by rw [et64]; exact hMM
  have ht : FP.Core.b64.tails = 2 ^ 52 := by decide
  rw [rb_num hn]
  by_cases ci : M = 9218868437227405312
  · have hi : s_X0_isInfinite 52 (-1074) 9218868437227405312 (-9223372036854775808) a = 1 := by
      unfold s_X0_isInfinite
      rw [if_pos (uN_inj (by rw [hm, uN_and63, hMM, ci]; rfl))]
    have hsc : s_X3_scaled a j = a := by
      unfold s_X3_scaled
      rw [hi, if_neg (by decide)]
    rw [hsc]
    refine db_enc (d := FP.Core.round FP.Core.b64 (FP.Core.exactProduct (FP.Core.decode FP.Core.b64 (uN a)) (FP.Core.decode FP.Core.b64 y.toNat))) (FP.Core.round_fits FP.Core.good_b64 _) ?_ ?_
    · rw [dec_inf FP.Core.good_b64 (by rw [hMf, ci]; decide), hy]
      intro z
      cases z
    · rw [dec_inf FP.Core.good_b64 (by rw [hMf, ci]; decide), hy]
      show _ = FP.Core.assemble FP.Core.b64 (FP.Core.fieldS FP.Core.b64 (uN a) != false) 2047 0
      show _ = (((FP.Core.fieldS FP.Core.b64 (uN a) != false).toNat * 2048 + 2047) * 4503599627370496 + 0)
      rw [sign_0]
      by_cases h0 : 0 ≤ a
      · have h1 := (ge0_uN a).mp h0
        simp [h0]
        omega
      · have h1 : 2 ^ 63 ≤ uN a := by
          rw [ge0_uN] at h0
          omega
        simp [h0]
        omega
  · have hi : s_X0_isInfinite 52 (-1074) 9218868437227405312 (-9223372036854775808) a = 0 := by
      unfold s_X0_isInfinite
      rw [if_neg (fun z => ci (by rw [← hMM, ← uN_and63, ← hm, z]; rfl))]
    have hdec : decide ((if 0 ≤ a then (0 : Int32) else 1) ≠ 0) = FP.Core.fieldS FP.Core.b64 (uN a) := by
      rw [sign_0]
      by_cases h0 : 0 ≤ a
      · simp [h0]
      · simp [h0]
    rw [scaled_pk a j hi]
    unfold s_X3_scaled_j26
    by_cases cs : M < FP.Core.b64.tails
    · have hd := dec_sub FP.Core.good_b64 hMf cs
      refine db_enc (d := FP.Core.round FP.Core.b64 (FP.Core.exactProduct (FP.Core.decode FP.Core.b64 (uN a)) (FP.Core.decode FP.Core.b64 y.toNat))) (FP.Core.round_fits FP.Core.good_b64 _) ?_ ?_
      · rw [hd, hy, mul_pow]
        exact FP.Core.roundRatio_ne_nan _ _ _ _ _
      · rw [hd, hy, mul_pow]
        by_cases c0 : M = 0
        · subst c0
          rw [sig_0 is64 a hMf, pack_s0, enc_fin0 FP.Core.good_b64, ← hdec]
          by_cases h0 : 0 ≤ a
          · simp [h0, uN_0]
          · simp [h0]
            decide
        · rw [pack_sub is64 is64 a hMf c0 cs _ j hj, hdec]
    · have hd := dec_norm FP.Core.good_b64 hMf (by omega) (by rw [et64i]; omega)
      refine db_enc (d := FP.Core.round FP.Core.b64 (FP.Core.exactProduct (FP.Core.decode FP.Core.b64 (uN a)) (FP.Core.decode FP.Core.b64 y.toNat))) (FP.Core.round_fits FP.Core.good_b64 _) ?_ ?_
      · rw [hd, hy, mul_pow]
        exact FP.Core.roundRatio_ne_nan _ _ _ _ _
      · rw [hd, hy, mul_pow, pack_norm is64 is64 a hMf (by omega) (by rw [et64]; omega) _ j hj, hdec, Int.add_sub_assoc]
theorem times_8 {a : Int64} (hn : isN a) : s_X9_doubleBits (FP.dmul (s_X9_realBits a) 4620693217682128896) = s_X3_scaled a 3 := scaled_eq hn (by decide) (by decide +kernel)
theorem times_eighth {a : Int64} (hn : isN a) : s_X9_doubleBits (FP.dmul (s_X9_realBits a) 4593671619917905920) = s_X3_scaled a (-3) := scaled_eq hn (by decide) (by decide +kernel)
