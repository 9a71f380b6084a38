/-! ===== the distance to the next, on both sides ===== -/
theorem e_ofNat (a : Int64) : (lUshr a 52 &&& 2047).toInt32 = Int32.ofNat (uN a % 2 ^ 63 / 2 ^ 52) := by
  have e : uN (lUshr a 52 &&& 2047) = uN a % 2 ^ 63 / 2 ^ 52 := by
    rw [uN_and, show (52 : Int32) = Int32.ofNat 52 from by decide, uN_ushr _ (by decide), uN_2047, Nat.and_two_pow_sub_one_eq_mod]
    omega
  rw [uN_i32 (by rw [e]; omega), e]
theorem ulp_eq {a : Int64} (h : isN a) : (if (lUshr a 52 &&& 2047).toInt32 = 2047 then 9218868437227405312 else if 2 ≤ (lUshr a 52 &&& 2047).toInt32 then (if (lUshr a 52 &&& 2047).toInt32 ≤ 52 then lShl 1 ((lUshr a 52 &&& 2047).toInt32 - 1) else lShl (((lUshr a 52 &&& 2047).toInt32 - 52).toInt64) 52) else 1) = s_X3_distanceToNext a := by
  rw [e_ofNat]
  have hM := (isN_uN a).mp h
  obtain ⟨M, hMM⟩ : ∃ M, uN a % 2 ^ 63 = M := ⟨_, rfl⟩
  have hMf : uN a % (FP.Core.b64.exps * FP.Core.b64.tails) = M := by rw [et64]; exact hMM
  rw [hMM] at hM ⊢
  have ht : FP.Core.b64.tails = 2 ^ 52 := by decide
  have hq : FP.Core.b64.qmin = -1074 := by decide
  have hle : (-1074 : Int32).toInt = -1074 := by decide
  unfold s_X3_distanceToNext
  by_cases ci : M = 9218868437227405312
  · have hi : s_X0_isInfinite 52 (-1074) 9218868437227405312 (-9223372036854775808) a = 1 := by
      unfold s_X0_isInfinite
      rw [if_pos (uN_inj (by rw [x0_mag, uN_and63, hMM, ci]; rfl))]
    rw [hi, ci, if_pos (by decide), if_neg (by decide)]
  · have hi : s_X0_isInfinite 52 (-1074) 9218868437227405312 (-9223372036854775808) a = 0 := by
      unfold s_X0_isInfinite
      rw [if_neg (fun z => ci (by rw [← hMM, ← uN_and63, ← x0_mag, z]; rfl))]
    have hEl : M / 2 ^ 52 < 2047 := by omega
    rw [hi, if_pos rfl, if_neg (fun z => by
      have z2 := congrArg Int32.toInt z
      rw [i_toInt (by omega), show (2047 : Int32).toInt = 2047 from by decide] at z2
      omega)]
    by_cases cs : M < FP.Core.b64.tails
    · have hE0 : M / 2 ^ 52 = 0 := Nat.div_eq_of_lt (by rw [← ht]; exact cs)
      have hx : ¬ -1074 ≤ (s_X0_exponent 52 (-1074) 9218868437227405312 (-9223372036854775808) a).toInt ∨ (s_X0_exponent 52 (-1074) 9218868437227405312 (-9223372036854775808) a).toInt = -1074 := by
        by_cases c0 : M = 0
        · left
          have h0 : s_X0_magnitude 52 (-1074) 9218868437227405312 (-9223372036854775808) a = 0 := uN_inj (by rw [x0_mag, uN_and63, hMM, c0, uN_0])
          unfold s_X0_exponent s_X0_missingPlaces
          rw [h0]
          decide +kernel
        · obtain ⟨k, -, -, -, -, e4⟩ := fin_sub is64 a hMf c0 cs
          rw [hq] at e4
          omega
      rw [hE0, if_neg (by decide)]
      have hmx : (if s_X0_exponent 52 (-1074) 9218868437227405312 (-9223372036854775808) a < -1074 then -1074 else s_X0_exponent 52 (-1074) 9218868437227405312 (-9223372036854775808) a) = -1074 := by
        by_cases hlt : s_X0_exponent 52 (-1074) 9218868437227405312 (-9223372036854775808) a < -1074
        · rw [if_pos hlt]
        · rw [if_neg hlt]
          rw [Int32.lt_iff_toInt_lt, hle] at hlt
          exact Int32.toInt.inj (by rw [hle]; omega)
      rw [hmx]
      decide +kernel
    · obtain ⟨-, e4⟩ := fin_norm is64 a hMf (by omega) (by rw [et64]; omega)
      rw [hq, ht] at e4
      have hE1 : 1 ≤ M / 2 ^ 52 := by omega
      have hex : s_X0_exponent 52 (-1074) 9218868437227405312 (-9223372036854775808) a = Int32.ofNat (M / 2 ^ 52) + (-1075) := by
        apply Int32.toInt.inj
        rw [e4, i_add (by rw [i_toInt (by omega), show (-1075 : Int32).toInt = -1075 from by decide]; omega) (by rw [i_toInt (by omega), show (-1075 : Int32).toInt = -1075 from by decide]; omega), i_toInt (by omega), show (-1075 : Int32).toInt = -1075 from by decide]
        omega
      have hmx : ¬ s_X0_exponent 52 (-1074) 9218868437227405312 (-9223372036854775808) a < -1074 := by
        rw [Int32.lt_iff_toInt_lt, hle, e4]
        omega
      rw [if_neg hmx, hex]
      exact (ulp_all _ hEl hE1).symm
