/-! ===== the exponent's field ===== -/
theorem uN_2047 : uN 2047 = 2 ^ 11 - 1 := by decide
/-- the exponent's field, on both sides -/
theorem e_field (a : Int64) : lUshr (s_X0_magnitude 52 (-1074) 9218868437227405312 (-9223372036854775808) a) 52 = lUshr a 52 &&& 2047 := by
  apply uN_inj
  have h52 : (52 : Int32) = Int32.ofNat 52 := by decide
  rw [x0_mag, h52, uN_ushr _ (by decide), uN_and63, uN_and, uN_ushr _ (by decide), uN_2047, Nat.and_two_pow_sub_one_eq_mod]
  omega
theorem e_lt (a : Int64) : uN (lUshr a 52 &&& 2047) < 2048 := by
  rw [uN_and, uN_2047, Nat.and_two_pow_sub_one_eq_mod]
  omega
theorem power_eq (a : Int64) : s_X3_power a = (lUshr a 52 &&& 2047).toInt32 - 1023 := by
  unfold s_X3_power
  rw [e_field]
theorem power_math (a : Int64) : (if (lUshr a 52 &&& 2047).toInt32 = 2047 then (1024 : Int64) else ((lUshr a 52 &&& 2047).toInt32 - 1023).toInt64) = (s_X3_power a).toInt64 := by
  rw [power_eq]
  by_cases h : (lUshr a 52 &&& 2047).toInt32 = 2047
  · rw [if_pos h, h]
    decide
  · rw [if_neg h]
