/-! ===== a float's bits widened ===== -/
abbrev isF (b : Int32) : Prop := (b &&& 2147483647) ≤ 2139095040
theorem isF_nat (b : Int32) : isF b ↔ b.toBitVec.toNat % 2 ^ 31 ≤ 2139095040 := by
  have h2 : b.toBitVec.toNat % 2 ^ 31 < 2 ^ 31 := Nat.mod_lt _ (by decide)
  unfold isF
  rw [Int32.le_iff_toInt_le, i32_toInt, i32_and31, if_pos h2, show (2139095040 : Int32).toInt = 2139095040 from by decide]
  omega
theorem low_32 (a : Int64) : a.toInt32.toBitVec.toNat = uN a % 2 ^ 32 := by
  have h1 : a.toInt32.toInt = a.toInt.bmod (2 ^ 32) := Int64.toInt_toInt32 a
  have h2 := u32_lt a.toInt32
  have h3 := uN_lt a
  rw [i32_toInt, toInt_uN] at h1
  unfold Int.bmod at h1
  simp only at h1
  split at h1 <;> split at h1 <;> split at h1 <;> omega
theorem x0f_num {a : Int64} : s_X0_isNaN 23 (-149) 2139095040 2147483648 a = if isF a.toInt32 then 0 else 1 := by
  have h1 := mag_uN is32 a
  rw [et32] at h1
  have h4 : uN a % 2 ^ 31 < 2 ^ 31 := Nat.mod_lt _ (by decide)
  unfold s_X0_isNaN
  have e : s_X0_magnitude 23 (-149) 2139095040 2147483648 a ≤ 2139095040 ↔ isF a.toInt32 := by
    rw [isF_nat, low_32, le_uN (by rw [h1]; omega) (by decide), h1]
    show uN a % 2 ^ 31 ≤ 2139095040 ↔ _
    omega
  by_cases h : isF a.toInt32
  · rw [if_pos h, if_pos (e.mpr h)]
  · rw [if_neg h, if_neg (fun z => h (e.mp z))]
/-- the bits that 'wide' gives are those that 'converted' gives -/
theorem wide_num {a : Int64} (h : isF a.toInt32) : s_X9_wide a.toInt32 = (s_X3_converted 23 (-149) 2139095040 2147483648 52 (-1074) 9218868437227405312 (-9223372036854775808) a).toUInt64 ∧ isN (s_X3_converted 23 (-149) 2139095040 2147483648 52 (-1074) 9218868437227405312 (-9223372036854775808) a) := by
  have hb : s_X9_singleBits a.toInt32 = a.toInt32.toUInt32 := if_pos h
  have hn : (a.toInt32.toUInt32).toNat = uN a % 2 ^ 32 := low_32 a
  have hv : FP.Core.val32 a.toInt32.toUInt32 ≠ .nan := by
    rw [FP.Core.ne_nan32, hn]
    have := (isF_nat _).mp h
    rw [low_32] at this
    exact this
  have hN := (FP.Core.notNaN_iff32 _).mpr hv
  have hd : FP.Core.decode FP.Core.b32 (uN a) ≠ .nan := by
    rw [← dec_low, ← hn]
    exact hv
  have hc := converted_eq is32 is64 a (by
    rw [et32, et32i]
    have := (isF_nat _).mp h
    rw [low_32] at this
    omega)
  have hfit := FP.Core.round_fits FP.Core.good_b64 (FP.Core.decode FP.Core.b32 (uN a))
  have hw : s_X9_wide a.toInt32 = UInt64.ofNat (FP.Core.encode FP.Core.b64 (FP.Core.round FP.Core.b64 (FP.Core.decode FP.Core.b32 (uN a)))) := by
    unfold s_X9_wide
    rw [hb, if_pos (fEq_of hN), FP.f2d_core hN]
    unfold FP.Core.f2d FP.Core.convert
    rw [hn, dec_low]
  have hcn : uN (s_X3_converted 23 (-149) 2139095040 2147483648 52 (-1074) 9218868437227405312 (-9223372036854775808) a) = FP.Core.encode FP.Core.b64 (FP.Core.round FP.Core.b64 (FP.Core.decode FP.Core.b32 (uN a))) := hc
  have he : s_X9_wide a.toInt32 = (s_X3_converted 23 (-149) 2139095040 2147483648 52 (-1074) 9218868437227405312 (-9223372036854775808) a).toUInt64 := by
    rw [hw]
    apply UInt64.toNat.inj
    rw [UInt64.toNat_ofNat_of_lt' (enc_lt64 hfit), uN_u, hcn]
  refine ⟨he, ?_⟩
  rw [isN_uN, ← uN_u, ← he, hw]
  exact (FP.Core.ne_nan _).mp ((FP.Core.notNaN_iff _).mp (enc_num64 hfit (round_nn hd)))
theorem wide_nan {a : Int64} (h : ¬ isF a.toInt32) : s_X9_wide a.toInt32 = 9221120237041090560 ∧ s_X3_converted 23 (-149) 2139095040 2147483648 52 (-1074) 9218868437227405312 (-9223372036854775808) a = 9221120237041090560 := by
  have hb : s_X9_singleBits a.toInt32 = 2143289344 := if_neg h
  refine ⟨?_, ?_⟩
  · unfold s_X9_wide
    rw [hb]
    decide +kernel
  · unfold s_X3_converted
    rw [x0f_num, if_neg h, if_neg (by decide), pn_64]
/-- the double of a float's bits, on both sides -/
theorem wide_eq (a : Int64) : s_X9_wide a.toInt32 = s_X9_realBits (s_X3_converted 23 (-149) 2139095040 2147483648 52 (-1074) 9218868437227405312 (-9223372036854775808) a) := by
  by_cases h : isF a.toInt32
  · rw [(wide_num h).1, rb_num (wide_num h).2]
  · rw [(wide_nan h).1, (wide_nan h).2]
    decide +kernel
theorem db_real {a : Int64} (h : isN a) : s_X9_doubleBits (s_X9_realBits a) = a := by
  have h1 := dEq_self h
  unfold s_X9_doubleBits
  rw [if_pos h1]
  unfold s_Jxe99ae_doubleToLongBits_ccdee s_Jxe99ae_isNaN_b9ae7
  rw [if_pos h1, if_pos rfl, rb_num h]
  rfl
theorem widen_2 (a : Int64) : s_X9_doubleBits (s_X9_wide a.toInt32) = s_X3_converted 23 (-149) 2139095040 2147483648 52 (-1074) 9218868437227405312 (-9223372036854775808) a := by
  by_cases h : isF a.toInt32
  · rw [wide_eq, db_real (wide_num h).2]
  · rw [(wide_nan h).1, (wide_nan h).2]
    exact db_nan
