/-! ===== floats: bits of results, conversions ===== -/
theorem enc_lt32 {d : FP.Core.Datum} (hd : FP.Core.fits FP.Core.b32 d) : FP.Core.encode FP.Core.b32 d < 2 ^ 32 := by
  have h := FP.Core.encode_lt FP.Core.good_b32 d hd
  rw [FP.Core.size_b32] at h
  exact h
theorem enc_num32 {d : FP.Core.Datum} (hd : FP.Core.fits FP.Core.b32 d) (hn : d ≠ .nan) : FP.Core.fIsNaN (UInt32.ofNat (FP.Core.encode FP.Core.b32 d)) = false := by
  rw [FP.Core.notNaN_iff32]
  unfold FP.Core.val32
  rw [UInt32.toNat_ofNat_of_lt' (enc_lt32 hd), FP.Core.decode_encode FP.Core.good_b32 d hd]
  exact hn
theorem u32_i64 {E : Nat} (h : E < 2 ^ 32) {r : Int64} (hr : uN r = E) : (UInt32.ofNat E).toInt32 = r.toInt32 := by
  apply Int32.toInt.inj
  rw [Int64.toInt_toInt32, uN_pos (by omega), hr, i32_toInt]
  have e : (UInt32.ofNat E).toInt32.toBitVec.toNat = E := UInt32.toNat_ofNat_of_lt' h
  rw [e]
  unfold Int.bmod
  have e2 : ((E : Int) % ((2 ^ 32 : Nat) : Int)) = (E : Int) := Int.emod_eq_of_lt (by omega) (by omega)
  rw [e2]
  show _ = (if (E : Int) < (((2 ^ 32 : Nat) : Int) + 1) / 2 then (E : Int) else (E : Int) - ((2 ^ 32 : Nat) : Int))
  split <;> split <;> omega
theorem fb_enc {d : FP.Core.Datum} (hd : FP.Core.fits FP.Core.b32 d) (hn : d ≠ .nan) {r : Int64} (hr : uN r = FP.Core.encode FP.Core.b32 d) : s_X9_floatBits (UInt32.ofNat (FP.Core.encode FP.Core.b32 d)) = r.toInt32.toInt64 := by
  have h1 := fEq_of (enc_num32 hd hn)
  unfold s_X9_floatBits
  rw [if_pos h1]
  have h2 : s_Jxf58ca_floatToIntBits_5c35a (UInt32.ofNat (FP.Core.encode FP.Core.b32 d)) = (UInt32.ofNat (FP.Core.encode FP.Core.b32 d)).toInt32 := by
    unfold s_Jxf58ca_floatToIntBits_5c35a s_Jxf58ca_isNaN_12338
    simp [h1]
  rw [h2, u32_i64 (enc_lt32 hd) hr]
theorem widen_1 (v : Int64) : s_X9_floatBits (FP.l2f v) = (s_X3_fromLong 23 (-149) 2139095040 2147483648 v).toInt32.toInt64 :=
  fb_enc (d := FP.Core.round FP.Core.b32 (FP.Core.ofInt v.toInt)) (FP.Core.round_fits FP.Core.good_b32 _) (FP.Core.roundRatio_ne_nan _ _ _ _ _) (fromLong_eq is32 v)
theorem widen_3 (v : Int32) : s_X9_floatBits (FP.i2f v) = (s_X3_fromLong 23 (-149) 2139095040 2147483648 v.toInt64).toInt32.toInt64 :=
  fb_enc (d := FP.Core.round FP.Core.b32 (FP.Core.ofInt v.toInt)) (FP.Core.round_fits FP.Core.good_b32 _) (FP.Core.roundRatio_ne_nan _ _ _ _ _) ((fromLong_eq is32 v.toInt64).trans (by rw [Int32.toInt_toInt64]; rfl))
theorem round_nn {g : FP.Core.Fmt} {d : FP.Core.Datum} (h : d ≠ .nan) : FP.Core.round g d ≠ .nan := by
  cases d with
  | nan => exact absurd rfl h
  | inf s => intro z; cases z
  | fin s c q => exact FP.Core.roundRatio_ne_nan _ _ _ _ _
theorem et64 : FP.Core.b64.exps * FP.Core.b64.tails = 2 ^ 63 := by decide
theorem et64i : (FP.Core.b64.exps - 1) * FP.Core.b64.tails = 9218868437227405312 := by decide
/-- a double that is a number, as a float -/
theorem narrow_num {a : Int64} (h : isN a) : s_X9_floatBits (FP.d2f (s_X9_realBits a)) = (s_X3_converted 52 (-1074) 9218868437227405312 (-9223372036854775808) 23 (-149) 2139095040 2147483648 a).toInt32.toInt64 := by
  have hv := rb_ok h
  rw [rb_num h, FP.d2f_core ((FP.Core.notNaN_iff _).mpr hv)]
  unfold FP.Core.val64 at hv
  rw [uN_u] at hv
  exact fb_enc (d := FP.Core.round FP.Core.b32 (FP.Core.decode FP.Core.b64 (uN a))) (FP.Core.round_fits FP.Core.good_b32 _) (round_nn hv) (converted_eq is64 is32 a (by rw [et64, et64i]; exact (isN_uN a).mp h))
theorem et32 : FP.Core.b32.exps * FP.Core.b32.tails = 2 ^ 31 := by decide
theorem et32i : (FP.Core.b32.exps - 1) * FP.Core.b32.tails = 2139095040 := by decide
theorem narrow_nan {a : Int64} (h : ¬ isN a) : (s_X3_converted 52 (-1074) 9218868437227405312 (-9223372036854775808) 23 (-149) 2139095040 2147483648 a).toInt32.toInt64 = 2143289344 := by
  unfold s_X3_converted
  rw [x0_nan h, if_neg (by decide)]
  decide +kernel
/-- an int's bits as a float's, widened -/
theorem dec_low (n : Nat) : FP.Core.decode FP.Core.b32 (n % 2 ^ 32) = FP.Core.decode FP.Core.b32 n := by
  have hT : FP.Core.fieldT FP.Core.b32 (n % 2 ^ 32) = FP.Core.fieldT FP.Core.b32 n := by
    show n % 2 ^ 32 % 8388608 = n % 8388608
    omega
  have hE : FP.Core.fieldE FP.Core.b32 (n % 2 ^ 32) = FP.Core.fieldE FP.Core.b32 n := by
    show n % 2 ^ 32 / 8388608 % 256 = n / 8388608 % 256
    omega
  have hS : FP.Core.fieldS FP.Core.b32 (n % 2 ^ 32) = FP.Core.fieldS FP.Core.b32 n := by
    show (n % 2 ^ 32 / 8388608 / 256 % 2 == 1) = (n / 8388608 / 256 % 2 == 1)
    rw [show n % 2 ^ 32 / 8388608 / 256 % 2 = n / 8388608 / 256 % 2 by omega]
  unfold FP.Core.decode
  rw [hT, hE, hS]
