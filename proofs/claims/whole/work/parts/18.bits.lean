/-! ===== the bits of a result, as the model gives them ===== -/
theorem enc_lt64 {d : FP.Core.Datum} (hd : FP.Core.fits FP.Core.b64 d) : FP.Core.encode FP.Core.b64 d < 2 ^ 64 := by
  have h := FP.Core.encode_lt FP.Core.good_b64 d hd
  rw [FP.Core.size_b64] at h
  exact h
theorem enc_num64 {d : FP.Core.Datum} (hd : FP.Core.fits FP.Core.b64 d) (hn : d ≠ .nan) : FP.Core.dIsNaN (UInt64.ofNat (FP.Core.encode FP.Core.b64 d)) = false := by
  rw [FP.Core.notNaN_iff]
  unfold FP.Core.val64
  rw [UInt64.toNat_ofNat_of_lt' (enc_lt64 hd), FP.Core.decode_encode FP.Core.good_b64 d hd]
  exact hn
theorem db_enc {d : FP.Core.Datum} (hd : FP.Core.fits FP.Core.b64 d) (hn : d ≠ .nan) {r : Int64} (hr : uN r = FP.Core.encode FP.Core.b64 d) : s_X9_doubleBits (UInt64.ofNat (FP.Core.encode FP.Core.b64 d)) = r := by
  have h1 := dEq_of (enc_num64 hd hn)
  unfold s_X9_doubleBits
  rw [if_pos h1]
  have h2 : s_Jxe99ae_doubleToLongBits_ccdee (UInt64.ofNat (FP.Core.encode FP.Core.b64 d)) = (UInt64.ofNat (FP.Core.encode FP.Core.b64 d)).toInt64 := by
    unfold s_Jxe99ae_doubleToLongBits_ccdee s_Jxe99ae_isNaN_b9ae7
    simp [h1]
  rw [h2]
  apply uN_inj
  rw [uN_ofu, UInt64.toNat_ofNat_of_lt' (enc_lt64 hd), hr]
theorem db_nan : s_X9_doubleBits 9221120237041090560 = 9221120237041090560 := by decide +kernel
theorem widen_0 (v : Int64) : s_X9_doubleBits (FP.l2d v) = s_X3_fromLong 52 (-1074) 9218868437227405312 (-9223372036854775808) v :=
  db_enc (d := FP.Core.round FP.Core.b64 (FP.Core.ofInt v.toInt)) (FP.Core.round_fits FP.Core.good_b64 _) (FP.Core.roundRatio_ne_nan _ _ _ _ _) (fromLong_eq is64 v)
