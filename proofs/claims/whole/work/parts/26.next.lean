/-! ===== signum and the next above, on both sides ===== -/
theorem signum_eq {a : Int64} (h : isN a) : (if dEq (s_X9_realBits a) FP.dconst0 then a else s_X9_signed FP.dconst1 a) = (if s_X0_isZero 52 (-1074) 9218868437227405312 (-9223372036854775808) a = 0 then (a &&& (-9223372036854775808)) ||| 4607182418800017408 else a) := by
  by_cases hz : dEq (s_X9_realBits a) FP.dconst0
  · have h1 := (zero_num h).mp hz
    rw [if_pos hz, if_neg (by rw [h1]; decide)]
  · have h1 := isZero_not.mp (fun z => hz ((zero_num h).mpr z))
    rw [if_neg hz, if_pos h1]
    unfold s_X9_signed
    rw [show s_Jxe99ae_doubleToLongBits_ccdee FP.dconst1 &&& 9223372036854775807 = 4607182418800017408 from by decide +kernel, or_comm64]
theorem nextUp_eq {a : Int64} (h : isN a) : (if a = 9218868437227405312 then a else if dEq (s_X9_realBits a) FP.dconst0 then 1 else if a < 0 then a - 1 else a + 1) = s_X3_nextUp a := by
  by_cases hi : a = 9218868437227405312
  · subst hi
    decide +kernel
  rw [if_neg hi]
  unfold s_X3_nextUp
  by_cases hz : dEq (s_X9_realBits a) FP.dconst0
  · have h1 := (zero_num h).mp hz
    rw [if_pos hz, if_neg (by rw [h1]; decide)]
  · have h1 := isZero_not.mp (fun z => hz ((zero_num h).mpr z))
    rw [if_neg hz, if_pos h1]
    by_cases hp : 0 ≤ a
    · have g := (ge0_uN a).mp hp
      have hn : ¬ a < 0 := by
        rw [lt0_uN]
        omega
      have hinf : s_X0_isInfinite 52 (-1074) 9218868437227405312 (-9223372036854775808) a = 0 := by
        unfold s_X0_isInfinite
        rw [if_neg (fun z => hi (uN_inj (by rw [x0_mag, eq_uN, uN_and63] at z; omega)))]
      rw [if_neg hn, if_pos hp, hinf, if_pos rfl]
    · have hn : a < 0 := by
        rw [lt0_uN]
        rw [ge0_uN] at hp
        omega
      rw [if_pos hn, if_neg hp]
