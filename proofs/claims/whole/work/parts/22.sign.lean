/-! ===== the sign of another; sizes ===== -/
theorem or_comm64 (a b : Int64) : a ||| b = b ||| a := by
  apply uN_inj
  rw [uN_or, uN_or, Nat.or_comm]
theorem withSign_eq (a b : Int64) : (if dEq (s_X9_realBits a) (s_X9_realBits a) then if dEq (s_X9_realBits b) (s_X9_realBits b) then (a &&& 9223372036854775807) ||| (b &&& (-9223372036854775808)) else (a &&& 9223372036854775807) ||| 0 else s_X9_doubleBits (s_X9_realBits a)) = s_X3_withSignOf a b := by
  unfold s_X3_withSignOf
  by_cases ha : isN a
  · rw [if_pos (dEq_self ha), x0_num ha, if_pos rfl]
    by_cases hb : isN b
    · rw [if_pos (dEq_self hb), x0_num hb, if_pos rfl]
      unfold s_X3_withSignOf_j36
      rw [x0_mag, or_comm64]
    · rw [if_neg (dEq_nself hb), x0_nan hb, if_neg (by decide)]
      unfold s_X3_withSignOf_j36
      rw [x0_mag, or_comm64]
  · rw [if_neg (dEq_nself ha), x0_nan ha, if_neg (by decide), rb_nan ha, pn_64]
    exact db_nan
