/-! ===== zero, signum, the next above ===== -/
theorem zero_num {a : Int64} (h : isN a) : dEq (s_X9_realBits a) FP.dconst0 ↔ s_X0_isZero 52 (-1074) 9218868437227405312 (-9223372036854775808) a = 1 := by
  have hl := uN_lt a
  have h0 : isN 0 := by decide
  have e0 : FP.dconst0 = (0 : Int64).toUInt64 := by decide +kernel
  have ez : s_X0_isZero 52 (-1074) 9218868437227405312 (-9223372036854775808) a = 1 ↔ uN a % 2 ^ 63 = 0 := by
    unfold s_X0_isZero
    rw [x0_mag]
    have e : a &&& 9223372036854775807 = 0 ↔ uN a % 2 ^ 63 = 0 := by rw [eq_uN, uN_and63, uN_0]
    by_cases hz : uN a % 2 ^ 63 = 0
    · rw [if_pos (e.mpr hz)]
      exact ⟨fun _ => hz, fun _ => rfl⟩
    · rw [if_neg (fun z => hz (e.mp z))]
      exact ⟨fun z => absurd z (by decide), fun z => absurd z hz⟩
  rw [rb_num h, e0, dEq_rank h h0, ez, ← Int64.toInt_inj, show (s_X3_rank 0).toInt = 0 from by decide +kernel]
  by_cases hp : 0 ≤ a
  · rw [rank_pos hp]
    have := (ge0_uN a).mp hp
    omega
  · have e := rank_neg hp
    rw [e.1]
    omega
theorem isZero_01 (a : Int64) : s_X0_isZero 52 (-1074) 9218868437227405312 (-9223372036854775808) a = 0 ∨ s_X0_isZero 52 (-1074) 9218868437227405312 (-9223372036854775808) a = 1 := by
  unfold s_X0_isZero
  split
  · exact Or.inr rfl
  · exact Or.inl rfl
theorem isZero_not {a : Int64} : ¬ s_X0_isZero 52 (-1074) 9218868437227405312 (-9223372036854775808) a = 1 ↔ s_X0_isZero 52 (-1074) 9218868437227405312 (-9223372036854775808) a = 0 := by
  rcases isZero_01 a with h | h
  · rw [h]
    decide
  · rw [h]
    decide
