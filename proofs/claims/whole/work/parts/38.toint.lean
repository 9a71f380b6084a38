/-! ===== doubles to longs and ints ===== -/
theorem d2l_nan : FP.d2l 9221120237041090560 = 0 := by decide +kernel
theorem d2i_nan : FP.d2i 9221120237041090560 = 0 := by decide +kernel
theorem one64_v : FP.Core.one64 = 2 ^ 1074 := by decide +kernel
theorem pw_M {a : Int64} : (s_X3_power a).toInt = ((uN a % 2 ^ 63 / 2 ^ 52 : Nat) : Int) - 1023 := by
  rw [power_eq, e_ofNat]
  have h : uN a % 2 ^ 63 / 2 ^ 52 < 2048 := by
    have : uN a % 2 ^ 63 < 2 ^ 63 := Nat.mod_lt _ (by decide)
    omega
  have n : (1023 : Int32).toInt = 1023 := by decide
  rw [i_sub (by rw [i_toInt (by omega), n]; omega) (by rw [i_toInt (by omega), n]; omega), i_toInt (by omega), n]
/-- the whole part of a number's size, and its sign -/
theorem d2l_U {a : Int64} (h : isN a) : (FP.d2l (s_X9_realBits a)).toInt = max (-2 ^ 63) (min (2 ^ 63 - 1) (FP.Core.signed (decide (¬ 0 ≤ a)) (FP.Core.unitsOf FP.Core.b64 (uN a % 2 ^ 63) / 2 ^ 1074))) := by
  rw [rb_num h]
  have h1 := FP.Core.d2l_val (rb_ok h)
  rw [FP.Core.zmag_bits (rb_ok h), FP.Core.sgn_bits (rb_ok h), one64_v, uN_u] at h1
  have h2 : decide (2 ^ 63 ≤ uN a) = decide (¬ 0 ≤ a) := by simp only [ge0_uN, Nat.not_lt]
  rw [h2] at h1
  exact h1
theorem d2i_U {a : Int64} (h : isN a) : (FP.d2i (s_X9_realBits a)).toInt = max (-2 ^ 31) (min (2 ^ 31 - 1) (FP.Core.signed (decide (¬ 0 ≤ a)) (FP.Core.unitsOf FP.Core.b64 (uN a % 2 ^ 63) / 2 ^ 1074))) := by
  rw [rb_num h]
  have h1 := FP.Core.d2i_val (rb_ok h)
  rw [FP.Core.zmag_bits (rb_ok h), FP.Core.sgn_bits (rb_ok h), one64_v, uN_u] at h1
  have h2 : decide (2 ^ 63 ≤ uN a) = decide (¬ 0 ≤ a) := by simp only [ge0_uN, Nat.not_lt]
  rw [h2] at h1
  exact h1
theorem pts_U {a : Int64} {c : Nat} {q : Int} (ha : Pts a c q) : c * 2 ^ (q + 1126).toNat = FP.Core.unitsOf FP.Core.b64 (uN a % 2 ^ 63) * 2 ^ 52 := by
  obtain ⟨-, -, -, ⟨hq1, hq2⟩, c0, q0, -, hq0, hq3, e1, e2⟩ := ha
  rw [← e2, ← e1, Nat.mul_assoc, Nat.mul_assoc, ← Nat.pow_add, ← Nat.pow_add]
  congr 2
  omega
/-- the whole part by the class's parts -/
theorem whole_U {a : Int64} {c : Nat} {q : Int} (ha : Pts a c q) : (0 ≤ q → FP.Core.unitsOf FP.Core.b64 (uN a % 2 ^ 63) / 2 ^ 1074 = c * 2 ^ q.toNat) ∧ (q < 0 → FP.Core.unitsOf FP.Core.b64 (uN a % 2 ^ 63) / 2 ^ 1074 = c / 2 ^ (-q).toNat) := by
  have hU := pts_U ha
  obtain ⟨-, -, -, ⟨hq1, hq2⟩, -⟩ := ha
  have e : FP.Core.unitsOf FP.Core.b64 (uN a % 2 ^ 63) / 2 ^ 1074 = c * 2 ^ (q + 1126).toNat / 2 ^ 1126 := by
    rw [hU, show (2 : Nat) ^ 1126 = 2 ^ 1074 * 2 ^ 52 from by rw [← Nat.pow_add], Nat.mul_div_mul_right _ _ (Nat.two_pow_pos 52)]
  rw [e]
  constructor
  · intro h
    rw [show (q + 1126).toNat = q.toNat + 1126 by omega, Nat.pow_add, ← Nat.mul_assoc, Nat.mul_div_cancel _ (Nat.two_pow_pos _)]
  · intro h
    rw [show (2 : Nat) ^ 1126 = 2 ^ (-q).toNat * 2 ^ (q + 1126).toNat from by rw [← Nat.pow_add]; congr 1; omega, Nat.mul_div_mul_right _ _ (Nat.two_pow_pos _)]
theorem units_pow {K : Nat} (h : 1 ≤ K) : FP.Core.unitsOf FP.Core.b64 (K * 2 ^ 52) = 2 ^ 52 * 2 ^ (K - 1) := by
  have := FP.Core.unitsOf_start (f := FP.Core.b64) h
  rw [show FP.Core.b64.tails = 2 ^ 52 from by decide] at this
  exact this
theorem W_ge {M K : Nat} (hK : 1075 ≤ K + 52) (hK1 : 1 ≤ K) (h : K * 2 ^ 52 ≤ M) : 2 ^ (K + 51 - 1074) ≤ FP.Core.unitsOf FP.Core.b64 M / 2 ^ 1074 := by
  have h1 := FP.Core.unitsOf_le_iff (f := FP.Core.b64).mpr h
  rw [units_pow hK1, ← Nat.pow_add] at h1
  rw [Nat.le_div_iff_mul_le (Nat.two_pow_pos _), ← Nat.pow_add]
  rw [show K + 51 - 1074 + 1074 = 52 + (K - 1) by omega]
  exact h1
theorem W_lt {M K : Nat} (hK : 1075 ≤ K + 52) (hK1 : 1 ≤ K) (h : M < K * 2 ^ 52) : FP.Core.unitsOf FP.Core.b64 M / 2 ^ 1074 < 2 ^ (K + 51 - 1074) := by
  have h1 := FP.Core.unitsOf_lt (f := FP.Core.b64) h
  rw [units_pow hK1, ← Nat.pow_add] at h1
  rw [Nat.div_lt_iff_lt_mul (Nat.two_pow_pos _), ← Nat.pow_add]
  rw [show K + 51 - 1074 + 1074 = 52 + (K - 1) by omega]
  exact h1
theorem toLong_eq (a : Int64) : FP.d2l (s_X9_realBits a) = s_X3_toLong a := by
  by_cases h : isN a
  · have hM := (isN_uN a).mp h
    have hl := uN_lt a
    apply Int64.toInt.inj
    rw [d2l_U h]
    unfold s_X3_toLong s_X3_toLong_j72
    rw [x0_num h, if_pos rfl]
    obtain ⟨W, hW⟩ : ∃ W, W = FP.Core.unitsOf FP.Core.b64 (uN a % 2 ^ 63) / 2 ^ 1074 := ⟨_, rfl⟩
    have n63 : (63 : Int32).toInt = 63 := by decide
    have n0 : (0 : Int32).toInt = 0 := by decide
    rw [← hW]
    by_cases hp : s_X3_power a < 63
    · rw [if_pos hp]
      rw [Int32.lt_iff_toInt_lt, pw_M, n63] at hp
      have hW1 : W < 2 ^ 63 := by
        rw [hW]
        exact W_lt (K := 1086) (by decide) (by decide) (by omega)
      have fin : ∀ v : Int64, uN v = W → max (-2 ^ 63) (min (2 ^ 63 - 1) (FP.Core.signed (decide (¬ 0 ≤ a)) W)) = (if 0 ≤ a then v else -v).toInt := by
        intro v hv
        by_cases h0 : 0 ≤ a
        · rw [if_pos h0, show decide (¬ 0 ≤ a) = false from by simp [h0], uN_pos (by omega), hv]
          show max (-2 ^ 63) (min (2 ^ 63 - 1) (W : Int)) = (W : Int)
          omega
        · rw [if_neg h0, show decide (¬ 0 ≤ a) = true from by simp [h0]]
          show max (-2 ^ 63) (min (2 ^ 63 - 1) (-(W : Int))) = (-v).toInt
          rw [toInt_uN, uN_neg1, hv]
          split <;> omega
      by_cases h0 : uN a % 2 ^ 63 = 0
      · have hs : SG a = 0 := sig_0 is64 a (by rw [et64]; exact h0)
        have hW0 : W = 0 := by
          rw [hW, h0, FP.Core.unitsOf_zero]
          exact Nat.zero_div _
        have hs2 : s_X0_significand 52 (-1074) 9218868437227405312 (-9223372036854775808) a = 0 := hs
        rw [hs2]
        have z1 : ∀ k : Int32, lUshr 0 k = 0 := fun k => by
          unfold lUshr
          apply uN_inj
          rw [uN_0]
          simp [uN]
        have z2 : ∀ k : Int32, lShl 0 k = 0 := fun k => by
          unfold lShl
          exact Int64.zero_shiftLeft
        rw [z1, z2]
        have hv := fin 0 (by rw [uN_0, hW0])
        rw [hv]
        by_cases hn : XPO a < 0
        · rw [if_pos hn]
        · rw [if_neg hn]
      · obtain ⟨c, q, hpa⟩ := pts_of h0 (by omega)
        obtain ⟨k1, k2⟩ := whole_U hpa
        obtain ⟨hc, hq, ⟨hc1, hc2⟩, ⟨hq1, hq2⟩, -⟩ := hpa
        rw [← hW] at k1 k2
        by_cases hn : XPO a < 0
        · rw [if_pos hn]
          have hq0 : q < 0 := by
            rw [Int32.lt_iff_toInt_lt, hq, n0] at hn
            exact hn
          have hneg : (-XPO a).toInt = -q := by rw [i_neg (by rw [hq]; omega), hq]
          have hWq := k2 hq0
          refine fin _ ?_
          obtain ⟨k, hk⟩ : ∃ k : Nat, (-q).toNat = k := ⟨_, rfl⟩
          rw [hk] at hWq
          by_cases hb : 63 < -XPO a
          · rw [if_pos hb]
            rw [Int32.lt_iff_toInt_lt, hneg, n63] at hb
            rw [show (63 : Int32) = Int32.ofNat 63 from by decide, uN_ushr _ (by decide), hc, hWq]
            have e1 : 2 ^ 64 ≤ 2 ^ k := Nat.pow_le_pow_right (by decide) (by omega)
            rw [Nat.div_eq_of_lt (show c < 2 ^ 63 by omega), Nat.div_eq_of_lt (show c < 2 ^ k by omega)]
          · rw [if_neg hb]
            rw [Int32.lt_iff_toInt_lt, hneg, n63] at hb
            rw [i_ofInt (a := -XPO a) (k := k) (by rw [hneg]; omega), uN_ushr _ (by omega), hc, hWq]
        · rw [if_neg hn]
          have hq0 : 0 ≤ q := by
            rw [Int32.lt_iff_toInt_lt, hq, n0] at hn
            omega
          have hWq := k1 hq0
          refine fin _ ?_
          have hq63 : q.toNat < 64 := by
            apply Classical.byContradiction
            intro z
            have e1 : 2 ^ 64 ≤ 2 ^ q.toNat := Nat.pow_le_pow_right (by decide) (by omega)
            have e2 : 2 ^ 52 * 2 ^ 64 ≤ c * 2 ^ q.toNat := Nat.mul_le_mul hc1 e1
            omega
          have e9 : s_X0_exponent 52 (-1074) 9218868437227405312 (-9223372036854775808) a = Int32.ofNat q.toNat := i_ofInt (by rw [hq]; omega)
          rw [e9, uN_shl _ hq63, hc, ← hWq]
          exact Nat.mod_eq_of_lt (by omega)
    · rw [if_neg hp]
      rw [Int32.lt_iff_toInt_lt, pw_M, n63] at hp
      have hW1 : 2 ^ 63 ≤ W := by
        rw [hW]
        exact W_ge (K := 1086) (by decide) (by decide) (by omega)
      by_cases h0 : 0 ≤ a
      · rw [if_pos h0, show decide (¬ 0 ≤ a) = false from by simp [h0]]
        show max (-2 ^ 63) (min (2 ^ 63 - 1) (W : Int)) = 9223372036854775807
        omega
      · rw [if_neg h0, show decide (¬ 0 ≤ a) = true from by simp [h0]]
        show max (-2 ^ 63) (min (2 ^ 63 - 1) (-(W : Int))) = -9223372036854775808
        omega
  · rw [rb_nan h, d2l_nan]
    unfold s_X3_toLong
    rw [x0_nan h, if_neg (by decide)]
theorem toInt_eq (a : Int64) : FP.d2i (s_X9_realBits a) = s_X3_toInt a := by
  have hL := toLong_eq a
  unfold s_X3_toInt
  rw [← hL]
  by_cases h : isN a
  · have h1 := d2l_U h
    have h2 := d2i_U h
    apply Int32.toInt.inj
    rw [h2]
    generalize FP.d2l (s_X9_realBits a) = v at h1 ⊢
    generalize FP.Core.signed (decide (¬ 0 ≤ a)) (FP.Core.unitsOf FP.Core.b64 (uN a % 2 ^ 63) / 2 ^ 1074) = w at h1 ⊢
    rw [Int64.toInt_toInt32]
    have n1 : (2147483647 : Int64).toInt = 2147483647 := by decide
    have n2 : (-2147483648 : Int64).toInt = -2147483648 := by decide
    by_cases c1 : 2147483647 < v
    · rw [if_pos c1, if_pos (by decide), n1]
      rw [lt_toInt, n1] at c1
      rw [Int.bmod_eq_of_le (by omega) (by omega)]
      omega
    · rw [if_neg c1]
      rw [lt_toInt, n1] at c1
      by_cases c2 : -2147483648 < v
      · rw [if_pos c2]
        rw [lt_toInt, n2] at c2
        rw [Int.bmod_eq_of_le (by omega) (by omega)]
        omega
      · rw [if_neg c2, n2]
        rw [lt_toInt, n2] at c2
        rw [Int.bmod_eq_of_le (by omega) (by omega)]
        omega
  · rw [rb_nan h, d2i_nan, d2l_nan]
    decide
theorem both_narrow (x m : Nat) (p0 : Int32) (p1 : Int64) (S S' : HS) : Both64 (h_X8_narrow x p0 p1 S) (h_X9_narrow m p0 p1 S') x m S S' := by
  unfold h_X8_narrow h_X9_narrow
  by_cases h1 : p0 < 0
  · rw [if_pos h1, if_pos (in_lo h1)]
    exact Both64.refused (if_neg (st_81 x S)) rfl
  rw [if_neg h1]
  by_cases h2 : p0 ≤ 5
  · rw [if_pos h2, if_neg (by rw [in_in h1 h2]; decide)]
    unfold h_X8_narrow_j16
    rw [if_pos (st_01 x S), toInt_eq, toLong_eq]
    by_cases c0 : p0 = 0
    · rw [if_pos c0, if_pos c0]
      exact ⟨0, _, isCa_0, rfl, rfl⟩
    rw [if_neg c0, if_neg c0]
    by_cases c1 : p0 = 1
    · rw [if_pos c1, if_pos c1]
      exact ⟨0, _, isCa_0, rfl, rfl⟩
    rw [if_neg c1, if_neg c1]
    by_cases c2 : p0 = 2
    · rw [if_pos c2, if_pos c2]
      refine ⟨0, _, isCa_0, rfl, ?_⟩
      by_cases hn : isN p1
      · rw [if_pos (dEq_self hn), narrow_num hn]
        rfl
      · rw [if_neg (dEq_nself hn), narrow_nan hn]
        rfl
    rw [if_neg c2, if_neg c2]
    by_cases c3 : p0 = 3
    · rw [if_pos c3, if_pos c3]
      exact ⟨0, _, isCa_0, rfl, rfl⟩
    rw [if_neg c3, if_neg c3]
    by_cases c4 : p0 = 4
    · rw [if_pos c4, if_pos c4]
      exact ⟨0, _, isCa_0, rfl, rfl⟩
    rw [if_neg c4, if_neg c4]
    exact ⟨0, _, isCa_0, rfl, rfl⟩
  · rw [if_neg h2, if_pos (in_hi h1 h2)]
    exact Both64.refused (if_neg (st_81 x S)) rfl
