/-! ===== the nearest whole number; math on both sides ===== -/
/-- a size below 2 ^ 52, added to 2 ^ 52 and rounded -/
theorem near_val {U D : Nat} {k : Nat} (hD : D = 2 ^ k) (hU : U < 2 ^ 52 * D) : FP.Core.roundRatio FP.Core.b64 false (U + 2 ^ 52 * D) 1 (-(k : Int)) = FP.Core.settle FP.Core.b64 false (2 ^ 52 + FP.Core.nearest U D) 0 ∧ FP.Core.nearest U D ≤ 2 ^ 52 := by
  have hDp : 0 < D := by rw [hD]; exact Nat.two_pow_pos _
  have hN : FP.Core.nearest U D ≤ 2 ^ 52 := FP.Core.nearest_le hDp (Nat.le_of_lt hU)
  refine ⟨?_, hN⟩
  have hq : FP.Core.quantum FP.Core.b64 (U + 2 ^ 52 * D) 1 (-(k : Int)) = 0 := by
    refine FP.Core.quantum_eq (by omega) (by decide) (by decide) ?_ ?_
    · rw [show (0 : Int) - -(k : Int) + (FP.Core.b64.p : Int) = ((k + 53 : Nat) : Int) from by rw [show FP.Core.b64.p = 53 from rfl]; omega, nb_nat, Nat.one_mul, Nat.pow_add, ← hD]
      omega
    · right
      rw [show (0 : Int) - -(k : Int) + ((FP.Core.b64.p : Int) - 1) = ((k + 52 : Nat) : Int) from by rw [show FP.Core.b64.p = 53 from rfl]; omega, nb_nat, Nat.one_mul, Nat.pow_add, ← hD]
      omega
  unfold FP.Core.roundRatio
  rw [if_neg (by omega), hq]
  unfold FP.Core.roundAt FP.Core.unitsNum FP.Core.unitsDen
  rw [show (-(k : Int) - 0).toNat = 0 by omega, show (0 - -(k : Int)).toNat = k by omega, Nat.pow_zero, Nat.mul_one, Nat.one_mul, ← hD]
  congr 1
  unfold FP.Core.nearest
  have e1 : (U + 2 ^ 52 * D) % D = U % D := by rw [Nat.add_mul_mod_self_right]
  have e2 : (U + 2 ^ 52 * D) / D = U / D + 2 ^ 52 := Nat.add_mul_div_right _ _ hDp
  rw [e1, e2]
  by_cases c1 : 2 * (U % D) < D
  · rw [if_pos c1, if_pos c1]
    omega
  · rw [if_neg c1, if_neg c1]
    by_cases c2 : D < 2 * (U % D)
    · rw [if_pos c2, if_pos c2]
      omega
    · rw [if_neg c2, if_neg c2]
      omega
theorem settle_D {N : Nat} (h : N ≤ 2 ^ 52) : FP.Core.Whole ((2 ^ 52 + N : Nat) : Int) (FP.Core.settle FP.Core.b64 false (2 ^ 52 + N) 0) := by
  unfold FP.Core.settle FP.Core.bound
  rw [show FP.Core.b64.p = 53 from rfl]
  by_cases c : 2 ^ 52 + N < 2 ^ 53
  · rw [if_pos c, if_pos (by decide)]
    show (((2 ^ 52 + N) * 2 ^ 0 : Nat) : Int) = ((2 ^ 52 + N : Nat) : Int) * ((2 ^ 0 : Nat) : Int)
    rw [Nat.pow_zero, Nat.mul_one]
    omega
  · rw [if_neg c, if_pos (by decide), show N = 2 ^ 52 by omega]
    show FP.Core.signed false (FP.Core.b64.tails * 2 ^ (0 + 1 : Int).toNat) = ((2 ^ 52 + 2 ^ 52 : Nat) : Int) * ((2 ^ (-(0 + 1 : Int)).toNat : Nat) : Int)
    decide +kernel
/-- the sum with 2 ^ 52 -/
theorem sum_52 {x : UInt64} {s0 : Bool} {c0 : Nat} {q0 : Int} (hx : FP.Core.val64 x = .fin false c0 q0) (hq : -1074 ≤ q0) {U : Nat} (hU : c0 * 2 ^ (q0 + 1074).toNat = U) : FP.Core.val64 (FP.dadd x 4841369599423283200) = FP.Core.roundRatio FP.Core.b64 false (U + 2 ^ 52 * 2 ^ 1074) 1 (-((1074 : Nat) : Int)) := by
  have hC : FP.Core.val64 4841369599423283200 = .fin false (2 ^ 52) 0 := by decide +kernel
  show FP.Core.val64 (FP.Core.dadd x 4841369599423283200) = _
  rw [FP.Core.val64_dadd, hx, hC]
  obtain ⟨e0, he⟩ : ∃ e0, e0 = min q0 0 := ⟨_, rfl⟩
  obtain ⟨V, hV⟩ : ∃ V, V = c0 * 2 ^ (q0 - e0).toNat + 2 ^ 52 * 2 ^ (0 - e0).toNat := ⟨_, rfl⟩
  have hs : FP.Core.sumUnits false c0 q0 false (2 ^ 52) 0 (min q0 0) = (V : Int) := by
    rw [← he, hV]
    show ((c0 * 2 ^ (q0 - e0).toNat : Nat) : Int) + ((2 ^ 52 * 2 ^ (0 - e0).toNat : Nat) : Int) = _
    omega
  show FP.Core.roundRatio FP.Core.b64 (FP.Core.sumSign false false (FP.Core.sumUnits false c0 q0 false (2 ^ 52) 0 (min q0 0))) (FP.Core.sumUnits false c0 q0 false (2 ^ 52) 0 (min q0 0)).natAbs 1 (min q0 0) = _
  rw [hs, Int.natAbs_natCast, ← he]
  have hsg : FP.Core.sumSign false false (V : Int) = false := by
    unfold FP.Core.sumSign
    split
    · rfl
    · exact decide_eq_false (by omega)
  rw [hsg]
  refine FP.Core.roundRatio_congr (by decide) (by decide) ?_
  rw [Nat.mul_one, Nat.mul_one, hV, ← hU, show (-((1074 : Nat) : Int) - e0).toNat = 0 by omega, Nat.pow_zero, Nat.mul_one, Nat.add_mul, Nat.mul_assoc, Nat.mul_assoc, ← Nat.pow_add, ← Nat.pow_add]
  rw [show (q0 - e0).toNat + (e0 - -((1074 : Nat) : Int)).toNat = (q0 + 1074).toNat by omega, show (0 - e0).toNat + (e0 - -((1074 : Nat) : Int)).toNat = 1074 by omega]
theorem c52_D : FP.Core.DInt ((2 ^ 52 : Nat) : Int) 4841369599423283200 := by
  have hC : FP.Core.val64 4841369599423283200 = .fin false (2 ^ 52) 0 := by decide +kernel
  unfold FP.Core.DInt
  rw [hC]
  show FP.Core.signed false (2 ^ 52 * 2 ^ (0 : Int).toNat) = ((2 ^ 52 : Nat) : Int) * ((2 ^ (-(0 : Int)).toNat : Nat) : Int)
  decide +kernel
theorem near_D {x : UInt64} {c0 : Nat} {q0 : Int} (hx : FP.Core.val64 x = .fin false c0 q0) (hq : -1074 ≤ q0) {U : Nat} (hU : c0 * 2 ^ (q0 + 1074).toNat = U) (hl : U < 2 ^ 52 * 2 ^ 1074) : FP.Core.DInt (FP.Core.nearest U (2 ^ 1074)) (FP.dsub (FP.dadd x 4841369599423283200) 4841369599423283200) := by
  obtain ⟨D, hD⟩ : ∃ D : Nat, D = 2 ^ 1074 := ⟨_, rfl⟩
  have h1 := sum_52 (s0 := false) hx hq hU
  rw [← hD] at h1 hl ⊢
  obtain ⟨h2, h3⟩ := near_val hD hl
  have h4 : FP.Core.DInt ((2 ^ 52 + FP.Core.nearest U D : Nat) : Int) (FP.dadd x 4841369599423283200) := by
    unfold FP.Core.DInt
    rw [h1, h2]
    exact settle_D h3
  clear h1 h2 hD hl hU
  generalize FP.Core.nearest U D = N at h3 h4 ⊢
  have h5 := FP.Core.dsub_int h4 c52_D (by omega)
  rw [show ((2 ^ 52 + N : Nat) : Int) - ((2 ^ 52 : Nat) : Int) = (N : Int) by omega] at h5
  exact h5
theorem fin_a {a : Int64} (h : uN a % 2 ^ 63 < 9218868437227405312) : ∃ (c0 : Nat) (q0 : Int), FP.Core.decode FP.Core.b64 (uN a) = .fin (decide (¬ 0 ≤ a)) c0 q0 ∧ -1074 ≤ q0 ∧ c0 * 2 ^ (q0 + 1074).toNat = wU a := by
  unfold wU
  by_cases h0 : uN a % 2 ^ 63 = 0
  · refine ⟨0, _, dec_Z h0, by decide, ?_⟩
    rw [h0, FP.Core.unitsOf_zero, Nat.zero_mul]
  · obtain ⟨c, q, -, -, -, -, c0, q0, hd, -, hq3, -, e2⟩ := pts_of h0 h
    exact ⟨c0, q0, hd, hq3, e2⟩
theorem wU_lt {a : Int64} (hp : uN a % 2 ^ 63 < 1075 * 2 ^ 52) : wU a < 2 ^ 52 * 2 ^ 1074 := by
  have h1 := FP.Core.unitsOf_lt (f := FP.Core.b64) hp
  rw [units_pow (by decide), show 1075 - 1 = 1074 from rfl] at h1
  unfold wU
  exact h1
/-- the model's nearest whole number -/
theorem near_m {a : Int64} (h : isN a) (hp : uN a % 2 ^ 63 < 1075 * 2 ^ 52) : ∃ r : UInt64, s_X9_rounded (s_X9_realBits a) 2 = r ∧ FP.Core.val64 r ≠ .nan ∧ FP.Core.unitsOf FP.Core.b64 (r.toNat % 2 ^ 63) = FP.Core.nearest (wU a) (2 ^ 1074) * 2 ^ 1074 := by
  have hlt := wU_lt hp
  obtain ⟨c0, q0, hd, hq, hU⟩ := fin_a (a := a) (by omega)
  have h0 : isN 0 := by decide
  have e0 : FP.dconst0 = s_X9_realBits 0 := by decide +kernel
  have hc : dLt (s_X9_realBits a) FP.dconst0 ↔ ¬ 0 ≤ a ∧ uN a % 2 ^ 63 ≠ 0 := by
    rw [e0, rb_num h, rb_num h0, dLt_rank h h0, lt_toInt, rank_M (a := a), show (s_X3_rank 0).toInt = 0 from by decide +kernel]
    by_cases c : 0 ≤ a
    · rw [if_pos c]
      exact ⟨fun z => by omega, fun z => absurd c z.1⟩
    · rw [if_neg c]
      exact ⟨fun z => ⟨c, by omega⟩, fun z => by omega⟩
  unfold s_X9_rounded
  rw [if_neg (by decide), if_neg (by decide)]
  by_cases c : dLt (s_X9_realBits a) FP.dconst0
  · rw [if_pos c, if_pos c]
    have hs : ¬ 0 ≤ a := (hc.mp c).1
    have hx : FP.Core.val64 (FP.dneg (s_X9_realBits a)) = .fin false c0 q0 := by
      rw [FP.val64_dneg, rb_num h]
      unfold FP.Core.val64
      rw [uN_u, hd, show decide (¬ 0 ≤ a) = true from by simp [hs]]
      rfl
    have hD := near_D hx hq hU hlt
    refine ⟨_, rfl, ?_, ?_⟩
    · rw [FP.val64_dneg]
      exact FP.Core.negate_ne_nan (FP.Core.DInt_ne_nan hD)
    · have hu := dint_units hD
      rw [Int.natAbs_natCast] at hu
      rw [← hu]
      congr 1
      generalize FP.dsub (FP.dadd (FP.dneg (s_X9_realBits a)) 4841369599423283200) 4841369599423283200 = r
      have hr := r.toNat_lt
      have hx : (FP.dneg r).toNat = r.toNat ^^^ 2 ^ 63 := by
        unfold FP.dneg
        rw [UInt64.toNat_xor]
        rfl
      obtain ⟨h1, h2⟩ := FP.xor_top (a := r.toNat) (k := 63) (by omega)
      rw [hx]
      by_cases z : r.toNat < 2 ^ 63
      · rw [h1 z]
        omega
      · rw [h2 (by omega)]
        omega
  · rw [if_neg c, if_neg c]
    by_cases hs : 0 ≤ a
    · have hx : FP.Core.val64 (s_X9_realBits a) = .fin false c0 q0 := by
        rw [rb_num h]
        unfold FP.Core.val64
        rw [uN_u, hd, show decide (¬ 0 ≤ a) = false from by simp [hs]]
      have hD := near_D hx hq hU hlt
      refine ⟨_, rfl, FP.Core.DInt_ne_nan hD, ?_⟩
      have hu := dint_units hD
      rw [Int.natAbs_natCast] at hu
      exact hu
    · have hM0 : uN a % 2 ^ 63 = 0 := by
        apply Classical.byContradiction
        intro z
        exact c (hc.mpr ⟨hs, z⟩)
      have hl := uN_lt a
      have ha : a = -9223372036854775808 := uN_inj (by
        rw [uN_min]
        rw [ge0_uN] at hs
        omega)
      have hw : wU a = 0 := by
        unfold wU
        rw [hM0, FP.Core.unitsOf_zero]
      refine ⟨_, rfl, ?_⟩
      have hr : FP.dsub (FP.dadd (s_X9_realBits a) 4841369599423283200) 4841369599423283200 = 0 := by
        rw [ha]
        decide +kernel
      have hn : FP.Core.nearest 0 (2 ^ 1074) = 0 := nearest_small (by rw [Nat.mul_zero]; exact Nat.two_pow_pos _)
      rw [hr, hw, hn, Nat.zero_mul]
      refine ⟨by decide +kernel, ?_⟩
      show FP.Core.unitsOf FP.Core.b64 0 = 0
      exact FP.Core.unitsOf_zero _
theorem near_c {a : Int64} (hp : uN a % 2 ^ 63 < 1075 * 2 ^ 52) : uN (s_X0_rounded (SG a) (-XPO a)) = FP.Core.nearest (wU a) (2 ^ 1074) ∧ FP.Core.nearest (wU a) (2 ^ 1074) ≤ 2 ^ 52 := by
  have hlt := wU_lt hp
  refine ⟨?_, FP.Core.nearest_le (Nat.two_pow_pos _) (Nat.le_of_lt hlt)⟩
  by_cases h0 : uN a % 2 ^ 63 = 0
  · have hs : SG a = 0 := sig_0 is64 a (by rw [et64]; exact h0)
    have hw : wU a = 0 := by
      unfold wU
      rw [h0, FP.Core.unitsOf_zero]
    have hx : XPO a = -1126 := by
      have h1 : s_X0_magnitude 52 (-1074) 9218868437227405312 (-9223372036854775808) a = 0 := uN_inj (by rw [x0_mag, uN_and63, h0, uN_0])
      show s_X0_exponent _ _ _ _ _ = _
      unfold s_X0_exponent s_X0_missingPlaces
      rw [h1]
      decide +kernel
    have hn : FP.Core.nearest 0 (2 ^ 1074) = 0 := nearest_small (by rw [Nat.mul_zero]; exact Nat.two_pow_pos _)
    rw [hw, hn, hx, rounded_big (by decide), uN_0]
  · obtain ⟨c, q, hpa⟩ := pts_of h0 (by omega)
    have hPU := pts_U hpa
    obtain ⟨hc, hq, ⟨hc1, hc2⟩, ⟨hq1, hq2⟩, -⟩ := hpa
    have hPU2 : c * 2 ^ (q + 1126).toNat = wU a * 2 ^ 52 := hPU
    have hq0 : q < 0 := by
      apply Classical.byContradiction
      intro z
      have e1 : c * 2 ^ (q + 1126).toNat < 2 ^ 52 * 2 ^ 1074 * 2 ^ 52 := by
        rw [hPU2]
        exact Nat.mul_lt_mul_of_pos_right hlt (Nat.two_pow_pos 52)
      have e2 : 2 ^ 52 * 2 ^ 1126 ≤ c * 2 ^ (q + 1126).toNat := Nat.mul_le_mul hc1 (Nat.pow_le_pow_right (by decide) (by omega))
      rw [Nat.mul_assoc, ← Nat.pow_add, show 1074 + 52 = 1126 from rfl] at e1
      exact Nat.lt_irrefl _ (Nat.lt_of_le_of_lt e2 e1)
    obtain ⟨k, hk⟩ : ∃ k : Nat, q = -(k : Int) := ⟨(-q).toNat, by omega⟩
    have hneg : (-XPO a).toInt = k := by
      rw [i_neg (by rw [hq]; omega), hq]
      omega
    have hnear : FP.Core.nearest (wU a) (2 ^ 1074) = FP.Core.nearest c (2 ^ k) := by
      refine FP.Core.nearest_congr (Nat.two_pow_pos _) (Nat.two_pow_pos _) ?_
      apply Nat.eq_of_mul_eq_mul_right (Nat.two_pow_pos 52)
      rw [Nat.mul_right_comm, ← hPU2, Nat.mul_assoc, Nat.mul_assoc, ← Nat.pow_add, ← Nat.pow_add]
      rw [show (q + 1126).toNat + k = 1074 + 52 by omega]
    rw [hnear]
    by_cases hb : k ≤ 63
    · rw [i_ofInt hneg, rounded_eq (by rw [hc]; omega) (by omega) hb, hc, rnd_nearest (by omega)]
    · have e1 : 2 ^ 64 ≤ 2 ^ k := Nat.pow_le_pow_right (by decide) (by omega)
      rw [rounded_big (by rw [hneg]; omega), uN_0, nearest_small (by omega)]
theorem math_2 {a : Int64} (h : isN a) : (if s_X9_isWhole (s_X9_realBits a) = 0 then s_X9_signed (s_X9_rounded (s_X9_realBits a) 2) a else a) = s_X3_nearestWhole a := by
  have hnw : s_X3_nearestWhole a = if s_X3_power a < 52 then PK (if 0 ≤ a then 0 else 1) 0 (s_X0_rounded (SG a) (-XPO a)) else a := by
    unfold s_X3_nearestWhole
    by_cases c : s_X3_power a < 52
    · rw [if_pos c, if_pos c]
      by_cases d : 0 ≤ a
      · rw [if_pos d, if_pos d]
      · rw [if_neg d, if_neg d]
    · rw [if_neg c, if_neg c]
  have hpw : s_X3_power a < 52 ↔ uN a % 2 ^ 63 < 1075 * 2 ^ 52 := by
    rw [Int32.lt_iff_toInt_lt, pw_M, show (52 : Int32).toInt = 52 from by decide]
    omega
  rw [hnw]
  by_cases hp : uN a % 2 ^ 63 < 1075 * 2 ^ 52
  · rw [if_pos ((whole_M h).mpr hp), if_pos (hpw.mpr hp)]
    obtain ⟨r, hr, hn, hu⟩ := near_m h hp
    obtain ⟨n1, n2⟩ := near_c hp
    have hY : uN (PK (if 0 ≤ a then 0 else 1) 0 (s_X0_rounded (SG a) (-XPO a))) = FP.Core.encode FP.Core.b64 (FP.Core.roundRatio FP.Core.b64 (decide (¬ 0 ≤ a)) (FP.Core.nearest (wU a) (2 ^ 1074)) 1 0) := by
      rw [pk_any _ _ (by rw [n1]; omega) (by decide), n1, show (0 : Int32).toInt = 0 from by decide]
      congr 2
      by_cases d : 0 ≤ a
      · simp [d]
      · simp [d]
    rw [hr]
    generalize PK (if 0 ≤ a then 0 else 1) 0 (s_X0_rounded (SG a) (-XPO a)) = Y at hY ⊢
    obtain ⟨D, hD⟩ : ∃ D : Nat, D = 2 ^ 1074 := ⟨_, rfl⟩
    rw [← hD] at hu n2 hY
    generalize FP.Core.nearest (wU a) D = N at hu n2 hY
    have hfit := FP.Core.roundRatio_fits FP.Core.good_b64 (decide (¬ 0 ≤ a)) N (show 0 < 1 by decide) 0
    have hdec : FP.Core.decode FP.Core.b64 (uN Y) = FP.Core.roundRatio FP.Core.b64 (decide (¬ 0 ≤ a)) N 1 0 := by rw [hY, FP.Core.decode_encode FP.Core.good_b64 _ hfit]
    have hYn : FP.Core.val64 Y.toUInt64 ≠ .nan := by
      unfold FP.Core.val64
      rw [uN_u, hdec]
      exact FP.Core.roundRatio_ne_nan _ _ _ _ _
    have hYs : 0 ≤ Y ↔ 0 ≤ a := by
      have h1 := FP.Core.sgn_bits hYn
      rw [uN_u] at h1
      unfold FP.Core.val64 at h1
      rw [uN_u, hdec, FP.Core.sgn_roundRatio] at h1
      rw [ge0_uN]
      by_cases d : 0 ≤ a
      · simp [d] at h1
        exact ⟨fun _ => d, fun _ => h1⟩
      · simp [d] at h1
        exact ⟨fun z => absurd z (by omega), fun z => absurd z d⟩
    refine signed_units hn ?_ hYs
    rw [hu]
    have hmag := FP.Core.zmag_bits hYn
    rw [uN_u] at hmag
    rw [← hmag]
    unfold FP.Core.val64
    rw [uN_u, hdec]
    by_cases z : N = 0
    · rw [z, Nat.zero_mul]
      unfold FP.Core.roundRatio
      rw [if_pos rfl]
      show 0 = FP.Core.inUnits 0 _ _
      unfold FP.Core.inUnits
      rw [Nat.zero_mul]
    · have hw : FP.Core.DInt (FP.Core.signed (decide (¬ 0 ≤ a)) N) Y.toUInt64 := by
        unfold FP.Core.DInt FP.Core.val64
        rw [uN_u, hdec]
        have h2 := FP.Core.whole_round FP.Core.good_b64 FP.Core.wide_b64 (i := FP.Core.signed (decide (¬ 0 ≤ a)) N) (d := .fin (decide (¬ 0 ≤ a)) N 0) (by rw [FP.Core.natAbs_signed]; exact Nat.le_trans n2 (by decide)) (by
          show FP.Core.signed _ (N * 2 ^ (0 : Int).toNat) = _ * ((2 ^ (-(0 : Int)).toNat : Nat) : Int)
          rw [show ((0 : Int).toNat) = 0 from rfl, show ((-(0 : Int)).toNat) = 0 from rfl, Nat.pow_zero, Nat.mul_one]
          omega)
        exact h2
      have h3 := dint_units hw
      rw [FP.Core.natAbs_signed, ← hD, uN_u, ← hmag] at h3
      unfold FP.Core.val64 at h3
      rw [uN_u, hdec] at h3
      exact h3.symm
  · rw [if_neg (fun z => hp ((whole_M h).mp z)), if_neg (fun z => hp (hpw.mp z))]
theorem both_math (x m : Nat) (p0 : Int32) (p1 : Int64) (S S' : HS) : Both64 (h_X8_math x p0 p1 S) (h_X9_math m p0 p1 S') x m S S' := by
  unfold h_X8_math h_X9_math
  by_cases h1 : p0 < 0
  · rw [if_pos h1, if_pos (in_lo h1)]
    exact Both64.refused (if_neg (st_81 x S)) rfl
  rw [if_neg h1]
  by_cases h2 : p0 ≤ 9
  · rw [if_pos h2, if_neg (by rw [in_in h1 h2]; decide)]
    unfold h_X8_math_j17
    rw [if_pos (st_01 x S)]
    by_cases c9 : p0 = 9
    · rw [if_pos c9, if_pos c9]
      refine ⟨0, _, isCa_0, rfl, ?_⟩
      rw [← power_math, mEnd_0]
      split <;> rfl
    rw [if_neg c9, if_neg c9]
    by_cases hn : isN p1
    · rw [x0_num hn, if_pos rfl, if_pos (dEq_self hn)]
      unfold s_X3_mathOfNumber
      by_cases c0 : p0 = 0
      · subst c0
        rw [if_pos rfl, if_pos rfl]
        refine ⟨0, _, isCa_0, rfl, ?_⟩
        rw [← math_0 hn, mEnd_0]
        split <;> rfl
      rw [if_neg c0, if_neg c0]
      by_cases c1 : p0 = 1
      · subst c1
        rw [if_pos rfl, if_pos rfl]
        refine ⟨0, _, isCa_0, rfl, ?_⟩
        rw [← math_1 hn, mEnd_0]
        split <;> rfl
      rw [if_neg c1, if_neg c1]
      by_cases c2 : p0 = 2
      · subst c2
        rw [if_pos rfl, if_pos rfl]
        refine ⟨0, _, isCa_0, rfl, ?_⟩
        rw [← math_2 hn, mEnd_0]
        split <;> rfl
      rw [if_neg c2, if_neg c2]
      by_cases c3 : p0 = 3
      · rw [if_pos c3, if_pos c3]
        refine ⟨0, _, isCa_0, rfl, ?_⟩
        rw [← signum_eq hn, mEnd_0]
        split <;> rfl
      rw [if_neg c3, if_neg c3]
      by_cases c4 : p0 = 4
      · rw [if_pos c4, if_pos c4]
        exact ⟨0, _, isCa_0, rfl, by rw [x0_mag]; rfl⟩
      rw [if_neg c4, if_neg c4]
      by_cases c5 : p0 = 5
      · rw [if_pos c5, if_pos c5]
        refine ⟨0, _, isCa_0, rfl, ?_⟩
        rw [← ulp_eq hn, mEnd_0]
        repeat' split
        all_goals rfl
      rw [if_neg c5, if_neg c5]
      by_cases c6 : p0 = 6
      · rw [if_pos c6, if_pos c6]
        refine ⟨0, _, isCa_0, rfl, ?_⟩
        rw [← nextUp_eq hn, mEnd_0]
        repeat' split
        all_goals rfl
      rw [if_neg c6, if_neg c6]
      by_cases c7 : p0 = 7
      · rw [if_pos c7, if_pos c7]
        exact ⟨0, _, isCa_0, rfl, by rw [times_8 hn]; rfl⟩
      rw [if_neg c7, if_neg c7]
      exact ⟨0, _, isCa_0, rfl, by rw [times_eighth hn]; rfl⟩
    · rw [x0_nan hn, if_neg (by decide), if_neg (dEq_nself hn), rb_nan hn, db_nan, pn_64]
      exact ⟨0, _, isCa_0, rfl, rfl⟩
  · rw [if_neg h2, if_pos (in_hi h1 h2)]
    exact Both64.refused (if_neg (st_81 x S)) rfl
