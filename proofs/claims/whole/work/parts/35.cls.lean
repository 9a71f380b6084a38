/-! ===== zero, finite, endless: by the magnitude; sums, products, quotients, remainders on both sides ===== -/
theorem zer_M (a : Int64) : s_X0_isZero 52 (-1074) 9218868437227405312 (-9223372036854775808) a = if uN a % 2 ^ 63 = 0 then 1 else 0 := by
  unfold s_X0_isZero
  rw [x0_mag]
  have e : a &&& 9223372036854775807 = 0 ↔ uN a % 2 ^ 63 = 0 := by rw [eq_uN, uN_and63, uN_0]
  by_cases h : uN a % 2 ^ 63 = 0
  · rw [if_pos h, if_pos (e.mpr h)]
  · rw [if_neg h, if_neg (fun z => h (e.mp z))]
theorem inf_M (a : Int64) : s_X0_isInfinite 52 (-1074) 9218868437227405312 (-9223372036854775808) a = if uN a % 2 ^ 63 = 9218868437227405312 then 1 else 0 := by
  unfold s_X0_isInfinite
  rw [x0_mag]
  have e : a &&& 9223372036854775807 = 9218868437227405312 ↔ uN a % 2 ^ 63 = 9218868437227405312 := by rw [eq_uN, uN_and63, show uN 9218868437227405312 = 9218868437227405312 from by decide]
  by_cases h : uN a % 2 ^ 63 = 9218868437227405312
  · rw [if_pos h, if_pos (e.mpr h)]
  · rw [if_neg h, if_neg (fun z => h (e.mp z))]
theorem q64 : FP.Core.b64.qmin = -1074 := by decide
theorem dec_Z {a : Int64} (h : uN a % 2 ^ 63 = 0) : FP.Core.decode FP.Core.b64 (uN a) = .fin (decide (¬ 0 ≤ a)) 0 FP.Core.b64.qmin := by
  rw [dec_sub FP.Core.good_b64 (M := 0) (by rw [et64]; exact h) (by decide), sign_0]
theorem dec_I {a : Int64} (h : uN a % 2 ^ 63 = 9218868437227405312) : FP.Core.decode FP.Core.b64 (uN a) = .inf (decide (¬ 0 ≤ a)) := by
  rw [dec_inf FP.Core.good_b64 (by rw [et64, et64i]; exact h), sign_0]
theorem dec_F {a : Int64} (h : uN a % 2 ^ 63 < 9218868437227405312) : ∃ c0 q0, FP.Core.decode FP.Core.b64 (uN a) = .fin (decide (¬ 0 ≤ a)) c0 q0 ∧ (c0 = 0 ↔ uN a % 2 ^ 63 = 0) := by
  by_cases h0 : uN a % 2 ^ 63 = 0
  · exact ⟨0, _, dec_Z h0, by simp [h0]⟩
  · obtain ⟨c, q, -, -, ⟨h1, -⟩, -, c0, q0, hd, -, -, e1, -⟩ := pts_of h0 h
    refine ⟨c0, q0, hd, ⟨fun z => ?_, fun z => absurd z h0⟩⟩
    rw [z, Nat.zero_mul] at e1
    omega
theorem enc_dec {a : Int64} (h : isN a) : FP.Core.encode FP.Core.b64 (FP.Core.decode FP.Core.b64 (uN a)) = uN a := FP.Core.encode_decode FP.Core.good_b64 (uN a) (by rw [FP.Core.size_b64]; exact uN_lt a) (rb_ok h)
theorem rank_M {a : Int64} : (s_X3_rank a).toInt = if 0 ≤ a then ((uN a % 2 ^ 63 : Nat) : Int) else -((uN a % 2 ^ 63 : Nat) : Int) := by
  have hl := uN_lt a
  by_cases h : 0 ≤ a
  · rw [if_pos h, rank_pos h]
    have := (ge0_uN a).mp h
    omega
  · rw [if_neg h, (rank_neg h).1]
    have := (rank_neg h).2
    omega
theorem max_i : (9218868437227405311 : UInt64) = (9218868437227405311 : Int64).toUInt64 := by decide +kernel
theorem min_i : (18442240474082181119 : UInt64) = (-4503599627370497 : Int64).toUInt64 := by decide +kernel
theorem end_M {a : Int64} (h : isN a) : s_X9_isEndless (s_X9_realBits a) = if uN a % 2 ^ 63 = 9218868437227405312 then 1 else 0 := by
  have hM := (isN_uN a).mp h
  have g1 : dGt (s_X9_realBits a) 9218868437227405311 ↔ 0 ≤ a ∧ uN a % 2 ^ 63 = 9218868437227405312 := by
    rw [rb_num h, max_i, dGt_rank h (by decide), lt_toInt, rank_M (a := a), show (s_X3_rank 9218868437227405311).toInt = 9218868437227405311 from by decide +kernel]
    by_cases c : 0 ≤ a
    · rw [if_pos c]
      constructor
      · intro z
        exact ⟨c, by omega⟩
      · intro z
        omega
    · rw [if_neg c]
      constructor
      · intro z
        omega
      · intro z
        exact absurd z.1 c
  have g2 : dLt (s_X9_realBits a) 18442240474082181119 ↔ ¬ 0 ≤ a ∧ uN a % 2 ^ 63 = 9218868437227405312 := by
    rw [rb_num h, min_i, dLt_rank h (by decide), lt_toInt, rank_M (a := a), show (s_X3_rank (-4503599627370497)).toInt = -9218868437227405311 from by decide +kernel]
    by_cases c : 0 ≤ a
    · rw [if_pos c]
      constructor
      · intro z
        omega
      · intro z
        exact absurd c z.1
    · rw [if_neg c]
      constructor
      · intro z
        exact ⟨c, by omega⟩
      · intro z
        omega
  unfold s_X9_isEndless
  by_cases c1 : dGt (s_X9_realBits a) 9218868437227405311
  · rw [if_pos c1, if_pos (g1.mp c1).2]
  · rw [if_neg c1]
    by_cases c2 : dLt (s_X9_realBits a) 18442240474082181119
    · rw [if_pos c2, if_pos (g2.mp c2).2]
    · rw [if_neg c2, if_neg]
      intro z
      by_cases c : 0 ≤ a
      · exact c1 (g1.mpr ⟨c, z⟩)
      · exact c2 (g2.mpr ⟨c, z⟩)
theorem eq_M {a b : Int64} (ha : isN a) (hb : isN b) : dEq (s_X9_realBits a) (s_X9_realBits b) ↔ (s_X3_rank a).toInt = (s_X3_rank b).toInt := by
  rw [rb_num ha, rb_num hb, dEq_rank ha hb, Int64.toInt_inj]
theorem eq_inf {a b : Int64} (ha : uN a % 2 ^ 63 = 9218868437227405312) (hb : uN b % 2 ^ 63 = 9218868437227405312) : (s_X3_rank a).toInt = (s_X3_rank b).toInt ↔ a = b := by
  have h1 := uN_lt a
  have h2 := uN_lt b
  rw [rank_M, rank_M, ha, hb, eq_uN]
  by_cases c : 0 ≤ a
  · by_cases d : 0 ≤ b
    · rw [if_pos c, if_pos d]
      rw [ge0_uN] at c d
      exact ⟨fun _ => by omega, fun _ => rfl⟩
    · rw [if_pos c, if_neg d]
      rw [ge0_uN] at c d
      exact ⟨fun z => by omega, fun z => by omega⟩
  · by_cases d : 0 ≤ b
    · rw [if_neg c, if_pos d]
      rw [ge0_uN] at c d
      exact ⟨fun z => by omega, fun z => by omega⟩
    · rw [if_neg c, if_neg d]
      rw [ge0_uN] at c d
      exact ⟨fun _ => by omega, fun _ => rfl⟩
/-- an operation's bits, as the model gives them -/
theorem op_bits {d : FP.Core.Datum} (hd : FP.Core.fits FP.Core.b64 d) (hn : d ≠ .nan) {r : Int64} {y : UInt64} (hy : y = UInt64.ofNat (FP.Core.encode FP.Core.b64 d)) (hr : uN r = FP.Core.encode FP.Core.b64 d) : s_X9_doubleBits y = r := by
  rw [hy]
  exact db_enc hd hn hr
theorem dadd_op {a b : Int64} (ha : isN a) (hb : isN b) : FP.dadd (s_X9_realBits a) (s_X9_realBits b) = UInt64.ofNat (FP.Core.encode FP.Core.b64 (FP.Core.round FP.Core.b64 (FP.Core.exactSum (FP.Core.decode FP.Core.b64 (uN a)) (FP.Core.decode FP.Core.b64 (uN b))))) := by
  rw [rb_num ha, rb_num hb]
  rfl
theorem dmul_op {a b : Int64} (ha : isN a) (hb : isN b) : FP.dmul (s_X9_realBits a) (s_X9_realBits b) = UInt64.ofNat (FP.Core.encode FP.Core.b64 (FP.Core.round FP.Core.b64 (FP.Core.exactProduct (FP.Core.decode FP.Core.b64 (uN a)) (FP.Core.decode FP.Core.b64 (uN b))))) := by
  rw [rb_num ha, rb_num hb]
  rfl
theorem ddiv_op {a b : Int64} (ha : isN a) (hb : isN b) : FP.ddiv (s_X9_realBits a) (s_X9_realBits b) = UInt64.ofNat (FP.Core.encode FP.Core.b64 (FP.Core.quotient FP.Core.b64 (FP.Core.decode FP.Core.b64 (uN a)) (FP.Core.decode FP.Core.b64 (uN b)))) := by
  rw [rb_num ha, rb_num hb]
  rfl
theorem drem_op {a b : Int64} (ha : isN a) (hb : isN b) : FP.drem (s_X9_realBits a) (s_X9_realBits b) = UInt64.ofNat (FP.Core.encode FP.Core.b64 (FP.Core.round FP.Core.b64 (FP.Core.exactRemainder (FP.Core.decode FP.Core.b64 (uN a)) (FP.Core.decode FP.Core.b64 (uN b))))) := by
  rw [rb_num ha, rb_num hb]
  rfl
theorem fit_dec (a : Int64) : FP.Core.fits FP.Core.b64 (FP.Core.decode FP.Core.b64 (uN a)) := FP.Core.decode_fits FP.Core.good_b64 _
theorem round_dec (a : Int64) : FP.Core.round FP.Core.b64 (FP.Core.decode FP.Core.b64 (uN a)) = FP.Core.decode FP.Core.b64 (uN a) := FP.Core.round_of_fits FP.Core.good_b64 (fit_dec a)
/-- the sum of two numbers of which the first is the greater: what the class gives -/
def sumC (a b : Int64) : Int64 := if uN a % 2 ^ 63 = 0 then a &&& b else if uN a % 2 ^ 63 = 9218868437227405312 then a else if uN b % 2 ^ 63 = 0 then a else s_X3_sumOfFinite a b
theorem sumC_bits {a b : Int64} (ha : isN a) (h : uN b % 2 ^ 63 ≤ uN a % 2 ^ 63) (hb : uN b % 2 ^ 63 ≠ 9218868437227405312) : uN (sumC a b) = FP.Core.encode FP.Core.b64 (FP.Core.round FP.Core.b64 (FP.Core.exactSum (FP.Core.decode FP.Core.b64 (uN a)) (FP.Core.decode FP.Core.b64 (uN b)))) ∧ FP.Core.round FP.Core.b64 (FP.Core.exactSum (FP.Core.decode FP.Core.b64 (uN a)) (FP.Core.decode FP.Core.b64 (uN b))) ≠ .nan := by
  have hM := (isN_uN a).mp ha
  have hal := uN_lt a
  have hbl := uN_lt b
  unfold sumC
  by_cases a0 : uN a % 2 ^ 63 = 0
  · have b0 : uN b % 2 ^ 63 = 0 := by omega
    rw [if_pos a0, dec_Z a0, dec_Z b0]
    have e : FP.Core.exactSum (.fin (decide (¬ 0 ≤ a)) 0 FP.Core.b64.qmin) (.fin (decide (¬ 0 ≤ b)) 0 FP.Core.b64.qmin) = .fin (decide (¬ 0 ≤ a) && decide (¬ 0 ≤ b)) 0 FP.Core.b64.qmin := by
      generalize decide (¬ 0 ≤ a) = s
      generalize decide (¬ 0 ≤ b) = t
      revert s t
      decide +kernel
    rw [e]
    refine ⟨?_, FP.Core.roundRatio_ne_nan _ _ _ _ _⟩
    show _ = FP.Core.encode FP.Core.b64 (FP.Core.roundRatio FP.Core.b64 _ 0 1 _)
    rw [enc_fin0 FP.Core.good_b64, Nat.mul_assoc, et64, uN_and]
    by_cases c : 0 ≤ a
    · have c1 := (ge0_uN a).mp c
      rw [show uN a = 0 by omega, Nat.zero_and]
      simp [c]
    · have c1 : uN a = 2 ^ 63 := by
        rw [ge0_uN] at c
        omega
      by_cases d : 0 ≤ b
      · have d1 := (ge0_uN b).mp d
        rw [show uN b = 0 by omega, Nat.and_zero]
        simp [d]
      · have d1 : uN b = 2 ^ 63 := by
          rw [ge0_uN] at d
          omega
        rw [c1, d1, Nat.and_self]
        simp [c, d]
  rw [if_neg a0]
  by_cases ai : uN a % 2 ^ 63 = 9218868437227405312
  · rw [if_pos ai]
    obtain ⟨d0, r0, hd, -⟩ := dec_F (a := b) (by omega)
    have e : FP.Core.round FP.Core.b64 (FP.Core.exactSum (FP.Core.decode FP.Core.b64 (uN a)) (FP.Core.decode FP.Core.b64 (uN b))) = FP.Core.decode FP.Core.b64 (uN a) := by
      rw [hd, dec_I ai]
      rfl
    rw [e, enc_dec ha]
    exact ⟨rfl, rb_ok ha⟩
  rw [if_neg ai]
  by_cases b0 : uN b % 2 ^ 63 = 0
  · rw [if_pos b0]
    have e : FP.Core.round FP.Core.b64 (FP.Core.exactSum (FP.Core.decode FP.Core.b64 (uN a)) (FP.Core.decode FP.Core.b64 (uN b))) = FP.Core.decode FP.Core.b64 (uN a) := by
      rw [dec_Z b0]
      refine FP.Core.round_sum_zero FP.Core.good_b64 (fit_dec a) _ ?_
      intro s q z
      obtain ⟨c0, q0, hd, hz⟩ := dec_F (a := a) (by omega)
      rw [hd] at z
      have := (FP.Core.Datum.fin.inj z).2.1
      exact absurd (hz.mp this) a0
    rw [e, enc_dec ha]
    exact ⟨rfl, rb_ok ha⟩
  rw [if_neg b0]
  obtain ⟨c, q, hpa⟩ := pts_of a0 (by omega)
  obtain ⟨d, r, hpb⟩ := pts_of b0 (by omega)
  refine ⟨sumFin_eq hpa hpb h, ?_⟩
  obtain ⟨-, -, -, -, c0, q0, hda, -⟩ := hpa
  obtain ⟨-, -, -, -, d0, r0, hdb, -⟩ := hpb
  rw [hda, hdb]
  exact FP.Core.roundRatio_ne_nan _ _ _ _ _
theorem sum_cls {a b : Int64} (ha : isN a) (hb : isN b) : s_X3_sum a b = if uN a % 2 ^ 63 = 9218868437227405312 then (if uN b % 2 ^ 63 = 9218868437227405312 then (if a = b then a else 9221120237041090560) else a) else if uN a % 2 ^ 63 < uN b % 2 ^ 63 then sumC b a else sumC a b := by
  have h2 : ∀ x : Nat, x % 2 ^ 63 < 2 ^ 63 := fun x => Nat.mod_lt _ (by decide)
  unfold s_X3_sum
  rw [x0_num ha, x0_num hb, if_pos rfl, if_pos rfl, inf_M, inf_M, pn_64, x0_mag, x0_mag]
  by_cases ai : uN a % 2 ^ 63 = 9218868437227405312
  · rw [if_pos ai, if_neg (by decide), if_pos ai]
    by_cases bi : uN b % 2 ^ 63 = 9218868437227405312
    · rw [if_pos bi, if_neg (by decide), if_pos bi]
    · rw [if_neg bi, if_pos rfl, if_neg bi]
  · rw [if_neg ai, if_pos rfl, if_neg ai]
    have hc : a &&& 9223372036854775807 < b &&& 9223372036854775807 ↔ uN a % 2 ^ 63 < uN b % 2 ^ 63 := by rw [lt_uN (by rw [uN_and63]; exact h2 _) (by rw [uN_and63]; exact h2 _), uN_and63, uN_and63]
    have fin : ∀ x y : Int64, (x = a ∧ y = b ∨ x = b ∧ y = a) → s_X3_sum_j111 a b x y = sumC x y := by
      intro x y hxy
      unfold s_X3_sum_j111 sumC
      rw [zer_M, inf_M, zer_M]
      by_cases x0 : uN x % 2 ^ 63 = 0
      · rw [if_pos x0, if_neg (by decide), if_pos x0]
        rcases hxy with ⟨rfl, rfl⟩ | ⟨rfl, rfl⟩
        · rfl
        · exact Int64.and_comm _ _
      · rw [if_neg x0, if_pos rfl, if_neg x0]
        by_cases xi : uN x % 2 ^ 63 = 9218868437227405312
        · rw [if_pos xi, if_neg (by decide), if_pos xi]
        · rw [if_neg xi, if_pos rfl, if_neg xi]
          by_cases y0 : uN y % 2 ^ 63 = 0
          · rw [if_pos y0, if_neg (by decide), if_pos y0]
          · rw [if_neg y0, if_pos rfl, if_neg y0]
    unfold s_X3_sum_j87 s_X3_sum_j99
    by_cases c : uN a % 2 ^ 63 < uN b % 2 ^ 63
    · rw [if_pos (hc.mpr c), if_pos c, if_pos rfl, if_pos rfl]
      exact fin b a (Or.inr ⟨rfl, rfl⟩)
    · rw [if_neg (fun z => c (hc.mp z)), if_neg c, if_neg (by decide), if_neg (by decide)]
      exact fin a b (Or.inl ⟨rfl, rfl⟩)
theorem real_sum (a b : Int64) : s_X9_doubleBits (s_X9_sumOf (s_X9_realBits a) (s_X9_realBits b)) = s_X3_sum a b := by
  unfold s_X9_sumOf
  by_cases ha : isN a
  · rw [if_pos (dEq_self ha)]
    by_cases hb : isN b
    · rw [if_pos (dEq_self hb), end_M ha, end_M hb, sum_cls ha hb]
      have hMa := (isN_uN a).mp ha
      have hMb := (isN_uN b).mp hb
      by_cases ai : uN a % 2 ^ 63 = 9218868437227405312
      · rw [if_pos ai, if_neg (by decide), if_pos ai]
        by_cases bi : uN b % 2 ^ 63 = 9218868437227405312
        · rw [if_pos bi, if_neg (by decide), if_pos bi]
          by_cases e : a = b
          · rw [if_pos ((eq_M ha hb).mpr ((eq_inf ai bi).mpr e)), if_pos e]
            subst e
            refine op_bits (fit_dec a) (rb_ok ha) ?_ (enc_dec ha).symm
            rw [dadd_op ha ha, dec_I ai]
            show UInt64.ofNat (FP.Core.encode FP.Core.b64 (FP.Core.round FP.Core.b64 (if decide (¬ 0 ≤ a) = decide (¬ 0 ≤ a) then _ else _))) = _
            rw [if_pos rfl]
            rfl
          · rw [if_neg (fun z => e ((eq_inf ai bi).mp ((eq_M ha hb).mp z))), if_neg e]
            exact db_nan
        · rw [if_neg bi, if_pos rfl, if_neg bi]
          have := sumC_bits ha (b := b) (by omega) bi
          have h3 : sumC a b = a := by
            unfold sumC
            rw [if_neg (by omega), if_pos ai]
          rw [h3] at this
          exact op_bits (FP.Core.round_fits FP.Core.good_b64 _) this.2 (dadd_op ha hb) this.1
      · rw [if_neg ai, if_pos rfl, if_neg ai]
        by_cases c : uN a % 2 ^ 63 < uN b % 2 ^ 63
        · rw [if_pos c]
          have := sumC_bits hb (b := a) (by omega) ai
          rw [show FP.dadd (s_X9_realBits a) (s_X9_realBits b) = FP.dadd (s_X9_realBits b) (s_X9_realBits a) from FP.Core.dadd_comm _ _]
          exact op_bits (FP.Core.round_fits FP.Core.good_b64 _) this.2 (dadd_op hb ha) this.1
        · rw [if_neg c]
          have := sumC_bits ha (b := b) (by omega) (by omega)
          exact op_bits (FP.Core.round_fits FP.Core.good_b64 _) this.2 (dadd_op ha hb) this.1
    · rw [if_neg (dEq_nself hb), db_nan]
      unfold s_X3_sum
      rw [x0_num ha, x0_nan hb, if_pos rfl, if_neg (by decide), pn_64]
  · rw [if_neg (dEq_nself ha), db_nan]
    unfold s_X3_sum
    rw [x0_nan ha, if_neg (by decide), pn_64]
