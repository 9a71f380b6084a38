/-! ===== differences, products, quotients, remainders on both sides ===== -/
theorem top_bit (x : Int64) : (uN x).testBit 63 = decide (¬ 0 ≤ x) := by
  have hl := uN_lt x
  rw [Nat.testBit_eq_decide_div_mod_eq]
  by_cases h : 0 ≤ x
  · have h1 := (ge0_uN x).mp h
    rw [show uN x / 2 ^ 63 % 2 = 0 by omega]
    simp [h]
  · have h1 : 2 ^ 63 ≤ uN x := by
      rw [ge0_uN] at h
      omega
    rw [show uN x / 2 ^ 63 % 2 = 1 by omega]
    simp [h]
theorem sgn_x (a b : Int64) : decide (¬ 0 ≤ a ^^^ b) = (decide (¬ 0 ≤ a) != decide (¬ 0 ≤ b)) := by
  rw [← top_bit, ← top_bit, ← top_bit, uN_xor, Nat.testBit_xor]
theorem sgn_and (x : Int64) : uN (x &&& (-9223372036854775808)) = (decide (¬ 0 ≤ x)).toNat * 2 ^ 63 := by
  rw [uN_and, uN_min]
  by_cases h : 0 ≤ x
  · rw [(and_bit (uN x) 63).mpr (by rw [top_bit]; simp [h])]
    simp [h]
  · have hl := uN_lt x
    have h1 : 2 ^ 63 ≤ uN x := by
      rw [ge0_uN] at h
      omega
    have h2 : (uN x - 2 ^ 63) + 2 ^ 63 = uN x := by omega
    have h3 : uN x = 2 ^ 63 ||| (uN x - 2 ^ 63) := by
      have := Nat.two_pow_add_eq_or_of_lt (i := 63) (b := uN x - 2 ^ 63) (by omega) 1
      rw [Nat.mul_one] at this
      omega
    rw [h3, Nat.and_or_distrib_right, Nat.and_self, (and_bit (uN x - 2 ^ 63) 63).mpr (Nat.testBit_lt_two_pow (by omega)), Nat.or_zero]
    simp [h]
def sgX (a b : Int64) : Int64 := (a ^^^ b) &&& (-9223372036854775808)
theorem sgX_0 (a b : Int64) : uN (sgX a b) = (decide (¬ 0 ≤ a) != decide (¬ 0 ≤ b)).toNat * 2 ^ 63 := by
  unfold sgX
  rw [sgn_and, sgn_x]
theorem sgX_i (a b : Int64) : uN (sgX a b ||| 9218868437227405312) = (decide (¬ 0 ≤ a) != decide (¬ 0 ≤ b)).toNat * 2 ^ 63 + 9218868437227405312 := by
  rw [uN_or, sgX_0, show uN 9218868437227405312 = 9218868437227405312 from by decide]
  cases (decide (¬ 0 ≤ a) != decide (¬ 0 ≤ b)) <;> decide +kernel
theorem enc_0 (s : Bool) (e : Int) : FP.Core.encode FP.Core.b64 (FP.Core.round FP.Core.b64 (.fin s 0 e)) = s.toNat * 2 ^ 63 := by
  show FP.Core.encode FP.Core.b64 (FP.Core.roundRatio FP.Core.b64 s 0 1 e) = _
  rw [enc_fin0 FP.Core.good_b64, Nat.mul_assoc, et64]
theorem enc_i (s : Bool) : FP.Core.encode FP.Core.b64 (.inf s) = s.toNat * 2 ^ 63 + 9218868437227405312 := by
  cases s <;> decide +kernel
theorem zero_M {a : Int64} (h : isN a) : dEq (s_X9_realBits a) FP.dconst0 ↔ uN a % 2 ^ 63 = 0 := by
  rw [zero_num h, zer_M]
  by_cases c : uN a % 2 ^ 63 = 0
  · simp [c]
  · simp [c]
theorem flip_u (b : Int64) : (b ^^^ (-9223372036854775808)).toUInt64 = FP.dneg b.toUInt64 := by
  unfold FP.dneg
  rw [Int64.toUInt64_xor]
  rfl
theorem flip_uN (b : Int64) : uN (b ^^^ (-9223372036854775808)) % 2 ^ 63 = uN b % 2 ^ 63 := by
  have hl := uN_lt b
  rw [uN_xor, uN_min]
  obtain ⟨h1, h2⟩ := FP.xor_top (a := uN b) (k := 63) (by omega)
  by_cases h : uN b < 2 ^ 63
  · rw [h1 h]
    omega
  · rw [h2 (by omega)]
    omega
theorem flip_N {b : Int64} : isN (b ^^^ (-9223372036854775808)) ↔ isN b := by rw [isN_uN, isN_uN, flip_uN]
theorem flip_sg (b : Int64) : 0 ≤ b ^^^ (-9223372036854775808) ↔ ¬ 0 ≤ b := by
  have h := sgn_x b (-9223372036854775808)
  have h0 : decide (¬ (0 : Int64) ≤ -9223372036854775808) = true := by decide
  rw [h0] at h
  by_cases c : 0 ≤ b
  · simp [c] at h
    simp [c]
    exact h
  · simp [c] at h
    simp [c]
    exact h
theorem dsub_flip {a b : Int64} (hb : isN b) : FP.dsub (s_X9_realBits a) (s_X9_realBits b) = FP.dadd (s_X9_realBits a) (s_X9_realBits (b ^^^ (-9223372036854775808))) := by
  rw [rb_num hb, rb_num (flip_N.mpr hb), flip_u, FP.dneg_core ((FP.Core.notNaN_iff _).mpr (rb_ok hb))]
  exact FP.Core.dsub_eq _ _
theorem real_diff (a b : Int64) : s_X9_doubleBits (s_X9_lessOf (s_X9_realBits a) (s_X9_realBits b)) = s_X3_difference a b := by
  unfold s_X3_difference
  rw [← real_sum]
  congr 1
  unfold s_X9_lessOf s_X9_sumOf
  by_cases ha : isN a
  · rw [if_pos (dEq_self ha), if_pos (dEq_self ha)]
    by_cases hb : isN b
    · have hb2 := flip_N.mpr hb
      rw [if_pos (dEq_self hb), if_pos (dEq_self hb2), end_M ha, end_M hb2, dsub_flip hb, flip_uN]
      by_cases ai : uN a % 2 ^ 63 = 9218868437227405312
      · have h10 : ¬ (1 : Int32) = 0 := by decide
        rw [if_pos ai, if_neg h10, if_neg h10]
        have g1 := eq_M ha hb
        have g2 := eq_M ha hb2
        rw [rank_M (a := a), rank_M (a := b), ai] at g1
        rw [rank_M (a := a), rank_M (a := b ^^^ (-9223372036854775808)), flip_uN, ai] at g2
        by_cases bi : uN b % 2 ^ 63 = 9218868437227405312
        · rw [if_pos bi, if_neg h10]
          rw [bi] at g1 g2
          by_cases c : 0 ≤ a <;> by_cases d : 0 ≤ b
          · have e2 : ¬ 0 ≤ b ^^^ (-9223372036854775808) := fun z => (flip_sg b).mp z d
            rw [if_pos c, if_pos d] at g1
            rw [if_pos c, if_neg e2] at g2
            rw [if_pos (g1.mpr rfl), if_neg (fun z => by have := g2.mp z; omega)]
          · have e2 : 0 ≤ b ^^^ (-9223372036854775808) := (flip_sg b).mpr d
            rw [if_pos c, if_neg d] at g1
            rw [if_pos c, if_pos e2] at g2
            rw [if_pos (g2.mpr rfl), if_neg (fun z => by have := g1.mp z; omega)]
          · have e2 : ¬ 0 ≤ b ^^^ (-9223372036854775808) := fun z => (flip_sg b).mp z d
            rw [if_neg c, if_pos d] at g1
            rw [if_neg c, if_neg e2] at g2
            rw [if_pos (g2.mpr rfl), if_neg (fun z => by have := g1.mp z; omega)]
          · have e2 : 0 ≤ b ^^^ (-9223372036854775808) := (flip_sg b).mpr d
            rw [if_neg c, if_neg d] at g1
            rw [if_neg c, if_pos e2] at g2
            rw [if_pos (g1.mpr rfl), if_neg (fun z => by have := g2.mp z; omega)]
        · rw [if_neg bi, if_pos rfl, if_neg]
          intro z
          have := g1.mp z
          split at this <;> split at this <;> omega
      · rw [if_neg ai, if_pos rfl, if_pos rfl]
    · rw [if_neg (dEq_nself hb), if_neg (dEq_nself (fun z => hb (flip_N.mp z)))]
  · rw [if_neg (dEq_nself ha), if_neg (dEq_nself ha)]
theorem prod_cls {a b : Int64} (ha : isN a) (hb : isN b) : s_X3_product a b = if uN a % 2 ^ 63 = 0 ∨ uN b % 2 ^ 63 = 0 then (if uN a % 2 ^ 63 = 9218868437227405312 ∨ uN b % 2 ^ 63 = 9218868437227405312 then 9221120237041090560 else sgX a b) else if uN a % 2 ^ 63 = 9218868437227405312 ∨ uN b % 2 ^ 63 = 9218868437227405312 then sgX a b ||| 9218868437227405312 else s_X3_productOfFinite a b := by
  unfold s_X3_product s_X3_product_j61 s_X3_product_j83
  rw [x0_num ha, x0_num hb, if_pos rfl, if_pos rfl, zer_M, zer_M, inf_M, inf_M, pn_64]
  show (if _ = _ then (if _ = _ then (if _ = _ then (if _ = _ then (if _ = _ then _ else sgX a b) else (if _ = _ then sgX a b ||| _ else _)) else (if _ = _ then sgX a b ||| _ else _)) else _) else _) = _
  by_cases a0 : uN a % 2 ^ 63 = 0
  · have ai : ¬ uN a % 2 ^ 63 = 9218868437227405312 := by omega
    by_cases bi : uN b % 2 ^ 63 = 9218868437227405312
    · simp [a0, bi]
    · simp [a0, bi, sgX]
  · by_cases b0 : uN b % 2 ^ 63 = 0
    · by_cases ai : uN a % 2 ^ 63 = 9218868437227405312
      · simp [b0, ai]
      · simp [a0, b0, ai, sgX]
    · by_cases ai : uN a % 2 ^ 63 = 9218868437227405312
      · simp [b0, ai]
      · by_cases bi : uN b % 2 ^ 63 = 9218868437227405312
        · simp [a0, ai, bi]
        · simp [a0, b0, ai, bi]
theorem prod_bits {a b : Int64} (ha : isN a) (hb : isN b) (h1 : ¬ (uN a % 2 ^ 63 = 0 ∧ uN b % 2 ^ 63 = 9218868437227405312)) (h2 : ¬ (uN b % 2 ^ 63 = 0 ∧ uN a % 2 ^ 63 = 9218868437227405312)) : s_X9_doubleBits (FP.dmul (s_X9_realBits a) (s_X9_realBits b)) = s_X3_product a b := by
  have hMa := (isN_uN a).mp ha
  have hMb := (isN_uN b).mp hb
  rw [prod_cls ha hb]
  by_cases ai : uN a % 2 ^ 63 = 9218868437227405312
  · have b0 : ¬ uN b % 2 ^ 63 = 0 := fun z => h2 ⟨z, ai⟩
    rw [if_neg (by omega), if_pos (Or.inl ai)]
    have e : FP.Core.round FP.Core.b64 (FP.Core.exactProduct (FP.Core.decode FP.Core.b64 (uN a)) (FP.Core.decode FP.Core.b64 (uN b))) = .inf (decide (¬ 0 ≤ a) != decide (¬ 0 ≤ b)) := by
      rw [dec_I ai]
      by_cases bi : uN b % 2 ^ 63 = 9218868437227405312
      · rw [dec_I bi]
        rfl
      · obtain ⟨d0, r0, hd, hz⟩ := dec_F (a := b) (by omega)
        rw [hd]
        show FP.Core.round FP.Core.b64 (if d0 = 0 then _ else _) = _
        rw [if_neg (fun z => b0 (hz.mp z))]
        rfl
    refine op_bits (FP.Core.round_fits FP.Core.good_b64 _) ?_ (dmul_op ha hb) ?_
    · rw [e]
      intro z
      cases z
    · rw [e, sgX_i, enc_i]
  by_cases bi : uN b % 2 ^ 63 = 9218868437227405312
  · have a0 : ¬ uN a % 2 ^ 63 = 0 := fun z => h1 ⟨z, bi⟩
    rw [if_neg (by omega), if_pos (Or.inr bi)]
    have e : FP.Core.round FP.Core.b64 (FP.Core.exactProduct (FP.Core.decode FP.Core.b64 (uN a)) (FP.Core.decode FP.Core.b64 (uN b))) = .inf (decide (¬ 0 ≤ a) != decide (¬ 0 ≤ b)) := by
      obtain ⟨c0, q0, hd, hz⟩ := dec_F (a := a) (by omega)
      rw [dec_I bi, hd]
      show FP.Core.round FP.Core.b64 (if c0 = 0 then _ else _) = _
      rw [if_neg (fun z => a0 (hz.mp z))]
      rfl
    refine op_bits (FP.Core.round_fits FP.Core.good_b64 _) ?_ (dmul_op ha hb) ?_
    · rw [e]
      intro z
      cases z
    · rw [e, sgX_i, enc_i]
  have hi : ¬ (uN a % 2 ^ 63 = 9218868437227405312 ∨ uN b % 2 ^ 63 = 9218868437227405312) := by omega
  rw [if_neg hi, if_neg hi]
  obtain ⟨c0, q0, hda, hza⟩ := dec_F (a := a) (by omega)
  obtain ⟨d0, r0, hdb, hzb⟩ := dec_F (a := b) (by omega)
  have hn : FP.Core.round FP.Core.b64 (FP.Core.exactProduct (FP.Core.decode FP.Core.b64 (uN a)) (FP.Core.decode FP.Core.b64 (uN b))) ≠ .nan := by
    rw [hda, hdb]
    exact FP.Core.roundRatio_ne_nan _ _ _ _ _
  refine op_bits (FP.Core.round_fits FP.Core.good_b64 _) hn (dmul_op ha hb) ?_
  by_cases z : uN a % 2 ^ 63 = 0 ∨ uN b % 2 ^ 63 = 0
  · rw [if_pos z, sgX_0, hda, hdb]
    have e : FP.Core.exactProduct (.fin (decide (¬ 0 ≤ a)) c0 q0) (.fin (decide (¬ 0 ≤ b)) d0 r0) = .fin (decide (¬ 0 ≤ a) != decide (¬ 0 ≤ b)) 0 (q0 + r0) := by
      show FP.Core.Datum.fin _ (c0 * d0) _ = _
      rcases z with z | z
      · rw [hza.mpr z, Nat.zero_mul]
      · rw [hzb.mpr z, Nat.mul_zero]
    rw [e, enc_0]
  · rw [if_neg z]
    obtain ⟨c, q, hpa⟩ := pts_of (a := a) (by omega) (by omega)
    obtain ⟨d, r, hpb⟩ := pts_of (a := b) (by omega) (by omega)
    exact prodFin_eq hpa hpb
theorem real_prod (a b : Int64) : s_X9_doubleBits (s_X9_timesOf (s_X9_realBits a) (s_X9_realBits b)) = s_X3_product a b := by
  unfold s_X9_timesOf
  by_cases ha : isN a
  · rw [if_pos (dEq_self ha)]
    by_cases hb : isN b
    · rw [if_pos (dEq_self hb), end_M ha, end_M hb]
      have za := zero_M ha
      have zb := zero_M hb
      by_cases a0 : uN a % 2 ^ 63 = 0
      · rw [if_pos (za.mpr a0)]
        by_cases bi : uN b % 2 ^ 63 = 9218868437227405312
        · rw [if_pos bi, if_neg (by decide), db_nan, prod_cls ha hb, if_pos (Or.inl a0), if_pos (Or.inr bi)]
        · rw [if_neg bi, if_pos rfl, if_neg (show ¬ uN a % 2 ^ 63 = 9218868437227405312 by omega), if_pos rfl]
          by_cases b0 : uN b % 2 ^ 63 = 0
          · rw [if_pos (zb.mpr b0)]
            exact prod_bits ha hb (by omega) (by omega)
          · rw [if_neg (fun z => b0 (zb.mp z))]
            exact prod_bits ha hb (by omega) (by omega)
      · rw [if_neg (fun z => a0 (za.mp z))]
        by_cases b0 : uN b % 2 ^ 63 = 0
        · rw [if_pos (zb.mpr b0)]
          by_cases ai : uN a % 2 ^ 63 = 9218868437227405312
          · rw [if_pos ai, if_neg (by decide), db_nan, prod_cls ha hb, if_pos (Or.inr b0), if_pos (Or.inl ai)]
          · rw [if_neg ai, if_pos rfl]
            exact prod_bits ha hb (by omega) (by omega)
        · rw [if_neg (fun z => b0 (zb.mp z))]
          exact prod_bits ha hb (by omega) (by omega)
    · rw [if_neg (dEq_nself hb), db_nan]
      unfold s_X3_product
      rw [x0_num ha, x0_nan hb, if_pos rfl, if_neg (by decide), pn_64]
  · rw [if_neg (dEq_nself ha), db_nan]
    unfold s_X3_product
    rw [x0_nan ha, if_neg (by decide), pn_64]
