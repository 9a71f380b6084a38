/-! ===== quotients and remainders on both sides; real ===== -/
theorem quot_cls {a b : Int64} (ha : isN a) (hb : isN b) : s_X3_quotient a b = if uN a % 2 ^ 63 = 9218868437227405312 then (if uN b % 2 ^ 63 = 9218868437227405312 then 9221120237041090560 else sgX a b ||| 9218868437227405312) else if uN b % 2 ^ 63 = 0 then (if uN a % 2 ^ 63 = 0 then 9221120237041090560 else sgX a b ||| 9218868437227405312) else if uN a % 2 ^ 63 = 0 ∨ uN b % 2 ^ 63 = 9218868437227405312 then sgX a b else s_X3_quotientOfFinite a b := by
  unfold s_X3_quotient
  rw [x0_num ha, x0_num hb, if_pos rfl, if_pos rfl, zer_M, zer_M, inf_M, inf_M, pn_64]
  show (if _ = _ then (if _ = _ then (if _ = _ then (if _ = _ then _ else sgX a b) else sgX a b) else (if _ = _ then sgX a b ||| _ else _)) else (if _ = _ then sgX a b ||| _ else _)) = _
  by_cases ai : uN a % 2 ^ 63 = 9218868437227405312
  · by_cases bi : uN b % 2 ^ 63 = 9218868437227405312
    · simp [ai, bi, sgX]
    · simp [ai, bi, sgX]
  · by_cases b0 : uN b % 2 ^ 63 = 0
    · by_cases a0 : uN a % 2 ^ 63 = 0
      · simp [a0, b0, sgX]
      · simp [a0, b0, ai, sgX]
    · by_cases a0 : uN a % 2 ^ 63 = 0
      · simp [a0, b0, sgX]
      · by_cases bi : uN b % 2 ^ 63 = 9218868437227405312
        · simp [a0, ai, bi, sgX]
        · simp [a0, b0, ai, bi]
theorem quot_bits {a b : Int64} (ha : isN a) (hb : isN b) (h1 : ¬ (uN a % 2 ^ 63 = 0 ∧ uN b % 2 ^ 63 = 0)) (h2 : ¬ (uN b % 2 ^ 63 = 9218868437227405312 ∧ uN a % 2 ^ 63 = 9218868437227405312)) : s_X9_doubleBits (FP.ddiv (s_X9_realBits a) (s_X9_realBits b)) = s_X3_quotient a b := by
  have hMa := (isN_uN a).mp ha
  have hMb := (isN_uN b).mp hb
  rw [quot_cls ha hb]
  by_cases ai : uN a % 2 ^ 63 = 9218868437227405312
  · have bi : ¬ uN b % 2 ^ 63 = 9218868437227405312 := fun z => h2 ⟨z, ai⟩
    rw [if_pos ai, if_neg bi]
    obtain ⟨d0, r0, hd, hz⟩ := dec_F (a := b) (by omega)
    have e : FP.Core.quotient FP.Core.b64 (FP.Core.decode FP.Core.b64 (uN a)) (FP.Core.decode FP.Core.b64 (uN b)) = .inf (decide (¬ 0 ≤ a) != decide (¬ 0 ≤ b)) := by
      rw [dec_I ai, hd]
      rfl
    refine op_bits (FP.Core.quotient_fits FP.Core.good_b64 _ _) ?_ (ddiv_op ha hb) ?_
    · rw [e]
      intro z
      cases z
    · rw [e, sgX_i, enc_i]
  rw [if_neg ai]
  obtain ⟨c0, q0, hda, hza⟩ := dec_F (a := a) (by omega)
  by_cases b0 : uN b % 2 ^ 63 = 0
  · have a0 : ¬ uN a % 2 ^ 63 = 0 := fun z => h1 ⟨z, b0⟩
    rw [if_pos b0, if_neg a0]
    have e : FP.Core.quotient FP.Core.b64 (FP.Core.decode FP.Core.b64 (uN a)) (FP.Core.decode FP.Core.b64 (uN b)) = .inf (decide (¬ 0 ≤ a) != decide (¬ 0 ≤ b)) := by
      rw [dec_Z b0, hda]
      show (if (0 : Nat) = 0 then (if c0 = 0 then FP.Core.Datum.nan else FP.Core.Datum.inf (decide (¬ 0 ≤ a) != decide (¬ 0 ≤ b))) else FP.Core.roundRatio FP.Core.b64 (decide (¬ 0 ≤ a) != decide (¬ 0 ≤ b)) c0 0 (q0 - FP.Core.b64.qmin)) = _
      rw [if_pos rfl, if_neg (fun z => a0 (hza.mp z))]
    refine op_bits (FP.Core.quotient_fits FP.Core.good_b64 _ _) ?_ (ddiv_op ha hb) ?_
    · rw [e]
      intro z
      cases z
    · rw [e, sgX_i, enc_i]
  rw [if_neg b0]
  by_cases bi : uN b % 2 ^ 63 = 9218868437227405312
  · rw [if_pos (Or.inr bi)]
    have e : FP.Core.quotient FP.Core.b64 (FP.Core.decode FP.Core.b64 (uN a)) (FP.Core.decode FP.Core.b64 (uN b)) = .fin (decide (¬ 0 ≤ a) != decide (¬ 0 ≤ b)) 0 FP.Core.b64.qmin := by
      rw [dec_I bi, hda]
      rfl
    refine op_bits (FP.Core.quotient_fits FP.Core.good_b64 _ _) ?_ (ddiv_op ha hb) ?_
    · rw [e]
      intro z
      cases z
    · have hr := FP.Core.round_of_fits FP.Core.good_b64 (FP.Core.zero_fits FP.Core.good_b64 (decide (¬ 0 ≤ a) != decide (¬ 0 ≤ b)))
      rw [e, sgX_0, ← hr, enc_0]
  obtain ⟨d0, r0, hdb, hzb⟩ := dec_F (a := b) (by omega)
  have hdz : ¬ d0 = 0 := fun z => b0 (hzb.mp z)
  have hq : FP.Core.quotient FP.Core.b64 (FP.Core.decode FP.Core.b64 (uN a)) (FP.Core.decode FP.Core.b64 (uN b)) = FP.Core.roundRatio FP.Core.b64 (decide (¬ 0 ≤ a) != decide (¬ 0 ≤ b)) c0 d0 (q0 - r0) := by
    rw [hda, hdb]
    show (if d0 = 0 then _ else _) = _
    rw [if_neg hdz]
  refine op_bits (FP.Core.quotient_fits FP.Core.good_b64 _ _) (by rw [hq]; exact FP.Core.roundRatio_ne_nan _ _ _ _ _) (ddiv_op ha hb) ?_
  by_cases a0 : uN a % 2 ^ 63 = 0
  · rw [if_pos (Or.inl a0), sgX_0, hq, hza.mpr a0]
    have e : FP.Core.roundRatio FP.Core.b64 (decide (¬ 0 ≤ a) != decide (¬ 0 ≤ b)) 0 d0 (q0 - r0) = FP.Core.round FP.Core.b64 (.fin (decide (¬ 0 ≤ a) != decide (¬ 0 ≤ b)) 0 0) := by
      show _ = FP.Core.roundRatio FP.Core.b64 _ 0 1 0
      unfold FP.Core.roundRatio
      rw [if_pos rfl, if_pos rfl]
    rw [e, enc_0]
  · rw [if_neg (by omega)]
    obtain ⟨c, q, hpa⟩ := pts_of a0 (by omega)
    obtain ⟨d, r, hpb⟩ := pts_of b0 (by omega)
    exact quotFin_eq hpa hpb
theorem real_quot (a b : Int64) : s_X9_doubleBits (s_X9_overOf (s_X9_realBits a) (s_X9_realBits b)) = s_X3_quotient a b := by
  unfold s_X9_overOf
  by_cases ha : isN a
  · rw [if_pos (dEq_self ha)]
    by_cases hb : isN b
    · rw [if_pos (dEq_self hb), end_M ha, end_M hb]
      have za := zero_M ha
      have zb := zero_M hb
      by_cases a0 : uN a % 2 ^ 63 = 0
      · rw [if_pos (za.mpr a0), if_neg (show ¬ uN a % 2 ^ 63 = 9218868437227405312 by omega), if_pos rfl]
        by_cases b0 : uN b % 2 ^ 63 = 0
        · rw [if_pos (zb.mpr b0), db_nan, quot_cls ha hb, if_neg (by omega), if_pos b0, if_pos a0]
        · rw [if_neg (fun z => b0 (zb.mp z))]
          exact quot_bits ha hb (by omega) (by omega)
      · rw [if_neg (fun z => a0 (za.mp z))]
        by_cases ai : uN a % 2 ^ 63 = 9218868437227405312
        · rw [if_pos ai, if_neg (by decide)]
          by_cases bi : uN b % 2 ^ 63 = 9218868437227405312
          · rw [if_pos bi, if_neg (by decide), db_nan, quot_cls ha hb, if_pos ai, if_pos bi]
          · rw [if_neg bi, if_pos rfl]
            exact quot_bits ha hb (by omega) (by omega)
        · rw [if_neg ai, if_pos rfl]
          exact quot_bits ha hb (by omega) (by omega)
    · rw [if_neg (dEq_nself hb), db_nan]
      unfold s_X3_quotient
      rw [x0_num ha, x0_nan hb, if_pos rfl, if_neg (by decide), pn_64]
  · rw [if_neg (dEq_nself ha), db_nan]
    unfold s_X3_quotient
    rw [x0_nan ha, if_neg (by decide), pn_64]
theorem rem_cls {a b : Int64} (ha : isN a) (hb : isN b) : s_X3_remainder a b = if uN a % 2 ^ 63 = 9218868437227405312 ∨ uN b % 2 ^ 63 = 0 then 9221120237041090560 else if uN a % 2 ^ 63 < uN b % 2 ^ 63 then a else s_X3_remainderOfFinite a b := by
  have h2 : ∀ x : Nat, x % 2 ^ 63 < 2 ^ 63 := fun x => Nat.mod_lt _ (by decide)
  unfold s_X3_remainder s_X3_remainder_j25 s_X3_remainder_j82
  rw [x0_num ha, x0_num hb, if_pos rfl, if_pos rfl, if_pos rfl, zer_M, inf_M, pn_64, x0_mag, x0_mag]
  have hc : b &&& 9223372036854775807 ≤ a &&& 9223372036854775807 ↔ uN b % 2 ^ 63 ≤ uN a % 2 ^ 63 := by rw [le_uN (by rw [uN_and63]; exact h2 _) (by rw [uN_and63]; exact h2 _), uN_and63, uN_and63]
  by_cases ai : uN a % 2 ^ 63 = 9218868437227405312
  · rw [if_pos ai, if_neg (by decide), if_pos (Or.inl ai)]
  rw [if_neg ai, if_pos rfl]
  by_cases b0 : uN b % 2 ^ 63 = 0
  · rw [if_pos b0, if_neg (by decide), if_pos (Or.inr b0)]
  rw [if_neg b0, if_pos rfl, if_neg (show ¬ (uN a % 2 ^ 63 = 9218868437227405312 ∨ uN b % 2 ^ 63 = 0) by omega)]
  by_cases c : uN b % 2 ^ 63 ≤ uN a % 2 ^ 63
  · rw [if_pos (hc.mpr c), if_pos rfl, if_neg (by omega)]
  · rw [if_neg (fun z => c (hc.mp z)), if_neg (by decide), if_pos (by omega)]
theorem rem_bits {a b : Int64} (ha : isN a) (hb : isN b) (ai : ¬ uN a % 2 ^ 63 = 9218868437227405312) (b0 : ¬ uN b % 2 ^ 63 = 0) : s_X9_doubleBits (FP.drem (s_X9_realBits a) (s_X9_realBits b)) = s_X3_remainder a b := by
  have hMa := (isN_uN a).mp ha
  have hMb := (isN_uN b).mp hb
  rw [rem_cls ha hb, if_neg (by omega)]
  have hself : FP.Core.round FP.Core.b64 (FP.Core.exactRemainder (FP.Core.decode FP.Core.b64 (uN a)) (FP.Core.decode FP.Core.b64 (uN b))) = FP.Core.decode FP.Core.b64 (uN a) → s_X9_doubleBits (FP.drem (s_X9_realBits a) (s_X9_realBits b)) = a := by
    intro e
    refine op_bits (FP.Core.round_fits FP.Core.good_b64 _) ?_ (drem_op ha hb) ?_
    · rw [e]
      exact rb_ok ha
    · rw [e, enc_dec ha]
  obtain ⟨c0, q0, hda, hza⟩ := dec_F (a := a) (by omega)
  by_cases c : uN a % 2 ^ 63 < uN b % 2 ^ 63
  · rw [if_pos c]
    apply hself
    by_cases bi : uN b % 2 ^ 63 = 9218868437227405312
    · have := round_dec a
      rw [hda] at this ⊢
      rw [dec_I bi]
      exact this
    by_cases a0 : uN a % 2 ^ 63 = 0
    · obtain ⟨d0, r0, hdb, hzb⟩ := dec_F (a := b) (by omega)
      have hr := FP.Core.round_of_fits FP.Core.good_b64 (FP.Core.zero_fits FP.Core.good_b64 (decide (¬ 0 ≤ a)))
      rw [dec_Z a0, hdb]
      show FP.Core.round FP.Core.b64 (if d0 = 0 then _ else .fin _ (FP.Core.inUnits 0 FP.Core.b64.qmin (min FP.Core.b64.qmin r0) % FP.Core.inUnits d0 r0 (min FP.Core.b64.qmin r0)) (min FP.Core.b64.qmin r0)) = _
      rw [if_neg (fun z => b0 (hzb.mp z))]
      have e0 : FP.Core.inUnits 0 FP.Core.b64.qmin (min FP.Core.b64.qmin r0) = 0 := by
        unfold FP.Core.inUnits
        rw [Nat.zero_mul]
      rw [e0, Nat.zero_mod]
      show FP.Core.roundRatio FP.Core.b64 _ 0 1 _ = _
      unfold FP.Core.roundRatio
      rw [if_pos rfl]
    obtain ⟨c1, q1, hpa⟩ := pts_of a0 (by omega)
    obtain ⟨d, r, hpb⟩ := pts_of b0 (by omega)
    exact rem_small hpa hpb c
  · rw [if_neg c]
    obtain ⟨c1, q1, hpa⟩ := pts_of (a := a) (by omega) (by omega)
    obtain ⟨d, r, hpb⟩ := pts_of (a := b) b0 (by omega)
    refine op_bits (FP.Core.round_fits FP.Core.good_b64 _) ?_ (drem_op ha hb) (remFin_eq hpa hpb (by omega))
    obtain ⟨-, -, -, -, d0, r0, hdb, hr0, -, f1, -⟩ := hpb
    obtain ⟨-, hzb⟩ : True ∧ d0 ≠ 0 := ⟨trivial, by
      rintro rfl
      obtain ⟨d2, r2, h3, h4⟩ := dec_F (a := b) (by omega)
      rw [hdb] at h3
      have := (FP.Core.Datum.fin.inj h3).2.1
      exact b0 (h4.mp this.symm)⟩
    rw [hda, hdb]
    show FP.Core.round FP.Core.b64 (if d0 = 0 then _ else _) ≠ _
    rw [if_neg hzb]
    exact FP.Core.roundRatio_ne_nan _ _ _ _ _
theorem real_rem (a b : Int64) : (if dEq (s_X9_realBits a) (s_X9_realBits a) then if dEq (s_X9_realBits b) (s_X9_realBits b) then if dEq (s_X9_realBits b) FP.dconst0 then s_X9_doubleBits 9221120237041090560 else if s_X9_isEndless (s_X9_realBits a) = 0 then s_X9_doubleBits (FP.drem (s_X9_realBits a) (s_X9_realBits b)) else s_X9_doubleBits 9221120237041090560 else s_X9_doubleBits 9221120237041090560 else s_X9_doubleBits 9221120237041090560) = s_X3_remainder a b := by
  rw [db_nan]
  by_cases ha : isN a
  · rw [if_pos (dEq_self ha)]
    by_cases hb : isN b
    · rw [if_pos (dEq_self hb), end_M ha]
      have zb := zero_M hb
      by_cases b0 : uN b % 2 ^ 63 = 0
      · rw [if_pos (zb.mpr b0), rem_cls ha hb, if_pos (Or.inr b0)]
      · rw [if_neg (fun z => b0 (zb.mp z))]
        by_cases ai : uN a % 2 ^ 63 = 9218868437227405312
        · rw [if_pos ai, if_neg (by decide), rem_cls ha hb, if_pos (Or.inl ai)]
        · rw [if_neg ai, if_pos rfl]
          exact rem_bits ha hb ai b0
    · rw [if_neg (dEq_nself hb)]
      unfold s_X3_remainder s_X3_remainder_j25
      rw [x0_num ha, x0_nan hb, if_pos rfl, if_neg (by decide), if_neg (by decide), pn_64]
  · rw [if_neg (dEq_nself ha)]
    unfold s_X3_remainder s_X3_remainder_j25
    rw [x0_nan ha, if_neg (by decide), if_neg (by decide), pn_64]
theorem both_real (x m : Nat) (p0 : Int32) (p1 p2 : Int64) (S S' : HS) : Both64 (h_X8_real x p0 p1 p2 S) (h_X9_real m p0 p1 p2 S') x m S S' := by
  unfold h_X8_real h_X9_real
  by_cases h1 : p0 < 0
  · rw [if_pos h1, if_pos (in_lo h1)]
    exact Both64.refused (if_neg (st_81 x S)) rfl
  rw [if_neg h1]
  by_cases h2 : p0 ≤ 7
  · rw [if_pos h2, if_neg (by rw [in_in h1 h2]; decide)]
    unfold h_X8_real_j17
    rw [if_pos (st_01 x S)]
    by_cases c0 : p0 = 0
    · rw [if_pos c0, if_pos c0]
      exact ⟨0, _, isCa_0, rfl, by rw [real_sum]; rfl⟩
    rw [if_neg c0, if_neg c0]
    by_cases c1 : p0 = 1
    · rw [if_pos c1, if_pos c1]
      exact ⟨0, _, isCa_0, rfl, by rw [real_diff]; rfl⟩
    rw [if_neg c1, if_neg c1]
    by_cases c2 : p0 = 2
    · rw [if_pos c2, if_pos c2]
      exact ⟨0, _, isCa_0, rfl, by rw [real_prod]; rfl⟩
    rw [if_neg c2, if_neg c2]
    by_cases c3 : p0 = 3
    · rw [if_pos c3, if_pos c3]
      exact ⟨0, _, isCa_0, rfl, by rw [real_quot]; rfl⟩
    rw [if_neg c3, if_neg c3]
    by_cases c4 : p0 = 4
    · rw [if_pos c4, if_pos c4]
      refine ⟨0, _, isCa_0, rfl, ?_⟩
      rw [← real_rem, mEnd_0]
      repeat' split
      all_goals rfl
    rw [if_neg c4, if_neg c4]
    by_cases c5 : p0 = 5
    · rw [if_pos c5, if_pos c5]
      refine ⟨0, _, isCa_0, rfl, ?_⟩
      rw [← greater_eq, mEnd_0]
      repeat' split
      all_goals rfl
    rw [if_neg c5, if_neg c5]
    by_cases c6 : p0 = 6
    · rw [if_pos c6, if_pos c6]
      refine ⟨0, _, isCa_0, rfl, ?_⟩
      rw [← lesser_eq, mEnd_0]
      repeat' split
      all_goals rfl
    rw [if_neg c6, if_neg c6]
    refine ⟨0, _, isCa_0, rfl, ?_⟩
    rw [← withSign_eq, mEnd_0]
    repeat' split
    all_goals rfl
  · rw [if_neg h2, if_pos (in_hi h1 h2)]
    exact Both64.refused (if_neg (st_81 x S)) rfl
