/-! ===== doubles compared: class's ranks, model's compares ===== -/
abbrev isN (a : Int64) : Prop := (a &&& 9223372036854775807) ≤ 9218868437227405312
theorem isN_uN (a : Int64) : isN a ↔ uN a % 2 ^ 63 ≤ 9218868437227405312 := by
  have h2 : uN a % 2 ^ 63 < 2 ^ 63 := Nat.mod_lt _ (by decide)
  unfold isN
  rw [le_uN (by rw [uN_and63]; exact h2) (by decide), uN_and63]
  rfl
theorem sb_1 : (-9223372036854775808 : Int64) - 1 = 9223372036854775807 := by decide
theorem x0_mag (a : Int64) : s_X0_magnitude 52 (-1074) 9218868437227405312 (-9223372036854775808) a = a &&& 9223372036854775807 := by unfold s_X0_magnitude; rw [sb_1]
theorem x0_num {a : Int64} (h : isN a) : s_X0_isNaN 52 (-1074) 9218868437227405312 (-9223372036854775808) a = 0 := by unfold s_X0_isNaN; rw [x0_mag, if_pos h]
theorem x0_nan {a : Int64} (h : ¬ isN a) : s_X0_isNaN 52 (-1074) 9218868437227405312 (-9223372036854775808) a = 1 := by unfold s_X0_isNaN; rw [x0_mag, if_neg h]
theorem rb_num {a : Int64} (h : isN a) : s_X9_realBits a = a.toUInt64 := if_pos h
theorem rb_nan {a : Int64} (h : ¬ isN a) : s_X9_realBits a = 9221120237041090560 := if_neg h
theorem rb_ok {a : Int64} (h : isN a) : FP.Core.val64 a.toUInt64 ≠ .nan := by
  rw [FP.Core.ne_nan, uN_u]
  exact (isN_uN a).mp h
theorem nan_val : FP.Core.val64 9221120237041090560 = .nan := by decide +kernel
theorem key_rank (a : Int64) : FP.Core.dkey a.toUInt64 = (s_X3_rank a).toInt := by
  have hl := uN_lt a
  unfold FP.Core.dkey s_X3_rank
  rw [uN_u, x0_mag]
  by_cases h : 0 ≤ a
  · rw [if_pos h]
    have h1 := (ge0_uN a).mp h
    rw [if_neg (by omega), uN_pos h1]
  · rw [if_neg h]
    have h1 : 2 ^ 63 ≤ uN a := by
      rw [ge0_uN] at h
      omega
    rw [if_pos h1, toInt_uN, uN_neg1, uN_and63]
    split <;> omega
theorem dLt_rank {a b : Int64} (ha : isN a) (hb : isN b) : dLt a.toUInt64 b.toUInt64 ↔ s_X3_rank a < s_X3_rank b := by
  rw [lt_toInt, ← key_rank, ← key_rank]
  exact FP.Core.dcmp_lt_key (rb_ok ha) (rb_ok hb)
theorem dGt_rank {a b : Int64} (ha : isN a) (hb : isN b) : dGt a.toUInt64 b.toUInt64 ↔ s_X3_rank b < s_X3_rank a := by
  rw [lt_toInt, ← key_rank, ← key_rank]
  exact FP.Core.dcmp_gt_key (rb_ok ha) (rb_ok hb)
theorem dEq_rank {a b : Int64} (ha : isN a) (hb : isN b) : dEq a.toUInt64 b.toUInt64 ↔ s_X3_rank a = s_X3_rank b := by
  rw [← Int64.toInt_inj, ← key_rank, ← key_rank]
  exact FP.Core.dcmp_eq_key (rb_ok ha) (rb_ok hb)
theorem le_or {x y : Int64} : x ≤ y ↔ x < y ∨ x = y := by
  rw [le_toInt, lt_toInt, ← Int64.toInt_inj]
  omega
theorem dLe_rank {a b : Int64} (ha : isN a) (hb : isN b) : dLe a.toUInt64 b.toUInt64 ↔ s_X3_rank a ≤ s_X3_rank b := by
  rw [le_or]
  exact or_congr (dLt_rank ha hb) (dEq_rank ha hb)
theorem dGe_rank {a b : Int64} (ha : isN a) (hb : isN b) : dGe a.toUInt64 b.toUInt64 ↔ s_X3_rank b ≤ s_X3_rank a := by
  rw [le_or]
  exact or_congr (dGt_rank ha hb) ((dEq_rank ha hb).trans eq_comm)
theorem cmp_nan {a b : Int64} (h : ¬ isN a ∨ ¬ isN b) : FP.dcmp (s_X9_realBits a) (s_X9_realBits b) = none := by
  refine (FP.Core.dcmp_none _ _).mpr ?_
  rcases h with h | h
  · exact Or.inl (by rw [rb_nan h]; exact nan_val)
  · exact Or.inr (by rw [rb_nan h]; exact nan_val)
theorem nlt_le {x y : Int64} : ¬ x < y ↔ y ≤ x := by
  rw [le_toInt, lt_toInt]
  omega
theorem nle_lt {x y : Int64} : ¬ x ≤ y ↔ y < x := by
  rw [le_toInt, lt_toInt]
  omega
theorem if_sw {c d : Prop} [Decidable c] [Decidable d] {x y : Int32} (h : c ↔ ¬ d) : (if c then x else y) = if d then y else x := by
  by_cases hd : d
  · rw [if_pos hd, if_neg (fun z => h.mp z hd)]
  · rw [if_neg hd, if_pos (h.mpr hd)]
theorem if_sm {c d : Prop} [Decidable c] [Decidable d] {x y : Int32} (h : c ↔ d) : (if c then x else y) = if d then x else y := by
  by_cases hd : d
  · rw [if_pos hd, if_pos (h.mpr hd)]
  · rw [if_neg hd, if_neg (fun z => hd (h.mp z))]
theorem holds_eq {p0 : Int32} (h0 : ¬ p0 < 0) (h5 : p0 ≤ 5) (a b : Int64) : s_X9_holds p0 (s_X9_realBits a) (s_X9_realBits b) = s_X3_isTrue p0 a b := by
  by_cases hn : isN a ∧ isN b
  · obtain ⟨ha, hb⟩ := hn
    rw [rb_num ha, rb_num hb]
    unfold s_X9_holds s_X3_isTrue
    rw [x0_num ha, x0_num hb, if_pos rfl, if_pos rfl]
    by_cases c0 : p0 = 0
    · rw [if_pos c0, if_pos c0]
      exact if_sw ((dLt_rank ha hb).trans nle_lt.symm)
    rw [if_neg c0, if_neg c0]
    by_cases c1 : p0 = 1
    · rw [if_pos c1, if_pos c1]
      exact if_sw ((dLe_rank ha hb).trans nlt_le.symm)
    rw [if_neg c1, if_neg c1]
    by_cases c2 : p0 = 2
    · rw [if_pos c2, if_pos c2]
      exact if_sw ((dGt_rank ha hb).trans nle_lt.symm)
    rw [if_neg c2, if_neg c2]
    by_cases c3 : p0 = 3
    · rw [if_pos c3, if_pos c3]
      exact if_sw ((dGe_rank ha hb).trans nlt_le.symm)
    rw [if_neg c3, if_neg c3]
    by_cases c4 : p0 = 4
    · rw [if_pos c4, if_pos c4]
      exact if_sm (dEq_rank ha hb)
    rw [if_neg c4, if_neg c4]
    exact if_sm (dEq_rank ha hb)
  · have hn' : ¬ isN a ∨ ¬ isN b := by
      by_cases ha : isN a
      · exact Or.inr (fun hb => hn ⟨ha, hb⟩)
      · exact Or.inl ha
    have hz : s_X3_isTrue p0 a b = if p0 = 5 then 1 else 0 := by
      unfold s_X3_isTrue
      by_cases ha : isN a
      · rw [x0_num ha, x0_nan (fun hb => hn ⟨ha, hb⟩)]
        rfl
      · rw [x0_nan ha]
        rfl
    have e := cmp_nan hn'
    have nl : ¬ dLt (s_X9_realBits a) (s_X9_realBits b) := fun z => by rw [dLt, e] at z; cases z
    have ng : ¬ dGt (s_X9_realBits a) (s_X9_realBits b) := fun z => by rw [dGt, e] at z; cases z
    have ne : ¬ dEq (s_X9_realBits a) (s_X9_realBits b) := fun z => by rw [dEq, e] at z; cases z
    rw [hz]
    unfold s_X9_holds
    have nle : ¬ dLe (s_X9_realBits a) (s_X9_realBits b) := fun z => z.elim nl ne
    have nge : ¬ dGe (s_X9_realBits a) (s_X9_realBits b) := fun z => z.elim ng ne
    rw [if_neg nl, if_neg nle, if_neg ng, if_neg nge, if_neg ne, if_neg ne]
    by_cases c5 : p0 = 5
    · subst c5
      rfl
    · rw [if_neg c5]
      have e0 : ¬ (p0 ≠ 0 ∧ p0 ≠ 1 ∧ p0 ≠ 2 ∧ p0 ≠ 3 ∧ p0 ≠ 4) := by
        rintro ⟨a0, a1, a2, a3, a4⟩
        rw [Int32.lt_iff_toInt_lt] at h0
        rw [Int32.le_iff_toInt_le] at h5
        have k : ∀ z : Int32, p0 ≠ z → p0.toInt ≠ z.toInt := fun z h1 h2 => h1 (Int32.toInt.inj h2)
        have k0 := k 0 a0; have k1 := k 1 a1; have k2 := k 2 a2; have k3 := k 3 a3; have k4 := k 4 a4; have k5 := k 5 c5
        have v0 : (0 : Int32).toInt = 0 := by decide
        have v1 : (1 : Int32).toInt = 1 := by decide
        have v2 : (2 : Int32).toInt = 2 := by decide
        have v3 : (3 : Int32).toInt = 3 := by decide
        have v4 : (4 : Int32).toInt = 4 := by decide
        have v5 : (5 : Int32).toInt = 5 := by decide
        omega
      by_cases c0 : p0 = 0
      · rw [if_pos c0]
      by_cases c1 : p0 = 1
      · rw [if_neg c0, if_pos c1]
      by_cases c2 : p0 = 2
      · rw [if_neg c0, if_neg c1, if_pos c2]
      by_cases c3 : p0 = 3
      · rw [if_neg c0, if_neg c1, if_neg c2, if_pos c3]
      by_cases c4 : p0 = 4
      · rw [if_neg c0, if_neg c1, if_neg c2, if_neg c3, if_pos c4]
      exact absurd ⟨c0, c1, c2, c3, c4⟩ e0
