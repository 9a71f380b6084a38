/-! ===== the greater, the lesser, the sign ===== -/
theorem uN_not (x : Int64) : uN (x ^^^ (-1)) = 2 ^ 64 - 1 - uN x := by
  unfold uN
  rw [Int64.toBitVec_xor, show (-1 : Int64).toBitVec = BitVec.allOnes 64 from by decide, BitVec.xor_allOnes, BitVec.toNat_not]
theorem rank_z (a : Int64) : (s_X3_rankWithSignOfZero a).toInt = if 0 ≤ a then (s_X3_rank a).toInt else (s_X3_rank a).toInt - 1 := by
  have hl := uN_lt a
  unfold s_X3_rankWithSignOfZero s_X3_rank
  rw [x0_mag]
  by_cases h : 0 ≤ a
  · rw [if_pos h, if_pos h, if_pos h]
  · rw [if_neg h, if_neg h, if_neg h]
    have h1 : 2 ^ 63 ≤ uN a := by
      rw [ge0_uN] at h
      omega
    rw [toInt_uN, toInt_uN, uN_not, uN_neg1, uN_and63]
    split <;> split <;> omega
theorem rank_neg {a : Int64} (h : ¬ 0 ≤ a) : (s_X3_rank a).toInt = 2 ^ 63 - (uN a : Int) ∧ 2 ^ 63 ≤ uN a := by
  have h1 : 2 ^ 63 ≤ uN a := by
    rw [ge0_uN] at h
    omega
  refine ⟨?_, h1⟩
  rw [← key_rank]
  unfold FP.Core.dkey
  rw [uN_u, if_pos h1]
  rfl
theorem rank_pos {a : Int64} (h : 0 ≤ a) : (s_X3_rank a).toInt = (uN a : Int) := by
  rw [← key_rank]
  unfold FP.Core.dkey
  have := (ge0_uN a).mp h
  rw [uN_u, if_neg (by omega)]
theorem dEq_self {a : Int64} (h : isN a) : dEq (s_X9_realBits a) (s_X9_realBits a) := by
  rw [rb_num h]
  exact (dEq_rank h h).mpr rfl
theorem dEq_nself {a : Int64} (h : ¬ isN a) : ¬ dEq (s_X9_realBits a) (s_X9_realBits a) := fun z => by
  rw [dEq, cmp_nan (Or.inl h)] at z
  cases z
theorem pn_64 : s_X0_plainNaN 52 (-1074) 9218868437227405312 (-9223372036854775808) = 9221120237041090560 := by decide +kernel
theorem greater_eq (a b : Int64) : (if dEq (s_X9_realBits a) (s_X9_realBits a) then if dEq (s_X9_realBits b) (s_X9_realBits b) then if dGt (s_X9_realBits a) (s_X9_realBits b) then a else if dEq (s_X9_realBits a) (s_X9_realBits b) then if a < 0 then b else a else b else 9221120237041090560 else 9221120237041090560) = s_X3_greater a b := by
  unfold s_X3_greater
  rw [pn_64]
  by_cases ha : isN a
  · rw [if_pos (dEq_self ha), x0_num ha, if_pos rfl]
    by_cases hb : isN b
    · rw [if_pos (dEq_self hb), x0_num hb, if_pos rfl, rb_num ha, rb_num hb]
      have k : ∀ c : Prop, [Decidable c] → (c ↔ s_X3_rankWithSignOfZero a < s_X3_rankWithSignOfZero b) → (if s_X3_rankWithSignOfZero a < s_X3_rankWithSignOfZero b then b else a) = if c then b else a := fun c _ hc => by
        by_cases h : c
        · rw [if_pos h, if_pos (hc.mp h)]
        · rw [if_neg h, if_neg (fun z => h (hc.mpr z))]
      have hz : s_X3_rankWithSignOfZero a < s_X3_rankWithSignOfZero b ↔ (if 0 ≤ a then (s_X3_rank a).toInt else (s_X3_rank a).toInt - 1) < (if 0 ≤ b then (s_X3_rank b).toInt else (s_X3_rank b).toInt - 1) := by rw [lt_toInt, rank_z, rank_z]
      by_cases g : dGt a.toUInt64 b.toUInt64
      · rw [if_pos g, if_neg]
        rw [hz]
        have g' := (dGt_rank ha hb).mp g
        rw [lt_toInt] at g'
        split <;> split <;> omega
      · rw [if_neg g]
        have g' : ¬ s_X3_rank b < s_X3_rank a := fun z => g ((dGt_rank ha hb).mpr z)
        rw [lt_toInt] at g'
        by_cases q : dEq a.toUInt64 b.toUInt64
        · rw [if_pos q]
          have q' := Int64.toInt_inj.mpr ((dEq_rank ha hb).mp q)
          by_cases n : a < 0
          · rw [if_pos n]
            have n1 : ¬ 0 ≤ a := by rw [le_toInt]; rw [lt_toInt] at n; have : (0 : Int64).toInt = 0 := rfl; omega
            by_cases n2 : 0 ≤ b
            · rw [if_pos]
              rw [hz, if_neg n1, if_pos n2]
              omega
            · have e1 := rank_neg n1
              have e2 := rank_neg n2
              have : a = b := uN_inj (by omega)
              subst this
              split <;> rfl
          · rw [if_neg n, if_neg]
            have n1 : 0 ≤ a := by rw [le_toInt]; rw [lt_toInt] at n; have : (0 : Int64).toInt = 0 := rfl; omega
            rw [hz, if_pos n1]
            split <;> omega
        · rw [if_neg q, if_pos]
          have q' : (s_X3_rank a).toInt ≠ (s_X3_rank b).toInt := fun z => q ((dEq_rank ha hb).mpr (Int64.toInt_inj.mp z))
          rw [hz]
          by_cases n1 : 0 ≤ a
          · by_cases n2 : 0 ≤ b
            · rw [if_pos n1, if_pos n2]
              omega
            · have e1 := rank_pos n1
              have e2 := rank_neg n2
              omega
          · rw [if_neg n1]
            split <;> omega
    · rw [if_neg (dEq_nself hb), x0_nan hb]
      rfl
  · rw [if_neg (dEq_nself ha), x0_nan ha]
    rfl
theorem lesser_eq (a b : Int64) : (if dEq (s_X9_realBits a) (s_X9_realBits a) then if dEq (s_X9_realBits b) (s_X9_realBits b) then if dLt (s_X9_realBits a) (s_X9_realBits b) then a else if dEq (s_X9_realBits a) (s_X9_realBits b) then if 0 ≤ a then b else a else b else 9221120237041090560 else 9221120237041090560) = s_X3_lesser a b := by
  unfold s_X3_lesser
  rw [pn_64]
  by_cases ha : isN a
  · rw [if_pos (dEq_self ha), x0_num ha, if_pos rfl]
    by_cases hb : isN b
    · rw [if_pos (dEq_self hb), x0_num hb, if_pos rfl, rb_num ha, rb_num hb]
      have hz : s_X3_rankWithSignOfZero a ≤ s_X3_rankWithSignOfZero b ↔ (if 0 ≤ a then (s_X3_rank a).toInt else (s_X3_rank a).toInt - 1) ≤ (if 0 ≤ b then (s_X3_rank b).toInt else (s_X3_rank b).toInt - 1) := by rw [le_toInt, rank_z, rank_z]
      have hy : s_X3_rankWithSignOfZero b < s_X3_rankWithSignOfZero a ↔ ¬ (if 0 ≤ a then (s_X3_rank a).toInt else (s_X3_rank a).toInt - 1) ≤ (if 0 ≤ b then (s_X3_rank b).toInt else (s_X3_rank b).toInt - 1) := by rw [← hz, nle_lt]
      by_cases g : dLt a.toUInt64 b.toUInt64
      · rw [if_pos g]
        have g' := (dLt_rank ha hb).mp g
        rw [lt_toInt] at g'
        have w : (if 0 ≤ a then (s_X3_rank a).toInt else (s_X3_rank a).toInt - 1) ≤ (if 0 ≤ b then (s_X3_rank b).toInt else (s_X3_rank b).toInt - 1) := by split <;> split <;> omega
        rw [if_neg (fun z => hy.mp z w)]
      · rw [if_neg g]
        have g' : ¬ s_X3_rank a < s_X3_rank b := fun z => g ((dLt_rank ha hb).mpr z)
        rw [lt_toInt] at g'
        by_cases q : dEq a.toUInt64 b.toUInt64
        · rw [if_pos q]
          have q' := Int64.toInt_inj.mpr ((dEq_rank ha hb).mp q)
          by_cases n : 0 ≤ a
          · rw [if_pos n]
            by_cases n2 : 0 ≤ b
            · have e1 := rank_pos n
              have e2 := rank_pos n2
              have : a = b := uN_inj (by omega)
              subst this
              split <;> rfl
            · have w : ¬ (if 0 ≤ a then (s_X3_rank a).toInt else (s_X3_rank a).toInt - 1) ≤ (if 0 ≤ b then (s_X3_rank b).toInt else (s_X3_rank b).toInt - 1) := by rw [if_pos n, if_neg n2]; omega
              rw [if_pos (hy.mpr w)]
          · rw [if_neg n]
            have w : (if 0 ≤ a then (s_X3_rank a).toInt else (s_X3_rank a).toInt - 1) ≤ (if 0 ≤ b then (s_X3_rank b).toInt else (s_X3_rank b).toInt - 1) := by rw [if_neg n]; split <;> omega
            rw [if_neg (fun z => hy.mp z w)]
        · rw [if_neg q]
          have q' : (s_X3_rank a).toInt ≠ (s_X3_rank b).toInt := fun z => q ((dEq_rank ha hb).mpr (Int64.toInt_inj.mp z))
          have w : ¬ (if 0 ≤ a then (s_X3_rank a).toInt else (s_X3_rank a).toInt - 1) ≤ (if 0 ≤ b then (s_X3_rank b).toInt else (s_X3_rank b).toInt - 1) := by
            by_cases n2 : 0 ≤ b
            · by_cases n1 : 0 ≤ a
              · rw [if_pos n1, if_pos n2]
                omega
              · have e1 := rank_neg n1
                have e2 := rank_pos n2
                omega
            · rw [if_neg n2]
              split <;> omega
          rw [if_pos (hy.mpr w)]
    · rw [if_neg (dEq_nself hb), x0_nan hb]
      rfl
  · rw [if_neg (dEq_nself ha), x0_nan ha]
    rfl
