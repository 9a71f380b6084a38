/-! ===== widen and compare on both sides ===== -/
theorem st_01 (x : Nat) (S : HS) : (h_X8_stops x 0 S).1 = 0 := by rw [st_0]
theorem st_81 (x : Nat) (S : HS) : ¬ (h_X8_stops x 8 S).1 = 0 := fun z => absurd ((isCa.stop isCa_8).mp z) (by decide)
theorem both_widen (x m : Nat) (p0 : Int32) (p1 : Int64) (S S' : HS) : Both64 (h_X8_widen x p0 p1 S) (h_X9_widen m p0 p1 S') x m S S' := by
  unfold h_X8_widen h_X9_widen
  by_cases h1 : p0 < 0
  · rw [if_pos h1, if_pos (in_lo h1)]
    exact Both64.refused (if_neg (st_81 x S)) rfl
  rw [if_neg h1]
  by_cases h2 : p0 ≤ 3
  · rw [if_pos h2, if_neg (by rw [in_in h1 h2]; decide)]
    unfold h_X8_widen_j16
    rw [if_pos (st_01 x S)]
    by_cases c0 : p0 = 0
    · rw [if_pos c0, if_pos c0]
      exact ⟨0, _, isCa_0, rfl, by rw [widen_0]; rfl⟩
    rw [if_neg c0, if_neg c0]
    by_cases c1 : p0 = 1
    · rw [if_pos c1, if_pos c1]
      exact ⟨0, _, isCa_0, rfl, by rw [widen_1]; rfl⟩
    rw [if_neg c1, if_neg c1]
    by_cases c2 : p0 = 2
    · rw [if_pos c2, if_pos c2]
      exact ⟨0, _, isCa_0, rfl, by rw [widen_2]; rfl⟩
    rw [if_neg c2, if_neg c2]
    exact ⟨0, _, isCa_0, rfl, by rw [widen_3]; rfl⟩
  · rw [if_neg h2, if_pos (in_hi h1 h2)]
    exact Both64.refused (if_neg (st_81 x S)) rfl
theorem i_small {p : Int32} (h0 : ¬ p < 0) {k : Nat} {z : Int32} (hz : z.toInt = k) (h1 : p ≤ z) : ∃ n : Nat, n ≤ k ∧ p = Int32.ofNat n := by
  refine ⟨p.toNatClampNeg, ?_, i_of h0⟩
  rw [Int32.le_iff_toInt_le, hz] at h1
  simp only [Int32.toNatClampNeg]
  omega
theorem rem6 : ∀ n, n < 12 → (n < 6 → Int32.ofNat n - Int32.ofNat n / 6 * 6 = Int32.ofNat n ∧ ¬ (6 : Int32) ≤ Int32.ofNat n ∧ ¬ Int32.ofNat n < 0 ∧ Int32.ofNat n ≤ 5) ∧ (¬ n < 6 → Int32.ofNat n - Int32.ofNat n / 6 * 6 = Int32.ofNat n - 6 ∧ (6 : Int32) ≤ Int32.ofNat n ∧ ¬ Int32.ofNat n - 6 < 0 ∧ Int32.ofNat n - 6 ≤ 5) := by decide +kernel
theorem tr_01 {v : Int32} {x m : Nat} {S S' : HS} (h : (h_X8_stops x 0 S).1 = 0) : Both32 (if v = 0 then (0, (h_X8_stops x 0 S).2) else (1, (h_X8_stops x 0 S).2)) (if v = 0 then (0, h_X9_begin m S') else (1, h_X9_begin m S')) x m S S' := by
  by_cases hv : v = 0
  · rw [if_pos hv, if_pos hv]
    exact ⟨0, 0, isCa_0, rfl, rfl⟩
  · rw [if_neg hv, if_neg hv]
    exact ⟨0, 1, isCa_0, rfl, rfl⟩
theorem both_compare (x m : Nat) (p0 : Int32) (p1 p2 : Int64) (S S' : HS) : Both32 (h_X8_compare x p0 p1 p2 S) (h_X9_compare m p0 p1 p2 S') x m S S' := by
  unfold h_X8_compare h_X9_compare
  by_cases h1 : p0 < 0
  · rw [if_pos h1, if_pos (in_lo h1)]
    exact ⟨8, 0, isCa_8, if_neg (st_81 x S), rfl⟩
  rw [if_neg h1]
  by_cases h2 : p0 ≤ 11
  · rw [if_pos h2, if_neg (by rw [in_in h1 h2]; decide)]
    unfold h_X8_compare_j17
    rw [if_pos (st_01 x S)]
    obtain ⟨n, hn, rfl⟩ := i_small (k := 11) h1 (by decide) h2
    have hr := rem6 n (by omega)
    by_cases h6 : n < 6
    · obtain ⟨e1, e2, e3, e4⟩ := hr.1 h6
      rw [if_neg e2, if_neg e2]
      unfold h_X9_compare_j39
      rw [if_neg e2]
      unfold h_X9_compare_j61
      rw [e1, holds_eq e3 e4]
      exact tr_01 (st_01 x S)
    · obtain ⟨e1, e2, e3, e4⟩ := hr.2 h6
      rw [if_pos e2, if_pos e2]
      unfold h_X9_compare_j39
      rw [if_pos e2]
      unfold h_X9_compare_j61
      rw [e1, wide_eq, wide_eq, holds_eq e3 e4]
      exact tr_01 (st_01 x S)
  · rw [if_neg h2, if_pos (in_hi h1 h2)]
    exact ⟨8, 0, isCa_8, if_neg (st_81 x S), rfl⟩
