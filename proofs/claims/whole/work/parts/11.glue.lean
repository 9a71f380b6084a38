/-! ===== class and model side by side: how an act ends; numbers ===== -/
theorem st_0 (x : Nat) (S : HS) : h_X8_stops x 0 S = (0, hwI S x 2 0) := by unfold h_X8_stops; rw [if_pos (by decide)]
theorem st_c {x : Nat} {c : Int32} {S : HS} (h1 : ¬ c < 1) (h2 : c ≤ 8) : h_X8_stops x c S = (1, hwA (hwI S x 2 c) ((hsQ (hwI S x 2 c) x 1).getD 0) c.toNatClampNeg ((hsA (hwI S x 2 c) ((hsQ (hwI S x 2 c) x 1).getD 0) c.toNatClampNeg) + 1)) := by unfold h_X8_stops; rw [if_neg h1, if_pos h2]
/-- a cause: none, or one of eight -/
def isCa (c : Int32) : Prop := c = 0 ∨ (¬ c < 1 ∧ c ≤ 8)
theorem isCa_0 : isCa 0 := Or.inl rfl
theorem isCa_1 : isCa 1 := Or.inr (by decide)
theorem isCa_2 : isCa 2 := Or.inr (by decide)
theorem isCa_3 : isCa 3 := Or.inr (by decide)
theorem isCa_4 : isCa 4 := Or.inr (by decide)
theorem isCa_5 : isCa 5 := Or.inr (by decide)
theorem isCa_6 : isCa 6 := Or.inr (by decide)
theorem isCa_7 : isCa 7 := Or.inr (by decide)
theorem isCa_8 : isCa 8 := Or.inr (by decide)
theorem isCa.stop {x : Nat} {c : Int32} {S : HS} (h : isCa c) : (h_X8_stops x c S).1 = 0 ↔ c = 0 := by
  rcases h with rfl | ⟨h1, h2⟩
  · simp [st_0]
  · rw [st_c h1 h2]
    constructor
    · intro z; exact absurd (show (1 : Int32) = 0 from z) (by decide)
    · rintro rfl; exact absurd h1 (by decide)
/-- how the model ends an act that has nothing else to do -/
def mEnd (m : Nat) (c : Int32) (S : HS) : HS := if c = 0 then h_X9_begin m S else (h_X9_fails m c (h_X9_begin m S)).2
theorem mEnd_0 (m : Nat) (S : HS) : mEnd m 0 S = h_X9_begin m S := if_pos rfl
theorem fails_1 (m : Nat) (c : Int32) (S : HS) : (h_X9_fails m c S).1 = 0 := rfl
theorem isCell_eq (c : Int32) : s_X9_isCell c = s_X8_isCell c := by
  unfold s_X9_isCell s_X9_in s_X8_isCell
  by_cases h1 : c < 0
  · rw [if_pos h1, if_pos h1]
  · rw [if_neg h1, if_neg h1]
    by_cases h2 : 16 ≤ c
    · rw [if_pos h2, if_pos (by
        rw [Int32.lt_iff_toInt_lt]
        rw [Int32.le_iff_toInt_le] at h2
        have e1 : (15 : Int32).toInt = 15 := by decide
        have e2 : (16 : Int32).toInt = 16 := by decide
        omega)]
    · rw [if_neg h2, if_neg (by
        rw [Int32.lt_iff_toInt_lt]
        rw [Int32.le_iff_toInt_le] at h2
        have e1 : (15 : Int32).toInt = 15 := by decide
        have e2 : (16 : Int32).toInt = 16 := by decide
        omega)]
theorem in_lo {v a b : Int32} (h : v < a) : s_X9_in v a b = 0 := if_pos h
theorem in_hi {v a b : Int32} (h : ¬ v < a) (h2 : ¬ v ≤ b) : s_X9_in v a b = 0 := (if_neg h).trans (if_pos (Int32.not_le.mp h2))
theorem in_in {v a b : Int32} (h : ¬ v < a) (h2 : v ≤ b) : s_X9_in v a b = 1 := (if_neg h).trans (if_neg (fun z => absurd h2 (Int32.not_le.mpr z)))
/-- an act that ends with a cause or an answer, on both sides -/
def Both64 (rx rm : Int64 × HS) (x m : Nat) (S S' : HS) : Prop := ∃ (c : Int32) (v : Int64), isCa c ∧ rx = (v, (h_X8_stops x c S).2) ∧ rm = (v, mEnd m c S')
def Both32 (rx rm : Int32 × HS) (x m : Nat) (S S' : HS) : Prop := ∃ (c v : Int32), isCa c ∧ rx = (v, (h_X8_stops x c S).2) ∧ rm = (v, mEnd m c S')
theorem Both64.refused {rx rm : Int64 × HS} {x m : Nat} {S S' : HS} (h1 : rx = (0, (h_X8_stops x 8 S).2)) (h2 : rm = (((h_X9_fails m 8 (h_X9_begin m S')).1).toInt64, (h_X9_fails m 8 (h_X9_begin m S')).2)) : Both64 rx rm x m S S' := ⟨8, 0, isCa_8, h1, h2⟩
theorem both_divide (x m : Nat) (p0 : Int32) (p1 p2 : Int64) (S S' : HS) : Both64 (h_X8_divide x p0 p1 p2 S) (h_X9_divide m p0 p1 p2 S') x m S S' := by
  by_cases h1 : p0 < 0
  · refine ⟨8, 0, isCa_8, ?_, ?_⟩
    · unfold h_X8_divide
      rw [show s_X8_divideCause p0 p2 = 8 from if_pos h1]
      rfl
    · unfold h_X9_divide
      rw [if_pos (in_lo h1)]
      rfl
  by_cases h2 : p0 ≤ 3
  · have hz : ∀ c : Prop, [Decidable c] → s_X8_divideCause p0 p2 = (if c then 6 else 0) → (¬ c → h_X9_divide m p0 p1 p2 S' = h_X9_divide_j58 m p0 p1 p2 S') → (c → h_X9_divide m p0 p1 p2 S' = h_X9_divide_j50 m p0 p1 p2 S') → Both64 (h_X8_divide x p0 p1 p2 S) (h_X9_divide m p0 p1 p2 S') x m S S' := by
      intro c _ e1 e2 e3
      by_cases hc : c
      · refine ⟨6, 0, isCa_6, ?_, (e3 hc).trans rfl⟩
        unfold h_X8_divide
        rw [e1, if_pos hc]
        rfl
      · rw [e2 hc]
        have e4 : s_X8_divideCause p0 p2 = 0 := e1.trans (if_neg hc)
        unfold h_X8_divide
        rw [e4]
        by_cases g0 : p0 = 0
        · exact ⟨0, (p1.toInt32 / p2.toInt32).toInt64, isCa_0, (if_pos rfl).trans (if_pos g0), (if_pos g0).trans rfl⟩
        by_cases g1 : p0 = 1
        · exact ⟨0, (p1.toInt32 - p1.toInt32 / p2.toInt32 * p2.toInt32).toInt64, isCa_0, (if_pos rfl).trans ((if_neg g0).trans (if_pos g1)), (if_neg g0).trans ((if_pos g1).trans rfl)⟩
        by_cases g2 : p0 = 2
        · exact ⟨0, p1 / p2, isCa_0, (if_pos rfl).trans ((if_neg g0).trans ((if_neg g1).trans (if_pos g2))), (if_neg g0).trans ((if_neg g1).trans ((if_pos g2).trans rfl))⟩
        · exact ⟨0, p1 - p1 / p2 * p2, isCa_0, (if_pos rfl).trans ((if_neg g0).trans ((if_neg g1).trans (if_neg g2))), (if_neg g0).trans ((if_neg g1).trans ((if_neg g2).trans rfl))⟩
    have h3 : ¬ s_X9_in p0 0 3 = 0 := by rw [in_in h1 h2]; decide
    by_cases h4 : 2 ≤ p0
    · refine hz (p2 = 0) ?_ (fun hc => (if_neg h3).trans ((if_pos h4).trans (if_neg hc))) (fun hc => (if_neg h3).trans ((if_pos h4).trans (if_pos hc)))
      refine (if_neg h1).trans ((if_pos h2).trans ((if_pos h4).trans ?_))
      by_cases hc : p2 = 0
      · rw [if_pos hc, if_pos hc]
        rfl
      · rw [if_neg hc, if_neg hc]
        rfl
    · refine hz (p2.toInt32 = 0) ?_ (fun hc => (if_neg h3).trans ((if_neg h4).trans (if_neg hc))) (fun hc => (if_neg h3).trans ((if_neg h4).trans (if_pos hc)))
      refine (if_neg h1).trans ((if_pos h2).trans ((if_neg h4).trans ?_))
      by_cases hc : p2.toInt32 = 0
      · rw [if_pos hc, if_pos hc]
        rfl
      · rw [if_neg hc, if_neg hc]
        rfl
  · refine ⟨8, 0, isCa_8, ?_, ?_⟩
    · unfold h_X8_divide
      rw [show s_X8_divideCause p0 p2 = 8 from (if_neg h1).trans (if_neg h2)]
      rfl
    · unfold h_X9_divide
      rw [if_pos (in_hi h1 h2)]
      rfl
