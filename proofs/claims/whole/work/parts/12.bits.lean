/-! ===== shifts and the highest bit, in natural numbers ===== -/
theorem sh_k : ∀ k, k < 64 → ((Int32.ofNat k).toInt64.toUInt64 &&& Int64.toUInt64 63).toNat = k := by decide +kernel
theorem sl_k : ∀ k, k < 64 → ((Int32.ofNat k).toInt64 &&& 63).toBitVec.smod 64 = BitVec.ofNat 64 k := by decide +kernel
theorem uN_ushr (x : Int64) {k : Nat} (hk : k < 64) : uN (lUshr x (Int32.ofNat k)) = uN x / 2 ^ k := by
  unfold lUshr
  rw [uN_ofu, UInt64.toNat_shiftRight, sh_k k hk, uN_u, Nat.mod_eq_of_lt hk, Nat.shiftRight_eq_div_pow]
theorem uN_shl (x : Int64) {k : Nat} (hk : k < 64) : uN (lShl x (Int32.ofNat k)) = uN x * 2 ^ k % 2 ^ 64 := by
  unfold lShl uN
  rw [Int64.toBitVec_shiftLeft, sl_k k hk, BitVec.shiftLeft_eq', BitVec.toNat_shiftLeft, BitVec.toNat_ofNat, Nat.mod_eq_of_lt (show k < 2 ^ 64 by omega), Nat.shiftLeft_eq]
theorem i_pos {n : Nat} (h0 : 0 < n) (h : n < 2 ^ 31) : ¬ Int32.ofNat n ≤ 0 := by
  rw [Int32.le_iff_toInt_le, i_toInt h, show (0 : Int32).toInt = 0 from by decide]
  omega
theorem hb_step (x : Int64) (n y st : Nat) (hst : 0 < st) (hy : y + st < 64) : s_X0_highestBit_l5 x (n + 1) (Int32.ofNat y) (Int32.ofNat st) = if uN x / 2 ^ (y + st) = 0 then s_X0_highestBit_l5 x n (Int32.ofNat y) (Int32.ofNat st / 2) else s_X0_highestBit_l5 x n (Int32.ofNat (y + st)) (Int32.ofNat st / 2) := by
  rw [s_X0_highestBit_l5, if_neg (i_pos hst (by omega)), ← Int32.ofNat_add]
  have e : lUshr x (Int32.ofNat (y + st)) = 0 ↔ uN x / 2 ^ (y + st) = 0 := by rw [eq_uN, uN_ushr x hy, uN_0]
  by_cases h : uN x / 2 ^ (y + st) = 0
  · rw [if_pos h, if_pos (e.mpr h)]
  · rw [if_neg h, if_neg (fun z => h (e.mp z))]
theorem hb_half : ∀ j, j < 5 → Int32.ofNat (2 ^ (j + 1)) / 2 = Int32.ofNat (2 ^ j) := by decide +kernel
theorem hb_gen (x : Int64) : ∀ j, j ≤ 5 → ∀ y, y + 2 ^ (j + 1) ≤ 64 → 2 ^ y ≤ uN x → uN x < 2 ^ (y + 2 ^ (j + 1)) → s_X0_highestBit_l5 x (j + 2) (Int32.ofNat y) (Int32.ofNat (2 ^ j)) = Int32.ofNat (Nat.log2 (uN x)) := by
  intro j
  induction j with
  | zero =>
    intro _ y hy h1 h2
    have fin : ∀ z : Nat, 2 ^ z ≤ uN x → uN x < 2 ^ (z + 1) → s_X0_highestBit_l5 x 1 (Int32.ofNat z) (Int32.ofNat (2 ^ 0) / 2) = Int32.ofNat (Nat.log2 (uN x)) := by
      intro z g1 g2
      rw [s_X0_highestBit_l5, if_pos (by decide)]
      rw [(Nat.log2_eq_iff (by have := Nat.two_pow_pos z; omega)).mpr ⟨g1, g2⟩]
    rw [hb_step x 1 y (2 ^ 0) (by decide) (by simp at hy ⊢; omega)]
    by_cases h : uN x / 2 ^ (y + 2 ^ 0) = 0
    · rw [if_pos h]
      have h3 := (Nat.div_eq_zero_iff_lt (Nat.two_pow_pos _)).mp h
      exact fin y h1 h3
    · rw [if_neg h]
      have h3 : 2 ^ (y + 2 ^ 0) ≤ uN x := by
        apply Nat.le_of_not_lt
        intro z
        exact h ((Nat.div_eq_zero_iff_lt (Nat.two_pow_pos _)).mpr z)
      exact fin (y + 1) h3 h2
  | succ j ih =>
    intro hj y hy h1 h2
    have e2 : 2 ^ (j + 1 + 1) = 2 ^ (j + 1) + 2 ^ (j + 1) := by rw [Nat.pow_succ]; omega
    have p1 := Nat.two_pow_pos (j + 1)
    rw [hb_step x (j + 2) y (2 ^ (j + 1)) p1 (by omega), hb_half j (by omega)]
    by_cases h : uN x / 2 ^ (y + 2 ^ (j + 1)) = 0
    · rw [if_pos h]
      have h3 := (Nat.div_eq_zero_iff_lt (Nat.two_pow_pos _)).mp h
      exact ih (by omega) y (by omega) h1 h3
    · rw [if_neg h]
      have h3 : 2 ^ (y + 2 ^ (j + 1)) ≤ uN x := by
        apply Nat.le_of_not_lt
        intro z
        exact h ((Nat.div_eq_zero_iff_lt (Nat.two_pow_pos _)).mpr z)
      refine ih (by omega) (y + 2 ^ (j + 1)) (by omega) h3 ?_
      rw [Nat.add_assoc, ← e2]
      exact h2
theorem hb_log {x : Int64} (h : x ≠ 0) : s_X0_highestBit x = Int32.ofNat (Nat.log2 (uN x)) := by
  have h0 : uN x ≠ 0 := fun z => h (uN_inj (z.trans uN_0.symm))
  refine hb_gen x 5 (by decide) 0 (by decide) (by rw [Nat.pow_zero]; omega) ?_
  exact uN_lt x
theorem log_lt (x : Int64) : Nat.log2 (uN x) < 64 := by
  by_cases h : uN x = 0
  · rw [h]
    decide
  · exact (Nat.log2_lt h).mpr (uN_lt x)
/-- n / 2 ^ p to the nearest, ties to even -/
def rnd (n p : Nat) : Nat := if 2 ^ (p - 1) < n % 2 ^ p then n / 2 ^ p + 1 else if n % 2 ^ p = 2 ^ (p - 1) then (if n / 2 ^ p % 2 = 1 then n / 2 ^ p + 1 else n / 2 ^ p) else n / 2 ^ p
theorem i_dec : ∀ p, p < 64 → 0 < p → Int32.ofNat p - 1 = Int32.ofNat (p - 1) := by decide +kernel
theorem rounded_eq {s : Int64} {p : Nat} (hs : uN s < 2 ^ 63) (h0 : 0 < p) (hp : p ≤ 63) : uN (s_X0_rounded s (Int32.ofNat p)) = rnd (uN s) p := by
  have hk : uN (lUshr s (Int32.ofNat p)) = uN s / 2 ^ p := uN_ushr s (by omega)
  have hpp := Nat.two_pow_pos p
  have hdm := Nat.div_add_mod (uN s) (2 ^ p)
  have hml := Nat.mod_lt (uN s) hpp
  have hc := Nat.mul_comm (2 ^ p) (uN s / 2 ^ p)
  have hb : uN (lShl (lUshr s (Int32.ofNat p)) (Int32.ofNat p)) = uN s / 2 ^ p * 2 ^ p := by
    rw [uN_shl _ (by omega), hk, Nat.mod_eq_of_lt (by omega)]
  have hr : uN (s - lShl (lUshr s (Int32.ofNat p)) (Int32.ofNat p)) = uN s % 2 ^ p := by
    rw [uN_sub, hb]
    omega
  have hh : uN (lShl 1 (Int32.ofNat p - 1)) = 2 ^ (p - 1) := by
    rw [i_dec p (by omega) h0, uN_shl _ (by omega), uN_1, Nat.one_mul, Nat.mod_eq_of_lt]
    exact Nat.pow_lt_pow_right (by decide) (by omega)
  have h2p : 2 ^ p = 2 ^ (p - 1) + 2 ^ (p - 1) := by
    rw [← Nat.mul_two, ← Nat.pow_succ]
    congr 1
    omega
  have hle : 2 ^ p ≤ 2 ^ 63 := Nat.pow_le_pow_right (by decide) hp
  have h1 : lShl 1 (Int32.ofNat p - 1) < s - lShl (lUshr s (Int32.ofNat p)) (Int32.ofNat p) ↔ 2 ^ (p - 1) < uN s % 2 ^ p := by
    rw [lt_uN (by rw [hh]; omega) (by rw [hr]; omega), hh, hr]
  have h2 : s - lShl (lUshr s (Int32.ofNat p)) (Int32.ofNat p) = lShl 1 (Int32.ofNat p - 1) ↔ uN s % 2 ^ p = 2 ^ (p - 1) := by rw [eq_uN, hh, hr]
  have h3 : lUshr s (Int32.ofNat p) &&& 1 = 1 ↔ uN s / 2 ^ p % 2 = 1 := by rw [eq_uN, uN_and, hk, uN_1, Nat.and_one_is_mod]
  have hdl : uN s / 2 ^ p ≤ uN s := Nat.div_le_self _ _
  have hup : uN (s_X0_rounded_j64 s (Int32.ofNat p) (lUshr s (Int32.ofNat p)) 1) = uN s / 2 ^ p + 1 := by
    unfold s_X0_rounded_j64
    rw [if_neg (by decide), uN_add, hk, uN_1, Nat.mod_eq_of_lt (by omega)]
  have hdn : uN (s_X0_rounded_j64 s (Int32.ofNat p) (lUshr s (Int32.ofNat p)) 0) = uN s / 2 ^ p := by
    unfold s_X0_rounded_j64
    rw [if_pos rfl, hk]
  unfold s_X0_rounded rnd
  rw [if_pos (by rw [Int32.lt_iff_toInt_lt, i_toInt (by omega), show (0 : Int32).toInt = 0 from by decide]; omega), if_pos (by rw [Int32.le_iff_toInt_le, i_toInt (by omega), show (63 : Int32).toInt = 63 from by decide]; omega)]
  by_cases c1 : 2 ^ (p - 1) < uN s % 2 ^ p
  · rw [if_pos c1, if_pos (h1.mpr c1), hup]
  rw [if_neg c1, if_neg (fun z => c1 (h1.mp z))]
  by_cases c2 : uN s % 2 ^ p = 2 ^ (p - 1)
  · rw [if_pos c2, if_pos (h2.mpr c2)]
    by_cases c3 : uN s / 2 ^ p % 2 = 1
    · rw [if_pos c3, if_pos (h3.mpr c3), hup]
    · rw [if_neg c3, if_neg (fun z => c3 (h3.mp z)), hdn]
  · rw [if_neg c2, if_neg (fun z => c2 (h2.mp z)), hdn]
theorem rounded_big {s : Int64} {p : Int32} (h : 63 < p.toInt) : s_X0_rounded s p = 0 := by
  unfold s_X0_rounded
  rw [if_pos (by rw [Int32.lt_iff_toInt_lt, show (0 : Int32).toInt = 0 from by decide]; omega), if_neg (by rw [Int32.le_iff_toInt_le, show (63 : Int32).toInt = 63 from by decide]; omega)]
theorem rounded_low {s : Int64} {p : Int32} (h : p.toInt ≤ 0) : s_X0_rounded s p = lShl s (-p) := by
  unfold s_X0_rounded
  rw [if_neg (by rw [Int32.lt_iff_toInt_lt, show (0 : Int32).toInt = 0 from by decide]; omega)]
