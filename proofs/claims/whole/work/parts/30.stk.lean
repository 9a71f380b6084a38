/-! ===== sticky totals; the parts of a finite double ===== -/
abbrev SG (a : Int64) : Int64 := s_X0_significand 52 (-1074) 9218868437227405312 (-9223372036854775808) a
abbrev XPO (a : Int64) : Int32 := s_X0_exponent 52 (-1074) 9218868437227405312 (-9223372036854775808) a
abbrev PK (neg e : Int32) (s : Int64) : Int64 := s_X0_pack 52 (-1074) 9218868437227405312 (-9223372036854775808) neg e s
theorem nb_nat {A B x : Nat} : FP.Core.Below A B (x : Int) ↔ A < B * 2 ^ x := by
  have h := FP.Core.below_iff A B x 0
  rw [Nat.pow_zero, Nat.mul_one, show ((x : Int) - ((0 : Nat) : Int)) = (x : Int) by omega] at h
  exact h
theorem pow_even {x : Nat} (h : 1 ≤ x) : ∃ y, 2 ^ x = 2 * y := ⟨2 ^ (x - 1), by rw [← Nat.pow_succ']; congr 1; omega⟩
theorem stk_round {s : Bool} {A B m : Nat} {e : Int} (h1 : 2 * m * B < A) (h2 : A < (2 * m + 2) * B) (h3 : 2 ^ 53 ≤ m) : FP.Core.roundRatio FP.Core.b64 s A B e = FP.Core.roundRatio FP.Core.b64 s (2 * m + 1) 1 e := by
  have hB : 0 < B := by
    apply Nat.pos_of_ne_zero
    intro z
    subst z
    omega
  have hA : 0 < A := by omega
  have hT : 0 < 2 * m + 1 := by omega
  have hp : FP.Core.b64.p = 53 := rfl
  obtain ⟨Q, hQ⟩ : ∃ Q, Q = FP.Core.quantum FP.Core.b64 (2 * m + 1) 1 e := ⟨_, rfl⟩
  have g1 := FP.Core.quantum_ge FP.Core.b64 (2 * m + 1) 1 e
  have g2 := FP.Core.quantum_below (f := FP.Core.b64) hT (show 0 < 1 by decide) e
  have g3 := FP.Core.quantum_not_below (f := FP.Core.b64) hT (show 0 < 1 by decide) e
  rw [← hQ, hp] at g2 g3
  rw [← hQ] at g1
  have g4 : ¬ FP.Core.Below (2 * m + 1) 1 ((54 : Nat) : Int) := by
    rw [nb_nat]
    omega
  have g5 := FP.Core.lt_of_below g4 g2
  obtain ⟨k, hk⟩ : ∃ k : Nat, Q = e + 2 + k := ⟨(Q - e - 2).toNat, by omega⟩
  have e1 : Q - e + ((53 : Nat) : Int) = ((k + 55 : Nat) : Int) := by omega
  have e2 : Q - e + (((53 : Nat) : Int) - 1) = ((k + 54 : Nat) : Int) := by omega
  rw [e1, nb_nat, Nat.one_mul] at g2
  rw [e2, nb_nat, Nat.one_mul] at g3
  have hq : FP.Core.quantum FP.Core.b64 A B e = Q := by
    refine FP.Core.quantum_eq hA hB g1 ?_ ?_
    · rw [hp, e1, nb_nat]
      obtain ⟨y, hy⟩ := pow_even (x := k + 55) (by omega)
      have : 2 * m + 2 ≤ 2 ^ (k + 55) := by omega
      calc A < (2 * m + 2) * B := h2
        _ ≤ 2 ^ (k + 55) * B := Nat.mul_le_mul_right B this
        _ = B * 2 ^ (k + 55) := Nat.mul_comm _ _
    · rcases g3 with g3 | g3
      · exact Or.inl g3
      · refine Or.inr ?_
        rw [hp, e2, nb_nat]
        obtain ⟨y, hy⟩ := pow_even (x := k + 54) (by omega)
        have : 2 ^ (k + 54) ≤ 2 * m := by omega
        have h5 : 2 ^ (k + 54) * B ≤ 2 * m * B := Nat.mul_le_mul_right B this
        rw [Nat.mul_comm B]
        omega
  unfold FP.Core.roundRatio
  rw [if_neg (by omega), if_neg (by omega), hq, ← hQ]
  unfold FP.Core.roundAt
  congr 1
  unfold FP.Core.unitsNum FP.Core.unitsDen
  rw [show (e - Q).toNat = 0 by omega, show (Q - e).toNat = k + 2 by omega, Nat.pow_zero, Nat.mul_one, Nat.mul_one, Nat.one_mul, Nat.pow_add, Nat.mul_comm (2 ^ k)]
  exact sticky (Nat.two_pow_pos k) h1 h2
/-- T stands for A / B: it is A / B, or it is odd and its neighbours enclose A / B -/
def Stk (A B T : Nat) : Prop := A = T * B ∨ ∃ m, T = 2 * m + 1 ∧ 2 * m * B < A ∧ A < (2 * m + 2) * B
theorem Stk.round {A B T : Nat} {s : Bool} {e : Int} (h : Stk A B T) (hB : 0 < B) (hbig : A = T * B ∨ 2 ^ 54 ≤ T) : FP.Core.roundRatio FP.Core.b64 s A B e = FP.Core.roundRatio FP.Core.b64 s T 1 e := by
  have hex : A = T * B → FP.Core.roundRatio FP.Core.b64 s A B e = FP.Core.roundRatio FP.Core.b64 s T 1 e := fun z => FP.Core.roundRatio_congr hB (by decide) (by rw [z, Int.sub_self, Nat.mul_one])
  rcases hbig with z | z
  · exact hex z
  · rcases h with h | ⟨m, rfl, h1, h2⟩
    · exact hex h
    · exact stk_round h1 h2 (by omega)
theorem Stk.add {A B T : Nat} (k : Nat) (h : Stk A B T) : Stk (2 * k * B + A) B (2 * k + T) := by
  rcases h with h | ⟨m, rfl, h1, h2⟩
  · left
    rw [h, ← Nat.add_mul]
  · right
    refine ⟨k + m, by omega, ?_, ?_⟩
    · rw [Nat.mul_add, Nat.add_mul]
      omega
    · rw [show 2 * (k + m) + 2 = 2 * k + (2 * m + 2) by omega, Nat.add_mul]
      omega
theorem Stk.sub {A B T : Nat} (k : Nat) (hT : T ≤ 2 * k) (h : Stk A B T) : Stk (2 * k * B - A) B (2 * k - T) := by
  rcases h with h | ⟨m, rfl, h1, h2⟩
  · left
    rw [h, ← Nat.sub_mul]
  · right
    obtain ⟨j, hj⟩ : ∃ j, k = m + 1 + j := ⟨k - m - 1, by omega⟩
    subst hj
    have e1 : 2 * (m + 1 + j) * B = 2 * j * B + (2 * m + 2) * B := by rw [← Nat.add_mul]; congr 1; omega
    have e2 : (2 * j + 2) * B = 2 * j * B + 2 * B := Nat.add_mul ..
    have e3 : (2 * m + 2) * B = 2 * m * B + 2 * B := Nat.add_mul ..
    refine ⟨j, by omega, ?_, ?_⟩
    · rw [e1]
      omega
    · rw [e1, e2]
      omega
theorem or_1 (K : Nat) : K ||| 1 = 2 * (K / 2) + 1 := by
  have h0 : ∀ j : Nat, 2 * j + 1 = 2 * j ||| 1 := fun j => by
    have := Nat.two_pow_add_eq_or_of_lt (i := 1) (b := 1) (by decide) j
    rw [Nat.pow_one] at this
    exact this
  have h2 : ∀ j : Nat, (2 * j + 1) ||| 1 = 2 * j + 1 := fun j => by rw [h0 j, Nat.or_assoc, Nat.or_self]
  rcases Nat.mod_two_eq_zero_or_one K with h | h
  · obtain ⟨j, rfl⟩ : ∃ j, K = 2 * j := ⟨K / 2, by omega⟩
    rw [← h0 j]
    omega
  · obtain ⟨j, rfl⟩ : ∃ j, K = 2 * j + 1 := ⟨K / 2, by omega⟩
    rw [h2 j]
    omega
theorem Stk.div {A B : Nat} (hB : 0 < B) : Stk A B (if A % B = 0 then A / B else A / B ||| 1) := by
  have h1 := Nat.div_add_mod A B
  have h2 := Nat.mod_lt A hB
  by_cases h : A % B = 0
  · rw [if_pos h]
    left
    rw [h] at h1
    rw [Nat.mul_comm]
    omega
  · rw [if_neg h, or_1]
    right
    refine ⟨A / B / 2, rfl, ?_, ?_⟩
    · have h3 : 2 * (A / B / 2) * B ≤ A / B * B := Nat.mul_le_mul_right B (by omega)
      rw [Nat.mul_comm B] at h1
      omega
    · have h3 : (A / B + 1) * B ≤ (2 * (A / B / 2) + 2) * B := Nat.mul_le_mul_right B (by omega)
      rw [Nat.add_mul (A / B)] at h3
      rw [Nat.mul_comm B] at h1
      omega
theorem or_1_le (K : Nat) : K ≤ K ||| 1 ∧ K ||| 1 ≤ K + 1 := by rw [or_1]; omega
theorem uN_or1 (x : Int64) : uN (x ||| 1) = uN x ||| 1 := by rw [uN_or, uN_1]
theorem moved_eq (v : Int64) (p : Int32) {k : Nat} (hk : p.toInt = k) (h : k ≤ 62 ∨ 0 < uN v) (hv : uN v < 2 ^ 62) : Stk (uN v) (2 ^ k) (uN (s_X3_movedDown v p)) ∧ uN (s_X3_movedDown v p) ≤ uN v / 2 ^ k + 1 ∧ (uN v % 2 ^ k = 0 → uN v = uN (s_X3_movedDown v p) * 2 ^ k) := by
  have hkp := Nat.two_pow_pos k
  have hk31 : k < 2 ^ 31 := by
    have := Int32.toInt_lt p
    omega
  have hp : p = Int32.ofNat k := i_ofInt hk
  unfold s_X3_movedDown
  by_cases h1 : k ≤ 62
  · have c1 : p ≤ 62 := by
      rw [Int32.le_iff_toInt_le, hk, show (62 : Int32).toInt = 62 from by decide]
      omega
    have e1 : uN (lUshr v p) = uN v / 2 ^ k := by rw [hp, uN_ushr _ (by omega)]
    have hle : uN v / 2 ^ k * 2 ^ k ≤ uN v := Nat.div_mul_le_self _ _
    have e2 : uN (lShl (lUshr v p) p) = uN v / 2 ^ k * 2 ^ k := by rw [hp, uN_shl _ (by omega), ← hp, e1, Nat.mod_eq_of_lt (by omega)]
    have hdm := Nat.div_add_mod (uN v) (2 ^ k)
    rw [Nat.mul_comm] at hdm
    have c2 : lShl (lUshr v p) p = v ↔ uN v % 2 ^ k = 0 := by
      rw [eq_uN, e2]
      omega
    have hs := Stk.div (A := uN v) hkp
    rw [if_pos c1]
    by_cases c3 : uN v % 2 ^ k = 0
    · rw [if_pos (c2.mpr c3), e1]
      rw [if_pos c3] at hs
      exact ⟨hs, by omega, fun _ => by omega⟩
    · rw [if_neg (fun z => c3 (c2.mp z)), uN_or1, e1]
      rw [if_neg c3] at hs
      exact ⟨hs, (or_1_le _).2, fun z => absurd z c3⟩
  · have c1 : ¬ p ≤ 62 := by
      rw [Int32.le_iff_toInt_le, hk, show (62 : Int32).toInt = 62 from by decide]
      omega
    have hv0 : 0 < uN v := by omega
    have hk2 : 2 ^ 63 ≤ 2 ^ k := Nat.pow_le_pow_right (by decide) (by omega)
    rw [if_neg c1, uN_1]
    refine ⟨Or.inr ⟨0, rfl, by rw [Nat.mul_zero, Nat.zero_mul]; exact hv0, by rw [show 2 * 0 + 2 = 2 from rfl]; omega⟩, Nat.le_add_left 1 _, fun z => ?_⟩
    rw [Nat.mod_eq_of_lt (show uN v < 2 ^ k by omega)] at z
    omega
/-- the parts of a finite double other than zero -/
def Pts (a : Int64) (c : Nat) (q : Int) : Prop := uN (SG a) = c ∧ (XPO a).toInt = q ∧ (2 ^ 52 ≤ c ∧ c < 2 ^ 53) ∧ (-1126 ≤ q ∧ q ≤ 971) ∧ ∃ (c0 : Nat) (q0 : Int), FP.Core.decode FP.Core.b64 (uN a) = .fin (decide (¬ 0 ≤ a)) c0 q0 ∧ q ≤ q0 ∧ -1074 ≤ q0 ∧ c0 * 2 ^ (q0 - q).toNat = c ∧ c0 * 2 ^ (q0 + 1074).toNat = FP.Core.unitsOf FP.Core.b64 (uN a % 2 ^ 63)
theorem pts_of {a : Int64} (h0 : uN a % 2 ^ 63 ≠ 0) (h1 : uN a % 2 ^ 63 < 9218868437227405312) : ∃ c q, Pts a c q := by
  obtain ⟨M, hMM⟩ : ∃ M, uN a % 2 ^ 63 = M := ⟨_, rfl⟩
  have hMf : uN a % (FP.Core.b64.exps * FP.Core.b64.tails) = M := by rw [et64]; exact hMM
  have ht : FP.Core.b64.tails = 2 ^ 52 := by decide
  have hq : FP.Core.b64.qmin = -1074 := by decide
  unfold Pts
  rw [hMM] at h0 h1 ⊢
  by_cases cs : M < FP.Core.b64.tails
  · obtain ⟨k, hk, e1, e2, e3, e4⟩ := fin_sub is64 a hMf h0 cs
    have hd := dec_sub FP.Core.good_b64 hMf cs
    rw [hq] at e4 hd
    rw [sign_0] at hd
    refine ⟨M * 2 ^ k, -1074 - k, e1, e4, ⟨e3, e2⟩, by omega, M, -1074, hd, by omega, by omega, ?_, ?_⟩
    · rw [show (-1074 - (-1074 - (k : Int))).toNat = k by omega]
    · unfold FP.Core.unitsOf
      rw [if_pos cs, show ((-1074 : Int) + 1074).toNat = 0 by omega, Nat.pow_zero, Nat.mul_one]
  · obtain ⟨e1, e2⟩ := fin_norm is64 a hMf (by omega) (by rw [et64]; omega)
    have hd := dec_norm FP.Core.good_b64 hMf (by omega) (by rw [et64i]; omega)
    rw [hq, ht] at e2 hd
    rw [ht] at e1
    rw [sign_0] at hd
    have hml := Nat.mod_lt M (show 0 < 2 ^ 52 by decide)
    have hE1 : M / 2 ^ 52 < 2047 := by omega
    have hE2 : 1 ≤ M / 2 ^ 52 := by omega
    refine ⟨2 ^ 52 + M % 2 ^ 52, -1074 + (((M / 2 ^ 52 : Nat) : Int) - 1), e1, by rw [e2]; omega, ⟨by omega, by omega⟩, by omega, _, _, hd, by omega, by omega, ?_, ?_⟩
    · rw [Int.sub_self, Int.toNat_zero, Nat.pow_zero, Nat.mul_one]
    · unfold FP.Core.unitsOf
      rw [if_neg cs, ht]
      congr 2
      omega
theorem pts_le {a b : Int64} {c d : Nat} {q r : Int} (ha : Pts a c q) (hb : Pts b d r) (h : uN b % 2 ^ 63 ≤ uN a % 2 ^ 63) : r ≤ q ∧ d ≤ c * 2 ^ (q - r).toNat := by
  obtain ⟨-, -, ⟨hc1, hc2⟩, ⟨hq1, hq2⟩, c0, q0, -, hq0, hq3, e1, e2⟩ := ha
  obtain ⟨-, -, ⟨hd1, hd2⟩, ⟨hr1, hr2⟩, d0, r0, -, hr0, hr3, f1, f2⟩ := hb
  have hu := FP.Core.unitsOf_le_iff (f := FP.Core.b64).mpr h
  rw [← e2, ← f2] at hu
  have k1 : c * 2 ^ (q + 1126).toNat = c0 * 2 ^ (q0 + 1074).toNat * 2 ^ 52 := by
    rw [← e1, Nat.mul_assoc, Nat.mul_assoc, ← Nat.pow_add, ← Nat.pow_add]
    congr 2
    omega
  have k2 : d * 2 ^ (r + 1126).toNat = d0 * 2 ^ (r0 + 1074).toNat * 2 ^ 52 := by
    rw [← f1, Nat.mul_assoc, Nat.mul_assoc, ← Nat.pow_add, ← Nat.pow_add]
    congr 2
    omega
  have k3 : d * 2 ^ (r + 1126).toNat ≤ c * 2 ^ (q + 1126).toNat := by
    rw [k1, k2]
    exact Nat.mul_le_mul_right _ hu
  have hrq : r ≤ q := by
    apply Classical.byContradiction
    intro hn
    obtain ⟨j, hj⟩ : ∃ j : Nat, r = q + 1 + j := ⟨(r - q - 1).toNat, by omega⟩
    rw [show (r + 1126).toNat = (q + 1126).toNat + (1 + j) by omega, Nat.pow_add, ← Nat.mul_assoc, Nat.mul_right_comm] at k3
    have hp := Nat.two_pow_pos (q + 1126).toNat
    have k4 := Nat.le_of_mul_le_mul_right k3 hp
    have k5 : d * 2 ^ 1 ≤ d * 2 ^ (1 + j) := Nat.mul_le_mul_left _ (Nat.pow_le_pow_right (by decide) (by omega))
    omega
  refine ⟨hrq, ?_⟩
  rw [show (q + 1126).toNat = (q - r).toNat + (r + 1126).toNat by omega, Nat.pow_add, ← Nat.mul_assoc] at k3
  exact Nat.le_of_mul_le_mul_right k3 (Nat.two_pow_pos _)
