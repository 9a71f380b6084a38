/-! ===== remainders of finite doubles ===== -/
theorem uN_rem {x y : Int64} {d : Nat} (hx : uN x < 2 ^ 63) (hy : uN y = d) (hd : d < 2 ^ 63) : uN (x - x / y * y) = uN x % d := by
  have hdm := Nat.div_add_mod (uN x) d
  have e4 : uN (x / y * y) = d * (uN x / d) := by
    rw [uN_mul, uN_div hx (by omega), hy, Nat.mul_comm (uN x / d)]
    exact Nat.mod_eq_of_lt (by omega)
  rw [uN_sub, e4]
  omega
theorem rm_loop {a b x : Int64} {e30 : Int32} {d : Nat} (hx : uN x = d) (hd : 0 < d) (hdb : d < 2 ^ 53) : ∀ (n : Nat) (L : Int32) (rest : Int64), uN rest < d → -10 ≤ L.toInt → L.toInt < n → 0 < n → ∃ rest', uN rest' = uN rest * 2 ^ L.toInt.toNat % d ∧ s_X3_remainderOfFinite_l56 a b e30 x n rest L = PK (if 0 ≤ a then 0 else 1) e30 rest' := by
  intro n
  induction n with
  | zero => intro L rest _ _ _ h; exact absurd h (by decide)
  | succ n ih =>
    intro L rest hr h1 h2 _
    by_cases h : L ≤ 0
    · refine ⟨rest, ?_, ?_⟩
      · rw [Int32.le_iff_toInt_le, show (0 : Int32).toInt = 0 from by decide] at h
        rw [show L.toInt.toNat = 0 by omega, Nat.pow_zero, Nat.mul_one, Nat.mod_eq_of_lt hr]
      · rw [s_X3_remainderOfFinite_l56, if_pos h]
        by_cases h0 : 0 ≤ a
        · rw [if_pos h0, if_pos h0]
        · rw [if_neg h0, if_neg h0]
    · have hL : 0 < L.toInt := by
        rw [Int32.le_iff_toInt_le, show (0 : Int32).toInt = 0 from by decide] at h
        omega
      obtain ⟨k, hk⟩ : ∃ k : Nat, L.toInt = k := ⟨L.toInt.toNat, by omega⟩
      obtain ⟨m, hm⟩ : ∃ m : Nat, m = min k 10 := ⟨_, rfl⟩
      have q1 : -10 ≤ (k : Int) - 10 := by omega
      have q2 : (k : Int) - 10 < (n : Int) := by omega
      have q3 : 0 < n := by omega
      have q4 : m + ((k : Int) - 10).toNat = (k : Int).toNat := by omega
      have hmin : (if 10 < L then (10 : Int32) else L) = Int32.ofNat m := by
        by_cases c : 10 < L
        · rw [if_pos c]
          rw [Int32.lt_iff_toInt_lt, show (10 : Int32).toInt = 10 from by decide] at c
          rw [show m = 10 by omega]
          decide
        · rw [if_neg c]
          rw [Int32.lt_iff_toInt_lt, show (10 : Int32).toInt = 10 from by decide] at c
          exact i_ofInt (by omega)
      have hm10 : 2 ^ m ≤ 2 ^ 10 := Nat.pow_le_pow_right (by decide) (by omega)
      have hmul : uN rest * 2 ^ m ≤ uN rest * 2 ^ 10 := Nat.mul_le_mul_left _ hm10
      have e1 : uN (lShl rest (Int32.ofNat m)) = uN rest * 2 ^ m := by
        rw [uN_shl _ (by omega)]
        exact Nat.mod_eq_of_lt (by omega)
      have e2 : uN (lShl rest (Int32.ofNat m) - lShl rest (Int32.ofNat m) / x * x) = uN rest * 2 ^ m % d := by rw [uN_rem (by rw [e1]; omega) hx (by omega), e1]
      have hL2 : (L + (-10)).toInt = (k : Int) - 10 := by
        have n10 : (-10 : Int32).toInt = -10 := by decide
        have hlt := Int32.toInt_lt L
        rw [i_add (by rw [n10]; omega) (by rw [n10]; omega), n10]
        omega
      have hml : uN rest * 2 ^ m % d < d := Nat.mod_lt _ hd
      have hgo : s_X3_remainderOfFinite_l56 a b e30 x (n + 1) rest L = s_X3_remainderOfFinite_l56 a b e30 x n (lShl rest (Int32.ofNat m) - lShl rest (Int32.ofNat m) / x * x) (L + (-10)) := by
        rw [s_X3_remainderOfFinite_l56, if_neg h, hmin]
      obtain ⟨rest', f1, f2⟩ := ih (L + (-10)) (lShl rest (Int32.ofNat m) - lShl rest (Int32.ofNat m) / x * x) (by rw [e2]; exact hml) (by rw [hL2]; exact q1) (by rw [hL2]; exact q2) q3
      refine ⟨rest', ?_, hgo.trans f2⟩
      rw [f1, e2, hL2, Nat.mod_mul_mod, Nat.mul_assoc, ← Nat.pow_add, hk, q4]
theorem rem_val {s t : Bool} {c0 d0 c d : Nat} {q0 r0 q r : Int} (hq : q ≤ q0) (hc : c0 * 2 ^ (q0 - q).toNat = c) (hr : r ≤ r0) (hd : d0 * 2 ^ (r0 - r).toNat = d) (hrq : r ≤ q) (hd0 : d0 ≠ 0) : FP.Core.round FP.Core.b64 (FP.Core.exactRemainder (.fin s c0 q0) (.fin t d0 r0)) = FP.Core.roundRatio FP.Core.b64 s (c * 2 ^ (q - r).toNat % d) 1 r := by
  obtain ⟨e0, he⟩ : ∃ e0, e0 = min q0 r0 := ⟨_, rfl⟩
  obtain ⟨j, hj⟩ : ∃ j : Nat, j = (e0 - r).toNat := ⟨_, rfl⟩
  have p1 : c * 2 ^ (q - r).toNat = FP.Core.inUnits c0 q0 e0 * 2 ^ j := by
    unfold FP.Core.inUnits
    rw [← hc, Nat.mul_assoc, Nat.mul_assoc, ← Nat.pow_add, ← Nat.pow_add]
    congr 2
    omega
  have p2 : d = FP.Core.inUnits d0 r0 e0 * 2 ^ j := by
    unfold FP.Core.inUnits
    rw [← hd, Nat.mul_assoc, ← Nat.pow_add]
    congr 2
    omega
  show FP.Core.round FP.Core.b64 (if d0 = 0 then _ else .fin s (FP.Core.inUnits c0 q0 (min q0 r0) % FP.Core.inUnits d0 r0 (min q0 r0)) (min q0 r0)) = _
  rw [if_neg hd0, ← he, p1, p2, Nat.mul_mod_mul_right]
  show FP.Core.roundRatio FP.Core.b64 s _ 1 e0 = _
  refine FP.Core.roundRatio_congr (by decide) (by decide) ?_
  rw [show (e0 - r).toNat = j from hj.symm, show (r - e0).toNat = 0 by omega, Nat.pow_zero, Nat.mul_one, Nat.mul_one, Nat.mul_one]
theorem remFin_eq {a b : Int64} {c d : Nat} {q r : Int} (ha : Pts a c q) (hb : Pts b d r) (h : uN b % 2 ^ 63 ≤ uN a % 2 ^ 63) : uN (s_X3_remainderOfFinite a b) = FP.Core.encode FP.Core.b64 (FP.Core.round FP.Core.b64 (FP.Core.exactRemainder (FP.Core.decode FP.Core.b64 (uN a)) (FP.Core.decode FP.Core.b64 (uN b)))) := by
  obtain ⟨hrq, hle⟩ := pts_le ha hb h
  obtain ⟨hc, hq, ⟨hc1, hc2⟩, ⟨hq1, hq2⟩, c0, q0, hda, hq0, -, e1, -⟩ := ha
  obtain ⟨hd, hr, ⟨hd1, hd2⟩, ⟨hr1, hr2⟩, d0, r0, hdb, hr0, -, f1, -⟩ := hb
  have hd0 : d0 ≠ 0 := by
    rintro rfl
    rw [Nat.zero_mul] at f1
    omega
  have hne : ¬ SG b = 0 := fun z => by rw [z, uN_0] at hd; omega
  have hgap : (XPO a - XPO b).toInt = q - r := by rw [i_sub (by rw [hq, hr]; omega) (by rw [hq, hr]; omega), hq, hr]
  have hr0' : uN (SG a - SG a / SG b * SG b) = c % d := by rw [uN_rem (by rw [hc]; omega) hd (by omega), hc]
  obtain ⟨rest', g1, g2⟩ := rm_loop (a := a) (b := b) (e30 := XPO b) hd (by omega) hd2 ((XPO a - XPO b).toInt.toNat + 1) (XPO a - XPO b) (SG a - SG a / SG b * SG b) (by rw [hr0']; exact Nat.mod_lt _ (by omega)) (by rw [hgap]; omega) (by omega) (by omega)
  have hE : s_X3_remainderOfFinite a b = s_X3_remainderOfFinite_l56 a b (XPO b) (SG b) ((XPO a - XPO b).toInt.toNat + 1) (SG a - SG a / SG b * SG b) (XPO a - XPO b) := if_neg hne
  rw [hr0', hgap, Nat.mod_mul_mod] at g1
  have hml : c * 2 ^ (q - r).toNat % d < d := Nat.mod_lt _ (by omega)
  rw [hda, hdb, rem_val hq0 e1 hr0 f1 hrq hd0, hE, g2, pk_any _ _ (by rw [g1]; omega) (by rw [hr]; omega), g1, hr]
  have hsg : decide ((if 0 ≤ a then (0 : Int32) else 1) ≠ 0) = decide (¬ 0 ≤ a) := by
    by_cases h0 : 0 ≤ a
    · simp [h0]
    · simp [h0]
  rw [hsg]
/-- of a smaller by a greater -/
theorem rem_small {a b : Int64} {c d : Nat} {q r : Int} (ha : Pts a c q) (hb : Pts b d r) (h : uN a % 2 ^ 63 < uN b % 2 ^ 63) : FP.Core.round FP.Core.b64 (FP.Core.exactRemainder (FP.Core.decode FP.Core.b64 (uN a)) (FP.Core.decode FP.Core.b64 (uN b))) = FP.Core.decode FP.Core.b64 (uN a) := by
  have hfit := FP.Core.decode_fits FP.Core.good_b64 (uN a)
  obtain ⟨hc, hq, ⟨hc1, hc2⟩, ⟨hq1, hq2⟩, c0, q0, hda, hq0, hq3, e1, e2⟩ := ha
  obtain ⟨hd, hr, ⟨hd1, hd2⟩, ⟨hr1, hr2⟩, d0, r0, hdb, hr0, hr3, f1, f2⟩ := hb
  have hd0 : d0 ≠ 0 := by
    rintro rfl
    rw [Nat.zero_mul] at f1
    omega
  have hu := FP.Core.unitsOf_lt (f := FP.Core.b64) h
  rw [← e2, ← f2] at hu
  rw [hda] at hfit ⊢
  rw [hdb]
  obtain ⟨e0, he⟩ : ∃ e0, e0 = min q0 r0 := ⟨_, rfl⟩
  have k1 : FP.Core.inUnits c0 q0 e0 < FP.Core.inUnits d0 r0 e0 := by
    unfold FP.Core.inUnits
    rw [show (q0 + 1074).toNat = (q0 - e0).toNat + (e0 + 1074).toNat by omega, show (r0 + 1074).toNat = (r0 - e0).toNat + (e0 + 1074).toNat by omega, Nat.pow_add, Nat.pow_add, ← Nat.mul_assoc, ← Nat.mul_assoc] at hu
    exact Nat.lt_of_mul_lt_mul_right hu
  show FP.Core.round FP.Core.b64 (if d0 = 0 then _ else .fin (decide (¬ 0 ≤ a)) (FP.Core.inUnits c0 q0 (min q0 r0) % FP.Core.inUnits d0 r0 (min q0 r0)) (min q0 r0)) = _
  rw [if_neg hd0, ← he, Nat.mod_eq_of_lt k1]
  show FP.Core.roundRatio FP.Core.b64 (decide (¬ 0 ≤ a)) (FP.Core.inUnits c0 q0 e0) 1 e0 = _
  refine FP.Core.roundRatio_exact FP.Core.good_b64 (by decide) hfit ?_
  unfold FP.Core.inUnits
  rw [show (e0 - q0).toNat = 0 by omega, Nat.pow_zero, Nat.mul_one, Nat.mul_one]
