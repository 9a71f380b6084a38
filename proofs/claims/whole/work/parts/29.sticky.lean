/-! ===== a sticky bit rounds as what it stands for ===== -/
theorem dm_uniq {A D K r : Nat} (hD : 0 < D) (h : A = D * K + r) (hr : r < D) : A / D = K ∧ A % D = r := by
  subst h
  rw [Nat.mul_add_div hD, Nat.mul_add_mod, Nat.div_eq_of_lt hr, Nat.mod_eq_of_lt hr]
  exact ⟨rfl, rfl⟩
/-- what lies strictly between 2 m and 2 m + 2 rounds as 2 m + 1 does, where the last digit kept weighs 4 d -/
theorem sticky {A B m d : Nat} (hd : 0 < d) (h1 : 2 * m * B < A) (h2 : A < (2 * m + 2) * B) : FP.Core.nearest A (B * (4 * d)) = FP.Core.nearest (2 * m + 1) (4 * d) := by
  have hB : 0 < B := by
    apply Nat.pos_of_ne_zero
    intro z
    subst z
    omega
  obtain ⟨K, R, hm, hR⟩ : ∃ K R, m = 2 * d * K + R ∧ R < 2 * d := ⟨m / (2 * d), m % (2 * d), (Nat.div_add_mod m (2 * d)).symm, Nat.mod_lt _ (by omega)⟩
  obtain ⟨x, hx⟩ : ∃ x, A = 2 * m * B + x := ⟨A - 2 * m * B, by omega⟩
  have hx1 : 0 < x := by omega
  have hx2 : x < 2 * B := by
    rw [Nat.add_mul] at h2
    omega
  have e1 : 2 * m * B = B * (4 * d) * K + 2 * R * B := by
    rw [hm]
    simp only [Nat.mul_add, Nat.add_mul]
    congr 1
    rw [show (4 : Nat) = 2 * 2 from rfl]
    ac_rfl
  have e2 : 2 * m + 1 = 4 * d * K + (2 * R + 1) := by
    rw [hm, Nat.mul_add, show 2 * (2 * d * K) = 4 * d * K from by rw [show (4 : Nat) = 2 * 2 from rfl]; ac_rfl]
    omega
  have r1 : 2 * R * B + x < B * (4 * d) := by
    have : (2 * R + 2) * B ≤ 4 * d * B := Nat.mul_le_mul_right B (by omega)
    rw [Nat.add_mul] at this
    rw [Nat.mul_comm B]
    omega
  obtain ⟨q1, q2⟩ := dm_uniq (A := A) (D := B * (4 * d)) (K := K) (r := 2 * R * B + x) (Nat.mul_pos hB (by omega)) (by rw [hx, e1]; omega) r1
  obtain ⟨q3, q4⟩ := dm_uniq (A := 2 * m + 1) (D := 4 * d) (K := K) (r := 2 * R + 1) (by omega) e2 (by omega)
  unfold FP.Core.nearest
  rw [q1, q2, q3, q4]
  by_cases hc : R < d
  · have : (2 * R + 2) * B ≤ 2 * d * B := Nat.mul_le_mul_right B (by omega)
    rw [Nat.add_mul] at this
    have e5 : B * (4 * d) = 2 * (2 * d * B) := by rw [show (4 : Nat) = 2 * 2 from rfl]; ac_rfl
    rw [if_pos (by omega), if_pos (by omega)]
  · have : 2 * d * B ≤ 2 * R * B := Nat.mul_le_mul_right B (by omega)
    have e5 : B * (4 * d) = 2 * (2 * d * B) := by rw [show (4 : Nat) = 2 * 2 from rfl]; ac_rfl
    rw [if_neg (by omega), if_pos (by omega), if_neg (by omega), if_pos (by omega)]
