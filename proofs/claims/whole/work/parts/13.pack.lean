/-! ===== rounding as bits: what FP.Core.encode gives of a rounded magnitude ===== -/
theorem enc_settle {f : FP.Core.Fmt} (hf : FP.Core.Good f) (s : Bool) {c : Nat} {q : Int} (hq : f.qmin ≤ q) (hc : c ≤ 2 ^ f.p) (h : q = f.qmin ∨ f.tails ≤ c) : FP.Core.encode f (FP.Core.settle f s c q) = s.toNat * f.exps * f.tails + (if f.exps - 2 ≤ (q - f.qmin).toNat then (f.exps - 1) * f.tails else (q - f.qmin).toNat * f.tails + c) := by
  have h1 := FP.Core.two_tails hf
  have h2 := FP.Core.tails_two hf
  have h3 := FP.Core.qmax_qmin f
  have h4 := FP.Core.emax_exps hf
  have h5 := FP.Core.emax_pos hf
  obtain ⟨r, hr⟩ : ∃ r : Nat, q = f.qmin + r := ⟨(q - f.qmin).toNat, by omega⟩
  have hr2 : (q - f.qmin).toNat = r := by omega
  rw [hr2]
  have inf_case : (s.toNat * f.exps + (f.exps - 1)) * f.tails + 0 = s.toNat * f.exps * f.tails + (f.exps - 1) * f.tails := by rw [Nat.add_mul, Nat.add_zero]
  unfold FP.Core.settle FP.Core.bound
  by_cases c1 : c < 2 ^ f.p
  · rw [if_pos c1]
    by_cases c2 : q ≤ f.qmax
    · rw [if_pos c2, if_neg (by omega)]
      show (if c < f.tails then FP.Core.assemble f s 0 c else FP.Core.assemble f s ((q - f.qmin).toNat + 1) (c - f.tails)) = _
      unfold FP.Core.assemble
      by_cases c3 : c < f.tails
      · rw [if_pos c3]
        have hq0 : r = 0 := by omega
        subst hq0
        rw [Nat.add_zero, Nat.zero_mul, Nat.zero_add]
      · rw [if_neg c3, hr2, Nat.add_mul, Nat.add_mul, Nat.one_mul]
        omega
    · rw [if_neg c2, if_pos (by omega)]
      exact inf_case
  · rw [if_neg c1]
    have hc2 : c = 2 * f.tails := by omega
    by_cases c2 : q + 1 ≤ f.qmax
    · rw [if_pos c2, if_neg (by omega)]
      show (if f.tails < f.tails then FP.Core.assemble f s 0 f.tails else FP.Core.assemble f s ((q + 1 - f.qmin).toNat + 1) (f.tails - f.tails)) = _
      unfold FP.Core.assemble
      rw [if_neg (Nat.lt_irrefl _), show (q + 1 - f.qmin).toNat = r + 1 by omega, Nat.sub_self, Nat.add_mul, Nat.add_mul, Nat.add_mul, Nat.one_mul]
      omega
    · rw [if_neg c2]
      refine inf_case.trans ?_
      congr 1
      by_cases c3 : f.exps - 2 ≤ r
      · rw [if_pos c3]
      · rw [if_neg c3, show f.exps - 1 = r + 2 by omega, Nat.add_mul]
        omega
theorem enc_round {f : FP.Core.Fmt} (hf : FP.Core.Good f) (s : Bool) {A B : Nat} (hA : 0 < A) (hB : 0 < B) (e : Int) : FP.Core.encode f (FP.Core.roundRatio f s A B e) = s.toNat * f.exps * f.tails + (if f.exps - 2 ≤ (FP.Core.quantum f A B e - f.qmin).toNat then (f.exps - 1) * f.tails else (FP.Core.quantum f A B e - f.qmin).toNat * f.tails + FP.Core.nearest (FP.Core.unitsNum A e (FP.Core.quantum f A B e)) (FP.Core.unitsDen B e (FP.Core.quantum f A B e))) := by
  unfold FP.Core.roundRatio
  rw [if_neg (by omega)]
  unfold FP.Core.roundAt
  refine enc_settle hf s (FP.Core.quantum_ge ..) (FP.Core.nearest_units_le hA hB e) ?_
  rcases FP.Core.quantum_not_below (f := f) hA hB e with h2 | h2
  · exact .inl h2
  · refine .inr (FP.Core.nearest_ge (FP.Core.unitsDen_pos hB ..) ?_)
    rw [show (f.p : Int) - 1 = ((f.p - 1 : Nat) : Int) by have := hf.2; omega, ← FP.Core.units_below] at h2
    exact Nat.le_of_not_lt h2
theorem rnd_nearest {n p : Nat} (hp : 0 < p) : FP.Core.nearest n (2 ^ p) = rnd n p := by
  have h2p : 2 ^ p = 2 ^ (p - 1) + 2 ^ (p - 1) := by
    rw [← Nat.mul_two, ← Nat.pow_succ]
    congr 1
    omega
  unfold FP.Core.nearest rnd
  generalize hr : n % 2 ^ p = r
  generalize hk : n / 2 ^ p = k
  generalize 2 ^ (p - 1) = H at h2p ⊢
  rw [h2p]
  by_cases c1 : H < r
  · rw [if_pos c1, if_neg (by omega), if_pos (by omega)]
  · rw [if_neg c1]
    by_cases c2 : r = H
    · rw [if_pos c2, if_neg (by omega), if_neg (by omega)]
      split <;> omega
    · rw [if_neg c2, if_pos (by omega)]
theorem log_one (n : Nat) (hn : 0 < n) : FP.Core.leading n 1 = n.log2 := by
  unfold FP.Core.leading
  have h1 : Nat.log2 1 = 0 := by decide
  rw [h1]
  simp only [Int.ofNat_zero, Int.sub_zero, Int.toNat_natCast, Nat.one_mul]
  have h2 : (-(n.log2 : Int)).toNat = 0 := by omega
  rw [h2, Nat.pow_zero, Nat.mul_one, if_pos (Nat.log2_self_le (by omega))]
theorem nearest_one (n : Nat) : FP.Core.nearest n 1 = n := by
  unfold FP.Core.nearest
  rw [Nat.mod_one, Nat.div_one]
  simp
theorem nearest_small {n d : Nat} (h : 2 * n < d) : FP.Core.nearest n d = 0 := by
  unfold FP.Core.nearest
  rw [Nat.mod_eq_of_lt (by omega), if_pos h, Nat.div_eq_of_lt (by omega)]
