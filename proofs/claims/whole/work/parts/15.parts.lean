/-! ===== significand and exponent of a finite number ===== -/
theorem uN_i32 {x : Int64} (h : uN x < 2 ^ 31) : x.toInt32 = Int32.ofNat (uN x) := by
  refine i_ofInt ?_
  rw [Int64.toInt_toInt32, uN_pos (by omega)]
  exact Int.bmod_eq_of_le (by omega) (by omega)
theorem et_pow (f : FP.Core.Fmt) : f.exps * f.tails = 2 ^ (f.w + (f.p - 1)) := by
  unfold FP.Core.Fmt.exps FP.Core.Fmt.tails
  rw [Nat.pow_add]
theorem mag_uN {f : FP.Core.Fmt} {FB : Nat} {fb le : Int32} {inf sb : Int64} (hF : FmtIs f FB fb le inf sb) (a : Int64) : uN (s_X0_magnitude fb le inf sb a) = uN a % (f.exps * f.tails) := by
  obtain ⟨hf, rfl, ⟨hFB0, hFB⟩, hp, hle, ⟨hq1, hq2⟩, hinf, hsb, hex, hsz⟩ := hF
  have h1 : 0 < f.exps * f.tails := by rw [et_pow]; exact Nat.two_pow_pos _
  unfold s_X0_magnitude
  rw [uN_and, uN_sub, hsb, uN_1, show (2 ^ 64 - 1 + f.exps * f.tails) % 2 ^ 64 = f.exps * f.tails - 1 by omega, et_pow, Nat.and_two_pow_sub_one_eq_mod]
theorem fin_sub {f : FP.Core.Fmt} {FB : Nat} {fb le : Int32} {inf sb : Int64} (hF : FmtIs f FB fb le inf sb) (a : Int64) {M : Nat} (hM : uN a % (f.exps * f.tails) = M) (h0 : M ≠ 0) (h1 : M < f.tails) : ∃ k : Nat, k + Nat.log2 M = FB ∧ uN (s_X0_significand fb le inf sb a) = M * 2 ^ k ∧ M * 2 ^ k < 2 ^ (FB + 1) ∧ 2 ^ FB ≤ M * 2 ^ k ∧ (s_X0_exponent fb le inf sb a).toInt = f.qmin - k := by
  have hF' := hF
  obtain ⟨hf, rfl, ⟨hFB0, hFB⟩, hp, hle, ⟨hq1, hq2⟩, hinf, hsb, hex, hsz⟩ := hF'
  have hmag := (mag_uN hF a).trans hM
  have htl : f.tails = 2 ^ FB := by unfold FP.Core.Fmt.tails; rw [hp]; rfl
  rw [htl] at h1
  have hL : Nat.log2 M < FB := (Nat.log2_lt h0).mpr h1
  obtain ⟨k, hk⟩ : ∃ k, k + Nat.log2 M = FB := ⟨FB - Nat.log2 M, by omega⟩
  have hFBp : 2 ^ FB ≤ 2 ^ 52 := Nat.pow_le_pow_right (by decide) hFB
  have h1fb : uN (lShl 1 (Int32.ofNat FB)) = 2 ^ FB := by rw [uN_shl _ (by omega), uN_1, Nat.one_mul, Nat.mod_eq_of_lt (by omega)]
  have hcond : ¬ lShl 1 (Int32.ofNat FB) ≤ s_X0_magnitude (Int32.ofNat FB) le inf sb a := by
    rw [le_uN (by rw [h1fb]; omega) (by rw [hmag]; omega), h1fb, hmag]
    omega
  have hm0 : s_X0_magnitude (Int32.ofNat FB) le inf sb a ≠ 0 := fun z => h0 (by rw [← hmag, z, uN_0])
  have hhb : (s_X0_highestBit (s_X0_magnitude (Int32.ofNat FB) le inf sb a)).toInt = Nat.log2 M := by rw [hb_log hm0, hmag, i_toInt (by omega)]
  have hfI : (Int32.ofNat FB).toInt = FB := i_toInt (by omega)
  have hmiss : s_X0_missingPlaces (Int32.ofNat FB) le inf sb a = Int32.ofNat k := by
    unfold s_X0_missingPlaces
    rw [if_neg hcond]
    refine i_ofInt ?_
    rw [i_sub (by rw [hhb, hfI]; omega) (by rw [hhb, hfI]; omega), hhb, hfI]
    omega
  have hlt : M < 2 ^ (Nat.log2 M + 1) := Nat.lt_log2_self
  have hge : 2 ^ Nat.log2 M ≤ M := Nat.log2_self_le h0
  have hb1 : M * 2 ^ k < 2 ^ (FB + 1) := by
    have := Nat.mul_lt_mul_of_pos_right hlt (Nat.two_pow_pos k)
    rw [← Nat.pow_add, show Nat.log2 M + 1 + k = FB + 1 by omega] at this
    exact this
  have hb2 : 2 ^ FB ≤ M * 2 ^ k := by
    have := Nat.mul_le_mul_right (2 ^ k) hge
    rw [← Nat.pow_add, show Nat.log2 M + k = FB by omega] at this
    exact this
  have hF1 : 2 ^ (FB + 1) ≤ 2 ^ 53 := Nat.pow_le_pow_right (by decide) (by omega)
  refine ⟨k, hk, ?_, hb1, hb2, ?_⟩
  · unfold s_X0_significand
    rw [if_neg hcond, hmiss, uN_shl _ (by omega), hmag, Nat.mod_eq_of_lt (by omega)]
  · unfold s_X0_exponent
    have hrk : (lUshr (s_X0_magnitude (Int32.ofNat FB) le inf sb a) (Int32.ofNat FB)).toInt32 = Int32.ofNat 0 := by
      have e : uN (lUshr (s_X0_magnitude (Int32.ofNat FB) le inf sb a) (Int32.ofNat FB)) = 0 := by rw [uN_ushr _ (by omega), hmag, Nat.div_eq_of_lt h1]
      rw [uN_i32 (by omega), e]
    rw [hrk, hmiss, if_pos (by decide), Int32.add_zero, i_sub (by rw [hle, i_toInt (by omega)]; omega) (by rw [hle, i_toInt (by omega)]; omega), hle, i_toInt (by omega)]
theorem fin_norm {f : FP.Core.Fmt} {FB : Nat} {fb le : Int32} {inf sb : Int64} (hF : FmtIs f FB fb le inf sb) (a : Int64) {M : Nat} (hM : uN a % (f.exps * f.tails) = M) (h1 : f.tails ≤ M) (h2 : M < f.exps * f.tails) : uN (s_X0_significand fb le inf sb a) = f.tails + M % f.tails ∧ (s_X0_exponent fb le inf sb a).toInt = f.qmin + ((M / f.tails : Nat) : Int) - 1 := by
  have hF' := hF
  obtain ⟨hf, rfl, ⟨hFB0, hFB⟩, hp, hle, ⟨hq1, hq2⟩, hinf, hsb, hex, hsz⟩ := hF'
  have hmag := (mag_uN hF a).trans hM
  have htl : f.tails = 2 ^ FB := by unfold FP.Core.Fmt.tails; rw [hp]; rfl
  have hFBp : 2 ^ FB ≤ 2 ^ 52 := Nat.pow_le_pow_right (by decide) hFB
  have h1fb : uN (lShl 1 (Int32.ofNat FB)) = 2 ^ FB := by rw [uN_shl _ (by omega), uN_1, Nat.one_mul, Nat.mod_eq_of_lt (by omega)]
  have hM63 : M < 2 ^ 63 := by omega
  have hX : (2 ^ 64 - 1 + 2 ^ FB) % 2 ^ 64 = 2 ^ FB - 1 := by
    have hp0 := Nat.two_pow_pos FB
    clear h1fb htl hmag hM h1 h2 hF
    generalize 2 ^ FB = X at hFBp hp0 ⊢
    omega
  have hcond : lShl 1 (Int32.ofNat FB) ≤ s_X0_magnitude (Int32.ofNat FB) le inf sb a := by
    rw [le_uN (by rw [h1fb]; omega) (by rw [hmag]; omega), h1fb, hmag]
    omega
  have hmiss : s_X0_missingPlaces (Int32.ofNat FB) le inf sb a = 0 := by
    unfold s_X0_missingPlaces
    rw [if_pos hcond]
  have hdl : M / f.tails < f.exps := Nat.div_lt_of_lt_mul (by rw [Nat.mul_comm]; exact h2)
  have hd1 : 1 ≤ M / f.tails := (Nat.one_le_div_iff (by rw [htl]; exact Nat.two_pow_pos _)).mpr h1
  refine ⟨?_, ?_⟩
  · unfold s_X0_significand
    rw [if_pos hcond, uN_or, uN_and, hmag, h1fb, uN_sub, h1fb, uN_1, hX, Nat.and_two_pow_sub_one_eq_mod, htl, Nat.or_comm]
    have := Nat.two_pow_add_eq_or_of_lt (Nat.mod_lt M (Nat.two_pow_pos FB)) 1
    rw [Nat.mul_one] at this
    exact this.symm
  · unfold s_X0_exponent
    have hrk : (lUshr (s_X0_magnitude (Int32.ofNat FB) le inf sb a) (Int32.ofNat FB)).toInt32 = Int32.ofNat (M / f.tails) := by
      have e : uN (lUshr (s_X0_magnitude (Int32.ofNat FB) le inf sb a) (Int32.ofNat FB)) = M / f.tails := by rw [uN_ushr _ (by omega), hmag, htl]
      rw [uN_i32 (by omega), e]
    have hr1 : (Int32.ofNat (M / f.tails) - 1).toInt = ((M / f.tails : Nat) : Int) - 1 := by rw [i_sub (by rw [i_toInt (by omega), show (1 : Int32).toInt = 1 from by decide]; omega) (by rw [i_toInt (by omega), show (1 : Int32).toInt = 1 from by decide]; omega), i_toInt (by omega), show (1 : Int32).toInt = 1 from by decide]
    rw [hrk, hmiss, if_neg (by rw [Int32.lt_iff_toInt_lt, hr1, show (0 : Int32).toInt = 0 from by decide]; omega), Int32.sub_zero, i_add (by rw [hle, hr1]; omega) (by rw [hle, hr1]; omega), hle, hr1]
    omega
