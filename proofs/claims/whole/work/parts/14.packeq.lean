/-! ===== pack is rounding ===== -/
theorem i_add {a b : Int32} (h1 : -2147483648 ≤ a.toInt + b.toInt) (h2 : a.toInt + b.toInt < 2147483648) : (a + b).toInt = a.toInt + b.toInt := by
  rw [Int32.toInt_add]
  exact Int.bmod_eq_of_le (by omega) (by omega)
theorem i_sub {a b : Int32} (h1 : -2147483648 ≤ a.toInt - b.toInt) (h2 : a.toInt - b.toInt < 2147483648) : (a - b).toInt = a.toInt - b.toInt := by
  rw [Int32.toInt_sub]
  exact Int.bmod_eq_of_le (by omega) (by omega)
theorem i_neg {a : Int32} (h1 : -2147483648 < a.toInt) : (-a).toInt = -a.toInt := by
  have h2 := Int32.toInt_lt a
  rw [Int32.toInt_neg]
  exact Int.bmod_eq_of_le (by omega) (by omega)
theorem i_ofInt {a : Int32} {k : Nat} (h : a.toInt = k) : a = Int32.ofNat k := by
  have h2 := Int32.toInt_lt a
  exact Int32.toInt.inj (h.trans (i_toInt (by omega)).symm)
theorem uN_i64 {k : Nat} (h : k < 2 ^ 31) : uN (Int32.ofNat k).toInt64 = k := by
  have h1 : (Int32.ofNat k).toInt64.toInt = k := by rw [Int32.toInt_toInt64, i_toInt h]
  have h2 := uN_lt (Int32.ofNat k).toInt64
  rw [toInt_uN] at h1
  split at h1 <;> omega
/-- the four numbers of a format of the class, and the format of the library -/
def FmtIs (f : FP.Core.Fmt) (FB : Nat) (fb le : Int32) (inf sb : Int64) : Prop := FP.Core.Good f ∧ fb = Int32.ofNat FB ∧ (0 < FB ∧ FB ≤ 52) ∧ f.p = FB + 1 ∧ le.toInt = f.qmin ∧ (-1100 ≤ f.qmin ∧ f.qmin ≤ 0) ∧ uN inf = (f.exps - 1) * f.tails ∧ uN sb = f.exps * f.tails ∧ f.exps ≤ 2048 ∧ f.exps * f.tails ≤ 2 ^ 63
theorem is64 : FmtIs FP.Core.b64 52 52 (-1074) 9218868437227405312 (-9223372036854775808) := ⟨FP.Core.good_b64, by decide, by decide, by decide, by decide, by decide, by decide, by decide, by decide, by decide⟩
theorem is32 : FmtIs FP.Core.b32 23 23 (-149) 2139095040 2147483648 := ⟨FP.Core.good_b32, by decide, by decide, by decide, by decide, by decide, by decide, by decide, by decide, by decide⟩
theorem or_sign {f : FP.Core.Fmt} (b : Nat) {x : Nat} (h : x < f.exps * f.tails) : (b * (f.exps * f.tails)) ||| x = b * (f.exps * f.tails) + x := by
  have e : f.exps * f.tails = 2 ^ (f.w + (f.p - 1)) := by
    unfold FP.Core.Fmt.exps FP.Core.Fmt.tails
    rw [Nat.pow_add]
  rw [e] at h ⊢
  rw [Nat.mul_comm b]
  exact (Nat.two_pow_add_eq_or_of_lt h b).symm
theorem pack_eq {f : FP.Core.Fmt} {FB : Nat} {fb le : Int32} {inf sb : Int64} (hF : FmtIs f FB fb le inf sb) (neg e : Int32) {s : Int64} (hs : uN s < 2 ^ 63) (h0 : s ≠ 0) (he : -100000 ≤ e.toInt ∧ e.toInt ≤ 100000) : uN (s_X0_pack fb le inf sb neg e s) = FP.Core.encode f (FP.Core.roundRatio f (decide (neg ≠ 0)) (uN s) 1 e.toInt) := by
  obtain ⟨hf, rfl, ⟨hFB0, hFB⟩, hp, hle, ⟨hq1, hq2⟩, hinf, hsb, hex, hsz⟩ := hF
  have hn : uN s ≠ 0 := fun z => h0 (uN_inj (z.trans uN_0.symm))
  have hE := FP.Core.emax_exps hf
  have hE1 := FP.Core.emax_pos hf
  have h2t := FP.Core.two_tails hf
  have htl : f.tails = 2 ^ FB := by unfold FP.Core.Fmt.tails; rw [hp]; rfl
  have hL := log_lt s
  have hL63 : Nat.log2 (uN s) < 63 := (Nat.log2_lt hn).mpr hs
  have hpos : 0 < uN s := Nat.pos_of_ne_zero hn
  obtain ⟨Q, hQ⟩ : ∃ Q, Q = FP.Core.quantum f (uN s) 1 e.toInt := ⟨_, rfl⟩
  have hQv : Q = max f.qmin ((Nat.log2 (uN s) : Int) + e.toInt - FB) := by
    rw [hQ]
    unfold FP.Core.quantum
    rw [log_one _ hpos, hp]
    congr 1
    omega
  have hhb := hb_log h0
  have hbI : (s_X0_highestBit s).toInt = Nat.log2 (uN s) := by rw [hhb, i_toInt (by omega)]
  have hfI : (Int32.ofNat FB).toInt = FB := i_toInt (by omega)
  have e1 : (e + s_X0_highestBit s).toInt = e.toInt + Nat.log2 (uN s) := by rw [i_add (by rw [hbI]; omega) (by rw [hbI]; omega), hbI]
  have e2 : ((e + s_X0_highestBit s) - Int32.ofNat FB).toInt = e.toInt + Nat.log2 (uN s) - FB := by rw [i_sub (by rw [e1, hfI]; omega) (by rw [e1, hfI]; omega), e1, hfI]
  obtain ⟨P, hP⟩ : ∃ P, P = (if ((e + s_X0_highestBit s) - Int32.ofNat FB) < le then le else ((e + s_X0_highestBit s) - Int32.ofNat FB)) := ⟨_, rfl⟩
  have hPI : P.toInt = Q := by
    rw [hP, hQv]
    by_cases h : ((e + s_X0_highestBit s) - Int32.ofNat FB) < le
    · rw [if_pos h, hle]
      rw [Int32.lt_iff_toInt_lt, e2, hle] at h
      omega
    · rw [if_neg h, e2]
      rw [Int32.lt_iff_toInt_lt, e2, hle] at h
      omega
  obtain ⟨r, hr⟩ : ∃ r : Nat, r = (Q - f.qmin).toNat := ⟨_, rfl⟩
  have hQb : f.qmin ≤ Q ∧ Q ≤ 100100 := by rw [hQv]; omega
  have hrI : (P - le).toInt = r := by rw [i_sub (by rw [hPI, hle]; omega) (by rw [hPI, hle]; omega), hPI, hle]; omega
  have hrk : uN (P - le).toInt64 = r := by rw [i_ofInt hrI, uN_i64 (by omega)]
  have hus : uN (lUshr inf (Int32.ofNat FB) - 1) = f.exps - 2 := by
    rw [uN_sub, uN_ushr _ (by omega), hinf, htl, Nat.mul_div_cancel _ (Nat.two_pow_pos _), uN_1]
    omega
  have hcmp : (P - le).toInt64 < lUshr inf (Int32.ofNat FB) - 1 ↔ r < f.exps - 2 := by rw [lt_uN (by rw [hrk]; omega) (by rw [hus]; omega), hrk, hus]
  have hz : ∀ x : Int64, uN x < f.exps * f.tails → uN ((if neg = 0 then 0 else sb) ||| x) = (decide (neg ≠ 0)).toNat * f.exps * f.tails + uN x := by
    intro x hx
    rw [uN_or, Nat.mul_assoc, ← or_sign _ hx]
    congr 1
    by_cases hneg : neg = 0
    · rw [if_pos hneg, uN_0, hneg]
      simp
    · rw [if_neg hneg, hsb]
      simp [hneg]
  have hpk : s_X0_pack (Int32.ofNat FB) le inf sb neg e s = if (P - le).toInt64 < lUshr inf (Int32.ofNat FB) - 1 then (if neg = 0 then 0 else sb) ||| (lShl (P - le).toInt64 (Int32.ofNat FB) + s_X0_rounded s (P - e)) else (if neg = 0 then 0 else sb) ||| inf := by
    unfold s_X0_pack s_X0_pack_j12
    rw [← hP]
    by_cases hneg : neg = 0
    · rw [if_pos hneg, if_pos hneg, if_neg h0]
    · rw [if_neg hneg, if_neg hneg, if_neg h0]
  have hexp : (f.exps - 1) * f.tails < f.exps * f.tails := Nat.mul_lt_mul_of_pos_right (by omega) (by rw [htl]; exact Nat.two_pow_pos _)
  have hrnd : uN (s_X0_rounded s (P - e)) = FP.Core.nearest (FP.Core.unitsNum (uN s) e.toInt Q) (FP.Core.unitsDen 1 e.toInt Q) := by
    have hd : (P - e).toInt = Q - e.toInt := by rw [i_sub (by rw [hPI]; omega) (by rw [hPI]; omega), hPI]
    unfold FP.Core.unitsNum FP.Core.unitsDen
    by_cases c1 : Q - e.toInt ≤ 0
    · rw [rounded_low (by omega)]
      obtain ⟨k, hk⟩ : ∃ k : Nat, k = (e.toInt - Q).toNat := ⟨_, rfl⟩
      have hk2 : k + Nat.log2 (uN s) ≤ FB := by omega
      have hneg : (-(P - e)).toInt = k := by rw [i_neg (by omega), hd]; omega
      rw [i_ofInt hneg, uN_shl _ (by omega), ← hk, show (Q - e.toInt).toNat = 0 by omega, Nat.pow_zero, Nat.one_mul, nearest_one]
      apply Nat.mod_eq_of_lt
      have hlt : uN s < 2 ^ (Nat.log2 (uN s) + 1) := Nat.lt_log2_self
      calc uN s * 2 ^ k < 2 ^ (Nat.log2 (uN s) + 1) * 2 ^ k := Nat.mul_lt_mul_of_pos_right hlt (Nat.two_pow_pos _)
        _ = 2 ^ (Nat.log2 (uN s) + 1 + k) := (Nat.pow_add ..).symm
        _ ≤ 2 ^ 64 := Nat.pow_le_pow_right (by decide) (by omega)
    · obtain ⟨d, hdd⟩ : ∃ d : Nat, d = (Q - e.toInt).toNat := ⟨_, rfl⟩
      rw [show (e.toInt - Q).toNat = 0 by omega, ← hdd, Nat.pow_zero, Nat.mul_one, Nat.one_mul]
      by_cases c2 : d ≤ 63
      · rw [i_ofInt (a := P - e) (k := d) (by rw [hd]; omega), rounded_eq hs (by omega) c2, rnd_nearest (by omega)]
      · rw [rounded_big (by omega), uN_0, nearest_small]
        have : 2 ^ 64 ≤ 2 ^ d := Nat.pow_le_pow_right (by decide) (by omega)
        omega
  have hcle : FP.Core.nearest (FP.Core.unitsNum (uN s) e.toInt Q) (FP.Core.unitsDen 1 e.toInt Q) ≤ 2 ^ f.p := by rw [hQ]; exact FP.Core.nearest_units_le hpos (by decide) _
  rw [enc_round hf _ hpos (by decide), ← hQ, ← hr, hpk]
  by_cases c : r < f.exps - 2
  · rw [if_pos (hcmp.mpr c), if_neg (show ¬ f.exps - 2 ≤ r by omega)]
    have hsm : r * f.tails + 2 * f.tails ≤ (f.exps - 1) * f.tails := by rw [← Nat.add_mul]; exact Nat.mul_le_mul_right _ (by omega)
    have hv : uN (lShl (P - le).toInt64 (Int32.ofNat FB) + s_X0_rounded s (P - e)) = r * f.tails + FP.Core.nearest (FP.Core.unitsNum (uN s) e.toInt Q) (FP.Core.unitsDen 1 e.toInt Q) := by
      rw [uN_add, uN_shl _ (by omega), hrk, hrnd, ← htl, Nat.mod_eq_of_lt (show r * f.tails < 2 ^ 64 by omega), Nat.mod_eq_of_lt (by omega)]
    rw [hz _ (by rw [hv]; omega), hv]
  · rw [if_neg (fun z => c (hcmp.mp z)), if_pos (show f.exps - 2 ≤ r by omega), hz _ (by rw [hinf]; exact hexp), hinf]
