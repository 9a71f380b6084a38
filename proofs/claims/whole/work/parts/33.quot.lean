/-! ===== quotients of finite doubles ===== -/
theorem q_num {rest total x : Int64} {d ρ τ C k : Nat} (hx : uN x = d) (hd : 0 < d) (hdb : d < 2 ^ 53) (hr : uN rest = ρ) (hρ : ρ < d) (ht : uN total = τ) (h : τ * d + ρ = C) (hτ : τ < 2 ^ k) (hk : k + 10 ≤ 63) : ∃ ρ' τ', uN (lShl rest 10 - lShl rest 10 / x * x) = ρ' ∧ ρ' < d ∧ uN (lShl total 10 + lShl rest 10 / x) = τ' ∧ τ' * d + ρ' = C * 1024 ∧ τ' < 2 ^ (k + 10) := by
  have e1 : uN (lShl rest 10) = ρ * 1024 := by
    rw [k10, uN_shl _ (by decide), hr]
    omega
  have hk2 : 2 ^ (k + 10) ≤ 2 ^ 63 := Nat.pow_le_pow_right (by decide) hk
  have hk3 : 2 ^ (k + 10) = 2 ^ k * 1024 := Nat.pow_add ..
  have e2 : uN (lShl total 10) = τ * 1024 := by
    rw [k10, uN_shl _ (by decide), ht]
    omega
  have e3 : uN (lShl rest 10 / x) = ρ * 1024 / d := by rw [uN_div (by rw [e1]; omega) (by omega), e1, hx]
  have hdm := Nat.div_add_mod (ρ * 1024) d
  have hml := Nat.mod_lt (ρ * 1024) hd
  have hq : ρ * 1024 / d < 1024 := Nat.div_lt_of_lt_mul (by omega)
  obtain ⟨w, hw⟩ : ∃ w, w = ρ * 1024 / d := ⟨_, rfl⟩
  rw [← hw] at e3 hdm hq
  have e4 : uN (lShl rest 10 / x * x) = d * w := by
    rw [uN_mul, e3, hx, Nat.mul_comm w]
    exact Nat.mod_eq_of_lt (by omega)
  refine ⟨ρ * 1024 % d, τ * 1024 + w, ?_, hml, ?_, ?_, by omega⟩
  · rw [uN_sub, e1, e4]
    omega
  · rw [uN_add, e2, e3]
    omega
  · rw [← h, Nat.add_mul, Nat.add_mul, Nat.mul_right_comm, Nat.mul_comm w]
    omega
theorem q_step {a b x : Int64} {n : Nat} {rest total : Int64} {pl rd : Int32} (h : ¬ 6 ≤ rd) : s_X3_quotientOfFinite_l52 a b x (n + 1) rest total pl rd = s_X3_quotientOfFinite_l52 a b x n (lShl rest 10 - lShl rest 10 / x * x) (lShl total 10 + lShl rest 10 / x) (pl + 10) (rd + 1) := by
  rw [s_X3_quotientOfFinite_l52, if_neg h]
theorem q_end {a b x : Int64} {n : Nat} {rest total : Int64} {pl rd : Int32} (h : 6 ≤ rd) : s_X3_quotientOfFinite_l52 a b x (n + 1) rest total pl rd = PK (if (0 ≤ a) ↔ (0 ≤ b) then 0 else 1) (XPO a - XPO b - pl) (if rest = 0 then total else total ||| 1) := by
  rw [s_X3_quotientOfFinite_l52, if_pos h]
  unfold s_X3_quotientOfFinite_j129 s_X3_quotientOfFinite_j140 s_X3_quotientOfFinite_j148
  by_cases h2 : rest = 0
  · rw [if_pos h2, if_pos h2, if_pos h2]
    by_cases h0 : 0 ≤ a
    · by_cases h1 : 0 ≤ b
      · rw [if_pos h0, if_pos h1, if_pos rfl, if_pos (by simp [h0, h1])]
      · rw [if_pos h0, if_neg h1, if_neg (by decide), if_neg (by simp [h0, h1])]
    · by_cases h1 : 0 ≤ b
      · rw [if_neg h0, if_pos h1, if_neg (by decide), if_neg (by simp [h0, h1])]
      · rw [if_neg h0, if_neg h1, if_pos rfl, if_pos (by simp [h0, h1])]
  · rw [if_neg h2, if_neg h2, if_neg h2]
    by_cases h0 : 0 ≤ a
    · by_cases h1 : 0 ≤ b
      · rw [if_pos h0, if_pos h1, if_pos rfl, if_pos (by simp [h0, h1])]
      · rw [if_pos h0, if_neg h1, if_neg (by decide), if_neg (by simp [h0, h1])]
    · by_cases h1 : 0 ≤ b
      · rw [if_neg h0, if_pos h1, if_neg (by decide), if_neg (by simp [h0, h1])]
      · rw [if_neg h0, if_neg h1, if_pos rfl, if_pos (by simp [h0, h1])]
theorem quot_num {a b : Int64} {c d : Nat} (hc : uN (SG a) = c) (hd : uN (SG b) = d) (hc1 : 2 ^ 52 ≤ c) (hc2 : c < 2 ^ 53) (hd1 : 2 ^ 52 ≤ d) (hd2 : d < 2 ^ 53) : ∃ rest total : Int64, s_X3_quotientOfFinite a b = PK (if (0 ≤ a) ↔ (0 ≤ b) then 0 else 1) (XPO a - XPO b - 60) (if rest = 0 then total else total ||| 1) ∧ uN rest < d ∧ uN total * d + uN rest = c * 2 ^ 60 ∧ uN total < 2 ^ 61 := by
  have hd0 : 0 < d := by omega
  have hne : ¬ SG b = 0 := fun z => by rw [z, uN_0] at hd; omega
  have hdm := Nat.div_add_mod c d
  have hml := Nat.mod_lt c hd0
  have hq2 : c / d < 2 := Nat.div_lt_of_lt_mul (by omega)
  have t0 : uN (SG a / SG b) = c / d := by rw [uN_div (by rw [hc]; omega) (by rw [hd]; omega), hc, hd]
  obtain ⟨w, hw⟩ : ∃ w, w = c / d := ⟨_, rfl⟩
  rw [← hw] at t0 hdm hq2
  have m0 : uN (SG a / SG b * SG b) = d * w := by
    rw [uN_mul, t0, hd, Nat.mul_comm w]
    exact Nat.mod_eq_of_lt (by omega)
  have r0 : uN (SG a - SG a / SG b * SG b) = c % d := by
    rw [uN_sub, hc, m0]
    omega
  have h0 : w * d + c % d = c := by
    rw [Nat.mul_comm w]
    exact hdm
  obtain ⟨ρ1, τ1, a1, b1, c1, d1, e1⟩ := q_num (k := 1) hd hd0 hd2 r0 hml t0 h0 hq2 (by decide)
  obtain ⟨ρ2, τ2, a2, b2, c2, d2, e2⟩ := q_num hd hd0 hd2 a1 b1 c1 d1 e1 (by decide)
  obtain ⟨ρ3, τ3, a3, b3, c3, d3, e3⟩ := q_num hd hd0 hd2 a2 b2 c2 d2 e2 (by decide)
  obtain ⟨ρ4, τ4, a4, b4, c4, d4, e4⟩ := q_num hd hd0 hd2 a3 b3 c3 d3 e3 (by decide)
  obtain ⟨ρ5, τ5, a5, b5, c5, d5, e5⟩ := q_num hd hd0 hd2 a4 b4 c4 d4 e4 (by decide)
  obtain ⟨ρ6, τ6, a6, b6, c6, d6, e6⟩ := q_num hd hd0 hd2 a5 b5 c5 d5 e5 (by decide)
  have hE : s_X3_quotientOfFinite a b = s_X3_quotientOfFinite_l52 a b (SG b) 7 (SG a - SG a / SG b * SG b) (SG a / SG b) 0 0 := if_neg hne
  rw [q_step (by decide), q_step (by decide), q_step (by decide), q_step (by decide), q_step (by decide), q_step (by decide), q_end (by decide), show (0 : Int32) + 10 + 10 + 10 + 10 + 10 + 10 = 60 from by decide] at hE
  refine ⟨_, _, hE, ?_, ?_, ?_⟩
  · rw [a6]
    exact b6
  · rw [a6, c6, d6]
    omega
  · rw [c6]
    exact e6
theorem quotFin_eq {a b : Int64} {c d : Nat} {q r : Int} (ha : Pts a c q) (hb : Pts b d r) : uN (s_X3_quotientOfFinite a b) = FP.Core.encode FP.Core.b64 (FP.Core.quotient FP.Core.b64 (FP.Core.decode FP.Core.b64 (uN a)) (FP.Core.decode FP.Core.b64 (uN b))) := by
  obtain ⟨hc, hq, ⟨hc1, hc2⟩, ⟨hq1, hq2⟩, c0, q0, hda, hq0, -, e1, -⟩ := ha
  obtain ⟨hd, hr, ⟨hd1, hd2⟩, ⟨hr1, hr2⟩, d0, r0, hdb, hr0, -, f1, -⟩ := hb
  obtain ⟨rest, total, k1, k2, k3, k4⟩ := quot_num hc hd hc1 hc2 hd1 hd2
  have n60 : (60 : Int32).toInt = 60 := by decide
  have x1 : (XPO a - XPO b).toInt = q - r := by rw [i_sub (by rw [hq, hr]; omega) (by rw [hq, hr]; omega), hq, hr]
  have x3 : (XPO a - XPO b - 60).toInt = q - r - 60 := by rw [i_sub (by rw [x1, n60]; omega) (by rw [x1, n60]; omega), x1, n60]
  have hd00 : 0 < d := by omega
  have hd0 : d0 ≠ 0 := by
    rintro rfl
    rw [Nat.zero_mul] at f1
    omega
  obtain ⟨g1, g2⟩ := dm_uniq (A := c * 2 ^ 60) (D := d) (K := uN total) (r := uN rest) hd00 (by rw [Nat.mul_comm d]; exact k3.symm) k2
  have hs := Stk.div (A := c * 2 ^ 60) hd00
  rw [g1, g2] at hs
  have hT : uN (if rest = 0 then total else total ||| 1) = if uN rest = 0 then uN total else uN total ||| 1 := by
    by_cases z : rest = 0
    · rw [if_pos z, if_pos (by rw [z, uN_0])]
    · rw [if_neg z, if_neg (fun y => z (uN_inj (y.trans uN_0.symm))), uN_or1]
  have hb1 : 2 ^ 54 ≤ uN total := by
    apply Classical.byContradiction
    intro hn
    have h1 : uN total * d ≤ 2 ^ 54 * 2 ^ 53 := Nat.mul_le_mul (by omega) (by omega)
    omega
  have hb2 := or_1_le (uN total)
  have hb3 : 2 ^ 54 ≤ (if uN rest = 0 then uN total else uN total ||| 1) ∧ (if uN rest = 0 then uN total else uN total ||| 1) < 2 ^ 63 := by
    split <;> omega
  rw [hda, hdb, k1, pk_any _ _ (by rw [hT]; exact hb3.2) (by rw [x3]; omega), x3, hT]
  show _ = FP.Core.encode FP.Core.b64 (if d0 = 0 then _ else FP.Core.roundRatio FP.Core.b64 (decide (¬ 0 ≤ a) != decide (¬ 0 ≤ b)) c0 d0 (q0 - r0))
  rw [if_neg hd0, sgn_xor, ← Stk.round hs hd00 (Or.inr hb3.1)]
  congr 1
  obtain ⟨x, hx⟩ : ∃ x : Nat, x = (q0 - q).toNat := ⟨_, rfl⟩
  obtain ⟨y, hy⟩ : ∃ y : Nat, y = (r0 - r).toNat := ⟨_, rfl⟩
  rw [← hx] at e1
  rw [← hy] at f1
  refine FP.Core.roundRatio_congr hd00 (by omega) ?_
  rw [← e1, ← f1, show c0 * 2 ^ x * 2 ^ 60 * d0 * 2 ^ (q - r - 60 - (q0 - r0)).toNat = c0 * d0 * (2 ^ x * 2 ^ 60 * 2 ^ (q - r - 60 - (q0 - r0)).toNat) from by ac_rfl, show c0 * (d0 * 2 ^ y) * 2 ^ (q0 - r0 - (q - r - 60)).toNat = c0 * d0 * (2 ^ y * 2 ^ (q0 - r0 - (q - r - 60)).toNat) from by ac_rfl, ← Nat.pow_add, ← Nat.pow_add, ← Nat.pow_add]
  congr 2
  omega
