/-! ===== products and quotients of finite doubles ===== -/
theorem rr_move (s : Bool) (X n k : Nat) (e e' : Int) (h : (n : Int) + e' = e + k) : FP.Core.roundRatio FP.Core.b64 s X 1 e = FP.Core.roundRatio FP.Core.b64 s (X * 2 ^ n) (2 ^ k) e' := by
  refine FP.Core.roundRatio_congr (by decide) (Nat.two_pow_pos k) ?_
  rw [Nat.mul_one, Nat.mul_assoc, Nat.mul_assoc, ← Nat.pow_add, ← Nat.pow_add]
  congr 2
  omega
theorem pk_any (neg e : Int32) {T : Int64} (hT : uN T < 2 ^ 63) (he : -100000 ≤ e.toInt ∧ e.toInt ≤ 100000) : uN (PK neg e T) = FP.Core.encode FP.Core.b64 (FP.Core.roundRatio FP.Core.b64 (decide (neg ≠ 0)) (uN T) 1 e.toInt) := by
  by_cases c : T = 0
  · subst c
    rw [uN_0, enc_fin0 FP.Core.good_b64]
    show uN (s_X0_pack _ _ _ _ _ _ _) = _
    rw [pack_s0]
    by_cases h : neg = 0
    · rw [if_pos h, uN_0]
      simp [h]
    · rw [if_neg h, uN_min]
      simp [h]
      decide
  · exact pack_eq is64 neg e hT c he
theorem uN_of {x : Int64} {k : Nat} (h : x.toInt = k) : uN x = k := by
  have h1 := uN_lt x
  rw [toInt_uN] at h
  split at h <;> omega
theorem uN_div {x y : Int64} (hx : uN x < 2 ^ 63) (hy : uN y < 2 ^ 63) : uN (x / y) = uN x / uN y := by
  have h1 : uN x / uN y ≤ uN x := Nat.div_le_self _ _
  apply uN_of
  rw [Int64.toInt_div, uN_pos hx, uN_pos hy, Int.natCast_tdiv_eq_ediv, ← Int.natCast_ediv]
  generalize uN x / uN y = w at h1 ⊢
  exact Int.bmod_eq_of_le (by omega) (by omega)
theorem sgn_xor {a b : Int64} : (decide (¬ 0 ≤ a) != decide (¬ 0 ≤ b)) = decide ((if (0 ≤ a) ↔ (0 ≤ b) then (0 : Int32) else 1) ≠ 0) := by
  by_cases h0 : 0 ≤ a <;> by_cases h1 : 0 ≤ b <;> simp [h0, h1]
/-- the total of a product, in halves -/
def mulT (x y : Int64) : Int64 := lShl (lUshr x 27 * lUshr y 27 + lUshr (lUshr x 27 * (y &&& 134217727) + (x &&& 134217727) * lUshr y 27) 27) 10 + s_X3_movedDown ((x &&& 134217727) * (y &&& 134217727) + lShl ((lUshr x 27 * (y &&& 134217727) + (x &&& 134217727) * lUshr y 27) &&& 134217727) 27) 44
theorem pf_shape (a b : Int64) : s_X3_productOfFinite a b = PK (if (0 ≤ a) ↔ (0 ≤ b) then 0 else 1) (XPO a + XPO b + 54 - 10) (mulT (SG a) (SG b)) := by
  unfold s_X3_productOfFinite s_X3_productOfFinite_j137 s_X3_productOfFinite_j148 s_X3_productOfFinite_j156 mulT
  by_cases h0 : 0 ≤ a
  · by_cases h1 : 0 ≤ b
    · rw [if_pos h0, if_pos h1, if_pos rfl, if_pos (by simp [h0, h1])]
    · rw [if_pos h0, if_neg h1, if_neg (by decide), if_neg (by simp [h0, h1])]
  · by_cases h1 : 0 ≤ b
    · rw [if_neg h0, if_pos h1, if_neg (by decide), if_neg (by simp [h0, h1])]
    · rw [if_neg h0, if_neg h1, if_pos rfl, if_pos (by simp [h0, h1])]
theorem lo27 (x : Int64) : uN (x &&& 134217727) = uN x % 2 ^ 27 := by
  rw [uN_and, show uN 134217727 = 2 ^ 27 - 1 from by decide, Nat.and_two_pow_sub_one_eq_mod]
theorem k27 : (27 : Int32) = Int32.ofNat 27 := by decide
theorem k10 : (10 : Int32) = Int32.ofNat 10 := by decide
theorem halves {c d a1 a0 b1 b0 m : Nat} (h1 : c = a1 * 2 ^ 27 + a0) (h2 : d = b1 * 2 ^ 27 + b0) (hm : m = a1 * b0 + a0 * b1) : c * d = (a1 * b1 + m / 2 ^ 27) * 2 ^ 54 + (a0 * b0 + m % 2 ^ 27 * 2 ^ 27) := by
  have h3 := Nat.div_add_mod m (2 ^ 27)
  have h4 : c * d = a1 * b1 * 2 ^ 54 + m * 2 ^ 27 + a0 * b0 := by
    subst h1 h2 hm
    rw [Nat.add_mul, Nat.mul_add, Nat.mul_add, Nat.add_mul (a1 * b0)]
    have e1 : a1 * 2 ^ 27 * (b1 * 2 ^ 27) = a1 * b1 * 2 ^ 54 := by rw [show (2 : Nat) ^ 54 = 2 ^ 27 * 2 ^ 27 from rfl]; ac_rfl
    have e2 : a1 * 2 ^ 27 * b0 = a1 * b0 * 2 ^ 27 := by ac_rfl
    have e3 : a0 * (b1 * 2 ^ 27) = a0 * b1 * 2 ^ 27 := by ac_rfl
    omega
  rw [h4]
  omega
theorem mulT_stk {x y : Int64} {c d : Nat} (hx : uN x = c) (hy : uN y = d) (hc1 : 2 ^ 52 ≤ c) (hc2 : c < 2 ^ 53) (hd1 : 2 ^ 52 ≤ d) (hd2 : d < 2 ^ 53) : Stk (c * d) (2 ^ 44) (uN (mulT x y)) ∧ 2 ^ 54 ≤ uN (mulT x y) ∧ uN (mulT x y) < 2 ^ 63 := by
  have u1 : uN (lUshr x 27) = c / 2 ^ 27 := by rw [k27, uN_ushr _ (by decide), hx]
  have u2 : uN (lUshr y 27) = d / 2 ^ 27 := by rw [k27, uN_ushr _ (by decide), hy]
  have v1 : uN (x &&& 134217727) = c % 2 ^ 27 := by rw [lo27, hx]
  have v2 : uN (y &&& 134217727) = d % 2 ^ 27 := by rw [lo27, hy]
  obtain ⟨a1, ha1⟩ : ∃ a1, c / 2 ^ 27 = a1 := ⟨_, rfl⟩
  obtain ⟨b1, hb1⟩ : ∃ b1, d / 2 ^ 27 = b1 := ⟨_, rfl⟩
  obtain ⟨a0, ha0⟩ : ∃ a0, c % 2 ^ 27 = a0 := ⟨_, rfl⟩
  obtain ⟨b0, hb0⟩ : ∃ b0, d % 2 ^ 27 = b0 := ⟨_, rfl⟩
  rw [ha1] at u1
  rw [hb1] at u2
  rw [ha0] at v1
  rw [hb0] at v2
  have l1 : a1 < 2 ^ 26 := by omega
  have l2 : b1 < 2 ^ 26 := by omega
  have l3 : a0 < 2 ^ 27 := by omega
  have l4 : b0 < 2 ^ 27 := by omega
  have p1 : a1 * b1 ≤ (2 ^ 26 - 1) * (2 ^ 26 - 1) := Nat.mul_le_mul (by omega) (by omega)
  have p2 : a1 * b0 ≤ (2 ^ 26 - 1) * (2 ^ 27 - 1) := Nat.mul_le_mul (by omega) (by omega)
  have p3 : a0 * b1 ≤ (2 ^ 27 - 1) * (2 ^ 26 - 1) := Nat.mul_le_mul (by omega) (by omega)
  have p4 : a0 * b0 ≤ (2 ^ 27 - 1) * (2 ^ 27 - 1) := Nat.mul_le_mul (by omega) (by omega)
  obtain ⟨m, hm⟩ : ∃ m, m = a1 * b0 + a0 * b1 := ⟨_, rfl⟩
  have hh := halves (c := c) (d := d) (a1 := a1) (a0 := a0) (b1 := b1) (b0 := b0) (by omega) (by omega) hm
  have w1 : uN (lUshr x 27 * (y &&& 134217727) + (x &&& 134217727) * lUshr y 27) = m := by
    rw [uN_add, uN_mul, uN_mul, u1, u2, v1, v2]
    omega
  obtain ⟨H, hH⟩ : ∃ H, H = a1 * b1 + m / 2 ^ 27 := ⟨_, rfl⟩
  obtain ⟨L, hL⟩ : ∃ L, L = a0 * b0 + m % 2 ^ 27 * 2 ^ 27 := ⟨_, rfl⟩
  rw [← hH, ← hL] at hh
  have w2 : uN (lUshr x 27 * lUshr y 27 + lUshr (lUshr x 27 * (y &&& 134217727) + (x &&& 134217727) * lUshr y 27) 27) = H := by
    rw [uN_add, uN_mul, u1, u2, k27, uN_ushr _ (by decide), ← k27, w1]
    omega
  have w3 : uN ((x &&& 134217727) * (y &&& 134217727) + lShl ((lUshr x 27 * (y &&& 134217727) + (x &&& 134217727) * lUshr y 27) &&& 134217727) 27) = L := by
    rw [uN_add, uN_mul, v1, v2]
    have : uN (lShl ((lUshr x 27 * (y &&& 134217727) + (x &&& 134217727) * lUshr y 27) &&& 134217727) 27) = m % 2 ^ 27 * 2 ^ 27 % 2 ^ 64 := by
      rw [show lShl ((lUshr x 27 * (y &&& 134217727) + (x &&& 134217727) * lUshr y 27) &&& 134217727) 27 = lShl ((lUshr x 27 * (y &&& 134217727) + (x &&& 134217727) * lUshr y 27) &&& 134217727) (Int32.ofNat 27) from by rw [← k27], uN_shl _ (by decide), lo27, w1]
    rw [this]
    omega
  have hP : 2 ^ 52 * 2 ^ 52 ≤ c * d := Nat.mul_le_mul hc1 hd1
  have hP2 : c * d ≤ (2 ^ 53 - 1) * (2 ^ 53 - 1) := Nat.mul_le_mul (by omega) (by omega)
  unfold mulT
  obtain ⟨r1, r2, -⟩ := moved_eq ((x &&& 134217727) * (y &&& 134217727) + lShl ((lUshr x 27 * (y &&& 134217727) + (x &&& 134217727) * lUshr y 27) &&& 134217727) 27) 44 (k := 44) (by decide) (Or.inl (by decide)) (by rw [w3]; omega)
  generalize s_X3_movedDown ((x &&& 134217727) * (y &&& 134217727) + lShl ((lUshr x 27 * (y &&& 134217727) + (x &&& 134217727) * lUshr y 27) &&& 134217727) 27) 44 = R at r1 r2 ⊢
  rw [w3] at r1 r2
  have hT : uN (lShl (lUshr x 27 * lUshr y 27 + lUshr (lUshr x 27 * (y &&& 134217727) + (x &&& 134217727) * lUshr y 27) 27) 10 + R) = H * 1024 + uN R := by
    rw [uN_add, k10, uN_shl _ (by decide), w2]
    omega
  rw [hT]
  have hA := r1.add (H * 512)
  rw [show 2 * (H * 512) = H * 1024 by omega, show H * 1024 * 2 ^ 44 + L = c * d by omega] at hA
  exact ⟨hA, by omega, by omega⟩
theorem prodFin_eq {a b : Int64} {c d : Nat} {q r : Int} (ha : Pts a c q) (hb : Pts b d r) : uN (s_X3_productOfFinite a b) = FP.Core.encode FP.Core.b64 (FP.Core.round FP.Core.b64 (FP.Core.exactProduct (FP.Core.decode FP.Core.b64 (uN a)) (FP.Core.decode FP.Core.b64 (uN b)))) := by
  obtain ⟨hc, hq, ⟨hc1, hc2⟩, ⟨hq1, hq2⟩, c0, q0, hda, hq0, -, e1, -⟩ := ha
  obtain ⟨hd, hr, ⟨hd1, hd2⟩, ⟨hr1, hr2⟩, d0, r0, hdb, hr0, -, f1, -⟩ := hb
  obtain ⟨k1, k2, k3⟩ := mulT_stk hc hd hc1 hc2 hd1 hd2
  have n54 : (54 : Int32).toInt = 54 := by decide
  have n10 : (10 : Int32).toInt = 10 := by decide
  have x1 : (XPO a + XPO b).toInt = q + r := by rw [i_add (by rw [hq, hr]; omega) (by rw [hq, hr]; omega), hq, hr]
  have x2 : (XPO a + XPO b + 54).toInt = q + r + 54 := by rw [i_add (by rw [x1, n54]; omega) (by rw [x1, n54]; omega), x1, n54]
  have x3 : (XPO a + XPO b + 54 - 10).toInt = q + r + 44 := by
    rw [i_sub (by rw [x2, n10]; omega) (by rw [x2, n10]; omega), x2, n10]
    omega
  rw [hda, hdb, pf_shape, pk_any _ _ k3 (by rw [x3]; omega), x3]
  show _ = FP.Core.encode FP.Core.b64 (FP.Core.roundRatio FP.Core.b64 (decide (¬ 0 ≤ a) != decide (¬ 0 ≤ b)) (c0 * d0) 1 (q0 + r0))
  rw [sgn_xor, ← Stk.round k1 (by decide) (Or.inr k2)]
  congr 1
  obtain ⟨x, hx⟩ : ∃ x : Nat, x = (q0 - q).toNat := ⟨_, rfl⟩
  obtain ⟨y, hy⟩ : ∃ y : Nat, y = (r0 - r).toNat := ⟨_, rfl⟩
  rw [← hx] at e1
  rw [← hy] at f1
  rw [show c * d = c0 * d0 * 2 ^ (x + y) from by rw [← e1, ← f1, Nat.pow_add]; ac_rfl]
  exact (rr_move _ _ _ _ _ _ (by omega)).symm
