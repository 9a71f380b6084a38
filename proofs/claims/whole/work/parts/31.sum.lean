/-! ===== sums of finite doubles ===== -/
theorem sg_mul (s : Bool) (c k : Nat) : FP.Core.signed s c * (k : Int) = FP.Core.signed s (c * k) := (FP.Core.signed_mul s c k).symm
theorem sum_val {s t : Bool} {c0 d0 c d : Nat} {q0 r0 q r : Int} (hq : q ≤ q0) (hc : c0 * 2 ^ (q0 - q).toNat = c) (hr : r ≤ r0) (hd : d0 * 2 ^ (r0 - r).toNat = d) (hrq : r ≤ q) : FP.Core.round FP.Core.b64 (FP.Core.exactSum (.fin s c0 q0) (.fin t d0 r0)) = FP.Core.roundRatio FP.Core.b64 (FP.Core.sumSign s t (FP.Core.signed s (c * 2 ^ (q - r).toNat) + FP.Core.signed t d)) (FP.Core.signed s (c * 2 ^ (q - r).toNat) + FP.Core.signed t d).natAbs 1 r := by
  obtain ⟨e0, he⟩ : ∃ e0, e0 = min q0 r0 := ⟨_, rfl⟩
  obtain ⟨j, hj⟩ : ∃ j : Nat, j = (e0 - r).toNat := ⟨_, rfl⟩
  have hpj := Nat.two_pow_pos j
  have p1 : c * 2 ^ (q - r).toNat = c0 * 2 ^ (q0 - e0).toNat * 2 ^ j := by
    rw [← hc, Nat.mul_assoc, Nat.mul_assoc, ← Nat.pow_add, ← Nat.pow_add]
    congr 2
    omega
  have p2 : d = d0 * 2 ^ (r0 - e0).toNat * 2 ^ j := by
    rw [← hd, Nat.mul_assoc, ← Nat.pow_add]
    congr 2
    omega
  have k1 : FP.Core.signed s (c * 2 ^ (q - r).toNat) + FP.Core.signed t d = FP.Core.sumUnits s c0 q0 t d0 r0 e0 * ((2 ^ j : Nat) : Int) := by
    rw [p1, p2]
    unfold FP.Core.sumUnits FP.Core.inUnits
    rw [Int.add_mul, sg_mul, sg_mul]
  show FP.Core.roundRatio FP.Core.b64 (FP.Core.sumSign s t (FP.Core.sumUnits s c0 q0 t d0 r0 (min q0 r0))) (FP.Core.sumUnits s c0 q0 t d0 r0 (min q0 r0)).natAbs 1 (min q0 r0) = _
  rw [← he, k1]
  generalize FP.Core.sumUnits s c0 q0 t d0 r0 e0 = V
  have hs : FP.Core.sumSign s t (V * ((2 ^ j : Nat) : Int)) = FP.Core.sumSign s t V := by
    have hpi : (0 : Int) < ((2 ^ j : Nat) : Int) := by exact_mod_cast hpj
    unfold FP.Core.sumSign
    by_cases hV : V = 0
    · rw [hV, Int.zero_mul]
    · rw [if_neg hV, if_neg (fun z => by rcases Int.mul_eq_zero.mp z with z | z <;> omega)]
      congr 1
      apply propext
      constructor
      · intro h
        apply Classical.byContradiction
        intro h2
        have := Int.mul_nonneg (show 0 ≤ V by omega) (Int.le_of_lt hpi)
        omega
      · intro h
        exact Int.mul_neg_of_neg_of_pos h hpi
  rw [hs]
  refine FP.Core.roundRatio_congr (by decide) (by decide) ?_
  rw [Int.natAbs_mul, Int.natAbs_natCast, show (e0 - r).toNat = j from hj.symm, show (r - e0).toNat = 0 by omega, Nat.pow_zero, Nat.mul_one, Nat.mul_one, Nat.mul_one]
theorem sf_same {a b : Int64} (h : (0 ≤ a) ↔ (0 ≤ b)) : s_X3_sumOfFinite a b = s_X3_sumOfFinite_j100 a b (XPO a) (lShl (SG a) 9 + s_X3_movedDown (lShl (SG b) 9) (XPO a - XPO b)) := by
  unfold s_X3_sumOfFinite s_X3_sumOfFinite_j61 s_X3_sumOfFinite_j72 s_X3_sumOfFinite_j80
  by_cases h0 : 0 ≤ a
  · rw [if_pos h0, if_pos (h.mp h0), if_pos rfl, if_neg (by decide)]
  · rw [if_neg h0, if_neg (fun z => h0 (h.mpr z)), if_pos rfl, if_neg (by decide)]
theorem sf_diff {a b : Int64} (h : ¬ ((0 ≤ a) ↔ (0 ≤ b))) : s_X3_sumOfFinite a b = s_X3_sumOfFinite_j100 a b (XPO a) (lShl (SG a) 9 - s_X3_movedDown (lShl (SG b) 9) (XPO a - XPO b)) := by
  unfold s_X3_sumOfFinite s_X3_sumOfFinite_j61 s_X3_sumOfFinite_j72 s_X3_sumOfFinite_j80
  by_cases h0 : 0 ≤ a
  · have h1 : ¬ 0 ≤ b := fun z => h ⟨fun _ => z, fun _ => h0⟩
    rw [if_pos h0, if_neg h1, if_neg (by decide), if_pos rfl]
  · have h1 : 0 ≤ b := Classical.byContradiction (fun z => h ⟨fun y => absurd y h0, fun y => absurd y z⟩)
    rw [if_neg h0, if_pos h1, if_neg (by decide), if_pos rfl]
theorem sf_end (a b : Int64) (x : Int32) (T : Int64) : s_X3_sumOfFinite_j100 a b x T = PK (if 0 ≤ a then 0 else if T = 0 then 0 else 1) (x - 9) T := by
  unfold s_X3_sumOfFinite_j100 s_X3_sumOfFinite_j123
  by_cases h0 : 0 ≤ a
  · rw [if_pos h0, if_pos h0]
  · rw [if_neg h0, if_neg h0]
    by_cases h1 : T = 0
    · rw [if_pos h1, if_pos h1]
    · rw [if_neg h1, if_neg h1]
/-- a total that stands for a ratio, packed -/
theorem pk_stk {T : Int64} {neg e : Int32} {A B : Nat} {s : Bool} (hs : uN T ≠ 0 → s = decide (neg ≠ 0)) (hz : uN T = 0 → s = false ∧ neg = 0) (h : Stk A B (uN T)) (hB : 0 < B) (hbig : A = uN T * B ∨ 2 ^ 54 ≤ uN T) (hT : uN T < 2 ^ 63) (he : -100000 ≤ e.toInt ∧ e.toInt ≤ 100000) : uN (PK neg e T) = FP.Core.encode FP.Core.b64 (FP.Core.roundRatio FP.Core.b64 s A B e.toInt) := by
  rw [h.round hB hbig]
  by_cases c : uN T = 0
  · obtain ⟨rfl, rfl⟩ := hz c
    have : T = 0 := uN_inj (c.trans uN_0.symm)
    rw [this, uN_0, enc_zero FP.Core.good_b64]
    show uN (s_X0_pack _ _ _ _ _ _ _) = _
    rw [pack_0, uN_0]
  · rw [hs c]
    exact pack_eq is64 neg e hT (fun z => c (by rw [z, uN_0])) he
theorem sig9 {a : Int64} {c : Nat} (h : uN (SG a) = c) (h2 : c < 2 ^ 53) : uN (lShl (SG a) 9) = c * 512 := by
  rw [show (9 : Int32) = Int32.ofNat 9 from by decide, uN_shl _ (by decide), h]
  omega
theorem n9 : (9 : Int32).toInt = 9 := by decide
theorem sumFin_eq {a b : Int64} {c d : Nat} {q r : Int} (ha : Pts a c q) (hb : Pts b d r) (h : uN b % 2 ^ 63 ≤ uN a % 2 ^ 63) : uN (s_X3_sumOfFinite a b) = FP.Core.encode FP.Core.b64 (FP.Core.round FP.Core.b64 (FP.Core.exactSum (FP.Core.decode FP.Core.b64 (uN a)) (FP.Core.decode FP.Core.b64 (uN b)))) := by
  obtain ⟨hrq, hle⟩ := pts_le ha hb h
  obtain ⟨hc, hq, ⟨hc1, hc2⟩, ⟨hq1, hq2⟩, c0, q0, hda, hq0, -, e1, -⟩ := ha
  obtain ⟨hd, hr, ⟨hd1, hd2⟩, ⟨hr1, hr2⟩, d0, r0, hdb, hr0, -, f1, -⟩ := hb
  rw [hda, hdb, sum_val hq0 e1 hr0 f1 hrq]
  obtain ⟨g, hg⟩ : ∃ g : Nat, q = r + g := ⟨(q - r).toNat, by omega⟩
  rw [show (q - r).toNat = g by omega] at hle ⊢
  have hgap : (XPO a - XPO b).toInt = g := by rw [i_sub (by rw [hq, hr]; omega) (by rw [hq, hr]; omega), hq, hr]; omega
  have hexp : (XPO a - 9).toInt = q - 9 := by rw [i_sub (by rw [hq, n9]; omega) (by rw [hq, n9]; omega), hq, n9]
  have m1 := sig9 hc hc2
  have m2 := sig9 hd hd2
  obtain ⟨R, hR⟩ : ∃ R, R = s_X3_movedDown (lShl (SG b) 9) (XPO a - XPO b) := ⟨_, rfl⟩
  obtain ⟨k1, k2, k3⟩ := moved_eq (lShl (SG b) 9) (XPO a - XPO b) hgap (Or.inr (by rw [m2]; omega)) (by rw [m2]; omega)
  rw [← hR, m2] at k1 k2 k3
  have hgp := Nat.two_pow_pos g
  have hR0 : d * 512 / 2 ^ g ≤ d * 512 := Nat.div_le_self _ _
  have hsm : 10 ≤ g → uN R ≤ 2 ^ 52 + 1 := by
    intro h10
    have h11 : 2 ^ 10 ≤ 2 ^ g := Nat.pow_le_pow_right (by decide) h10
    have h12 : d * 512 / 2 ^ g ≤ d * 512 / 2 ^ 10 := Nat.div_le_div_left h11 (by decide)
    omega
  have hex : g ≤ 9 → d * 512 = uN R * 2 ^ g := by
    intro h9
    apply k3
    have h512 : (2 : Nat) ^ 9 = 2 ^ (9 - g) * 2 ^ g := by
      rw [← Nat.pow_add]
      congr 1
      omega
    rw [show (512 : Nat) = 2 ^ (9 - g) * 2 ^ g from h512, ← Nat.mul_assoc, Nat.mul_mod_left]
  have hRc : uN R ≤ c * 512 := by
    by_cases h9 : g ≤ 9
    · have h1 := hex h9
      have h2 : uN R * 2 ^ g ≤ c * 512 * 2 ^ g := by
        rw [← h1, Nat.mul_right_comm]
        exact Nat.mul_le_mul_right 512 hle
      exact Nat.le_of_mul_le_mul_right h2 hgp
    · have := hsm (by omega)
      omega
  have hval : ∀ (s : Bool) (X : Nat), FP.Core.roundRatio FP.Core.b64 s X 1 r = FP.Core.roundRatio FP.Core.b64 s (X * 512) (2 ^ g) (q - 9) := by
    intro s X
    refine FP.Core.roundRatio_congr (by decide) hgp ?_
    rw [Nat.mul_one, show (512 : Nat) = 2 ^ 9 from rfl, Nat.mul_assoc, Nat.mul_assoc, ← Nat.pow_add, ← Nat.pow_add]
    congr 2
    omega
  by_cases hs : (0 ≤ a) ↔ (0 ≤ b)
  · have hsg : decide (¬ 0 ≤ b) = decide (¬ 0 ≤ a) := by simp [hs]
    rw [sf_same hs, sf_end, hsg, ← hR]
    have hV : FP.Core.signed (decide (¬ 0 ≤ a)) (c * 2 ^ g) + FP.Core.signed (decide (¬ 0 ≤ a)) d = FP.Core.signed (decide (¬ 0 ≤ a)) (c * 2 ^ g + d) := by
      unfold FP.Core.signed
      split <;> omega
    have hVn : (FP.Core.signed (decide (¬ 0 ≤ a)) (c * 2 ^ g + d)).natAbs = c * 2 ^ g + d := FP.Core.natAbs_signed _ _
    have hVs : FP.Core.sumSign (decide (¬ 0 ≤ a)) (decide (¬ 0 ≤ a)) (FP.Core.signed (decide (¬ 0 ≤ a)) (c * 2 ^ g + d)) = decide (¬ 0 ≤ a) := by
      unfold FP.Core.sumSign
      rw [if_neg (fun z => by rw [FP.Core.signed_eq_zero] at z; omega)]
      exact FP.Core.signed_lt_zero _ (by omega)
    rw [hV, hVn, hVs, hval]
    have hT : uN (lShl (SG a) 9 + R) = c * 512 + uN R := by
      rw [uN_add, m1]
      omega
    have hA := k1.add (c * 256)
    rw [show 2 * (c * 256) = c * 512 by omega] at hA
    have hAe : (c * 2 ^ g + d) * 512 = c * 512 * 2 ^ g + d * 512 := by rw [Nat.add_mul, Nat.mul_right_comm]
    rw [← hAe, ← hT] at hA
    rw [← hexp]
    have hT0 : uN (lShl (SG a) 9 + R) ≠ 0 := by rw [hT]; omega
    refine pk_stk (fun _ => ?_) (fun z => absurd z hT0) hA hgp (Or.inr (by rw [hT]; omega)) (by rw [hT]; omega) (by rw [hexp]; omega)
    rw [if_neg (show ¬ lShl (SG a) 9 + R = 0 from fun z => hT0 (by rw [z, uN_0]))]
    by_cases h0 : 0 ≤ a
    · simp [h0]
    · simp [h0]
  · have hsg : decide (¬ 0 ≤ b) = !decide (¬ 0 ≤ a) := by
      by_cases h0 : 0 ≤ a
      · have h1 : ¬ 0 ≤ b := fun z => hs ⟨fun _ => z, fun _ => h0⟩
        simp [h0, h1]
      · have h1 : 0 ≤ b := Classical.byContradiction (fun z => hs ⟨fun y => absurd y h0, fun y => absurd y z⟩)
        simp [h0, h1]
    rw [sf_diff hs, sf_end, hsg, ← hR]
    have hV : FP.Core.signed (decide (¬ 0 ≤ a)) (c * 2 ^ g) + FP.Core.signed (!decide (¬ 0 ≤ a)) d = FP.Core.signed (decide (¬ 0 ≤ a)) (c * 2 ^ g - d) := by
      generalize c * 2 ^ g = X at hle ⊢
      generalize decide (¬ 0 ≤ a) = w
      cases w
      · show (X : Int) + -(d : Int) = ((X - d : Nat) : Int)
        omega
      · show -(X : Int) + (d : Int) = -((X - d : Nat) : Int)
        omega
    have hVn : (FP.Core.signed (decide (¬ 0 ≤ a)) (c * 2 ^ g - d)).natAbs = c * 2 ^ g - d := FP.Core.natAbs_signed _ _
    have hT : uN (lShl (SG a) 9 - R) = c * 512 - uN R := by
      rw [uN_sub, m1]
      omega
    have hA := k1.sub (c * 256) (by omega)
    rw [show 2 * (c * 256) = c * 512 by omega] at hA
    have hAe : (c * 2 ^ g - d) * 512 = c * 512 * 2 ^ g - d * 512 := by rw [Nat.sub_mul, Nat.mul_right_comm]
    rw [← hAe, ← hT] at hA
    have hbig : (c * 2 ^ g - d) * 512 = uN (lShl (SG a) 9 - R) * 2 ^ g ∨ 2 ^ 54 ≤ uN (lShl (SG a) 9 - R) := by
      by_cases h9 : g ≤ 9
      · left
        rw [hT, hAe, hex h9, Nat.sub_mul]
      · right
        have := hsm (by omega)
        rw [hT]
        omega
    have hzz : uN (lShl (SG a) 9 - R) = 0 → c * 2 ^ g - d = 0 := by
      intro z
      rcases hbig with h1 | h1
      · rw [z, Nat.zero_mul] at h1
        omega
      · omega
    have hVs : FP.Core.sumSign (decide (¬ 0 ≤ a)) (!decide (¬ 0 ≤ a)) (FP.Core.signed (decide (¬ 0 ≤ a)) (c * 2 ^ g - d)) = if c * 2 ^ g - d = 0 then false else decide (¬ 0 ≤ a) := by
      unfold FP.Core.sumSign
      by_cases z : c * 2 ^ g - d = 0
      · rw [if_pos ((FP.Core.signed_eq_zero _ _).mpr z), if_pos z]
        cases decide (¬ 0 ≤ a) <;> rfl
      · rw [if_neg (fun y => z ((FP.Core.signed_eq_zero _ _).mp y)), if_neg z]
        exact FP.Core.signed_lt_zero _ (by omega)
    rw [hV, hVn, hVs, hval, ← hexp]
    refine pk_stk (fun z => ?_) (fun z => ⟨if_pos (hzz z), ?_⟩) hA hgp hbig (by rw [hT]; omega) (by rw [hexp]; omega)
    · have hz2 : c * 2 ^ g - d ≠ 0 := by
        intro y
        rcases hbig with h1 | h1
        · rw [y, Nat.zero_mul] at h1
          rcases Nat.mul_eq_zero.mp h1.symm with h2 | h2
          · exact z h2
          · omega
        · rcases hA with h2 | ⟨m, h2, h3, h4⟩
          · rw [y, Nat.zero_mul] at h2
            rcases Nat.mul_eq_zero.mp h2.symm with h2 | h2
            · exact z h2
            · omega
          · rw [y] at h3
            omega
      rw [if_neg hz2, if_neg (show ¬ lShl (SG a) 9 - R = 0 from fun y => z (by rw [y, uN_0]))]
      by_cases h0 : 0 ≤ a
      · simp [h0]
      · simp [h0]
    · have : lShl (SG a) 9 - R = 0 := uN_inj (z.trans uN_0.symm)
      rw [if_pos this]
      split <;> rfl
