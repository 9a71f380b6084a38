/-! ===== make on both sides ===== -/
section MKM
variable {k : Nat} {LM : List Nat} {m : Nat} {ma : Nat → Nat} {A : AS} {SM : HS}
/-- the model's loop over the rows of an array of rows -/
theorem mk_rows {p1 n r : Int32} {S0 : HS} (hk : k < 512) (hw : WF k A) (hn : ¬ n < 0) (hn64 : n.toNatClampNeg ≤ 64) (hr : ¬ r < 0) (hr64 : r.toNatClampNeg ≤ 64) (hp : ¬ s_X8_isCell p1 = 0) (eT : (h_X9_thing m 7 n (h_X9_begin m S0)).1 = Int32.ofNat (aT A + 1)) :
    ∀ (nM : Nat) (y : Int32) (S1 : HS) (bs : Nat → Nat) (ui uo : Nat), RM LM m ma bs ui uo (aRows A n r y.toNatClampNeg) S1 → ui + 64 * (64 - y.toNatClampNeg) ≤ 4096 * (k + 1) → uo ≤ 64 * (k + 1) → ¬ y < 0 → y.toNatClampNeg ≤ n.toNatClampNeg → n.toNatClampNeg < y.toNatClampNeg + nM →
    ok_X9_make_l91 LM m 7 p1 n r S0 nM y S1 ∧ ∃ (bs' : Nat → Nat) (ui' uo' : Nat) (M1 : HS), ui' ≤ 4096 * (k + 1) ∧ uo' ≤ 64 * (k + 1) ∧ RM LM m ma bs' ui' uo' (aSetC (aRows A n r n.toNatClampNeg) p1.toNatClampNeg (aT A + 1)) M1 ∧ h_X9_make_l91 m 7 p1 n r S0 nM y S1 = (1, M1) := by
  have hnI : 0 ≤ n.toInt ∧ n.toInt ≤ 64 := by
    rw [Int32.lt_iff_toInt_lt, show (0 : Int32).toInt = 0 from by decide] at hn
    simp only [Int32.toNatClampNeg] at hn64
    omega
  have hrI : 0 ≤ r.toInt ∧ r.toInt ≤ 64 := by
    rw [Int32.lt_iff_toInt_lt, show (0 : Int32).toInt = 0 from by decide] at hr
    simp only [Int32.toNatClampNeg] at hr64
    omega
  have h1 := hw.1
  intro nM
  induction nM with
  | zero => intro y S1 bs ui uo hM hui huo y0 hyn f; omega
  | succ nM ih =>
    intro y S1 bs ui uo hM hui huo y0 hyn f
    rw [ok_X9_make_l91, h_X9_make_l91]
    unfold h_X9_make_j132 ok_X9_make_j132
    rw [eT, if_pos rfl]
    by_cases hy : n ≤ y
    · rw [if_pos hy]
      have hyy := dn_of y0 hyn hy
      have o8 := hM.ok8 hp
      refine ⟨⟨fun _ => ⟨fun _ => ⟨o8.1, o8.2, trivial⟩, fun z => absurd hy z⟩, fun z => absurd rfl z⟩, bs, ui, uo, _, by omega, huo, ?_, rfl⟩
      rw [hM.q in_8, ← hyy]
      exact hM.setC (cell_16 hp).2.1
    rw [if_neg hy]
    obtain ⟨u1, u2, u3⟩ := y_up y0 hy
    have hwj : WF (k + 1) (aRows A n r y.toNatClampNeg) := hw.rows hk hnI hrI hyn
    have hTj : aT (aRows A n r y.toNatClampNeg) = aT A + 1 + y.toNatClampNeg := rfl
    obtain ⟨b1, ui1, uo1, ⟨hb0, -, -⟩, hv, hM1⟩ := hM.thing (by rw [hTj]; omega) (k := 0) (by decide) r (fun _ => hr)
    obtain ⟨w1, w2, w3⟩ := hb0 rfl
    rw [w1, w2, w3] at hM1
    have hoth := hM.ok_thing (by rw [hTj]; omega) 0 r
    have kO : aK (aRows A n r y.toNatClampNeg) (aT A + 1) = 7 := if_pos rfl
    have nO : aN (aRows A n r y.toNatClampNeg) (aT A + 1) = n := if_pos rfl
    have lO : aLen (aRows A n r y.toNatClampNeg) (aT A + 1) = n.toNatClampNeg := by unfold aLen; rw [nO]
    obtain ⟨pl1, -, pl3⟩ := hM.place hwj (show ui ≤ 4096 * (k + 1) by omega) huo (e := aT A + 1) (by omega) (by rw [hTj]; omega) (by omega) y0 (by rw [nO]; exact hy)
    have ht1 := hM.okt hwj (e := aT A + 1) (by rw [hTj]; omega) (f := 2) (Or.inr (Or.inr rfl))
    have hset := hM1.setE6 (t := aT A + 1) (i := y.toNatClampNeg) (v := (Int32.ofNat (aT A + 2 + y.toNatClampNeg)).toInt64) (by omega) (show aT A + 1 ≤ aT A + 1 + y.toNatClampNeg + 1 by omega) (show 1 ≤ aK (aNew (aRows A n r y.toNatClampNeg) 0 r) (aT A + 1) by
      have : aK (aNew (aRows A n r y.toNatClampNeg) 0 r) (aT A + 1) = 7 := (up1_ne _ _ (by rw [hTj]; omega)).trans kO
      omega) (by
      have : aK (aNew (aRows A n r y.toNatClampNeg) 0 r) (aT A + 1) = 7 := (up1_ne _ _ (by rw [hTj]; omega)).trans kO
      omega) (by
      have : aLen (aNew (aRows A n r y.toNatClampNeg) 0 r) (aT A + 1) = n.toNatClampNeg := (congrArg Int32.toNatClampNeg (up1_ne _ _ (by rw [hTj]; omega))).trans lO
      omega)
    rw [aRows_up, up1_ne _ _ (show aT A + 1 ≠ aT (aRows A n r y.toNatClampNeg) + 1 by rw [hTj]; omega), ← u2, ← pl1] at hset
    have hq6 : hsQ S1 m 6 = some (ma 6) := (hM.2.1 6 in_6).1
    have hq6' : (hsQ S1 m 6).getD 0 = ma 6 := hM.q in_6
    have hv' : (h_X9_thing m 0 r S1).1 = Int32.ofNat (aT A + 2 + y.toNatClampNeg) := by
      have : (Int32.ofNat (0 : Nat)) = (0 : Int32) := rfl
      rw [← this, hv, hTj]
      exact congrArg Int32.ofNat (by omega)
    obtain ⟨o2, bs', ui', uo', M1, g⟩ := ih (y + 1) _ _ (ui + r.toNatClampNeg) uo hset (by omega) huo u1 (by omega) (by omega)
    rw [hv', hq6']
    refine ⟨⟨fun _ => ⟨fun z => absurd z hy, fun _ => ⟨hM.okq in_6, ht1.1, ht1.2, hM.1, hoth, ?_, o2⟩⟩, fun z => absurd rfl z⟩, bs', ui', uo', M1, g⟩
    obtain ⟨-, c2, c3, c4⟩ := hM1.2.1 6 in_6
    have c4' : hsN (h_X9_thing m 0 r S1).2 (ma 6) = 33400 := c4
    exact ⟨c2, c3, by rw [c4']; exact pl3 (by omega)⟩
end MKM
section MKS
variable {k : Nat} {LX : List Nat} {x : Nat} {LM : List Nat} {m : Nat} {SX SM : HS}
/-- what make throws, and the model's road then -/
theorem mk_cause (p0 p1 p2 p3 : Int32) (m : Nat) (SM : HS) : (s_X8_makeCause p0 p1 p2 p3 = 8 ∧ h_X9_make m p0 p1 p2 p3 SM = ((h_X9_fails m 8 (h_X9_begin m SM)).1, (h_X9_fails m 8 (h_X9_begin m SM)).2)) ∨ (s_X8_makeCause p0 p1 p2 p3 = 3 ∧ h_X9_make m p0 p1 p2 p3 SM = ((h_X9_fails m 3 (h_X9_begin m SM)).1, (h_X9_fails m 3 (h_X9_begin m SM)).2)) ∨ (s_X8_makeCause p0 p1 p2 p3 = 0 ∧ h_X9_make m p0 p1 p2 p3 SM = h_X9_make_j80 m p0 p1 p2 p3 SM ∧ (∃ q, q ≤ 12 ∧ p0 = Int32.ofNat q) ∧ ¬ s_X8_isCell p1 = 0 ∧ (p0 < 10 → ¬ p2 < 0 ∧ p2 ≤ 64) ∧ (p0 = 7 → ¬ p3 < 0 ∧ p3 ≤ 64)) := by
  have n10 : (10 : Int32).toInt = 10 := by decide
  unfold s_X8_makeCause s_X8_makeCause_j39 s_X8_makeCause_j61 h_X9_make h_X9_make_j33 h_X9_make_j53 h_X9_make_j63
  rw [isCell_eq]
  by_cases c1 : p0 < 0
  · rw [if_pos c1, in_lo c1, if_pos rfl]
    exact Or.inl ⟨rfl, rfl⟩
  rw [if_neg c1]
  by_cases c2 : 12 < p0
  · rw [if_pos c2, in_hi c1 (Int32.not_le.mpr c2), if_pos rfl]
    exact Or.inl ⟨rfl, rfl⟩
  rw [if_neg c2, in_in c1 (Int32.not_lt.mp c2), if_neg (show ¬ (1 : Int32) = 0 by decide)]
  by_cases c3 : s_X8_isCell p1 = 0
  · rw [if_pos c3, if_pos c3]
    exact Or.inl ⟨rfl, rfl⟩
  rw [if_neg c3, if_neg c3]
  have hq : ∃ q, q ≤ 12 ∧ p0 = Int32.ofNat q := by
    rw [Int32.lt_iff_toInt_lt, show (0 : Int32).toInt = 0 from by decide] at c1
    rw [Int32.lt_iff_toInt_lt, show (12 : Int32).toInt = 12 from by decide] at c2
    exact ⟨p0.toInt.toNat, by omega, i_tn (by omega)⟩
  by_cases c4 : p0 < 10
  · have c4' : ¬ 10 ≤ p0 := Int32.not_le.mpr c4
    rw [if_pos c4, if_neg c4', if_neg c4']
    by_cases c5 : 64 < p2
    · rw [if_pos c5, if_pos c5, if_pos c5]
      split <;> exact Or.inl ⟨rfl, rfl⟩
    rw [if_neg c5, if_neg c5, if_neg c5]
    by_cases c7 : p0 = 7
    · rw [if_pos c7, if_pos c7, if_pos c7, if_neg (show ¬ (1 : Int32) = 0 by decide), if_neg (show ¬ (1 : Int32) = 0 by decide)]
      by_cases c8 : p3 ≤ 64
      · rw [if_pos c8, if_pos c8]
        by_cases c9 : p2 < 0
        · rw [if_pos c9, if_pos c9]
          exact Or.inr (Or.inl ⟨rfl, rfl⟩)
        rw [if_neg c9, if_neg c9]
        by_cases c10 : 0 ≤ p3
        · rw [if_pos c10, if_pos c10]
          exact Or.inr (Or.inr ⟨rfl, rfl, hq, c3, fun _ => ⟨c9, Int32.not_lt.mp c5⟩, fun _ => ⟨Int32.not_lt.mpr c10, c8⟩⟩)
        · rw [if_neg c10, if_neg c10]
          exact Or.inr (Or.inl ⟨rfl, rfl⟩)
      · rw [if_neg c8, if_neg c8]
        exact Or.inl ⟨rfl, rfl⟩
    · rw [if_neg c7, if_neg c7, if_neg c7, if_pos rfl, if_pos rfl]
      by_cases c9 : p2 < 0
      · rw [if_pos c9, if_pos c9]
        exact Or.inr (Or.inl ⟨rfl, rfl⟩)
      rw [if_neg c9, if_neg c9]
      exact Or.inr (Or.inr ⟨rfl, rfl, hq, c3, fun _ => ⟨c9, Int32.not_lt.mp c5⟩, fun z => absurd z c7⟩)
  · have c4' : 10 ≤ p0 := Int32.not_lt.mp c4
    have c7 : ¬ p0 = 7 := fun z => by rw [z] at c4'; exact absurd c4' (by decide)
    rw [if_neg c4, if_pos c4', if_neg c7, if_pos c4', if_neg c7]
    exact Or.inr (Or.inr ⟨rfl, rfl, hq, c3, fun z => absurd z c4, fun z => absurd z c7⟩)
end MKS
