/-! ===== the model's thing ===== -/
section MTH
variable {L : List Nat} {m : Nat} {ma bs : Nat → Nat} {ui uo : Nat} {A : AS} {S : HS}
theorem up2_3 {α : Type} (f : Nat → Nat → α) (a k j : Nat) (v : α) (h : j ≠ k) : up2 f a k v a j = f a j := up2_nk f a v h
abbrev thB (m a0 a1 T : Nat) (t p n : Int32) (S : HS) : HS := hwA (hwA (hwI S m 3 t) a0 T p) a1 T n
/-- what thing leaves: with T its number -/
def thS (m a0 a1 a2 T : Nat) (t p n bi bo : Int32) (S : HS) : HS := if p = 0 then hwI (hwA (thB m a0 a1 T t p n S) a2 T bi) m 5 (bi + n) else if 10 ≤ p then thB m a0 a1 T t p n S else hwI (hwA (thB m a0 a1 T t p n S) a2 T bo) m 7 (bo + n)
theorem RM.thing_eq (h : RM L m ma bs ui uo A S) (hT : aT A + 1 < 2 ^ 31) (p n : Int32) : h_X9_thing m p n S = (Int32.ofNat (aT A + 1), thS m (ma 0) (ma 1) (ma 2) (aT A + 1) (Int32.ofNat (aT A + 1)) p n (Int32.ofNat ui) (Int32.ofNat uo) S) := by
  have q0 : S.2.2.1 m 0 = some (ma 0) := (h.2.1 0 in_0).1
  have q1 : S.2.2.1 m 1 = some (ma 1) := (h.2.1 1 in_1).1
  have q2 : S.2.2.1 m 2 = some (ma 2) := (h.2.1 2 in_2).1
  have i3 : S.2.1 m 3 = Int32.ofNat (aT A) := h.2.2.2.1.1
  have i5 : S.2.1 m 5 = Int32.ofNat ui := h.2.2.2.1.2.1
  have i7 : S.2.1 m 7 = Int32.ofNat uo := h.2.2.2.1.2.2.1
  have hs : Int32.ofNat (aT A) + 1 = Int32.ofNat (aT A + 1) := by rw [Int32.ofNat_add]; rfl
  have hn : (Int32.ofNat (aT A + 1)).toNatClampNeg = aT A + 1 := nN hT
  have n53 : (5 : Nat) ≠ 3 := by decide
  have n73 : (7 : Nat) ≠ 3 := by decide
  have n35 : (3 : Nat) ≠ 5 := by decide
  have n37 : (3 : Nat) ≠ 7 := by decide
  unfold h_X9_thing thS
  simp only [hsI, hsQ, hsA, hwI, hwA, thB, up2_at, up2_nk _ _ _ n53, up2_nk _ _ _ n73, up2_nk _ _ _ n35, up2_nk _ _ _ n37, q0, q1, q2, i3, i5, i7, hs, hn, Option.getD_some]
  split
  · rfl
  · split <;> rfl
theorem RM.ok_thing (h : RM L m ma bs ui uo A S) (hT : aT A + 1 < 33400) (p n : Int32) : ok_X9_thing L m p n S := by
  have q0 : S.2.2.1 m 0 = some (ma 0) := (h.2.1 0 in_0).1
  have q1 : S.2.2.1 m 1 = some (ma 1) := (h.2.1 1 in_1).1
  have q2 : S.2.2.1 m 2 = some (ma 2) := (h.2.1 2 in_2).1
  have i3 : S.2.1 m 3 = Int32.ofNat (aT A) := h.2.2.2.1.1
  have hs : Int32.ofNat (aT A) + 1 = Int32.ofNat (aT A + 1) := by rw [Int32.ofNat_add]; rfl
  have hn : (Int32.ofNat (aT A + 1)).toNatClampNeg = aT A + 1 := nN (by omega)
  have g : m ∈ L ∧ hsK S m = 7 := h.1
  have gq : ∀ f ∈ mFs, m ∈ L ∧ hsK S m = 7 ∧ hsQ S m f ≠ none := fun f hf => h.okq hf
  have ga : ∀ f, f = 0 ∨ f = 1 ∨ f = 2 → ma f ∈ L ∧ hsK S (ma f) = 8 ∧ vp_in (Int32.ofNat (aT A + 1)) (hsN S (ma f)) := fun f hf => by
    rcases hf with rfl | rfl | rfl
    · obtain ⟨-, a2, a3, a4⟩ := h.2.1 0 in_0
      exact ⟨a2, a3, by rw [a4]; exact vp_n hT (by omega)⟩
    · obtain ⟨-, a2, a3, a4⟩ := h.2.1 1 in_1
      exact ⟨a2, a3, by rw [a4]; exact vp_n hT (by omega)⟩
    · obtain ⟨-, a2, a3, a4⟩ := h.2.1 2 in_2
      exact ⟨a2, a3, by rw [a4]; exact vp_n hT (by omega)⟩
  have g0 := ga 0 (Or.inl rfl)
  have g1 := ga 1 (Or.inr (Or.inl rfl))
  have g2 := ga 2 (Or.inr (Or.inr rfl))
  have n53 : (5 : Nat) ≠ 3 := by decide
  have n73 : (7 : Nat) ≠ 3 := by decide
  have n35 : (3 : Nat) ≠ 5 := by decide
  have n37 : (3 : Nat) ≠ 7 := by decide
  have gs : ∀ a : Nat, ¬ (some a = none) := fun a z => by cases z
  unfold ok_X9_thing
  simp only [hsI, hsQ, hsA, hsK, hsN, hwI, hwA, up2_at, up2_nk _ _ _ n53, up2_nk _ _ _ n73, up2_nk _ _ _ n35, up2_nk _ _ _ n37, q0, q1, q2, i3, hs, hn, Option.getD_some] at g g0 g1 g2 ⊢
  repeat' (first | exact trivial | exact g | exact g0 | exact g1 | exact g2 | exact g.1 | exact g.2 | (intro _) | (refine And.intro ?_ ?_))
  all_goals (first | exact gs _ (by assumption) | trivial)
theorem RM.thing (h : RM L m ma bs ui uo A S) (hT : aT A + 1 < 33400) {k : Nat} (hk : k ≤ 12) (n : Int32) (hn : k < 10 → ¬ n < 0) : ∃ b1 ui1 uo1 : Nat, ((k = 0 → b1 = ui ∧ ui1 = ui + n.toNatClampNeg ∧ uo1 = uo) ∧ (1 ≤ k → k < 10 → b1 = uo ∧ ui1 = ui ∧ uo1 = uo + n.toNatClampNeg) ∧ (10 ≤ k → ui1 = ui ∧ uo1 = uo)) ∧ (h_X9_thing m (Int32.ofNat k) n S).1 = Int32.ofNat (aT A + 1) ∧ RM L m ma (up1 bs (aT A + 1) b1) ui1 uo1 (aNew A k n) (h_X9_thing m (Int32.ofNat k) n S).2 := by
  rw [h.thing_eq (by omega)]
  have hd := h.2.2.1
  have ne : ∀ f ∈ mFs, ∀ g ∈ mFs, f ≠ g → ma f ≠ ma g := fun f hf g hg z y => z (hd f hf g hg y)
  have nm := fun f hf => h.nem (f := f) hf
  have k0 : Int32.ofNat k = 0 ↔ k = 0 := k_0 hk
  have k10 : (10 : Int32) ≤ Int32.ofNat k ↔ 10 ≤ k := by
    rw [Int32.le_iff_toInt_le, i_toInt (by omega), show (10 : Int32).toInt = 10 from by decide]
    omega
  have ofn : ∀ u : Nat, k < 10 → Int32.ofNat u + n = Int32.ofNat (u + n.toNatClampNeg) := fun u z => by
    rw [Int32.ofNat_add, ← i_of (hn z)]
  have base : ∀ (f : Nat) , f ≠ 0 → f ≠ 1 → f ∈ mFs → hsA (thB m (ma 0) (ma 1) (aT A + 1) (Int32.ofNat (aT A + 1)) (Int32.ofNat k) n S) (ma f) = hsA S (ma f) := fun f z y hf => (up2_ne _ _ _ (ne f hf 1 in_1 y)).trans (up2_ne _ _ _ (ne f hf 0 in_0 z))
  have b0 : hsA (thB m (ma 0) (ma 1) (aT A + 1) (Int32.ofNat (aT A + 1)) (Int32.ofNat k) n S) (ma 0) (aT A + 1) = Int32.ofNat k ∧ ∀ t, t ≠ aT A + 1 → hsA (thB m (ma 0) (ma 1) (aT A + 1) (Int32.ofNat (aT A + 1)) (Int32.ofNat k) n S) (ma 0) t = hsA S (ma 0) t :=
    ⟨(congrFun (up2_ne _ _ _ (ne 0 in_0 1 in_1 (by decide))) _).trans (up2_at _ _ _ _), fun t z => (congrFun (up2_ne _ _ _ (ne 0 in_0 1 in_1 (by decide))) _).trans (up2_nk _ _ _ z)⟩
  have b1 : hsA (thB m (ma 0) (ma 1) (aT A + 1) (Int32.ofNat (aT A + 1)) (Int32.ofNat k) n S) (ma 1) (aT A + 1) = n ∧ ∀ t, t ≠ aT A + 1 → hsA (thB m (ma 0) (ma 1) (aT A + 1) (Int32.ofNat (aT A + 1)) (Int32.ofNat k) n S) (ma 1) t = hsA S (ma 1) t :=
    ⟨up2_at _ _ _ _, fun t z => (up2_nk _ _ _ z).trans (congrFun (up2_ne _ _ _ (ne 1 in_1 0 in_0 (by decide))) _)⟩
  have bI : ∀ f, f ≠ 3 → hsI (thB m (ma 0) (ma 1) (aT A + 1) (Int32.ofNat (aT A + 1)) (Int32.ofNat k) n S) m f = hsI S m f := fun f z => up2_nk _ _ _ z
  have b3 : hsI (thB m (ma 0) (ma 1) (aT A + 1) (Int32.ofNat (aT A + 1)) (Int32.ofNat k) n S) m 3 = Int32.ofNat (aT A + 1) := up2_at _ _ _ _
  obtain ⟨i3, i5, i7, i9, i11⟩ := h.2.2.2.1
  unfold thS
  by_cases z0 : k = 0
  · refine ⟨ui, ui + n.toNatClampNeg, uo, ⟨fun _ => ⟨rfl, rfl, rfl⟩, fun z => by omega, fun z => by omega⟩, rfl, ?_⟩
    show RM _ _ _ _ _ _ _ (if Int32.ofNat k = 0 then _ else _)
    rw [if_pos (k0.mpr z0)]
    refine h.grow hk ⟨fun _ => ⟨rfl, rfl, rfl⟩, fun z => by omega, fun z => by omega⟩ rfl rfl rfl rfl ((up2_nk _ _ _ (by decide)).trans b3) ((up2_at _ _ _ _).trans (ofn ui (by omega))) ((up2_nk _ _ _ (by decide)).trans ((bI 7 (by decide)).trans i7)) ((up2_nk _ _ _ (by decide)).trans (bI 9 (by decide))) ((up2_nk _ _ _ (by decide)).trans (bI 11 (by decide))) ?_ ?_ ?_ ?_ ?_ ?_
    · exact ⟨(congrFun (up2_ne _ _ _ (ne 0 in_0 2 in_2 (by decide))) _).trans b0.1, fun t z => (congrFun (up2_ne _ _ _ (ne 0 in_0 2 in_2 (by decide))) _).trans (b0.2 t z)⟩
    · exact ⟨(congrFun (up2_ne _ _ _ (ne 1 in_1 2 in_2 (by decide))) _).trans b1.1, fun t z => (congrFun (up2_ne _ _ _ (ne 1 in_1 2 in_2 (by decide))) _).trans (b1.2 t z)⟩
    · exact ⟨fun _ => up2_at _ _ _ _, fun t z => (up2_nk _ _ _ z).trans (congrFun (base 2 (by decide) (by decide) in_2) t)⟩
    · exact (up2_ne _ _ _ (ne 4 in_4 2 in_2 (by decide))).trans (base 4 (by decide) (by decide) in_4)
    · exact (up2_ne _ _ _ (ne 8 in_8 2 in_2 (by decide))).trans (base 8 (by decide) (by decide) in_8)
    · exact (up2_ne _ _ _ (ne 10 in_10 2 in_2 (by decide))).trans (base 10 (by decide) (by decide) in_10)
  · by_cases z10 : 10 ≤ k
    · refine ⟨0, ui, uo, ⟨fun z => by omega, fun z y => by omega, fun _ => ⟨rfl, rfl⟩⟩, rfl, ?_⟩
      show RM _ _ _ _ _ _ _ (if Int32.ofNat k = 0 then _ else if (10 : Int32) ≤ Int32.ofNat k then _ else _)
      rw [if_neg (fun z => z0 (k0.mp z)), if_pos (k10.mpr z10)]
      exact h.grow hk ⟨fun z => by omega, fun z y => by omega, fun _ => ⟨rfl, rfl⟩⟩ rfl rfl rfl rfl b3 ((bI 5 (by decide)).trans i5) ((bI 7 (by decide)).trans i7) (bI 9 (by decide)) (bI 11 (by decide)) b0 b1 ⟨fun z => by omega, fun t z => congrFun (base 2 (by decide) (by decide) in_2) t⟩ (base 4 (by decide) (by decide) in_4) (base 8 (by decide) (by decide) in_8) (base 10 (by decide) (by decide) in_10)
    · refine ⟨uo, ui, uo + n.toNatClampNeg, ⟨fun z => by omega, fun _ _ => ⟨rfl, rfl, rfl⟩, fun z => by omega⟩, rfl, ?_⟩
      show RM _ _ _ _ _ _ _ (if Int32.ofNat k = 0 then _ else if (10 : Int32) ≤ Int32.ofNat k then _ else _)
      rw [if_neg (fun z => z0 (k0.mp z)), if_neg (fun z => z10 (k10.mp z))]
      refine h.grow hk ⟨fun z => by omega, fun _ _ => ⟨rfl, rfl, rfl⟩, fun z => by omega⟩ rfl rfl rfl rfl ((up2_nk _ _ _ (by decide)).trans b3) ((up2_nk _ _ _ (by decide)).trans ((bI 5 (by decide)).trans i5)) ((up2_at _ _ _ _).trans (ofn uo (by omega))) ((up2_nk _ _ _ (by decide)).trans (bI 9 (by decide))) ((up2_nk _ _ _ (by decide)).trans (bI 11 (by decide))) ?_ ?_ ?_ ?_ ?_ ?_
      · exact ⟨(congrFun (up2_ne _ _ _ (ne 0 in_0 2 in_2 (by decide))) _).trans b0.1, fun t z => (congrFun (up2_ne _ _ _ (ne 0 in_0 2 in_2 (by decide))) _).trans (b0.2 t z)⟩
      · exact ⟨(congrFun (up2_ne _ _ _ (ne 1 in_1 2 in_2 (by decide))) _).trans b1.1, fun t z => (congrFun (up2_ne _ _ _ (ne 1 in_1 2 in_2 (by decide))) _).trans (b1.2 t z)⟩
      · exact ⟨fun _ => up2_at _ _ _ _, fun t z => (up2_nk _ _ _ z).trans (congrFun (base 2 (by decide) (by decide) in_2) t)⟩
      · exact (up2_ne _ _ _ (ne 4 in_4 2 in_2 (by decide))).trans (base 4 (by decide) (by decide) in_4)
      · exact (up2_ne _ _ _ (ne 8 in_8 2 in_2 (by decide))).trans (base 8 (by decide) (by decide) in_8)
      · exact (up2_ne _ _ _ (ne 10 in_10 2 in_2 (by decide))).trans (base 10 (by decide) (by decide) in_10)
end MTH
