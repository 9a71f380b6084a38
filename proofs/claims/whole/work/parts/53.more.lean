/-! ===== new things on both sides ===== -/
theorem RX.more {k : Nat} {L L1 : List Nat} {x cC cN : Nat} {ad rq ad1 rq1 : Nat → Nat} {A A1 : AS} {S S1 : HS} (hw : WF k A) (h : RX L x cC cN ad rq A S) (hold : ∀ b ∈ L, b ∈ L1 ∧ hsEq S S1 b) (hT : aT A ≤ aT A1) (hsame : ∀ t, 1 ≤ t → t ≤ aT A → (ad1 t = ad t ∧ rq1 t = rq t) ∧ aK A1 t = aK A t ∧ aN A1 t = aN A t ∧ aE A1 t = aE A t) (hC : aC A1 = aC A ∧ aW A1 = aW A ∧ aL A1 = aL A ∧ aR A1 = aR A) (hnew : ∀ t, aT A < t → t ≤ aT A1 → (TX L1 S1 A1 ad1 rq1 cC t ∧ ad1 t ∉ L ∧ (aK A1 t < 10 → rq1 t ∉ L)) ∧ ∀ u, aT A < u → u ≤ aT A1 → (ad1 t = ad1 u → t = u) ∧ (aK A1 t < 10 → aK A1 u < 10 → rq1 t = rq1 u → t = u)) : RX L1 x cC cN ad1 rq1 A1 S1 := by
  obtain ⟨⟨x1, x2, x3, x4, x5, x6⟩, ⟨c1, c2, c3, c4⟩, ⟨n1, n2, n3, n4⟩, ht, hi, hj⟩ := h
  obtain ⟨lx, ex⟩ := hold x x1
  obtain ⟨lc, ec⟩ := hold cC c1
  obtain ⟨ln, en⟩ := hold cN n1
  have hqa : ∀ e, e ≤ aT A → qa ad1 e = qa ad e := fun e he => by
    by_cases z : e = 0
    · rw [z, qa_0, qa_0]
    · rw [qa_s _ z, qa_s _ z, (hsame e (by omega) he).1.1]
  have adL : ∀ t, 1 ≤ t → t ≤ aT A → ad t ∈ L ∧ (aK A t < 10 → rq t ∈ L) := fun t t1 t2 => ⟨(ht t t1 t2).1.1, fun z => ((ht t t1 t2).2.1 z).2.2.1⟩
  have hin : ∀ t u, 1 ≤ t → t ≤ aT A1 → 1 ≤ u → u ≤ aT A1 → (ad1 t = ad1 u → t = u) ∧ (aK A1 t < 10 → aK A1 u < 10 → rq1 t = rq1 u → t = u) := by
    intro t u t1 t2 u1 u2
    by_cases ot : t ≤ aT A
    · obtain ⟨⟨st1, st2⟩, st3, -, -⟩ := hsame t t1 ot
      by_cases ou : u ≤ aT A
      · obtain ⟨⟨su1, su2⟩, su3, -, -⟩ := hsame u u1 ou
        rw [st1, su1, st2, su2, st3, su3]
        exact ⟨fun z => hi t u t1 ot u1 ou z, fun z y w => hj t u t1 ot u1 ou z y w⟩
      · obtain ⟨⟨-, w1, w2⟩, -⟩ := hnew u (by omega) u2
        rw [st1, st2, st3]
        exact ⟨fun z => absurd (z ▸ (adL t t1 ot).1) w1, fun z y w => absurd (w ▸ (adL t t1 ot).2 z) (w2 y)⟩
    · by_cases ou : u ≤ aT A
      · obtain ⟨⟨su1, su2⟩, su3, -, -⟩ := hsame u u1 ou
        obtain ⟨⟨-, w1, w2⟩, -⟩ := hnew t (by omega) t2
        rw [su1, su2, su3]
        exact ⟨fun z => absurd (z ▸ (adL u u1 ou).1) w1, fun z y w => absurd (w ▸ (adL u u1 ou).2 y) (w2 z)⟩
      · exact (hnew t (by omega) t2).2 u (by omega) u2
  refine ⟨⟨lx, ex.1.trans x2, (congrFun ex.2.2.1 0).trans x3, (congrFun ex.2.2.1 1).trans x4, ?_, ?_⟩, ⟨lc, ec.1.trans c2, ec.2.2.2.1.trans c3, fun c hc => ?_⟩, ⟨ln, en.1.trans n2, en.2.2.2.1.trans n3, fun c hc => ?_⟩, fun t t1 t2 => ?_, fun t u t1 t2 u1 u2 => (hin t u t1 t2 u1 u2).1, fun t u t1 t2 u1 u2 => (hin t u t1 t2 u1 u2).2⟩
  · rw [hC.2.2.1]
    exact (congrFun ex.2.1 2).trans x5
  · rw [hC.2.2.2]
    exact (congrFun ex.2.1 3).trans x6
  · rw [hC.1, hqa _ (hw.2.2.2.1 c hc)]
    exact (congrFun ec.2.2.2.2.2.2 c).trans (c4 c hc)
  · rw [hC.2.1]
    exact (congrFun en.2.2.2.2.1 c).trans (n4 c hc)
  · by_cases ot : t ≤ aT A
    · obtain ⟨⟨st1, st2⟩, st3, st4, st5⟩ := hsame t t1 ot
      have hwt := hw.2.2.2.2 t t1 ot
      obtain ⟨a1, a2⟩ := adL t t1 ot
      have h0 := (ht t t1 ot).mono (fun b hb => (hold b hb).1) (hold _ a1).2 (fun z => (hold _ (a2 z)).2)
      unfold TX aLen at h0 ⊢
      rw [st1, st2, st3, st4, st5]
      refine ⟨h0.1, h0.2.1, h0.2.2.1, fun z y => ⟨(h0.2.2.2.1 z y).1, (h0.2.2.2.1 z y).2.1, fun i hi => ?_⟩, h0.2.2.2.2⟩
      rw [hqa _ (hwt z y i hi).1]
      exact (h0.2.2.2.1 z y).2.2 i hi
    · exact (hnew t (by omega) t2).1.1
/-- the model's world with one thing more -/
theorem RM.grow {L : List Nat} {m : Nat} {ma bs : Nat → Nat} {ui uo : Nat} {A : AS} {S S5 : HS} {k b1 ui1 uo1 : Nat} {n : Int32} (h : RM L m ma bs ui uo A S) (hk : k ≤ 12) (hbu : (k = 0 → b1 = ui ∧ ui1 = ui + n.toNatClampNeg ∧ uo1 = uo) ∧ (1 ≤ k → k < 10 → b1 = uo ∧ ui1 = ui ∧ uo1 = uo + n.toNatClampNeg) ∧ (10 ≤ k → ui1 = ui ∧ uo1 = uo))
    (hK : hsK S5 = hsK S) (hQ : hsQ S5 = hsQ S) (hN : hsN S5 = hsN S) (hJ : hsJ S5 = hsJ S) (i3 : hsI S5 m 3 = Int32.ofNat (aT A + 1)) (i5 : hsI S5 m 5 = Int32.ofNat ui1) (i7 : hsI S5 m 7 = Int32.ofNat uo1) (i9 : hsI S5 m 9 = hsI S m 9) (i11 : hsI S5 m 11 = hsI S m 11)
    (a0 : hsA S5 (ma 0) (aT A + 1) = Int32.ofNat k ∧ ∀ t, t ≠ aT A + 1 → hsA S5 (ma 0) t = hsA S (ma 0) t) (a1 : hsA S5 (ma 1) (aT A + 1) = n ∧ ∀ t, t ≠ aT A + 1 → hsA S5 (ma 1) t = hsA S (ma 1) t) (a2 : (k < 10 → hsA S5 (ma 2) (aT A + 1) = Int32.ofNat b1) ∧ ∀ t, t ≠ aT A + 1 → hsA S5 (ma 2) t = hsA S (ma 2) t) (a4 : hsA S5 (ma 4) = hsA S (ma 4)) (a8 : hsA S5 (ma 8) = hsA S (ma 8)) (a10 : hsA S5 (ma 10) = hsA S (ma 10)) : RM L m ma (up1 bs (aT A + 1) b1) ui1 uo1 (aNew A k n) S5 := by
  obtain ⟨⟨m1, m2⟩, hf, hd, ⟨j3, j5, j7, j9, j11⟩, ht, hb, ⟨f4, f6⟩, hcc, hn⟩ := h
  obtain ⟨b0, b1', b2⟩ := hbu
  have hui : ui ≤ ui1 := by
    rcases Nat.lt_or_ge k 1 with z | z
    · have := (b0 (by omega)).2.1; omega
    · rcases Nat.lt_or_ge k 10 with y | y
      · have := (b1' z y).2.1; omega
      · have := (b2 y).1; omega
  have huo : uo ≤ uo1 := by
    rcases Nat.lt_or_ge k 1 with z | z
    · have := (b0 (by omega)).2.2; omega
    · rcases Nat.lt_or_ge k 10 with y | y
      · have := (b1' z y).2.2; omega
      · have := (b2 y).2; omega
  have kn : aK (aNew A k n) (aT A + 1) = k := up1_at _ _ _
  have nn : aN (aNew A k n) (aT A + 1) = n := up1_at _ _ _
  have en : aE (aNew A k n) (aT A + 1) = fun _ => 0 := up1_at _ _ _
  have ko : ∀ t, t ≠ aT A + 1 → aK (aNew A k n) t = aK A t := fun t z => up1_ne _ _ z
  have no : ∀ t, t ≠ aT A + 1 → aN (aNew A k n) t = aN A t := fun t z => up1_ne _ _ z
  have eo : ∀ t, t ≠ aT A + 1 → aE (aNew A k n) t = aE A t := fun t z => up1_ne _ _ z
  have ln : aLen (aNew A k n) (aT A + 1) = n.toNatClampNeg := by unfold aLen; rw [nn]
  have lo : ∀ t, t ≠ aT A + 1 → aLen (aNew A k n) t = aLen A t := fun t z => by unfold aLen; rw [no t z]
  refine ⟨⟨m1, (congrFun hK m).trans m2⟩, fun f h => ?_, hd, ⟨i3, i5, i7, i9.trans j9, i11.trans j11⟩, fun t t1 t2 => ?_, fun t u t1 tu u2 y z hs => ?_, ⟨fun i hi => ?_, fun i hi => ?_⟩, fun c h => ?_, fun c h => ?_⟩
  · obtain ⟨g1, g2, g3, g4⟩ := hf f h
    exact ⟨by rw [hQ]; exact g1, g2, (congrFun hK _).trans g3, (congrFun hN _).trans g4⟩
  · have t2' : t ≤ aT A + 1 := t2
    by_cases z : t = aT A + 1
    · subst z
      unfold TM
      rw [kn, nn, en, ln, up1_at]
      refine ⟨⟨a0.1, a1.1⟩, fun y => a2.1 y, fun y => ?_, fun y w => ?_⟩
      · obtain ⟨w1, w2, w3⟩ := b0 y
        refine ⟨by omega, fun i hi => ?_⟩
        rw [a4, f4 _ (by omega)]
        rfl
      · obtain ⟨w1, w2, w3⟩ := b1' y w
        refine ⟨by omega, fun i hi => ?_⟩
        rw [hJ, f6 _ (by omega)]
    · obtain ⟨⟨g1, g2⟩, g3, g4, g5⟩ := ht t t1 (by omega)
      unfold TM
      rw [ko t z, no t z, eo t z, lo t z, up1_ne _ _ z]
      refine ⟨⟨(a0.2 t z).trans g1, (a1.2 t z).trans g2⟩, fun y => (a2.2 t z).trans (g3 y), fun y => ⟨Nat.le_trans (g4 y).1 hui, fun i hi => ?_⟩, fun y w => ⟨Nat.le_trans (g5 y w).1 huo, fun i hi => ?_⟩⟩
      · rw [a4]
        exact (g4 y).2 i hi
      · rw [hJ]
        exact (g5 y w).2 i hi
  · have u2' : u ≤ aT A + 1 := u2
    have tz : t ≠ aT A + 1 := by omega
    rw [ko t tz] at y hs
    rw [lo t tz, up1_ne _ _ tz]
    by_cases uz : u = aT A + 1
    · subst uz
      rw [kn] at z hs
      rw [up1_at]
      obtain ⟨-, -, g4, g5⟩ := ht t t1 (by omega)
      by_cases k0 : k = 0
      · rw [(b0 k0).1]
        exact (g4 (hs.mpr k0)).1
      · rw [(b1' (by omega) z).1]
        exact (g5 (by have := fun w => k0 (hs.mp w); omega) y).1
    · rw [ko u uz] at z hs
      rw [up1_ne _ _ uz]
      exact hb t u t1 tu (by omega) y z hs
  · rw [a4]
    exact f4 i (by omega)
  · rw [hJ]
    exact f6 i (by omega)
  · rw [a8]
    exact hcc c h
  · rw [a10]
    exact hn c h
