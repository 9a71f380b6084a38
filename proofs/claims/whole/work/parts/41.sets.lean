/-! ===== one change in both worlds ===== -/
section RXS
variable {L : List Nat} {x cC cN : Nat} {ad rq : Nat → Nat} {A : AS} {S : HS} {k : Nat}
theorem RX.setC {c e : Nat} (hw : WF k A) (h : RX L x cC cN ad rq A S) (hc : c < 16) : RX L x cC cN ad rq (aSetC A c e) (hwR S cC c (qa ad e)) := by
  obtain ⟨⟨x1, x2, x3, x4, x5, x6⟩, ⟨c1, c2, c3, c4⟩, ⟨n1, n2, n3, n4⟩, ht, hi, hj⟩ := h
  refine ⟨⟨x1, x2, x3, x4, x5, x6⟩, ⟨c1, c2, c3, fun j hj => ?_⟩, ⟨n1, n2, n3, n4⟩, fun t t1 t2 => ?_, hi, hj⟩
  · show up2 (hsR S) cC c (qa ad e) cC j = qa ad (up1 (aC A) c e j)
    by_cases hjc : j = c
    · rw [hjc, up2_at, up1_at]
    · rw [up2_nk _ _ _ hjc, up1_ne _ _ hjc, c4 j hj]
  · have h1 := ht t t1 t2
    have hk := kx_15 (hw.2.2.1 t t1 t2).1
    obtain ⟨⟨a1, a2, a3⟩, b, cc, d, ee⟩ := h1
    have n1 : ad t ≠ cC := fun z => by rw [z, c2] at a2; omega
    have n2 : aK A t < 10 → rq t ≠ cC := fun h10 z => by
      by_cases h7 : aK A t < 7
      · have := (cc h7).1
        rw [z, c2] at this
        omega
      · exact (d (by omega) h10).2.1 z
    have h2 : TX L S A ad rq cC t := ⟨⟨a1, a2, a3⟩, b, cc, d, ee⟩
    exact h2.mono (fun b hb => hb) (hsEq.wR n1) (fun z => hsEq.wR (n2 z))
theorem RX.setR3 {v : Int32} (hw : WF k A) (h : RX L x cC cN ad rq A S) : RX L x cC cN ad rq (aSetR A v) (hwI S x 3 v) := by
  obtain ⟨⟨x1, x2, x3, x4, x5, x6⟩, ⟨c1, c2, c3, c4⟩, ⟨n1, n2, n3, n4⟩, ht, hi, hj⟩ := h
  refine ⟨⟨x1, x2, x3, x4, (up2_nk _ _ _ (by decide)).trans x5, up2_at _ _ _ _⟩, ⟨c1, c2, c3, c4⟩, ⟨n1, n2, n3, n4⟩, fun t t1 t2 => ?_, hi, hj⟩
  have hn := (ht t t1 t2).ne (hw.2.2.1 t t1 t2).1 (b := x) (Or.inl x2)
  exact (ht t t1 t2).mono (fun b hb => hb) (hsEq.wI hn.1) (fun z => hsEq.wI (hn.2 z))
theorem RX.setV {t : Nat} {v : Int32} (hw : WF k A) (h : RX L x cC cN ad rq A S) (t1 : 1 ≤ t) (t2 : t ≤ aT A) (hk : 10 ≤ aK A t) : RX L x cC cN ad rq (aSetN A t v) (hwI S (ad t) 2 v) := by
  obtain ⟨⟨x1, x2, x3, x4, x5, x6⟩, ⟨c1, c2, c3, c4⟩, ⟨n1, n2, n3, n4⟩, ht, hi, hj⟩ := h
  have hnx := ((ht t t1 t2).ne (hw.2.2.1 t t1 t2).1 (b := x) (Or.inl x2)).1
  have hkt := kx_15 (hw.2.2.1 t t1 t2).1
  have hat := (ht t t1 t2).1.2.1
  refine ⟨⟨x1, x2, x3, x4, (congrFun (hsEq.wI hnx.symm).2.1 2).trans x5, (congrFun (hsEq.wI hnx.symm).2.1 3).trans x6⟩, ⟨c1, c2, c3, c4⟩, ⟨n1, n2, n3, n4⟩, fun u u1 u2 => ?_, hi, hj⟩
  by_cases hu : u = t
  · subst hu
    obtain ⟨⟨a1, a2, a3⟩, b, cc, d, ee⟩ := ht u u1 u2
    refine ⟨⟨a1, a2, (up2_nk _ _ _ (by decide)).trans a3⟩, fun z => absurd z (show ¬ aK A u < 10 by omega), fun z => absurd z (show ¬ aK A u < 7 by omega), fun _ z => absurd z (show ¬ aK A u < 10 by omega), fun z => ⟨(up2_nk _ _ _ (by decide)).trans (ee hk).1, ?_⟩⟩
    show up2 (hsI S) (ad u) 2 v (ad u) 2 = up1 (aN A) u v u
    rw [up2_at, up1_at]
  · have hne : ad u ≠ ad t := fun z => hu (hi u t u1 u2 t1 t2 z)
    have h2 := ht u u1 u2
    have hnr : aK A u < 10 → rq u ≠ ad t := fun h10 z => by
      by_cases h7 : aK A u < 7
      · have := (h2.2.2.1 h7).1
        rw [z] at this
        omega
      · have := (h2.2.2.2.1 (by omega) h10).1
        rw [z] at this
        omega
    have h3 := h2.mono (L1 := L) (S1 := hwI S (ad t) 2 v) (fun b hb => hb) (hsEq.wI hne) (fun z => hsEq.wI (hnr z))
    have e1 : up1 (aN A) t v u = aN A u := up1_ne _ _ hu
    unfold TX aLen at h3 ⊢
    show (_ ∧ _ ∧ _) ∧ (_ → _ = up1 (aN A) t v u ∧ _ ∧ _ ∧ _ = (up1 (aN A) t v u).toNatClampNeg) ∧ (_ → _ ∧ ∀ i, i < (up1 (aN A) t v u).toNatClampNeg → _) ∧ (_ → _ → _ ∧ _ ∧ ∀ i, i < (up1 (aN A) t v u).toNatClampNeg → _) ∧ (_ → _ ∧ _ = up1 (aN A) t v u)
    rw [e1]
    exact h3
/-- an element in both: the row of another array is another -/
theorem RX.rne (hw : WF k A) (h : RX L x cC cN ad rq A S) {t u : Nat} (t1 : 1 ≤ t) (t2 : t ≤ aT A) (hk : aK A t < 10) (u1 : 1 ≤ u) (u2 : u ≤ aT A) : ad u ≠ rq t ∧ (aK A u < 10 → u ≠ t → rq u ≠ rq t) := by
  obtain ⟨-, -, -, ht, -, hj⟩ := h
  have h1 := ht t t1 t2
  have h2 := ht u u1 u2
  have hkt := kx_15 (hw.2.2.1 u u1 u2).1
  refine ⟨fun z => ?_, fun h10 hne z => hne (hj u t u1 u2 t1 t2 h10 hk z)⟩
  have ha := h2.1.2.1
  by_cases h7 : aK A t < 7
  · have := (h1.2.2.1 h7).1
    rw [← z] at this
    omega
  · have := (h1.2.2.2.1 (by omega) hk).1
    rw [← z] at this
    omega
theorem RX.rown (h : RX L x cC cN ad rq A S) {t : Nat} (t1 : 1 ≤ t) (t2 : t ≤ aT A) (hk : aK A t < 10) : rq t ≠ x ∧ rq t ≠ cC ∧ rq t ≠ cN := by
  obtain ⟨⟨x1, x2, x3, x4, x5, x6⟩, ⟨c1, c2, c3, c4⟩, ⟨n1, n2, n3, n4⟩, ht, hi, hj⟩ := h
  obtain ⟨-, -, c, d, -⟩ := ht t t1 t2
  by_cases h7 : aK A t < 7
  · have := (c h7).1
    exact ⟨fun z => by rw [z] at this; omega, fun z => by rw [z] at this; omega, fun z => by rw [z] at this; omega⟩
  · have := (d (by omega) hk).1
    exact ⟨fun z => by rw [z] at this; omega, (d (by omega) hk).2.1, fun z => by rw [z] at this; omega⟩
theorem RX.setE {t i : Nat} {v : Int64} {S1 : HS} (hw : WF k A) (h : RX L x cC cN ad rq A S) (t1 : 1 ≤ t) (t2 : t ≤ aT A) (hk : aK A t < 10) (hs : ∀ b, b ≠ rq t → hsEq S S1 b) (hK : hsK S1 (rq t) = hsK S (rq t)) (hN : hsN S1 (rq t) = hsN S (rq t)) (hJ : aK A t < 7 → ∀ j, hsJ S1 (rq t) j = if j = i then v else hsJ S (rq t) j) (hR : 7 ≤ aK A t → ∀ j, hsR S1 (rq t) j = if j = i then qa ad (uN v) else hsR S (rq t) j) : RX L x cC cN ad rq (aSetE A t i v) S1 := by
  have hro := h.rown t1 t2 hk
  have hrn := fun u u1 u2 => h.rne hw t1 t2 hk (u := u) u1 u2
  obtain ⟨⟨x1, x2, x3, x4, x5, x6⟩, ⟨c1, c2, c3, c4⟩, ⟨n1, n2, n3, n4⟩, ht, hi, hj⟩ := h
  have ex := hs x hro.1.symm
  have ec := hs cC hro.2.1.symm
  have en := hs cN hro.2.2.symm
  refine ⟨⟨x1, ex.1.trans x2, (congrFun ex.2.2.1 0).trans x3, (congrFun ex.2.2.1 1).trans x4, (congrFun ex.2.1 2).trans x5, (congrFun ex.2.1 3).trans x6⟩, ⟨c1, ec.1.trans c2, ec.2.2.2.1.trans c3, fun j h => (congrFun ec.2.2.2.2.2.2 j).trans (c4 j h)⟩, ⟨n1, en.1.trans n2, en.2.2.2.1.trans n3, fun j h => (congrFun en.2.2.2.2.1 j).trans (n4 j h)⟩, fun u u1 u2 => ?_, hi, hj⟩
  have hr := hrn u u1 u2
  by_cases hu : u = t
  · subst hu
    obtain ⟨⟨a1, a2, a3⟩, b, cc, d, ee⟩ := ht u u1 u2
    have ea := hs (ad u) hr.1
    refine ⟨⟨a1, ea.1.trans a2, (congrFun ea.2.1 0).trans a3⟩, fun z => ?_, fun z => ⟨hK.trans (cc z).1, fun j hj => ?_⟩, fun z y => ⟨hK.trans (d z y).1, (d z y).2.1, fun j hj => ?_⟩, fun z => absurd hk (show ¬ aK A u < 10 by have : 10 ≤ aK A u := z; omega)⟩
    · obtain ⟨b1, b2, b3, b4⟩ := b z
      exact ⟨(congrFun ea.2.1 1).trans b1, (congrFun ea.2.2.1 2).trans b2, b3, hN.trans b4⟩
    · show hsJ S1 (rq u) j = up2 (aE A) u i v u j
      rw [hJ z]
      by_cases hji : j = i
      · rw [if_pos hji, hji, up2_at]
      · rw [if_neg hji, up2_nk _ _ _ hji]
        exact (cc z).2 j hj
    · show hsR S1 (rq u) j = qa ad (uN (up2 (aE A) u i v u j))
      rw [hR z]
      by_cases hji : j = i
      · rw [if_pos hji, hji, up2_at]
      · rw [if_neg hji, up2_nk _ _ _ hji]
        exact (d z y).2.2 j hj
  · have h3 := (ht u u1 u2).mono (L1 := L) (S1 := S1) (fun b hb => hb) (hs _ hr.1) (fun z => hs _ (hr.2 z hu))
    have e1 : up2 (aE A) t i v u = aE A u := up2_ne _ _ _ hu
    obtain ⟨f1, f2, f3, f4, f5⟩ := h3
    refine ⟨f1, f2, fun z => ⟨(f3 z).1, fun j hj => ?_⟩, fun z y => ⟨(f4 z y).1, (f4 z y).2.1, fun j hj => ?_⟩, f5⟩
    · show hsJ S1 (rq u) j = up2 (aE A) t i v u j
      rw [e1]
      exact (f3 z).2 j hj
    · show hsR S1 (rq u) j = qa ad (uN (up2 (aE A) t i v u j))
      rw [e1]
      exact (f4 z y).2.2 j hj
theorem RX.setJ {t i : Nat} {v : Int64} (hw : WF k A) (h : RX L x cC cN ad rq A S) (t1 : 1 ≤ t) (t2 : t ≤ aT A) (hk : aK A t < 7) : RX L x cC cN ad rq (aSetE A t i v) (hwJ S (rq t) i v) :=
  h.setE hw t1 t2 (by omega) (fun b hb => hsEq.wJ hb) rfl rfl (fun _ j => by show up2 (hsJ S) (rq t) i v (rq t) j = _; simp [up2]) (fun z => absurd z (by omega))
theorem RX.setRR {t i : Nat} {v : Int64} (hw : WF k A) (h : RX L x cC cN ad rq A S) (t1 : 1 ≤ t) (t2 : t ≤ aT A) (hk : aK A t < 10) (hk7 : 7 ≤ aK A t) : RX L x cC cN ad rq (aSetE A t i v) (hwR S (rq t) i (qa ad (uN v))) :=
  h.setE hw t1 t2 (by omega) (fun b hb => hsEq.wR hb) rfl rfl (fun z => absurd z (by omega)) (fun _ j => by show up2 (hsR S) (rq t) i _ (rq t) j = _; simp [up2])
end RXS
section WFS
variable {A : AS} {k : Nat}
theorem WF.setC {c e : Nat} (h : WF k A) (he : e ≤ aT A) : WF k (aSetC A c e) := by
  refine ⟨h.1, h.2.1, h.2.2.1, fun j hj => ?_, h.2.2.2.2⟩
  show up1 (aC A) c e j ≤ aT A
  by_cases hjc : j = c
  · rw [hjc, up1_at]
    exact he
  · rw [up1_ne _ _ hjc]
    exact h.2.2.2.1 j hj
theorem WF.setR {v : Int32} (h : WF k A) : WF k (aSetR A v) := h
theorem WF.setV {t : Nat} {v : Int32} (h : WF k A) (hk : 10 ≤ aK A t) : WF k (aSetN A t v) := by
  have e1 : ∀ u, aK A u < 10 → up1 (aN A) t v u = aN A u := fun u hu => up1_ne _ _ (fun z => by rw [z] at hu; omega)
  refine ⟨h.1, h.2.1, fun u u1 u2 => ⟨(h.2.2.1 u u1 u2).1, fun z => ?_⟩, h.2.2.2.1, fun u u1 u2 z y i hi => ?_⟩
  · show 0 ≤ (up1 (aN A) t v u).toInt ∧ (up1 (aN A) t v u).toInt ≤ 64
    rw [e1 u z]
    exact (h.2.2.1 u u1 u2).2 z
  · unfold aLen at hi
    have hi2 : i < (up1 (aN A) t v u).toNatClampNeg := hi
    rw [e1 u y] at hi2
    exact h.2.2.2.2 u u1 u2 z y i hi2
theorem WF.setE {t i : Nat} {v : Int64} (h : WF k A) (hv : 7 ≤ aK A t → aK A t < 10 → uN v ≤ aT A ∧ aPs A (s_X9_elementType (Int32.ofNat (aK A t))) (uN v)) : WF k (aSetE A t i v) := by
  refine ⟨h.1, h.2.1, h.2.2.1, h.2.2.2.1, fun u u1 u2 z y j hj => ?_⟩
  show uN (up2 (aE A) t i v u j) ≤ aT A ∧ aPs A (s_X9_elementType (Int32.ofNat (aK A u))) (uN (up2 (aE A) t i v u j))
  by_cases hu : u = t
  · subst hu
    by_cases hji : j = i
    · rw [hji, up2_at]
      exact hv z y
    · rw [up2_nk _ _ _ hji]
      exact h.2.2.2.2 u u1 u2 z y j hj
  · rw [up2_ne _ _ _ hu]
    exact h.2.2.2.2 u u1 u2 z y j hj
end WFS
section RMS
variable {L : List Nat} {m : Nat} {ma bs : Nat → Nat} {ui uo : Nat} {A : AS} {S : HS} {k : Nat}
theorem RM.setC {c e : Nat} (h : RM L m ma bs ui uo A S) (hc : c < 16) : RM L m ma bs ui uo (aSetC A c e) (hwA S (ma 8) c (Int32.ofNat e)) := by
  have hnm := fun f hf => h.nem (f := f) hf
  obtain ⟨⟨m1, m2⟩, hf, hd, ⟨i3, i5, i7, i9, i11⟩, ht, hb, ⟨f4, f6⟩, hcc, hn⟩ := h
  have ne : ∀ f ∈ mFs, f ≠ 8 → ma f ≠ ma 8 := fun f h1 h2 z => h2 (hd f h1 8 in_8 z)
  refine ⟨⟨m1, m2⟩, hf, hd, ⟨i3, i5, i7, i9, i11⟩, fun t t1 t2 => (ht t t1 t2).mono (hsEq.wA (ne 0 in_0 (by decide))) (hsEq.wA (ne 1 in_1 (by decide))) (hsEq.wA (ne 2 in_2 (by decide))) (hsEq.wA (ne 4 in_4 (by decide))) (hsEq.wA (ne 6 in_6 (by decide))), hb, ⟨fun i hi => (congrFun (hsEq.wA (ne 4 in_4 (by decide))).2.2.2.2.1 i).trans (f4 i hi), f6⟩, fun j hj => ?_, fun j hj => (congrFun (hsEq.wA (ne 10 in_10 (by decide))).2.2.2.2.1 j).trans (hn j hj)⟩
  show up2 (hsA S) (ma 8) c (Int32.ofNat e) (ma 8) j = Int32.ofNat (up1 (aC A) c e j)
  by_cases hjc : j = c
  · rw [hjc, up2_at, up1_at]
  · rw [up2_nk _ _ _ hjc, up1_ne _ _ hjc, hcc j hj]
theorem RM.setR3 {v : Int32} (h : RM L m ma bs ui uo A S) : RM L m ma bs ui uo (aSetR A v) (hwI S m 11 v) := by
  have h' := h
  obtain ⟨⟨m1, m2⟩, hf, hd, ⟨i3, i5, i7, i9, i11⟩, ht, hb, ff, hcc, hn⟩ := h'
  exact h.own (S1 := hwI S m 11 v) (fun b hb _ => hsEq.wI hb) m2 rfl (fun f z => up2_nk _ _ _ (by omega)) ((up2_nk _ _ _ (by decide)).trans i9) (up2_at _ _ _ _) (hf 10 in_10).2.2.1 (hf 10 in_10).2.2.2 (fun j hj => hn j hj) ⟨rfl, rfl, rfl, rfl, rfl⟩
theorem RM.setV {t : Nat} {v : Int32} (h : RM L m ma bs ui uo A S) (hk : 10 ≤ aK A t) : RM L m ma bs ui uo (aSetN A t v) (hwA S (ma 1) t v) := by
  obtain ⟨⟨m1, m2⟩, hf, hd, ⟨i3, i5, i7, i9, i11⟩, ht, hb, ⟨f4, f6⟩, hcc, hn⟩ := h
  have ne : ∀ f ∈ mFs, f ≠ 1 → ma f ≠ ma 1 := fun f h1 h2 z => h2 (hd f h1 1 in_1 z)
  have e1 : ∀ u, aK A u < 10 → up1 (aN A) t v u = aN A u := fun u hu => up1_ne _ _ (fun z => by rw [z] at hu; omega)
  have el : ∀ u, aK A u < 10 → aLen (aSetN A t v) u = aLen A u := fun u hu => by
    show (up1 (aN A) t v u).toNatClampNeg = (aN A u).toNatClampNeg
    rw [e1 u hu]
  refine ⟨⟨m1, m2⟩, hf, hd, ⟨i3, i5, i7, i9, i11⟩, fun u u1 u2 => ?_, fun u w u1 uw w2 y z hi => ?_, ⟨fun i hi => (congrFun (hsEq.wA (ne 4 in_4 (by decide))).2.2.2.2.1 i).trans (f4 i hi), f6⟩, fun j hj => (congrFun (hsEq.wA (ne 8 in_8 (by decide))).2.2.2.2.1 j).trans (hcc j hj), fun j hj => (congrFun (hsEq.wA (ne 10 in_10 (by decide))).2.2.2.2.1 j).trans (hn j hj)⟩
  · obtain ⟨⟨a1, a2⟩, b, c, d⟩ := ht u u1 u2
    refine ⟨⟨(congrFun (hsEq.wA (ne 0 in_0 (by decide))).2.2.2.2.1 u).trans a1, ?_⟩, fun z => (congrFun (hsEq.wA (ne 2 in_2 (by decide))).2.2.2.2.1 u).trans (b z), fun z => ?_, fun z y => ?_⟩
    · show up2 (hsA S) (ma 1) t v (ma 1) u = up1 (aN A) t v u
      by_cases hu : u = t
      · rw [hu, up2_at, up1_at]
      · rw [up2_nk _ _ _ hu, up1_ne _ _ hu, a2]
    · have z0 : aK A u = 0 := z
      rw [el u (by omega)]
      refine ⟨(c z).1, fun i hi => ?_⟩
      rw [show hsA (hwA S (ma 1) t v) (ma 4) (bs u + i) = hsA S (ma 4) (bs u + i) from congrFun (hsEq.wA (ne 4 in_4 (by decide))).2.2.2.2.1 _]
      exact (c z).2 i hi
    · rw [el u y]
      exact d z y
  · rw [el u y]
    exact hb u w u1 uw w2 y z hi
theorem len_64 {t : Nat} (hw : WF k A) (t1 : 1 ≤ t) (t2 : t ≤ aT A) (hk : aK A t < 10) : aLen A t ≤ 64 ∧ (aN A t).toInt = aLen A t := by
  have h := (hw.2.2.1 t t1 t2).2 hk
  unfold aLen
  simp only [Int32.toNatClampNeg]
  omega
/-- regions of two arrays of one sort lie apart -/
theorem RM.apart (h : RM L m ma bs ui uo A S) {t u i j : Nat} (t1 : 1 ≤ t) (t2 : t ≤ aT A) (u1 : 1 ≤ u) (u2 : u ≤ aT A) (htu : u ≠ t) (ht10 : aK A t < 10) (hu10 : aK A u < 10) (hs : aK A t = 0 ↔ aK A u = 0) (hi : i < aLen A t) (hj : j < aLen A u) : bs u + j ≠ bs t + i := by
  obtain ⟨-, -, -, -, -, hb, -, -, -⟩ := h
  rcases Nat.lt_or_gt_of_ne htu with h1 | h1
  · have := hb u t u1 h1 t2 hu10 ht10 hs.symm
    omega
  · have := hb t u t1 h1 u2 ht10 hu10 hs
    omega
theorem RM.setE4 {t i : Nat} {w : Int32} (h : RM L m ma bs ui uo A S) (t1 : 1 ≤ t) (t2 : t ≤ aT A) (hk : aK A t = 0) (hi : i < aLen A t) : RM L m ma bs ui uo (aSetE A t i w.toInt64) (hwA S (ma 4) (bs t + i) w) := by
  have hap := fun u j u1 u2 htu hu10 hs hj => h.apart (t := t) (u := u) (i := i) (j := j) t1 t2 u1 u2 htu (by omega) hu10 hs hi hj
  obtain ⟨⟨m1, m2⟩, hf, hd, ⟨i3, i5, i7, i9, i11⟩, ht, hb, ⟨f4, f6⟩, hcc, hn⟩ := h
  have ne : ∀ f ∈ mFs, f ≠ 4 → ma f ≠ ma 4 := fun f h1 h2 z => h2 (hd f h1 4 in_4 z)
  refine ⟨⟨m1, m2⟩, hf, hd, ⟨i3, i5, i7, i9, i11⟩, fun u u1 u2 => ?_, hb, ⟨fun j hj => ?_, f6⟩, fun j hj => (congrFun (hsEq.wA (ne 8 in_8 (by decide))).2.2.2.2.1 j).trans (hcc j hj), fun j hj => (congrFun (hsEq.wA (ne 10 in_10 (by decide))).2.2.2.2.1 j).trans (hn j hj)⟩
  · obtain ⟨⟨a1, a2⟩, b, c, d⟩ := ht u u1 u2
    refine ⟨⟨(congrFun (hsEq.wA (ne 0 in_0 (by decide))).2.2.2.2.1 u).trans a1, (congrFun (hsEq.wA (ne 1 in_1 (by decide))).2.2.2.2.1 u).trans a2⟩, fun z => (congrFun (hsEq.wA (ne 2 in_2 (by decide))).2.2.2.2.1 u).trans (b z), fun z => ⟨(c z).1, fun j hj => ?_⟩, fun z y => ⟨(d z y).1, fun j hj => ?_⟩⟩
    · show (up2 (hsA S) (ma 4) (bs t + i) w (ma 4) (bs u + j)).toInt64 = up2 (aE A) t i w.toInt64 u j
      by_cases hu : u = t
      · subst hu
        by_cases hji : j = i
        · rw [hji, up2_at, up2_at]
        · rw [up2_nk _ _ _ (show bs u + j ≠ bs u + i by omega), up2_nk _ _ _ hji]
          exact (c z).2 j hj
      · have z0 : aK A u = 0 := z
        rw [up2_nk _ _ _ (hap u j u1 u2 hu (by omega) (by omega) hj), up2_ne _ _ _ hu]
        exact (c z).2 j hj
    · show hsJ S (ma 6) (bs u + j) = up2 (aE A) t i w.toInt64 u j
      have z0 : 1 ≤ aK A u := z
      rw [up2_ne _ _ _ (show u ≠ t from fun y => by rw [y] at z0; omega)]
      exact (d z y).2 j hj
  · show up2 (hsA S) (ma 4) (bs t + i) w (ma 4) j = 0
    have := ((ht t t1 t2).2.2.1 hk).1
    rw [up2_nk _ _ _ (show j ≠ bs t + i by omega)]
    exact f4 j hj
theorem RM.setE6 {t i : Nat} {v : Int64} (h : RM L m ma bs ui uo A S) (t1 : 1 ≤ t) (t2 : t ≤ aT A) (hk1 : 1 ≤ aK A t) (hk : aK A t < 10) (hi : i < aLen A t) : RM L m ma bs ui uo (aSetE A t i v) (hwJ S (ma 6) (bs t + i) v) := by
  have hap := fun u j u1 u2 htu hu10 hs hj => h.apart (t := t) (u := u) (i := i) (j := j) t1 t2 u1 u2 htu (by omega) hu10 hs hi hj
  obtain ⟨⟨m1, m2⟩, hf, hd, ⟨i3, i5, i7, i9, i11⟩, ht, hb, ⟨f4, f6⟩, hcc, hn⟩ := h
  refine ⟨⟨m1, m2⟩, hf, hd, ⟨i3, i5, i7, i9, i11⟩, fun u u1 u2 => ?_, hb, ⟨f4, fun j hj => ?_⟩, hcc, hn⟩
  · obtain ⟨⟨a1, a2⟩, b, c, d⟩ := ht u u1 u2
    refine ⟨⟨a1, a2⟩, b, fun z => ⟨(c z).1, fun j hj => ?_⟩, fun z y => ⟨(d z y).1, fun j hj => ?_⟩⟩
    · show (hsA S (ma 4) (bs u + j)).toInt64 = up2 (aE A) t i v u j
      have z0 : aK A u = 0 := z
      rw [up2_ne _ _ _ (show u ≠ t from fun y => by rw [y] at z0; omega)]
      exact (c z).2 j hj
    · show up2 (hsJ S) (ma 6) (bs t + i) v (ma 6) (bs u + j) = up2 (aE A) t i v u j
      by_cases hu : u = t
      · subst hu
        by_cases hji : j = i
        · rw [hji, up2_at, up2_at]
        · rw [up2_nk _ _ _ (show bs u + j ≠ bs u + i by omega), up2_nk _ _ _ hji]
          exact (d z y).2 j hj
      · have z0 : 1 ≤ aK A u := z
        rw [up2_nk _ _ _ (hap u j u1 u2 hu y (by omega) hj), up2_ne _ _ _ hu]
        exact (d z y).2 j hj
  · show up2 (hsJ S) (ma 6) (bs t + i) v (ma 6) j = 0
    have := ((ht t t1 t2).2.2.2 hk1 hk).1
    rw [up2_nk _ _ _ (show j ≠ bs t + i by omega)]
    exact f6 j hj
end RMS
