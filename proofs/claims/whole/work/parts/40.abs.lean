/-! ===== the machine in the abstract; how the class's world and the model's world hold it ===== -/
/-- number of things; kinds; lengths or values; elements; cells; counts; latest; trace -/
abbrev AS : Type := Nat × (Nat → Nat) × (Nat → Int32) × (Nat → Nat → Int64) × (Nat → Nat) × (Nat → Int32) × Int32 × Int32
abbrev aT (A : AS) : Nat := A.1
abbrev aK (A : AS) : Nat → Nat := A.2.1
abbrev aN (A : AS) : Nat → Int32 := A.2.2.1
abbrev aE (A : AS) : Nat → Nat → Int64 := A.2.2.2.1
abbrev aC (A : AS) : Nat → Nat := A.2.2.2.2.1
abbrev aW (A : AS) : Nat → Int32 := A.2.2.2.2.2.1
abbrev aL (A : AS) : Int32 := A.2.2.2.2.2.2.1
abbrev aR (A : AS) : Int32 := A.2.2.2.2.2.2.2
def up1 {α : Type} (f : Nat → α) (k : Nat) (v : α) : Nat → α := fun j => if j = k then v else f j
theorem up1_at {α : Type} (f : Nat → α) (k : Nat) (v : α) : up1 f k v k = v := if_pos rfl
theorem up1_ne {α : Type} (f : Nat → α) {k j : Nat} (v : α) (h : j ≠ k) : up1 f k v j = f j := if_neg h
def aLen (A : AS) (t : Nat) : Nat := (aN A t).toNatClampNeg
def aStop (c : Int32) (A : AS) : AS := (aT A, aK A, aN A, aE A, aC A, if c = 0 then aW A else up1 (aW A) c.toNatClampNeg (aW A c.toNatClampNeg + 1), c, aR A)
def aSetC (A : AS) (c e : Nat) : AS := (aT A, aK A, aN A, aE A, up1 (aC A) c e, aW A, aL A, aR A)
def aSetE (A : AS) (t i : Nat) (v : Int64) : AS := (aT A, aK A, aN A, up2 (aE A) t i v, aC A, aW A, aL A, aR A)
def aSetN (A : AS) (t : Nat) (v : Int32) : AS := (aT A, aK A, up1 (aN A) t v, aE A, aC A, aW A, aL A, aR A)
def aSetR (A : AS) (v : Int32) : AS := (aT A, aK A, aN A, aE A, aC A, aW A, aL A, v)
def aNew (A : AS) (k : Nat) (n : Int32) : AS := (aT A + 1, up1 (aK A) (aT A + 1) k, up1 (aN A) (aT A + 1) n, up1 (aE A) (aT A + 1) (fun _ => 0), aC A, aW A, aL A, aR A)
/-- whether thing e (0: nothing) passes a cast -/
def aIs (A : AS) (ty : Int32) (e : Nat) : Int32 := s_X9_isKindOf (Int32.ofNat (aK A e)) ty
def aPs (A : AS) (ty : Int32) (e : Nat) : Prop := e = 0 ∨ ¬ aIs A ty e = 0
/-- after k calls -/
def WF (k : Nat) (A : AS) : Prop := aT A ≤ 65 * k ∧ k ≤ 512 ∧ (∀ t, 1 ≤ t → t ≤ aT A → aK A t ≤ 12 ∧ (aK A t < 10 → 0 ≤ (aN A t).toInt ∧ (aN A t).toInt ≤ 64)) ∧ (∀ c, c < 16 → aC A c ≤ aT A) ∧ ∀ t, 1 ≤ t → t ≤ aT A → 7 ≤ aK A t → aK A t < 10 → ∀ i, i < aLen A t → uN (aE A t i) ≤ aT A ∧ aPs A (s_X9_elementType (Int32.ofNat (aK A t))) (uN (aE A t i))
def qa (ad : Nat → Nat) (e : Nat) : Option Nat := if e = 0 then none else some (ad e)
def kx (k : Nat) : Nat := if k < 7 then 1 else if k < 10 then 5 else k - 8
theorem qa_0 (ad : Nat → Nat) : qa ad 0 = none := if_pos rfl
theorem qa_s (ad : Nat → Nat) {e : Nat} (h : e ≠ 0) : qa ad e = some (ad e) := if_neg h
/-- thing t in the class's world -/
def TX (L : List Nat) (S : HS) (A : AS) (ad rq : Nat → Nat) (cC t : Nat) : Prop :=
  (ad t ∈ L ∧ hsK S (ad t) = kx (aK A t) ∧ hsI S (ad t) 0 = Int32.ofNat (aK A t)) ∧
  (aK A t < 10 → hsI S (ad t) 1 = aN A t ∧ hsQ S (ad t) 2 = some (rq t) ∧ rq t ∈ L ∧ hsN S (rq t) = aLen A t) ∧
  (aK A t < 7 → hsK S (rq t) = 9 ∧ ∀ i, i < aLen A t → hsJ S (rq t) i = aE A t i) ∧
  (7 ≤ aK A t → aK A t < 10 → hsK S (rq t) = 10 ∧ rq t ≠ cC ∧ ∀ i, i < aLen A t → hsR S (rq t) i = qa ad (uN (aE A t i))) ∧
  (10 ≤ aK A t → hsI S (ad t) 1 = 0 ∧ hsI S (ad t) 2 = aN A t)
def RX (L : List Nat) (x cC cN : Nat) (ad rq : Nat → Nat) (A : AS) (S : HS) : Prop :=
  (x ∈ L ∧ hsK S x = 6 ∧ hsQ S x 0 = some cC ∧ hsQ S x 1 = some cN ∧ hsI S x 2 = aL A ∧ hsI S x 3 = aR A) ∧
  (cC ∈ L ∧ hsK S cC = 10 ∧ hsN S cC = 16 ∧ ∀ c, c < 16 → hsR S cC c = qa ad (aC A c)) ∧
  (cN ∈ L ∧ hsK S cN = 8 ∧ hsN S cN = 9 ∧ ∀ c, c < 9 → hsA S cN c = aW A c) ∧
  (∀ t, 1 ≤ t → t ≤ aT A → TX L S A ad rq cC t) ∧
  (∀ t u, 1 ≤ t → t ≤ aT A → 1 ≤ u → u ≤ aT A → ad t = ad u → t = u) ∧
  (∀ t u, 1 ≤ t → t ≤ aT A → 1 ≤ u → u ≤ aT A → aK A t < 10 → aK A u < 10 → rq t = rq u → t = u)
abbrev mFs : List Nat := [0, 1, 2, 4, 6, 8, 10]
def mLen (f : Nat) : Nat := if f = 4 then 2130000 else if f = 8 then 16 else if f = 10 then 9 else 33400
/-- thing t in the model's world -/
def TM (S : HS) (ma bs : Nat → Nat) (ui uo : Nat) (A : AS) (t : Nat) : Prop :=
  (hsA S (ma 0) t = Int32.ofNat (aK A t) ∧ hsA S (ma 1) t = aN A t) ∧ (aK A t < 10 → hsA S (ma 2) t = Int32.ofNat (bs t)) ∧
  (aK A t = 0 → bs t + aLen A t ≤ ui ∧ ∀ i, i < aLen A t → (hsA S (ma 4) (bs t + i)).toInt64 = aE A t i) ∧
  (1 ≤ aK A t → aK A t < 10 → bs t + aLen A t ≤ uo ∧ ∀ i, i < aLen A t → hsJ S (ma 6) (bs t + i) = aE A t i)
def RM (L : List Nat) (m : Nat) (ma bs : Nat → Nat) (ui uo : Nat) (A : AS) (S : HS) : Prop :=
  (m ∈ L ∧ hsK S m = 7) ∧ (∀ f ∈ mFs, hsQ S m f = some (ma f) ∧ ma f ∈ L ∧ hsK S (ma f) = (if f = 6 then 9 else 8) ∧ hsN S (ma f) = mLen f) ∧
  (∀ f ∈ mFs, ∀ g ∈ mFs, ma f = ma g → f = g) ∧
  (hsI S m 3 = Int32.ofNat (aT A) ∧ hsI S m 5 = Int32.ofNat ui ∧ hsI S m 7 = Int32.ofNat uo ∧ hsI S m 9 = aL A ∧ hsI S m 11 = aR A) ∧
  (∀ t, 1 ≤ t → t ≤ aT A → TM S ma bs ui uo A t) ∧
  (∀ t u, 1 ≤ t → t < u → u ≤ aT A → aK A t < 10 → aK A u < 10 → (aK A t = 0 ↔ aK A u = 0) → bs t + aLen A t ≤ bs u) ∧
  ((∀ i, ui ≤ i → hsA S (ma 4) i = 0) ∧ ∀ i, uo ≤ i → hsJ S (ma 6) i = 0) ∧
  (∀ c, c < 16 → hsA S (ma 8) c = Int32.ofNat (aC A c)) ∧ ∀ c, c < 9 → hsA S (ma 10) c = aW A c
theorem TX.mono {L L1 : List Nat} {S S1 : HS} {A : AS} {ad rq : Nat → Nat} {cC t : Nat} (h : TX L S A ad rq cC t) (hL : ∀ b ∈ L, b ∈ L1) (h1 : hsEq S S1 (ad t)) (h2 : aK A t < 10 → hsEq S S1 (rq t)) : TX L1 S1 A ad rq cC t := by
  obtain ⟨⟨a1, a2, a3⟩, b, c, d, e⟩ := h
  refine ⟨⟨hL _ a1, h1.1.trans a2, (congrFun h1.2.1 0).trans a3⟩, fun z => ?_, fun z => ?_, fun z y => ?_, fun z => ?_⟩
  · obtain ⟨b1, b2, b3, b4⟩ := b z
    exact ⟨(congrFun h1.2.1 1).trans b1, (congrFun h1.2.2.1 2).trans b2, hL _ b3, (h2 z).2.2.2.1.trans b4⟩
  · obtain ⟨c1, c2⟩ := c z
    have h3 := h2 (by omega)
    exact ⟨h3.1.trans c1, fun i hi => (congrFun h3.2.2.2.2.2.1 i).trans (c2 i hi)⟩
  · obtain ⟨c1, c2, c3⟩ := d z y
    have h3 := h2 y
    exact ⟨h3.1.trans c1, c2, fun i hi => (congrFun h3.2.2.2.2.2.2 i).trans (c3 i hi)⟩
  · obtain ⟨e1, e2⟩ := e z
    exact ⟨(congrFun h1.2.1 1).trans e1, (congrFun h1.2.1 2).trans e2⟩
theorem kx_15 {k : Nat} (h : k ≤ 12) : 1 ≤ kx k ∧ kx k ≤ 5 := by
  unfold kx
  split
  · omega
  · split <;> omega
/-- the cells of things are none of the machine's own -/
theorem TX.ne {L : List Nat} {S : HS} {A : AS} {ad rq : Nat → Nat} {cC t b : Nat} (h : TX L S A ad rq cC t) (hk : aK A t ≤ 12) (h1 : hsK S b = 6 ∨ hsK S b = 8) : ad t ≠ b ∧ (aK A t < 10 → rq t ≠ b) := by
  obtain ⟨⟨a1, a2, a3⟩, b2, c, d, e⟩ := h
  have h3 := kx_15 hk
  refine ⟨fun z => by rw [z] at a2; omega, fun hk2 z => ?_⟩
  by_cases h7 : aK A t < 7
  · have := (c h7).1
    rw [z] at this
    omega
  · have := (d (by omega) hk2).1
    rw [z] at this
    omega
theorem ca_9 {c : Int32} (h : isCa c) : c.toNatClampNeg < 9 := by
  rcases h with rfl | ⟨h1, h2⟩
  · decide
  · rw [Int32.le_iff_toInt_le, show (8 : Int32).toInt = 8 from by decide] at h2
    simp only [Int32.toNatClampNeg]
    omega
theorem RX.stop {L : List Nat} {x cC cN : Nat} {ad rq : Nat → Nat} {A : AS} {S : HS} {k : Nat} {c : Int32} (hw : WF k A) (h : RX L x cC cN ad rq A S) (hc : isCa c) : RX L x cC cN ad rq (aStop c A) (h_X8_stops x c S).2 := by
  obtain ⟨⟨x1, x2, x3, x4, x5, x6⟩, ⟨c1, c2, c3, c4⟩, ⟨n1, n2, n3, n4⟩, ht, hi, hj⟩ := h
  have hxc : cC ≠ x := fun z => by rw [z] at c2; omega
  have hxn : cN ≠ x := fun z => by rw [z] at n2; omega
  have hcn : cC ≠ cN := fun z => by rw [z] at c2; omega
  have hc9 := ca_9 hc
  have key : ∀ S1, (∀ b, b ≠ x → b ≠ cN → hsEq S S1 b) → hsK S1 x = 6 → hsQ S1 x 0 = some cC → hsQ S1 x 1 = some cN → hsI S1 x 2 = c → hsI S1 x 3 = aR A → hsK S1 cN = 8 → hsN S1 cN = 9 → (∀ j, j < 9 → hsA S1 cN j = aW (aStop c A) j) → RX L x cC cN ad rq (aStop c A) S1 := by
    intro S1 hs k1 k2 k3 k4 k5 k6 k7 k8
    have hsc := hs cC hxc hcn
    refine ⟨⟨x1, k1, k2, k3, k4, k5⟩, ⟨c1, hsc.1.trans c2, hsc.2.2.2.1.trans c3, fun j hj => (congrFun hsc.2.2.2.2.2.2 j).trans (c4 j hj)⟩, ⟨n1, k6, k7, k8⟩, fun t t1 t2 => ?_, hi, hj⟩
    have hk := (hw.2.2.1 t t1 t2).1
    have hnx := (ht t t1 t2).ne hk (b := x) (Or.inl x2)
    have hnn := (ht t t1 t2).ne hk (b := cN) (Or.inr n2)
    exact (ht t t1 t2).mono (fun b hb => hb) (hs _ hnx.1 hnn.1) (fun z => hs _ (hnx.2 z) (hnn.2 z))
  rcases hc with rfl | ⟨h1, h2⟩
  · rw [st_0]
    refine key (hwI S x 2 0) (fun b hb _ => hsEq.wI hb) x2 x3 x4 (up2_at _ _ _ _) ((up2_nk _ _ _ (by decide)).trans x6) n2 n3 (fun j hj => ?_)
    exact n4 j hj
  · rw [st_c h1 h2]
    have e1 : (hsQ (hwI S x 2 c) x 1).getD 0 = cN := by
      show (hsQ S x 1).getD 0 = cN
      rw [x4]
      rfl
    rw [e1]
    have hc0 : c ≠ 0 := fun z => h1 (by rw [z]; decide)
    refine key (hwA (hwI S x 2 c) cN c.toNatClampNeg ((hsA (hwI S x 2 c) cN c.toNatClampNeg) + 1)) (fun b hb hb2 => (hsEq.wI hb).trans (hsEq.wA hb2)) x2 x3 x4 (up2_at _ _ _ _) ((up2_nk _ _ _ (by decide)).trans x6) n2 n3 (fun j hj => ?_)
    show up2 (hsA S) cN c.toNatClampNeg (hsA S cN c.toNatClampNeg + 1) cN j = (if c = 0 then aW A else up1 (aW A) c.toNatClampNeg (aW A c.toNatClampNeg + 1)) j
    rw [if_neg hc0]
    by_cases hjc : j = c.toNatClampNeg
    · rw [hjc, up2_at, up1_at, n4 _ hc9]
    · rw [up2_nk _ _ _ hjc, up1_ne _ _ hjc, n4 j hj]
theorem TM.mono {S S1 : HS} {ma bs : Nat → Nat} {ui uo : Nat} {A : AS} {t : Nat} (h : TM S ma bs ui uo A t) (h0 : hsEq S S1 (ma 0)) (h1 : hsEq S S1 (ma 1)) (h2 : hsEq S S1 (ma 2)) (h4 : hsEq S S1 (ma 4)) (h6 : hsEq S S1 (ma 6)) : TM S1 ma bs ui uo A t := by
  obtain ⟨⟨a1, a2⟩, b, c, d⟩ := h
  refine ⟨⟨(congrFun h0.2.2.2.2.1 t).trans a1, (congrFun h1.2.2.2.2.1 t).trans a2⟩, fun z => (congrFun h2.2.2.2.2.1 t).trans (b z), fun z => ⟨(c z).1, fun i hi => ?_⟩, fun z y => ⟨(d z y).1, fun i hi => (congrFun h6.2.2.2.2.2.1 _).trans ((d z y).2 i hi)⟩⟩
  rw [show hsA S1 (ma 4) (bs t + i) = hsA S (ma 4) (bs t + i) from congrFun h4.2.2.2.2.1 _]
  exact (c z).2 i hi
theorem in_0 : 0 ∈ mFs := by decide
theorem in_1 : 1 ∈ mFs := by decide
theorem in_2 : 2 ∈ mFs := by decide
theorem in_4 : 4 ∈ mFs := by decide
theorem in_6 : 6 ∈ mFs := by decide
theorem in_8 : 8 ∈ mFs := by decide
theorem in_10 : 10 ∈ mFs := by decide
/-- the model's own cell: its int fields 9 and 11 alone are changed -/
theorem RM.own {L : List Nat} {m : Nat} {ma bs : Nat → Nat} {ui uo : Nat} {A A1 : AS} {S S1 : HS} (h : RM L m ma bs ui uo A S) (hs : ∀ b, b ≠ m → b ≠ ma 10 → hsEq S S1 b) (k1 : hsK S1 m = 7) (k2 : hsQ S1 m = hsQ S m) (k3 : ∀ f, f = 3 ∨ f = 5 ∨ f = 7 → hsI S1 m f = hsI S m f) (k9 : hsI S1 m 9 = aL A1) (k11 : hsI S1 m 11 = aR A1) (n1 : hsK S1 (ma 10) = 8) (n2 : hsN S1 (ma 10) = 9) (n3 : ∀ c, c < 9 → hsA S1 (ma 10) c = aW A1 c) (hA : aT A1 = aT A ∧ aK A1 = aK A ∧ aN A1 = aN A ∧ aE A1 = aE A ∧ aC A1 = aC A) : RM L m ma bs ui uo A1 S1 := by
  obtain ⟨⟨m1, m2⟩, hf, hd, ⟨i3, i5, i7, i9, i11⟩, ht, hb, ⟨f4, f6⟩, hc, hn⟩ := h
  obtain ⟨A0, K0, N0, E0, C0, W0, l0, r0⟩ := A
  obtain ⟨T1, K1, N1, E1, C1, W1, l1, r1⟩ := A1
  obtain ⟨e1, e2, e3, e4, e5⟩ := hA
  change T1 = A0 at e1
  change K1 = K0 at e2
  change N1 = N0 at e3
  change E1 = E0 at e4
  change C1 = C0 at e5
  subst e1 e2 e3 e4 e5
  have nm : ∀ f ∈ mFs, ma f ≠ m := fun f h z => by
    have := (hf f h).2.2.1
    rw [z, m2] at this
    split at this <;> omega
  have ne : ∀ f ∈ mFs, f ≠ 10 → hsEq S S1 (ma f) := fun f h h10 => hs _ (nm f h) (fun z => h10 (hd f h 10 in_10 z))
  refine ⟨⟨m1, k1⟩, fun f h => ?_, hd, ⟨(k3 3 (Or.inl rfl)).trans i3, (k3 5 (Or.inr (Or.inl rfl))).trans i5, (k3 7 (Or.inr (Or.inr rfl))).trans i7, k9, k11⟩, fun t t1 t2 => (ht t t1 t2).mono (ne 0 in_0 (by decide)) (ne 1 in_1 (by decide)) (ne 2 in_2 (by decide)) (ne 4 in_4 (by decide)) (ne 6 in_6 (by decide)), hb, ⟨fun i hi => (congrFun (ne 4 in_4 (by decide)).2.2.2.2.1 i).trans (f4 i hi), fun i hi => (congrFun (ne 6 in_6 (by decide)).2.2.2.2.2.1 i).trans (f6 i hi)⟩, fun c h => (congrFun (ne 8 in_8 (by decide)).2.2.2.2.1 c).trans (hc c h), n3⟩
  obtain ⟨g1, g2, g3, g4⟩ := hf f h
  refine ⟨(congrFun k2 f).trans g1, g2, ?_, ?_⟩
  · by_cases h10 : f = 10
    · subst h10
      rw [n1]
      decide
    · exact (ne f h h10).1.trans g3
  · by_cases h10 : f = 10
    · subst h10
      rw [n2]
      decide
    · exact (ne f h h10).2.2.2.1.trans g4
theorem RM.nem {L : List Nat} {m : Nat} {ma bs : Nat → Nat} {ui uo : Nat} {A : AS} {S : HS} (h : RM L m ma bs ui uo A S) {f : Nat} (hf : f ∈ mFs) : ma f ≠ m := fun z => by
  have := (h.2.1 f hf).2.2.1
  rw [z, h.1.2] at this
  split at this <;> omega
theorem RM.begin {L : List Nat} {m : Nat} {ma bs : Nat → Nat} {ui uo : Nat} {A : AS} {S : HS} (h : RM L m ma bs ui uo A S) : RM L m ma bs ui uo (aStop 0 A) (h_X9_begin m S) := by
  have h' := h
  obtain ⟨⟨m1, m2⟩, hf, hd, ⟨i3, i5, i7, i9, i11⟩, ht, hb, ff, hc, hn⟩ := h'
  refine h.own (S1 := hwI S m 9 0) (fun b hb _ => hsEq.wI hb) m2 rfl (fun f z => up2_nk _ _ _ (by omega)) (up2_at _ _ _ _) ((up2_nk _ _ _ (by decide)).trans i11) (hf 10 in_10).2.2.1 (hf 10 in_10).2.2.2 (fun c hc => hn c hc) ⟨rfl, rfl, rfl, rfl, rfl⟩
theorem RM.fails {L : List Nat} {m : Nat} {ma bs : Nat → Nat} {ui uo : Nat} {A : AS} {S : HS} {c : Int32} (h : RM L m ma bs ui uo A S) (hc : isCa c) (h0 : c ≠ 0) : RM L m ma bs ui uo (aStop c A) (h_X9_fails m c S).2 := by
  have h' := h
  obtain ⟨⟨m1, m2⟩, hf, hd, ⟨i3, i5, i7, i9, i11⟩, ht, hb, ff, hcc, hn⟩ := h'
  have q10 : hsQ S m 10 = some (ma 10) := (hf 10 in_10).1
  have e1 : (hsQ (hwI S m 9 c) m 10).getD 0 = ma 10 := by
    show (hsQ S m 10).getD 0 = ma 10
    rw [q10]
    rfl
  show RM L m ma bs ui uo (aStop c A) (hwA (hwI S m 9 c) ((hsQ (hwI S m 9 c) m 10).getD 0) c.toNatClampNeg ((hsA (hwI S m 9 c) ((hsQ (hwI S m 9 c) m 10).getD 0) c.toNatClampNeg) + 1))
  rw [e1]
  refine h.own (S1 := hwA (hwI S m 9 c) (ma 10) c.toNatClampNeg ((hsA (hwI S m 9 c) (ma 10) c.toNatClampNeg) + 1)) (fun b hb hb2 => (hsEq.wI hb).trans (hsEq.wA hb2)) m2 rfl (fun f z => up2_nk _ _ _ (by omega)) (up2_at _ _ _ _) ((up2_nk _ _ _ (by decide)).trans i11) (hf 10 in_10).2.2.1 (hf 10 in_10).2.2.2 (fun j hj => ?_) ⟨rfl, rfl, rfl, rfl, rfl⟩
  show up2 (hsA S) (ma 10) c.toNatClampNeg (hsA S (ma 10) c.toNatClampNeg + 1) (ma 10) j = (if c = 0 then aW A else up1 (aW A) c.toNatClampNeg (aW A c.toNatClampNeg + 1)) j
  rw [if_neg h0]
  by_cases hjc : j = c.toNatClampNeg
  · rw [hjc, up2_at, up1_at, hn _ (ca_9 hc)]
  · rw [up2_nk _ _ _ hjc, up1_ne _ _ hjc, hn j hj]
theorem stop_stop (c : Int32) (A : AS) : aStop c (aStop 0 A) = aStop c A := rfl
theorem RM.ends {L : List Nat} {m : Nat} {ma bs : Nat → Nat} {ui uo : Nat} {A : AS} {S : HS} {c : Int32} (h : RM L m ma bs ui uo A S) (hc : isCa c) : RM L m ma bs ui uo (aStop c A) (mEnd m c S) := by
  unfold mEnd
  by_cases h0 : c = 0
  · rw [if_pos h0, h0]
    exact h.begin
  · rw [if_neg h0, ← stop_stop]
    exact h.begin.fails hc h0
theorem WF.stop {k : Nat} {A : AS} (c : Int32) (h : WF k A) : WF k (aStop c A) := h
/-- k may grow -/
theorem WF.next {k : Nat} {A : AS} (h : WF k A) (hk : k < 512) : WF (k + 1) A := ⟨by have := h.1; omega, by omega, h.2.2⟩
