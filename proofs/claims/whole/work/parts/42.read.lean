/-! ===== what both worlds answer about one thing ===== -/
theorem cell_16 {p : Int32} (h : ¬ s_X8_isCell p = 0) : ¬ p < 0 ∧ p.toNatClampNeg < 16 ∧ vp_in p 16 := by
  unfold s_X8_isCell at h
  by_cases h1 : p < 0
  · rw [if_pos h1] at h
    exact absurd rfl h
  rw [if_neg h1] at h
  by_cases h2 : 16 ≤ p
  · rw [if_pos h2] at h
    exact absurd rfl h
  have h3 : p.toNatClampNeg < 16 := by
    rw [Int32.le_iff_toInt_le, show (16 : Int32).toInt = 16 from by decide] at h2
    simp only [Int32.toNatClampNeg]
    omega
  exact ⟨h1, h3, fun z => by rcases z with z | z; exact h1 z; omega⟩
theorem oq_qa {α : Type} {ad : Nat → Nat} {e : Nat} {n : α} {s : Nat → α} : oq (qa ad e) n s = if e = 0 then n else s (ad e) := by
  by_cases h : e = 0
  · rw [if_pos h, h, qa_0]
    rfl
  · rw [if_neg h, qa_s ad h]
    rfl
def aCast (A : AS) (ty : Int32) (e : Nat) : Int32 := if e = 0 then 1 else if aIs A ty e = 0 then 4 else 0
def aAgn (A : AS) (ty : Int32) (e : Nat) (i : Int32) : Int32 := if e = 0 then 1 else if aIs A ty e = 0 then 4 else if i < 0 then 2 else if aN A e ≤ i then 2 else 0
theorem aCast_ca (A : AS) (ty : Int32) (e : Nat) : isCa (aCast A ty e) := by
  unfold aCast
  split
  · exact isCa_1
  · split
    · exact isCa_4
    · exact isCa_0
theorem aAgn_ca (A : AS) (ty : Int32) (e : Nat) (i : Int32) : isCa (aAgn A ty e i) := by
  unfold aAgn
  repeat' split
  · exact isCa_1
  · exact isCa_4
  · exact isCa_2
  · exact isCa_2
  · exact isCa_0
/-- a type that arrays alone are of -/
def arT (ty : Int32) : Prop := ∀ k, k < 13 → ¬ s_X9_isKindOf (Int32.ofNat k) ty = 0 → k < 10
theorem arT_n : ∀ n, n < 10 → arT (Int32.ofNat n) := by unfold arT; decide +kernel
theorem arT_15 : arT 15 := by unfold arT; decide +kernel
/-- a type that one kind of numbers alone is of -/
theorem nuT : ∀ n, n < 7 → ∀ k, k < 13 → ¬ s_X9_isKindOf (Int32.ofNat k) (Int32.ofNat n) = 0 → k = n := by decide +kernel
/-- a type that arrays of things alone are of -/
def thT (ty : Int32) : Prop := ∀ k, k < 13 → ¬ s_X9_isKindOf (Int32.ofNat k) ty = 0 → 7 ≤ k ∧ k < 10
theorem thT_n : ∀ n, n < 3 → thT (Int32.ofNat (n + 7)) := by unfold thT; decide +kernel
theorem thT_15 : thT 15 := by unfold thT; decide +kernel
def owT (ty : Int32) : Prop := ∀ k, k < 13 → ¬ s_X9_isKindOf (Int32.ofNat k) ty = 0 → 10 ≤ k
theorem owT_n : ∀ n, n < 5 → n ≠ 5 → owT (Int32.ofNat (n + 10)) := by unfold owT; decide +kernel
theorem i_tn {p : Int32} (h : 0 ≤ p.toInt) : p = Int32.ofNat p.toInt.toNat := i_ofInt (by omega)
theorem num_ty {ty : Int32} : (s_X8_isNumberType ty = 0 ↔ s_X9_in ty 0 6 = 0) ∧ (¬ s_X8_isNumberType ty = 0 → ∃ n, n < 7 ∧ ty = Int32.ofNat n) := by
  refine ⟨Iff.rfl, fun h => ?_⟩
  unfold s_X8_isNumberType at h
  by_cases h1 : ty < 0
  · rw [if_pos h1] at h
    exact absurd rfl h
  rw [if_neg h1] at h
  by_cases h2 : 6 < ty
  · rw [if_pos h2] at h
    exact absurd rfl h
  rw [Int32.lt_iff_toInt_lt, show (0 : Int32).toInt = 0 from by decide] at h1
  rw [Int32.lt_iff_toInt_lt, show (6 : Int32).toInt = 6 from by decide] at h2
  exact ⟨ty.toInt.toNat, by omega, i_tn (by omega)⟩
theorem own_ty {ty : Int32} : (s_X8_isOwnType ty = 0 ↔ s_X9_in ty 10 12 = 0) ∧ (¬ s_X8_isOwnType ty = 0 → owT ty) := by
  refine ⟨Iff.rfl, fun h => ?_⟩
  unfold s_X8_isOwnType at h
  by_cases h1 : ty < 10
  · rw [if_pos h1] at h
    exact absurd rfl h
  rw [if_neg h1] at h
  by_cases h2 : 12 < ty
  · rw [if_pos h2] at h
    exact absurd rfl h
  rw [Int32.lt_iff_toInt_lt, show (10 : Int32).toInt = 10 from by decide] at h1
  rw [Int32.lt_iff_toInt_lt, show (12 : Int32).toInt = 12 from by decide] at h2
  have := owT_n (ty.toInt.toNat - 10) (by omega) (by omega)
  rw [show ty.toInt.toNat - 10 + 10 = ty.toInt.toNat by omega, ← i_tn (by omega)] at this
  exact this
theorem hol_eq (ty : Int32) : s_X9_isHolder ty = s_X8_isThingArrayType ty := by
  unfold s_X9_isHolder s_X9_in s_X8_isThingArrayType
  by_cases h1 : ty < 7
  · rw [if_pos h1, if_pos rfl, if_pos h1]
  · rw [if_neg h1, if_neg h1]
    by_cases h2 : ty ≤ 9
    · rw [if_pos h2, if_neg (Int32.not_lt.mpr h2), if_neg (by decide)]
    · rw [if_neg h2, if_pos (Int32.not_le.mp h2), if_pos rfl]
theorem hol_ty {ty : Int32} (h : ¬ s_X8_isThingArrayType ty = 0) : thT ty ∧ arT ty ∧ (ty = 15 ∨ ∃ n, n < 3 ∧ ty = Int32.ofNat (n + 7)) := by
  have key : ty = 15 ∨ ∃ n, n < 3 ∧ ty = Int32.ofNat (n + 7) := by
    unfold s_X8_isThingArrayType at h
    by_cases h15 : ty = 15
    · exact Or.inl h15
    right
    by_cases h1 : ty < 7
    · rw [if_pos h1, if_neg h15] at h
      exact absurd rfl h
    rw [if_neg h1] at h
    by_cases h2 : ty ≤ 9
    · rw [Int32.lt_iff_toInt_lt, show (7 : Int32).toInt = 7 from by decide] at h1
      rw [Int32.le_iff_toInt_le, show (9 : Int32).toInt = 9 from by decide] at h2
      refine ⟨ty.toInt.toNat - 7, by omega, ?_⟩
      rw [show ty.toInt.toNat - 7 + 7 = ty.toInt.toNat by omega]
      exact i_tn (by omega)
    · rw [if_neg h2, if_neg h15] at h
      exact absurd rfl h
  rcases key with rfl | ⟨n, hn, rfl⟩
  · exact ⟨thT_15, arT_15, Or.inl rfl⟩
  · exact ⟨thT_n n hn, arT_n _ (by omega), Or.inr ⟨n, hn, rfl⟩⟩
theorem arr_ty {ty : Int32} : (s_X8_isArrayType ty = 0 ↔ s_X9_in ty 0 9 = 0 ∧ ¬ ty = 15) ∧ (¬ s_X8_isArrayType ty = 0 → arT ty) := by
  have h9 : (9 : Int32).toInt = 9 := by decide
  have h7 : (7 : Int32).toInt = 7 := by decide
  have h6 : (6 : Int32).toInt = 6 := by decide
  have h0 : (0 : Int32).toInt = 0 := by decide
  unfold s_X8_isArrayType
  by_cases c1 : s_X8_isNumberType ty = 0
  · rw [if_pos c1]
    by_cases c2 : s_X8_isThingArrayType ty = 0
    · rw [if_pos c2]
      refine ⟨⟨fun _ => ?_, fun _ => rfl⟩, fun z => absurd rfl z⟩
      unfold s_X8_isNumberType at c1
      unfold s_X8_isThingArrayType at c2
      have n15 : ¬ ty = 15 := by
        intro z
        subst z
        revert c2
        decide
      refine ⟨?_, n15⟩
      by_cases d1 : ty < 0
      · exact in_lo d1
      rw [if_neg d1] at c1
      by_cases d2 : 6 < ty
      · by_cases d3 : ty < 7
        · rw [Int32.lt_iff_toInt_lt, h6] at d2
          rw [Int32.lt_iff_toInt_lt, h7] at d3
          omega
        · rw [if_neg d3] at c2
          by_cases d4 : ty ≤ 9
          · rw [if_pos d4] at c2
            exact absurd c2 (by decide)
          · exact in_hi d1 d4
      · rw [if_neg d2] at c1
        exact absurd c1 (by decide)
    · rw [if_neg c2]
      obtain ⟨-, har, h15⟩ := hol_ty c2
      refine ⟨⟨fun z => absurd z (by decide), fun z => ?_⟩, fun _ => har⟩
      rcases h15 with rfl | ⟨n, hn, rfl⟩
      · exact absurd rfl z.2
      · have : n = 0 ∨ n = 1 ∨ n = 2 := by omega
        rcases this with rfl | rfl | rfl <;> exact absurd z.1 (by decide)
  · rw [if_neg c1]
    obtain ⟨n, hn, rfl⟩ := num_ty.2 c1
    refine ⟨⟨fun z => absurd z (by decide), fun z => ?_⟩, fun _ => arT_n n (by omega)⟩
    have : ∀ n, n < 7 → ¬ s_X9_in (Int32.ofNat n) 0 9 = 0 := by decide
    exact absurd z.1 (this n hn)
theorem ca_in {c : Int32} (hc : isCa c) : vp_in c 9 := by
  have h9 := ca_9 hc
  intro z
  rcases hc with rfl | ⟨h1, h2⟩
  · rcases z with z | z
    · exact absurd z (by decide)
    · exact absurd z (by decide)
  · rcases z with z | z
    · apply h1
      rw [Int32.lt_iff_toInt_lt, show (0 : Int32).toInt = 0 from by decide] at z
      rw [Int32.lt_iff_toInt_lt, show (1 : Int32).toInt = 1 from by decide]
      omega
    · omega
section RDX
variable {L : List Nat} {x cC cN : Nat} {ad rq : Nat → Nat} {A : AS} {S : HS} {k : Nat}
theorem RX.q0 (h : RX L x cC cN ad rq A S) : hsQ S x 0 = some cC := h.1.2.2.1
theorem RX.q1 (h : RX L x cC cN ad rq A S) : hsQ S x 1 = some cN := h.1.2.2.2.1
theorem RX.cell (h : RX L x cC cN ad rq A S) {p : Int32} (hp : ¬ s_X8_isCell p = 0) : hsR S cC p.toNatClampNeg = qa ad (aC A p.toNatClampNeg) := h.2.1.2.2.2 _ (cell_16 hp).2.1
theorem RX.okx (h : RX L x cC cN ad rq A S) : x ∈ L ∧ hsK S x = 6 := ⟨h.1.1, h.1.2.1⟩
theorem RX.okc (h : RX L x cC cN ad rq A S) {p : Int32} (hp : ¬ s_X8_isCell p = 0) : (x ∈ L ∧ hsK S x = 6 ∧ hsQ S x 0 ≠ none) ∧ (((hsQ S x 0).getD 0) ∈ L ∧ hsK S ((hsQ S x 0).getD 0) = 10 ∧ vp_in p (hsN S ((hsQ S x 0).getD 0))) := by
  have hq := h.q0
  rw [hq]
  refine ⟨⟨h.1.1, h.1.2.1, fun z => by cases z⟩, h.2.1.1, h.2.1.2.1, ?_⟩
  show vp_in p (hsN S cC)
  rw [h.2.1.2.2.1]
  exact (cell_16 hp).2.2
theorem RX.okst (h : RX L x cC cN ad rq A S) {c : Int32} (hc : isCa c) : ok_X8_stops L x c S := by
  have hq : (hsQ (hwI S x 2 c) x 1).getD 0 = cN := by
    show (hsQ S x 1).getD 0 = cN
    rw [h.q1]
    rfl
  have hin := ca_in hc
  unfold ok_X8_stops
  rw [hq]
  have h9 : hsN (hwI S x 2 c) cN = 9 := h.2.2.1.2.2.1
  have hr : cN ∈ L ∧ hsK (hwI S x 2 c) cN = 8 ∧ vp_in c (hsN (hwI S x 2 c) cN) := ⟨h.2.2.1.1, h.2.2.1.2.1, by rw [h9]; exact hin⟩
  exact ⟨h.okx, fun _ => trivial, fun _ => ⟨fun _ => ⟨⟨h.1.1, h.1.2.1, fun z => by rw [show hsQ (hwI S x 2 c) x 1 = some cN from h.q1] at z; cases z⟩, hr, hr, trivial⟩, fun _ => trivial⟩⟩
theorem RX.cle (h : RX L x cC cN ad rq A S) (hw : WF k A) {p : Int32} (hp : ¬ s_X8_isCell p = 0) : aC A p.toNatClampNeg ≤ aT A := hw.2.2.2.1 _ (cell_16 hp).2.1
/-- a thing's cell -/
theorem RX.thing (h : RX L x cC cN ad rq A S) (hw : WF k A) {e : Nat} (h1 : e ≠ 0) (h2 : e ≤ aT A) : (ad e ∈ L ∧ 1 ≤ hsK S (ad e) ∧ hsK S (ad e) ≤ 5) ∧ (ad e ∈ L ∧ (hsK S (ad e) = 1 ∨ hsK S (ad e) = 2 ∨ hsK S (ad e) = 3 ∨ hsK S (ad e) = 4 ∨ hsK S (ad e) = 5)) ∧ hsK S (ad e) = kx (aK A e) ∧ hsI S (ad e) 0 = Int32.ofNat (aK A e) := by
  obtain ⟨⟨a1, a2, a3⟩, -⟩ := h.2.2.2.1 e (by omega) h2
  have hk := kx_15 (hw.2.2.1 e (by omega) h2).1
  rw [← a2] at hk
  exact ⟨⟨a1, hk.1, hk.2⟩, ⟨a1, by omega⟩, a2, a3⟩
theorem v_is {a : Nat} {ty : Int32} {e : Nat} (h : hsI S a 0 = Int32.ofNat (aK A e)) : h_X6_isOf a ty S = aIs A ty e := by
  unfold h_X6_isOf aIs s_X9_isKindOf
  rw [h]
theorem is_01 (a b : Int32) : s_X9_isKindOf a b = 0 ∨ s_X9_isKindOf a b = 1 := by
  unfold s_X9_isKindOf
  repeat' split
  all_goals first | exact Or.inl rfl | exact Or.inr rfl
theorem RX.cast (h : RX L x cC cN ad rq A S) (hw : WF k A) {ty : Int32} {e : Nat} (h2 : e ≤ aT A) : (if e = 0 then h_X8_castCause_n ty S else h_X8_castCause_s ty (ad e) S) = aCast A ty e := by
  unfold aCast
  by_cases h0 : e = 0
  · rw [if_pos h0, if_pos h0]
    rfl
  · rw [if_neg h0, if_neg h0]
    unfold h_X8_castCause_s h_X8_passesCast_s
    rw [v_is (h.thing hw h0 h2).2.2.2]
    by_cases hz : aIs A ty e = 0
    · rw [if_pos hz, if_pos rfl, if_pos hz]
    · rw [if_neg hz, if_neg (by decide), if_neg hz]
theorem RX.elem (h : RX L x cC cN ad rq A S) (hw : WF k A) {ty : Int32} {e : Nat} {i : Int32} (hty : arT ty) (h2 : e ≤ aT A) : (if e = 0 then h_X8_elementCause_n ty i S else h_X8_elementCause_s ty (ad e) i S) = aAgn A ty e i := by
  have hc := h.cast hw (ty := ty) h2
  unfold aAgn
  by_cases h0 : e = 0
  · rw [if_pos h0, if_pos h0]
    rfl
  · rw [if_neg h0, if_neg h0]
    rw [if_neg h0] at hc
    unfold aCast at hc
    rw [if_neg h0] at hc
    unfold h_X8_elementCause_s
    rw [hc]
    by_cases hz : aIs A ty e = 0
    · rw [if_pos hz, if_neg (by decide), if_pos hz]
    · rw [if_neg hz, if_pos rfl, if_neg hz]
      have hk := (hw.2.2.1 e (by omega) h2).1
      have hl := ((h.2.2.2.1 e (by omega) h2).2.1 (hty _ (by omega) hz)).1
      unfold h_X6_holds
      rw [hl]
      by_cases h3 : i < 0
      · rw [if_pos h3, if_pos rfl, if_pos h3]
      · rw [if_neg h3, if_neg h3]
        by_cases h4 : aN A e ≤ i
        · rw [if_pos h4, if_pos rfl, if_pos h4]
        · rw [if_neg h4, if_neg (by decide), if_neg h4]
end RDX
section RDM
variable {L : List Nat} {m : Nat} {ma bs : Nat → Nat} {ui uo : Nat} {A : AS} {S : HS} {k : Nat}
theorem RM.q (h : RM L m ma bs ui uo A S) {f : Nat} (hf : f ∈ mFs) : (hsQ S m f).getD 0 = ma f := by
  rw [(h.2.1 f hf).1]
  rfl
theorem RM.okq (h : RM L m ma bs ui uo A S) {f : Nat} (hf : f ∈ mFs) : m ∈ L ∧ hsK S m = 7 ∧ hsQ S m f ≠ none := ⟨h.1.1, h.1.2, fun z => by rw [(h.2.1 f hf).1] at z; cases z⟩
theorem RM.oka (h : RM L m ma bs ui uo A S) {f : Nat} (hf : f ∈ mFs) (h6 : f ≠ 6) {p : Int32} (hp : vp_in p (mLen f)) : (hsQ S m f).getD 0 ∈ L ∧ hsK S ((hsQ S m f).getD 0) = 8 ∧ vp_in p (hsN S ((hsQ S m f).getD 0)) := by
  rw [h.q hf]
  obtain ⟨a1, a2, a3, a4⟩ := h.2.1 f hf
  rw [if_neg h6] at a3
  exact ⟨a2, a3, by rw [a4]; exact hp⟩
theorem RM.okj (h : RM L m ma bs ui uo A S) {p : Int32} (hp : vp_in p 33400) : (hsQ S m 6).getD 0 ∈ L ∧ hsK S ((hsQ S m 6).getD 0) = 9 ∧ vp_in p (hsN S ((hsQ S m 6).getD 0)) := by
  rw [h.q in_6]
  obtain ⟨a1, a2, a3, a4⟩ := h.2.1 6 in_6
  rw [if_pos rfl] at a3
  exact ⟨a2, a3, by rw [a4]; exact hp⟩
theorem RM.cell (h : RM L m ma bs ui uo A S) {p : Int32} (hp : ¬ s_X8_isCell p = 0) : hsA S (ma 8) p.toNatClampNeg = Int32.ofNat (aC A p.toNatClampNeg) := h.2.2.2.2.2.2.2.1 _ (cell_16 hp).2.1
theorem nN {e : Nat} (h : e < 2 ^ 31) : (Int32.ofNat e).toNatClampNeg = e := by
  simp only [Int32.toNatClampNeg]
  rw [i_toInt h]
  omega
theorem n0 {e : Nat} (h : e < 2 ^ 31) : Int32.ofNat e = 0 ↔ e = 0 := by
  constructor
  · intro z
    have := nN h
    rw [z] at this
    exact this.symm
  · rintro rfl
    rfl
theorem wf_31 (hw : WF k A) {e : Nat} (h2 : e ≤ aT A) : e < 33400 ∧ e < 2 ^ 31 := by
  have := hw.1
  have := hw.2.1
  omega
theorem vp_n {e n : Nat} (h : e < n) (h2 : e < 2 ^ 31) : vp_in (Int32.ofNat e) n := by
  intro z
  rcases z with z | z
  · rw [Int32.lt_iff_toInt_lt, i_toInt h2, show (0 : Int32).toInt = 0 from by decide] at z
    omega
  · rw [nN h2] at z
    omega
theorem RM.kind (h : RM L m ma bs ui uo A S) (hw : WF k A) {e : Nat} (h1 : e ≠ 0) (h2 : e ≤ aT A) : hsA S (ma 0) (Int32.ofNat e).toNatClampNeg = Int32.ofNat (aK A e) ∧ hsA S (ma 1) (Int32.ofNat e).toNatClampNeg = aN A e := by
  rw [nN (wf_31 hw h2).2]
  exact (h.2.2.2.2.1 e (by omega) h2).1
theorem RM.pass (h : RM L m ma bs ui uo A S) (hw : WF k A) {ty : Int32} {e : Nat} (h2 : e ≤ aT A) : h_X9_passes m (Int32.ofNat e) ty S = if e = 0 then 1 else if aIs A ty e = 0 then 0 else 1 := by
  have hn := n0 (wf_31 hw h2).2
  unfold h_X9_passes
  by_cases h0 : e = 0
  · rw [if_pos h0, if_pos (hn.mpr h0)]
  · rw [if_neg h0, if_neg (fun z => h0 (hn.mp z)), h.q in_0, (h.kind hw h0 h2).1]
    rfl
theorem RM.against (h : RM L m ma bs ui uo A S) (hw : WF k A) {ty : Int32} {e : Nat} {i : Int32} (hty : arT ty) (h2 : e ≤ aT A) : h_X9_against m ty (Int32.ofNat e) i S = aAgn A ty e i := by
  have hn := n0 (wf_31 hw h2).2
  unfold h_X9_against aAgn
  rw [h.pass hw h2]
  by_cases h0 : e = 0
  · rw [if_pos h0, if_neg (by decide), if_pos (hn.mpr h0), if_pos h0]
  · rw [if_neg h0, if_neg h0]
    by_cases hz : aIs A ty e = 0
    · rw [if_pos hz, if_pos rfl, if_pos hz]
    · rw [if_neg hz, if_neg (by decide), if_neg (fun z => h0 (hn.mp z)), if_neg hz, h.q in_1, (h.kind hw h0 h2).2]
      have hk := (hw.2.2.1 e (by omega) h2)
      have hl := hk.2 (hty _ (by omega) hz)
      have n1 : (1 : Int32).toInt = 1 := by decide
      have hs : (aN A e - 1).toInt = (aN A e).toInt - 1 := by rw [i_sub (by rw [n1]; omega) (by rw [n1]; omega), n1]
      unfold s_X9_in
      by_cases h3 : i < 0
      · rw [if_pos h3, if_pos rfl, if_pos h3]
      · rw [if_neg h3, if_neg h3]
        by_cases h4 : aN A e ≤ i
        · have h5 : aN A e - 1 < i := by
            rw [Int32.lt_iff_toInt_lt, hs]
            rw [Int32.le_iff_toInt_le] at h4
            omega
          rw [if_pos h4, if_pos h5, if_pos rfl]
        · have h5 : ¬ aN A e - 1 < i := by
            rw [Int32.lt_iff_toInt_lt, hs]
            rw [Int32.le_iff_toInt_le] at h4
            omega
          rw [if_neg h4, if_neg h5, if_neg (by decide)]
theorem RM.okpass (h : RM L m ma bs ui uo A S) (hw : WF k A) {ty : Int32} {e : Nat} (h2 : e ≤ aT A) : ok_X9_passes L m (Int32.ofNat e) ty S := by
  have h3 := wf_31 hw h2
  unfold ok_X9_passes
  exact ⟨fun _ => trivial, fun _ => ⟨h.okq in_0, h.oka in_0 (by decide) (vp_n h3.1 h3.2), fun _ => trivial, fun _ => trivial⟩⟩
theorem RM.okagn (h : RM L m ma bs ui uo A S) (hw : WF k A) {ty : Int32} {e : Nat} {i : Int32} (h2 : e ≤ aT A) : ok_X9_against L m ty (Int32.ofNat e) i S := by
  have h3 := wf_31 hw h2
  unfold ok_X9_against
  exact ⟨h.1, h.okpass hw h2, fun _ => trivial, fun _ => ⟨fun _ => trivial, fun _ => ⟨h.okq in_1, h.oka in_1 (by decide) (vp_n h3.1 h3.2), fun _ => trivial, fun _ => trivial⟩⟩⟩
theorem RM.okfail (h : RM L m ma bs ui uo A S) {c : Int32} (hc : isCa c) : ok_X9_fails L m c S := by
  have hin := ca_in hc
  have ho := h.oka in_10 (by decide) (p := c) hin
  unfold ok_X9_fails
  exact ⟨h.1, h.okq in_10, ho, ho, trivial⟩
end RDM
