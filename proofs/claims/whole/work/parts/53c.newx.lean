/-! ===== the class's new things; rows of rows ===== -/
/-- an array of rows n long, j of its rows made, each r long -/
def aRows (A : AS) (n r : Int32) (j : Nat) : AS := (aT A + 1 + j, (fun t => if t = aT A + 1 then 7 else if aT A + 1 < t ∧ t ≤ aT A + 1 + j then 0 else aK A t), (fun t => if t = aT A + 1 then n else if aT A + 1 < t ∧ t ≤ aT A + 1 + j then r else aN A t), (fun t => if t = aT A + 1 then (fun q => if q < j then (Int32.ofNat (aT A + 2 + q)).toInt64 else 0) else if aT A + 1 < t ∧ t ≤ aT A + 1 + j then (fun _ => 0) else aE A t), aC A, aW A, aL A, aR A)
theorem aRows_0 (A : AS) (n r : Int32) : aRows A n r 0 = aNew A 7 n := by
  unfold aRows aNew
  have e1 : (fun t => if t = aT A + 1 then 7 else if aT A + 1 < t ∧ t ≤ aT A + 1 + 0 then 0 else aK A t) = up1 (aK A) (aT A + 1) 7 := by
    funext t
    unfold up1
    by_cases z : t = aT A + 1
    · rw [if_pos z, if_pos z]
    · rw [if_neg z, if_neg z, if_neg (by omega)]
  have e2 : (fun t => if t = aT A + 1 then n else if aT A + 1 < t ∧ t ≤ aT A + 1 + 0 then r else aN A t) = up1 (aN A) (aT A + 1) n := by
    funext t
    unfold up1
    by_cases z : t = aT A + 1
    · rw [if_pos z, if_pos z]
    · rw [if_neg z, if_neg z, if_neg (by omega)]
  have e3 : (fun t => if t = aT A + 1 then (fun q => if q < 0 then (Int32.ofNat (aT A + 2 + q)).toInt64 else (0 : Int64)) else if aT A + 1 < t ∧ t ≤ aT A + 1 + 0 then (fun _ => 0) else aE A t) = up1 (aE A) (aT A + 1) (fun _ => 0) := by
    funext t
    unfold up1
    by_cases z : t = aT A + 1
    · rw [if_pos z, if_pos z]
      funext q
      rw [if_neg (Nat.not_lt_zero q)]
    · rw [if_neg z, if_neg z, if_neg (by omega)]
  rw [e1, e2, e3]
theorem aRows_up (A : AS) (n r : Int32) (j : Nat) : aSetE (aNew (aRows A n r j) 0 r) (aT A + 1) j (Int32.ofNat (aT A + 2 + j)).toInt64 = aRows A n r (j + 1) := by
  have e1 : up1 (aK (aRows A n r j)) (aT A + 1 + j + 1) 0 = aK (aRows A n r (j + 1)) := by
    funext t
    show (if t = aT A + 1 + j + 1 then 0 else if t = aT A + 1 then 7 else if aT A + 1 < t ∧ t ≤ aT A + 1 + j then 0 else aK A t) = if t = aT A + 1 then 7 else if aT A + 1 < t ∧ t ≤ aT A + 1 + (j + 1) then 0 else aK A t
    by_cases z : t = aT A + 1 + j + 1
    · rw [if_pos z, if_neg (by omega), if_pos (by omega)]
    · rw [if_neg z]
      by_cases y : t = aT A + 1
      · rw [if_pos y, if_pos y]
      · rw [if_neg y, if_neg y]
        by_cases w : aT A + 1 < t ∧ t ≤ aT A + 1 + j
        · rw [if_pos w, if_pos (by omega)]
        · rw [if_neg w, if_neg (by omega)]
  have e2 : up1 (aN (aRows A n r j)) (aT A + 1 + j + 1) r = aN (aRows A n r (j + 1)) := by
    funext t
    show (if t = aT A + 1 + j + 1 then r else if t = aT A + 1 then n else if aT A + 1 < t ∧ t ≤ aT A + 1 + j then r else aN A t) = if t = aT A + 1 then n else if aT A + 1 < t ∧ t ≤ aT A + 1 + (j + 1) then r else aN A t
    by_cases z : t = aT A + 1 + j + 1
    · rw [if_pos z, if_neg (by omega), if_pos (by omega)]
    · rw [if_neg z]
      by_cases y : t = aT A + 1
      · rw [if_pos y, if_pos y]
      · rw [if_neg y, if_neg y]
        by_cases w : aT A + 1 < t ∧ t ≤ aT A + 1 + j
        · rw [if_pos w, if_pos (by omega)]
        · rw [if_neg w, if_neg (by omega)]
  have e3 : up2 (up1 (aE (aRows A n r j)) (aT A + 1 + j + 1) (fun _ => 0)) (aT A + 1) j (Int32.ofNat (aT A + 2 + j)).toInt64 = aE (aRows A n r (j + 1)) := by
    funext t q
    show _ = (if t = aT A + 1 then (fun q => if q < j + 1 then (Int32.ofNat (aT A + 2 + q)).toInt64 else 0) else if aT A + 1 < t ∧ t ≤ aT A + 1 + (j + 1) then (fun _ => 0) else aE A t) q
    by_cases z : t = aT A + 1
    · subst z
      rw [if_pos rfl]
      show _ = if q < j + 1 then (Int32.ofNat (aT A + 2 + q)).toInt64 else 0
      by_cases y : q = j
      · subst y
        rw [up2_at, if_pos (by omega)]
      · rw [up2_nk _ _ _ y, up1_ne _ _ (show aT A + 1 ≠ aT A + 1 + j + 1 by omega)]
        show (if aT A + 1 = aT A + 1 then (fun q => if q < j then (Int32.ofNat (aT A + 2 + q)).toInt64 else 0) else _) q = _
        rw [if_pos rfl]
        show (if q < j then (Int32.ofNat (aT A + 2 + q)).toInt64 else 0) = _
        by_cases w : q < j
        · rw [if_pos w, if_pos (by omega)]
        · rw [if_neg w, if_neg (by omega)]
    · rw [up2_ne _ _ _ z, if_neg z]
      by_cases y : t = aT A + 1 + j + 1
      · subst y
        rw [up1_at, if_pos (by omega)]
      · rw [up1_ne _ _ y]
        show (if t = aT A + 1 then _ else if aT A + 1 < t ∧ t ≤ aT A + 1 + j then (fun _ => 0) else aE A t) q = _
        rw [if_neg z]
        by_cases w : aT A + 1 < t ∧ t ≤ aT A + 1 + j
        · rw [if_pos w, if_pos (by omega)]
        · rw [if_neg w, if_neg (by omega)]
  show (aT A + 1 + j + 1, up1 (aK (aRows A n r j)) (aT A + 1 + j + 1) 0, up1 (aN (aRows A n r j)) (aT A + 1 + j + 1) r, up2 (up1 (aE (aRows A n r j)) (aT A + 1 + j + 1) (fun _ => 0)) (aT A + 1) j (Int32.ofNat (aT A + 2 + j)).toInt64, aC A, aW A, aL A, aR A) = _
  rw [e1, e2, e3]
  rfl
section NWX
variable {k : Nat} {A : AS}
theorem aPs_old {A1 : AS} {ty : Int32} {e : Nat} (h : aPs A ty e) (he : e ≠ 0 → aK A1 e = aK A e) : aPs A1 ty e := by
  rcases h with h | h
  · exact Or.inl h
  · by_cases z : e = 0
    · exact Or.inl z
    · right
      unfold aIs at h ⊢
      rw [he z]
      exact h
theorem WF.new {q : Nat} {n : Int32} (h : WF k A) (hk : k < 512) (hq : q ≤ 12) (hn : q < 10 → 0 ≤ n.toInt ∧ n.toInt ≤ 64) : WF (k + 1) (aNew A q n) := by
  obtain ⟨h1, h2, h3, h4, h5⟩ := h
  refine ⟨by show aT A + 1 ≤ _; omega, by omega, fun t t1 t2 => ?_, fun c hc => Nat.le_succ_of_le (h4 c hc), fun t t1 t2 z y i hi => ?_⟩
  · have t2' : t ≤ aT A + 1 := t2
    show up1 (aK A) (aT A + 1) q t ≤ 12 ∧ (up1 (aK A) (aT A + 1) q t < 10 → 0 ≤ (up1 (aN A) (aT A + 1) n t).toInt ∧ (up1 (aN A) (aT A + 1) n t).toInt ≤ 64)
    by_cases z : t = aT A + 1
    · rw [z, up1_at, up1_at]
      exact ⟨hq, hn⟩
    · rw [up1_ne _ _ z, up1_ne _ _ z]
      exact h3 t t1 (by omega)
  · have t2' : t ≤ aT A + 1 := t2
    by_cases zt : t = aT A + 1
    · have e0 : aE (aNew A q n) t i = 0 := by
        show up1 (aE A) (aT A + 1) (fun _ => 0) t i = 0
        rw [zt, up1_at]
      rw [e0]
      exact ⟨Nat.zero_le _, Or.inl rfl⟩
    · have ek : aK (aNew A q n) t = aK A t := up1_ne _ _ zt
      have en : aLen (aNew A q n) t = aLen A t := congrArg Int32.toNatClampNeg (up1_ne _ _ zt)
      have ee : aE (aNew A q n) t = aE A t := up1_ne _ _ zt
      rw [ek] at z y ⊢
      rw [en] at hi
      rw [ee]
      obtain ⟨g1, g2⟩ := h5 t t1 (by omega) z y i hi
      refine ⟨Nat.le_succ_of_le g1, aPs_old g2 (fun _ => up1_ne _ _ (by omega))⟩
theorem WF.rows {n r : Int32} {j : Nat} (h : WF k A) (hk : k < 512) (hn : 0 ≤ n.toInt ∧ n.toInt ≤ 64) (hr : 0 ≤ r.toInt ∧ r.toInt ≤ 64) (hj : j ≤ n.toNatClampNeg) : WF (k + 1) (aRows A n r j) := by
  obtain ⟨h1, h2, h3, h4, h5⟩ := h
  have hn64 : n.toNatClampNeg ≤ 64 := by simp only [Int32.toNatClampNeg]; omega
  refine ⟨by show aT A + 1 + j ≤ _; omega, by omega, fun t t1 t2 => ?_, fun c hc => ?_, fun t t1 t2 z y i hi => ?_⟩
  · have t2' : t ≤ aT A + 1 + j := t2
    show (if t = aT A + 1 then 7 else if aT A + 1 < t ∧ t ≤ aT A + 1 + j then 0 else aK A t) ≤ 12 ∧ ((if t = aT A + 1 then 7 else if aT A + 1 < t ∧ t ≤ aT A + 1 + j then 0 else aK A t) < 10 → 0 ≤ (if t = aT A + 1 then n else if aT A + 1 < t ∧ t ≤ aT A + 1 + j then r else aN A t).toInt ∧ (if t = aT A + 1 then n else if aT A + 1 < t ∧ t ≤ aT A + 1 + j then r else aN A t).toInt ≤ 64)
    by_cases z : t = aT A + 1
    · rw [if_pos z, if_pos z]
      exact ⟨by omega, fun _ => hn⟩
    · rw [if_neg z, if_neg z]
      by_cases y : aT A + 1 < t ∧ t ≤ aT A + 1 + j
      · rw [if_pos y, if_pos y]
        exact ⟨by omega, fun _ => hr⟩
      · rw [if_neg y, if_neg y]
        exact h3 t t1 (by omega)
  · have := h4 c hc
    show aC A c ≤ aT A + 1 + j
    omega
  · have t2' : t ≤ aT A + 1 + j := t2
    by_cases zt : t = aT A + 1
    · have ek : aK (aRows A n r j) t = 7 := if_pos zt
      have ee : aE (aRows A n r j) t i = if i < j then (Int32.ofNat (aT A + 2 + i)).toInt64 else 0 := by
        show (if t = aT A + 1 then (fun q => if q < j then (Int32.ofNat (aT A + 2 + q)).toInt64 else 0) else _) i = _
        rw [if_pos zt]
      rw [ek, ee]
      by_cases w : i < j
      · rw [if_pos w, uN_i64 (by omega)]
        refine ⟨by show aT A + 2 + i ≤ aT A + 1 + j; omega, Or.inr ?_⟩
        have e0 : aK (aRows A n r j) (aT A + 2 + i) = 0 := (if_neg (by omega)).trans (if_pos (by omega))
        unfold aIs
        rw [e0]
        decide
      · rw [if_neg w]
        exact ⟨Nat.zero_le _, Or.inl rfl⟩
    · by_cases w : aT A + 1 < t ∧ t ≤ aT A + 1 + j
      · have ek : aK (aRows A n r j) t = 0 := (if_neg zt).trans (if_pos w)
        omega
      · have ek : aK (aRows A n r j) t = aK A t := (if_neg zt).trans (if_neg w)
        have en : aLen (aRows A n r j) t = aLen A t := congrArg Int32.toNatClampNeg ((if_neg zt).trans (if_neg w))
        have ee : aE (aRows A n r j) t = aE A t := (if_neg zt).trans (if_neg w)
        rw [ek] at z y ⊢
        rw [en] at hi
        rw [ee]
        obtain ⟨g1, g2⟩ := h5 t t1 (by omega) z y i hi
        refine ⟨by show _ ≤ aT A + 1 + j; omega, aPs_old g2 (fun _ => (if_neg (by omega)).trans (if_neg (by omega)))⟩
/-- one thing more -/
theorem RX.new1 {L L1 : List Nat} {x cC cN : Nat} {ad rq : Nat → Nat} {S S1 : HS} {q d n0 : Nat} {n : Int32} (hw : WF k A) (hX : RX L x cC cN ad rq A S) (hold : ∀ b ∈ L, b ∈ L1 ∧ hsEq S S1 b) (hq : q ∉ L) (hd : n0 < 10 → d ∉ L) (f1 : q ∈ L1 ∧ hsK S1 q = kx n0 ∧ hsI S1 q 0 = Int32.ofNat n0) (f2 : n0 < 10 → hsI S1 q 1 = n ∧ hsQ S1 q 2 = Option.some d ∧ d ∈ L1 ∧ hsN S1 d = n.toNatClampNeg) (f3 : n0 < 7 → hsK S1 d = 9 ∧ ∀ i, hsJ S1 d i = 0) (f4 : 7 ≤ n0 → n0 < 10 → hsK S1 d = 10 ∧ ∀ i, hsR S1 d i = none) (f5 : 10 ≤ n0 → hsI S1 q 1 = 0 ∧ hsI S1 q 2 = n) : RX L1 x cC cN (up1 ad (aT A + 1) q) (up1 rq (aT A + 1) d) (aNew A n0 n) S1 := by
  have hcC := hX.2.1.1
  refine hX.more hw hold (by show aT A ≤ aT A + 1; omega) (fun t t1 t2 => ⟨⟨up1_ne _ _ (by omega), up1_ne _ _ (by omega)⟩, up1_ne _ _ (by omega), up1_ne _ _ (by omega), up1_ne _ _ (by omega)⟩) ⟨rfl, rfl, rfl, rfl⟩ (fun t t1 t2 => ?_)
  have t2' : t ≤ aT A + 1 := t2
  have tz : t = aT A + 1 := by omega
  subst tz
  have ek : aK (aNew A n0 n) (aT A + 1) = n0 := up1_at _ _ _
  have en : aN (aNew A n0 n) (aT A + 1) = n := up1_at _ _ _
  have ee : aE (aNew A n0 n) (aT A + 1) = fun _ => 0 := up1_at _ _ _
  have el : aLen (aNew A n0 n) (aT A + 1) = n.toNatClampNeg := by unfold aLen; rw [en]
  refine ⟨⟨?_, by rw [up1_at]; exact hq, fun z => by rw [ek] at z; rw [up1_at]; exact hd z⟩, fun u u1 u2 => ?_⟩
  · unfold TX
    rw [ek, en, ee, el, up1_at, up1_at]
    exact ⟨f1, f2, fun z => ⟨(f3 z).1, fun i _ => (f3 z).2 i⟩, fun z y => ⟨(f4 z y).1, fun w => hd y (w ▸ hcC), fun i _ => by rw [(f4 z y).2 i]; exact (qa_0 _).symm⟩, f5⟩
  · have u2' : u ≤ aT A + 1 := u2
    exact ⟨fun _ => by omega, fun _ _ _ => by omega⟩
/-- an array of rows, with its rows -/
theorem RX.rows {L L1 : List Nat} {x cC cN : Nat} {ad rq : Nat → Nat} {S S1 : HS} {q qe N : Nat} {n r : Int32} {ts ds : Nat → Nat} (hw : WF k A) (hX : RX L x cC cN ad rq A S) (hN : NRow L S q qe n r N ts ds L1 S1) (hNn : n.toNatClampNeg = N) (h31 : aT A + 2 + N < 2 ^ 31) : ∃ ad1 rq1 : Nat → Nat, ad1 (aT A + 1) = q ∧ RX L1 x cC cN ad1 rq1 (aRows A n r N) S1 := by
  obtain ⟨hold, ⟨q1, q2, q3, q4, q5, q6⟩, ⟨e1, e2, e3, e4, e5, e6⟩, ht, hj⟩ := hN
  have hcC := hX.2.1.1
  let ad1 : Nat → Nat := fun t => if t = aT A + 1 then q else if aT A + 1 < t ∧ t ≤ aT A + 1 + N then ts (t - (aT A + 2)) else ad t
  let rq1 : Nat → Nat := fun t => if t = aT A + 1 then qe else if aT A + 1 < t ∧ t ≤ aT A + 1 + N then ds (t - (aT A + 2)) else rq t
  have a1 : ad1 (aT A + 1) = q := if_pos rfl
  have r1 : rq1 (aT A + 1) = qe := if_pos rfl
  have a2 : ∀ i, i < N → ad1 (aT A + 2 + i) = ts i := fun i hi => ((if_neg (by omega)).trans (if_pos (by omega))).trans (congrArg ts (by omega))
  have r2 : ∀ i, i < N → rq1 (aT A + 2 + i) = ds i := fun i hi => ((if_neg (by omega)).trans (if_pos (by omega))).trans (congrArg ds (by omega))
  refine ⟨ad1, rq1, a1, hX.more hw hold (by show aT A ≤ aT A + 1 + N; omega) (fun t t1 t2 => ⟨⟨(if_neg (by omega)).trans (if_neg (by omega)), (if_neg (by omega)).trans (if_neg (by omega))⟩, (if_neg (by omega)).trans (if_neg (by omega)), (if_neg (by omega)).trans (if_neg (by omega)), (if_neg (by omega)).trans (if_neg (by omega))⟩) ⟨rfl, rfl, rfl, rfl⟩ (fun t t1 t2 => ?_)⟩
  have t2' : t ≤ aT A + 1 + N := t2
  have kO : aK (aRows A n r N) (aT A + 1) = 7 := if_pos rfl
  have nO : aN (aRows A n r N) (aT A + 1) = n := if_pos rfl
  have eO : aE (aRows A n r N) (aT A + 1) = fun q => if q < N then (Int32.ofNat (aT A + 2 + q)).toInt64 else 0 := if_pos rfl
  have kR : ∀ i, i < N → aK (aRows A n r N) (aT A + 2 + i) = 0 := fun i hi => (if_neg (by omega)).trans (if_pos (by omega))
  have nR : ∀ i, i < N → aN (aRows A n r N) (aT A + 2 + i) = r := fun i hi => (if_neg (by omega)).trans (if_pos (by omega))
  have eR : ∀ i, i < N → aE (aRows A n r N) (aT A + 2 + i) = fun _ => 0 := fun i hi => (if_neg (by omega)).trans (if_pos (by omega))
  have lO : aLen (aRows A n r N) (aT A + 1) = N := by unfold aLen; rw [nO, hNn]
  have lR : ∀ i, i < N → aLen (aRows A n r N) (aT A + 2 + i) = r.toNatClampNeg := fun i hi => by unfold aLen; rw [nR i hi]
  have hcase : ∀ u, aT A < u → u ≤ aT A + 1 + N → u = aT A + 1 ∨ ∃ i, i < N ∧ u = aT A + 2 + i := fun u u1 u2 => by
    by_cases z : u = aT A + 1
    · exact Or.inl z
    · exact Or.inr ⟨u - (aT A + 2), by omega, by omega⟩
  rcases hcase t t1 t2' with rfl | ⟨i, hi, rfl⟩
  · refine ⟨⟨?_, by rw [a1]; exact q1, fun _ => by rw [r1]; exact e1⟩, fun u u1 u2 => ?_⟩
    · unfold TX
      rw [kO, nO, eO, lO, a1, r1]
      refine ⟨⟨q2, q3, q4⟩, fun _ => ⟨q5, q6, e2, e4.trans hNn⟩, fun z => by omega, fun _ _ => ⟨e3, fun w => e1 (w ▸ hcC), fun i hi => ?_⟩, fun z => by omega⟩
      have ee : (if i < N then (Int32.ofNat (aT A + 2 + i)).toInt64 else 0) = (Int32.ofNat (aT A + 2 + i)).toInt64 := if_pos hi
      show hsR S1 qe i = qa ad1 (uN (if i < N then (Int32.ofNat (aT A + 2 + i)).toInt64 else 0))
      rw [e5 i hi, ee, uN_i64 (by omega), qa_s _ (by omega), a2 i hi]
    · have u2' : u ≤ aT A + 1 + N := u2
      rcases hcase u u1 u2' with rfl | ⟨i, hi, rfl⟩
      · exact ⟨fun _ => rfl, fun _ _ _ => rfl⟩
      · rw [a1, r1, a2 i hi, r2 i hi]
        obtain ⟨⟨-, -, t3, -⟩, -, -, d3, -⟩ := ht i hi
        exact ⟨fun z => by rw [z] at q3; omega, fun _ _ z => by rw [z] at e3; omega⟩
  · obtain ⟨⟨t1', t2'', t3, t4, t5, t6⟩, d1, d2, d3, d4, d5⟩ := ht i hi
    refine ⟨⟨?_, by rw [a2 i hi]; exact t1', fun _ => by rw [r2 i hi]; exact d1⟩, fun u u1 u2 => ?_⟩
    · unfold TX
      rw [kR i hi, nR i hi, eR i hi, lR i hi, a2 i hi, r2 i hi]
      exact ⟨⟨t2'', t3, t4⟩, fun _ => ⟨t5, t6, d2, d4⟩, fun _ => ⟨d3, fun j _ => by rw [d5]⟩, fun z => by omega, fun z => by omega⟩
    · have u2' : u ≤ aT A + 1 + N := u2
      rcases hcase u u1 u2' with rfl | ⟨j, hj', rfl⟩
      · rw [a1, r1, a2 i hi, r2 i hi]
        exact ⟨fun z => by rw [← z] at q3; omega, fun _ _ z => by rw [← z] at e3; omega⟩
      · rw [a2 i hi, r2 i hi, a2 j hj', r2 j hj']
        obtain ⟨g1, g2⟩ := hj i j hi hj'
        exact ⟨fun z => by rw [g1 z], fun _ _ z => by rw [g2 z]⟩
end NWX
