/-! ===== copies of numbers: a run of elements at once ===== -/
def aRng (A : AS) (a b i j lo hi : Nat) : AS := (aT A, aK A, aN A, up1 (aE A) b (fun q => if j + lo ≤ q ∧ q < j + hi then aE A a (i + (q - j)) else aE A b q), aC A, aW A, aL A, aR A)
theorem up1_eta {α : Type} (f : Nat → α) (k : Nat) (v : α) (h : v = f k) : up1 f k v = f := by
  funext j
  by_cases z : j = k
  · rw [z, up1_at, h]
  · rw [up1_ne _ _ z]
theorem aRng_no (A : AS) (a b i j : Nat) {lo hi : Nat} (h : hi ≤ lo) : aRng A a b i j lo hi = A := by
  unfold aRng
  rw [up1_eta]
  funext q
  rw [if_neg (by omega)]
theorem aRng_el (A : AS) (a b i j lo hi t q : Nat) : aE (aRng A a b i j lo hi) t q = if t = b ∧ j + lo ≤ q ∧ q < j + hi then aE A a (i + (q - j)) else aE A t q := by
  show up1 (aE A) b _ t q = _
  by_cases z : t = b
  · subst z
    rw [up1_at]
    by_cases y : j + lo ≤ q ∧ q < j + hi
    · rw [if_pos y, if_pos ⟨rfl, y⟩]
    · rw [if_neg y, if_neg (fun w => y w.2)]
  · rw [up1_ne _ _ z, if_neg (fun w => z w.1)]
theorem aRng_up (A : AS) (a b i j hi : Nat) : aSetE (aRng A a b i j 0 hi) b (j + hi) (aE A a (i + hi)) = aRng A a b i j 0 (hi + 1) := by
  unfold aSetE aRng
  have : up2 (up1 (aE A) b (fun q => if j + 0 ≤ q ∧ q < j + hi then aE A a (i + (q - j)) else aE A b q)) b (j + hi) (aE A a (i + hi)) = up1 (aE A) b (fun q => if j + 0 ≤ q ∧ q < j + (hi + 1) then aE A a (i + (q - j)) else aE A b q) := by
    funext t q
    by_cases z : t = b
    · subst z
      by_cases y : q = j + hi
      · rw [y, up2_at, up1_at, if_pos (by omega), show i + (j + hi - j) = i + hi by omega]
      · rw [up2_nk _ _ _ y, up1_at, up1_at]
        by_cases w : j + 0 ≤ q ∧ q < j + hi
        · rw [if_pos w, if_pos (by omega)]
        · rw [if_neg w, if_neg (by omega)]
    · rw [up2_ne _ _ _ z, up1_ne _ _ z, up1_ne _ _ z]
  exact congrArg (fun f => ((aT A, aK A, aN A, f, aC A, aW A, aL A, aR A) : AS)) this
theorem aRng_dn (A : AS) (a b i j lo hi : Nat) (h : lo < hi) : aSetE (aRng A a b i j (lo + 1) hi) b (j + lo) (aE A a (i + lo)) = aRng A a b i j lo hi := by
  unfold aSetE aRng
  have : up2 (up1 (aE A) b (fun q => if j + (lo + 1) ≤ q ∧ q < j + hi then aE A a (i + (q - j)) else aE A b q)) b (j + lo) (aE A a (i + lo)) = up1 (aE A) b (fun q => if j + lo ≤ q ∧ q < j + hi then aE A a (i + (q - j)) else aE A b q) := by
    funext t q
    by_cases z : t = b
    · subst z
      by_cases y : q = j + lo
      · rw [y, up2_at, up1_at, if_pos (by omega), show i + (j + lo - j) = i + lo by omega]
      · rw [up2_nk _ _ _ y, up1_at, up1_at]
        by_cases w : j + (lo + 1) ≤ q ∧ q < j + hi
        · rw [if_pos w, if_pos (by omega)]
        · rw [if_neg w, if_neg (by omega)]
    · rw [up2_ne _ _ _ z, up1_ne _ _ z, up1_ne _ _ z]
  exact congrArg (fun f => ((aT A, aK A, aN A, f, aC A, aW A, aL A, aR A) : AS)) this
section CPN
variable {k : Nat} {LX : List Nat} {x : Nat} {LM : List Nat} {m : Nat} {cC cN : Nat} {ad rq ma bs : Nat → Nat} {ui uo : Nat} {A : AS}
theorem WF.rng {a b i j lo hi : Nat} (h : WF k A) (hk : aK A b < 7) : WF k (aRng A a b i j lo hi) := by
  refine ⟨h.1, h.2.1, h.2.2.1, h.2.2.2.1, fun u u1 u2 z y q hq => ?_⟩
  have z' : 7 ≤ aK A u := z
  rw [aRng_el, if_neg (fun w => by rw [w.1] at z'; omega)]
  exact h.2.2.2.2 u u1 u2 z y q hq
theorem RM.cutid {S : HS} (h : RM LM m ma bs ui uo A S) {t : Nat} (t1 : t ≠ 0) (t2 : t ≤ aT A) (hk : aK A t = 0) : ∀ q, q < aLen A t → (aE A t q).toInt32.toInt64 = aE A t q := fun q hq => by
  rw [← ((h.2.2.2.2.1 t (by omega) t2).2.2.1 hk).2 q hq, Int32.toInt32_toInt64]
/-- the class's arraycopy -/
theorem RX.rng {S : HS} {a b : Nat} {i j n : Int32} (hw : WF k A) (h : RX LX x cC cN ad rq A S) (a1 : a ≠ 0) (a2 : a ≤ aT A) (b1 : b ≠ 0) (b2 : b ≤ aT A) (ka : aK A a < 7) (kb : aK A b < 7) (hia : i.toNatClampNeg + n.toNatClampNeg ≤ aLen A a) : RX LX x cC cN ad rq (aRng A a b i.toNatClampNeg j.toNatClampNeg 0 n.toNatClampNeg) (hwJc S (rq a) (rq b) i j n) := by
  have hro := h.rown (t := b) (by omega) b2 (by omega)
  have hrn := fun u u1 u2 => h.rne hw (t := b) (by omega) b2 (by omega) (u := u) u1 u2
  have hs : ∀ c, c ≠ rq b → hsEq S (hwJc S (rq a) (rq b) i j n) c := fun c hc => ⟨rfl, rfl, rfl, rfl, rfl, if_neg hc, rfl⟩
  have haa := ((h.2.2.2.1 a (by omega) a2).2.2.1 ka).2
  obtain ⟨⟨x1, x2, x3, x4, x5, x6⟩, ⟨c1, c2, c3, c4⟩, ⟨n1, n2, n3, n4⟩, ht, hi, hj⟩ := h
  refine ⟨⟨x1, x2, x3, x4, x5, x6⟩, ⟨c1, c2, c3, c4⟩, ⟨n1, n2, n3, n4⟩, fun u u1 u2 => ?_, hi, hj⟩
  have hr := hrn u u1 u2
  by_cases hu : u = b
  · subst hu
    obtain ⟨⟨g1, g2, g3⟩, b', cc, d, ee⟩ := ht u u1 u2
    refine ⟨⟨g1, g2, g3⟩, fun z => b' z, fun z => ⟨(cc z).1, fun q hq => ?_⟩, fun z => absurd kb (show ¬ aK A u < 7 by have : 7 ≤ aK A u := z; omega), fun z => absurd kb (show ¬ aK A u < 7 by have : 10 ≤ aK A u := z; omega)⟩
    have hq' : q < aLen A u := hq
    show (if rq u = rq u then va_cpy (hsJ S (rq a)) (hsJ S (rq u)) i.toNatClampNeg j.toNatClampNeg n.toNatClampNeg else hsJ S (rq u)) q = aE (aRng A a u i.toNatClampNeg j.toNatClampNeg 0 n.toNatClampNeg) u q
    rw [if_pos rfl, aRng_el]
    unfold va_cpy
    by_cases w : j.toNatClampNeg ≤ q ∧ q < j.toNatClampNeg + n.toNatClampNeg
    · rw [if_pos w, if_pos ⟨rfl, by omega, w.2⟩]
      exact haa _ (by omega)
    · rw [if_neg w, if_neg (fun y => w ⟨by omega, y.2.2⟩)]
      exact (cc kb).2 q hq'
  · have h3 := (ht u u1 u2).mono (L1 := LX) (S1 := hwJc S (rq a) (rq b) i j n) (fun b hb => hb) (hs _ hr.1) (fun z => hs _ (hr.2 z hu))
    have e1 : ∀ q, aE (aRng A a b i.toNatClampNeg j.toNatClampNeg 0 n.toNatClampNeg) u q = aE A u q := fun q => by rw [aRng_el, if_neg (fun w => hu w.1)]
    obtain ⟨f1, f2, f3, f4, f5⟩ := h3
    exact ⟨f1, f2, fun z => ⟨(f3 z).1, fun q hq => by rw [e1]; exact (f3 z).2 q hq⟩, fun z y => ⟨(f4 z y).1, (f4 z y).2.1, fun q hq => by rw [e1]; exact (f4 z y).2.2 q hq⟩, f5⟩
/-- the model's loop over numbers, rising -/
theorem md_rise {a b : Nat} {i j n p0 p2 : Int32} {S1 : HS} (hab : a ≠ b ∨ j.toNatClampNeg ≤ i.toNatClampNeg) (a1 : a ≠ 0) (b1 : b ≠ 0) (i0 : ¬ i < 0) (j0 : ¬ j < 0) (e1 : hsA (h_X9_begin m S1) ((hsQ (h_X9_begin m S1) m 8).getD 0) p0.toNatClampNeg = Int32.ofNat a) (e2 : hsA (h_X9_begin m S1) ((hsQ (h_X9_begin m S1) m 8).getD 0) p2.toNatClampNeg = Int32.ofNat b) (hw : WF k A) (hui : ui ≤ 4096 * k) (huo : uo ≤ 64 * k) (a2 : a ≤ aT A) (b2 : b ≤ aT A) (ka : aK A a < 7) (kb : aK A b = aK A a) (hia : i.toNatClampNeg + n.toNatClampNeg ≤ aLen A a) (hjb : j.toNatClampNeg + n.toNatClampNeg ≤ aLen A b) (hcut : aK A a = 0 → ∀ q, q < aLen A a → (aE A a q).toInt32.toInt64 = aE A a q) :
    ∀ (nM : Nat) (y : Int32) (SM : HS), RM LM m ma bs ui uo (aStop 0 (aRng A a b i.toNatClampNeg j.toNatClampNeg 0 y.toNatClampNeg)) SM → ¬ y < 0 → y.toNatClampNeg ≤ n.toNatClampNeg → n.toNatClampNeg < y.toNatClampNeg + nM →
    ok_X9_copy_l217 LM m p0 i p2 j n S1 nM y SM ∧ ∃ M1 : HS, RM LM m ma bs ui uo (aStop 0 (aRng A a b i.toNatClampNeg j.toNatClampNeg 0 n.toNatClampNeg)) M1 ∧ h_X9_copy_l217 m p0 i p2 j n S1 nM y SM = (1, M1) := by
  intro nM
  induction nM with
  | zero => intro y SM hM y0 hyn f2; omega
  | succ nM ih =>
    intro y SM hM y0 hyn f2
    rw [ok_X9_copy_l217, h_X9_copy_l217]
    by_cases hy : n ≤ y
    · rw [if_pos hy]
      refine ⟨⟨fun _ => trivial, fun z => absurd hy z⟩, SM, ?_, rfl⟩
      rw [← dn_of y0 hyn hy]
      exact hM
    rw [if_neg hy]
    have hwr : WF k (aRng A a b i.toNatClampNeg j.toNatClampNeg 0 y.toNatClampNeg) := hw.rng (by omega)
    have hw0 := hwr.stop 0
    obtain ⟨la1, la2⟩ := len_i hw a1 a2 (by omega)
    obtain ⟨lb1, lb2⟩ := len_i hw b1 b2 (by omega)
    obtain ⟨u1, u2, u3⟩ := y_up y0 hy
    obtain ⟨q1, q2, q3⟩ := ix_of i0 y0 hy hia la1 la2
    obtain ⟨r1, r2, r3⟩ := ix_of j0 y0 hy hjb lb1 lb2
    have hel : h_X9_element m (Int32.ofNat a) (i + y) SM = aE A a (i.toNatClampNeg + y.toNatClampNeg) := by
      rw [hM.element hw0 hui huo a1 a2 (show aK A a < 10 by omega) q1 q2, q3]
      show aE (aRng A a b i.toNatClampNeg j.toNatClampNeg 0 y.toNatClampNeg) a _ = _
      rw [aRng_el, if_neg (fun w => by rcases hab with z | z; exact z w.1; omega)]
    have hoe := hM.okel hw0 hui huo a1 a2 (show aK A a < 10 by omega) q1 q2
    have hos := hM.okset hw0 hui huo b1 b2 (show aK A b < 10 by omega) r1 r2 (aE A a (i.toNatClampNeg + y.toNatClampNeg))
    have hok := hM.okt hw0 b2 (f := 0) (Or.inl rfl)
    have hkk : hsA SM ((hsQ SM m 0).getD 0) (Int32.ofNat b).toNatClampNeg = Int32.ofNat (aK A b) := by rw [hM.q in_0, (hM.kind hw0 b1 b2).1]; rfl
    have hfam : s_X9_isFamily (Int32.ofNat (aK A b)) = 0 := Classical.byContradiction (fun z => by have := (fam_n (aK A b) (by omega)).mp z; omega)
    have hMs := hM.set hw0 hui huo b1 b2 (show aK A b < 10 by omega) r1 r2 (v := aE A a (i.toNatClampNeg + y.toNatClampNeg)) (fun z => hcut (by have z' : aK A b = 0 := z; omega) _ (by omega))
    have hMs' : RM LM m ma bs ui uo (aStop 0 (aSetE (aRng A a b i.toNatClampNeg j.toNatClampNeg 0 y.toNatClampNeg) b (j.toNatClampNeg + y.toNatClampNeg) (aE A a (i.toNatClampNeg + y.toNatClampNeg)))) (h_X9_set m (Int32.ofNat b) (j + y) (aE A a (i.toNatClampNeg + y.toNatClampNeg)) SM) := by
      rw [← r3]
      exact hMs
    rw [aRng_up, ← u2] at hMs'
    rw [e1, e2, hel, hkk, if_pos hfam]
    obtain ⟨o2, M1, g1, g2⟩ := ih (y + 1) _ hMs' u1 (by omega) (by omega)
    exact ⟨⟨fun z => absurd z hy, fun _ => ⟨hM.1, hoe, hok.1, hok.2, fun _ => ⟨hM.1, hos, o2⟩, fun z => absurd hfam z⟩⟩, M1, g1, g2⟩
/-- the model's loop over numbers of one thing, falling -/
theorem md_fall {b : Nat} {i j n p0 p2 : Int32} {S1 : HS} (hij : i.toNatClampNeg < j.toNatClampNeg) (b1 : b ≠ 0) (i0 : ¬ i < 0) (j0 : ¬ j < 0) (e1 : hsA (h_X9_begin m S1) ((hsQ (h_X9_begin m S1) m 8).getD 0) p0.toNatClampNeg = Int32.ofNat b) (e2 : hsA (h_X9_begin m S1) ((hsQ (h_X9_begin m S1) m 8).getD 0) p2.toNatClampNeg = Int32.ofNat b) (hw : WF k A) (hui : ui ≤ 4096 * k) (huo : uo ≤ 64 * k) (b2 : b ≤ aT A) (kb : aK A b < 7) (hib : i.toNatClampNeg + n.toNatClampNeg ≤ aLen A b) (hjb : j.toNatClampNeg + n.toNatClampNeg ≤ aLen A b) (hcut : aK A b = 0 → ∀ q, q < aLen A b → (aE A b q).toInt32.toInt64 = aE A b q) :
    ∀ (nM : Nat) (w : Int32) (lo : Nat) (SM : HS), RM LM m ma bs ui uo (aStop 0 (aRng A b b i.toNatClampNeg j.toNatClampNeg lo n.toNatClampNeg)) SM → w.toInt = (lo : Int) - 1 → lo ≤ n.toNatClampNeg → lo < nM →
    ok_X9_copy_l180 LM m p0 i p2 j n S1 nM w SM ∧ ∃ M1 : HS, RM LM m ma bs ui uo (aStop 0 (aRng A b b i.toNatClampNeg j.toNatClampNeg 0 n.toNatClampNeg)) M1 ∧ h_X9_copy_l180 m p0 i p2 j n S1 nM w SM = (1, M1) := by
  intro nM
  induction nM with
  | zero => intro w lo SM hM hwl hln f2; omega
  | succ nM ih =>
    intro w lo SM hM hwl hln f2
    rw [ok_X9_copy_l180, h_X9_copy_l180]
    have n0 : (0 : Int32).toInt = 0 := by decide
    by_cases hy : w < 0
    · rw [if_pos hy]
      refine ⟨⟨fun _ => trivial, fun z => absurd hy z⟩, SM, ?_, rfl⟩
      have h0 : lo = 0 := by
        rw [Int32.lt_iff_toInt_lt, n0] at hy
        omega
      rw [h0] at hM
      exact hM
    rw [if_neg hy]
    have hlo : ∃ l, lo = l + 1 := ⟨lo - 1, by rw [Int32.lt_iff_toInt_lt, n0] at hy; omega⟩
    obtain ⟨l, rfl⟩ := hlo
    have hwl2 : w.toNatClampNeg = l := by simp only [Int32.toNatClampNeg]; omega
    have hnw : ¬ n ≤ w := by
      rw [Int32.le_iff_toInt_le]
      simp only [Int32.toNatClampNeg] at hln
      omega
    have hwr : WF k (aRng A b b i.toNatClampNeg j.toNatClampNeg (l + 1) n.toNatClampNeg) := hw.rng (by omega)
    have hw0 := hwr.stop 0
    obtain ⟨lb1, lb2⟩ := len_i hw b1 b2 (by omega)
    obtain ⟨q1, q2, q3⟩ := ix_of i0 hy hnw hib lb1 lb2
    obtain ⟨r1, r2, r3⟩ := ix_of j0 hy hnw hjb lb1 lb2
    rw [hwl2] at q3 r3
    have hel : h_X9_element m (Int32.ofNat b) (i + w) SM = aE A b (i.toNatClampNeg + l) := by
      rw [hM.element hw0 hui huo b1 b2 (show aK A b < 10 by omega) q1 q2, q3]
      show aE (aRng A b b i.toNatClampNeg j.toNatClampNeg (l + 1) n.toNatClampNeg) b _ = _
      rw [aRng_el, if_neg (fun w => by omega)]
    have hoe := hM.okel hw0 hui huo b1 b2 (show aK A b < 10 by omega) q1 q2
    have hos := hM.okset hw0 hui huo b1 b2 (show aK A b < 10 by omega) r1 r2 (aE A b (i.toNatClampNeg + l))
    have hMs := hM.set hw0 hui huo b1 b2 (show aK A b < 10 by omega) r1 r2 (v := aE A b (i.toNatClampNeg + l)) (fun z => hcut z _ (by omega))
    have hMs' : RM LM m ma bs ui uo (aStop 0 (aSetE (aRng A b b i.toNatClampNeg j.toNatClampNeg (l + 1) n.toNatClampNeg) b (j.toNatClampNeg + l) (aE A b (i.toNatClampNeg + l)))) (h_X9_set m (Int32.ofNat b) (j + w) (aE A b (i.toNatClampNeg + l)) SM) := by
      rw [← r3]
      exact hMs
    rw [aRng_dn _ _ _ _ _ _ _ (by omega)] at hMs'
    rw [e1, e2, hel]
    have hnext : (w + (-1)).toInt = (l : Int) - 1 := by
      have nm1 : (-1 : Int32).toInt = -1 := by decide
      have h3 := w.toInt_lt
      rw [Int32.lt_iff_toInt_lt, n0] at hy
      rw [i_add (by rw [nm1]; omega) (by rw [nm1]; omega), nm1, hwl]
      omega
    obtain ⟨o2, M1, g1, g2⟩ := ih (w + (-1)) l _ hMs' hnext (Nat.le_of_succ_le hln) (Nat.lt_of_succ_lt_succ f2)
    exact ⟨⟨fun z => absurd z hy, fun _ => ⟨hM.1, hoe, hM.1, hos, o2⟩⟩, M1, g1, g2⟩
end CPN
