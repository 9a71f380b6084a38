/-! ===== the same where an act has begun, or has looked for its cause ===== -/
section WRM
variable {L : List Nat} {m : Nat} {ma bs : Nat → Nat} {ui uo : Nat} {A : AS} {S : HS} {k : Nat} {e : Nat} {ty i p : Int32}
theorem RM.b_ok (h : RM L m ma bs ui uo A S) : m ∈ L ∧ hsK (h_X9_begin m S) m = 7 := h.begin.1
theorem RM.b_cell (h : RM L m ma bs ui uo A S) (hp : ¬ s_X8_isCell p = 0) : hsA (h_X9_begin m S) ((hsQ (h_X9_begin m S) m 8).getD 0) p.toNatClampNeg = Int32.ofNat (aC A p.toNatClampNeg) := h.begin.cellq hp
theorem RM.b_pass (h : RM L m ma bs ui uo A S) (hw : WF k A) (h2 : e ≤ aT A) : h_X9_passes m (Int32.ofNat e) ty (h_X9_begin m S) = if e = 0 then 1 else if aIs A ty e = 0 then 0 else 1 := h.begin.pass (hw.stop 0) h2
theorem RM.b_agn (h : RM L m ma bs ui uo A S) (hw : WF k A) (hty : arT ty) (h2 : e ≤ aT A) : h_X9_against m ty (Int32.ofNat e) i (h_X9_begin m S) = aAgn A ty e i := h.begin.against (hw.stop 0) hty h2
theorem RM.b_kind (h : RM L m ma bs ui uo A S) (hw : WF k A) (h1 : e ≠ 0) (h2 : e ≤ aT A) : hsA (h_X9_begin m S) ((hsQ (h_X9_begin m S) m 0).getD 0) (Int32.ofNat e).toNatClampNeg = Int32.ofNat (aK A e) := by
  rw [h.begin.q in_0]
  exact (h.begin.kind (hw.stop 0) h1 h2).1
theorem RM.b_len (h : RM L m ma bs ui uo A S) (hw : WF k A) (h1 : e ≠ 0) (h2 : e ≤ aT A) : hsA (h_X9_begin m S) ((hsQ (h_X9_begin m S) m 1).getD 0) (Int32.ofNat e).toNatClampNeg = aN A e := by
  rw [h.begin.q in_1]
  exact (h.begin.kind (hw.stop 0) h1 h2).2
theorem RM.b_el (h : RM L m ma bs ui uo A S) (hw : WF k A) (hui : ui ≤ 4096 * k) (huo : uo ≤ 64 * k) (h1 : e ≠ 0) (h2 : e ≤ aT A) (hk : aK A e < 10) (i0 : ¬ i < 0) (i1 : ¬ aN A e ≤ i) : h_X9_element m (Int32.ofNat e) i (h_X9_begin m S) = aE A e i.toNatClampNeg := h.begin.element (hw.stop 0) hui huo h1 h2 hk i0 i1
theorem RM.b_okel (h : RM L m ma bs ui uo A S) (hw : WF k A) (hui : ui ≤ 4096 * k) (huo : uo ≤ 64 * k) (h1 : e ≠ 0) (h2 : e ≤ aT A) (hk : aK A e < 10) (i0 : ¬ i < 0) (i1 : ¬ aN A e ≤ i) : ok_X9_element L m (Int32.ofNat e) i (h_X9_begin m S) := h.begin.okel (hw.stop 0) hui huo h1 h2 hk i0 i1
theorem RM.b_okpass (h : RM L m ma bs ui uo A S) (hw : WF k A) (h2 : e ≤ aT A) : ok_X9_passes L m (Int32.ofNat e) ty (h_X9_begin m S) := h.begin.okpass (hw.stop 0) h2
theorem RM.b_okagn (h : RM L m ma bs ui uo A S) (hw : WF k A) (h2 : e ≤ aT A) : ok_X9_against L m ty (Int32.ofNat e) i (h_X9_begin m S) := h.begin.okagn (hw.stop 0) h2
theorem RM.b_ok8 (h : RM L m ma bs ui uo A S) (hp : ¬ s_X8_isCell p = 0) : (m ∈ L ∧ hsK (h_X9_begin m S) m = 7 ∧ hsQ (h_X9_begin m S) m 8 ≠ none) ∧ ((hsQ (h_X9_begin m S) m 8).getD 0 ∈ L ∧ hsK (h_X9_begin m S) ((hsQ (h_X9_begin m S) m 8).getD 0) = 8 ∧ vp_in p (hsN (h_X9_begin m S) ((hsQ (h_X9_begin m S) m 8).getD 0))) := h.begin.ok8 hp
theorem RM.b_okt (h : RM L m ma bs ui uo A S) (hw : WF k A) (h2 : e ≤ aT A) {f : Nat} (hf : f = 0 ∨ f = 1 ∨ f = 2) : (m ∈ L ∧ hsK (h_X9_begin m S) m = 7 ∧ hsQ (h_X9_begin m S) m f ≠ none) ∧ ((hsQ (h_X9_begin m S) m f).getD 0 ∈ L ∧ hsK (h_X9_begin m S) ((hsQ (h_X9_begin m S) m f).getD 0) = 8 ∧ vp_in (Int32.ofNat e) (hsN (h_X9_begin m S) ((hsQ (h_X9_begin m S) m f).getD 0))) := h.begin.okt (hw.stop 0) h2 hf
theorem RM.b_okf (h : RM L m ma bs ui uo A S) {c : Int32} (hc : isCa c) : (m ∈ L ∧ hsK (h_X9_begin m S) m = 7) ∧ ok_X9_fails L m c (h_X9_begin m S) ∧ True := ⟨h.begin.1, h.begin.okfail hc, trivial⟩
end WRM
section WRX
variable {L : List Nat} {x cC cN : Nat} {ad rq : Nat → Nat} {A : AS} {S : HS} {k : Nat} {e : Nat} {ty i p c : Int32}
theorem RX.castS (h : RX L x cC cN ad rq A S) (hw : WF k A) (h1 : e ≠ 0) (h2 : e ≤ aT A) : h_X8_castCause_s ty (ad e) S = aCast A ty e := by
  have := h.cast hw (ty := ty) h2
  rw [if_neg h1] at this
  exact this
theorem RX.elemS (h : RX L x cC cN ad rq A S) (hw : WF k A) (hty : arT ty) (h1 : e ≠ 0) (h2 : e ≤ aT A) : h_X8_elementCause_s ty (ad e) i S = aAgn A ty e i := by
  have := h.elem hw (ty := ty) (i := i) hty h2
  rw [if_neg h1] at this
  exact this
theorem RX.s_okc (h : RX L x cC cN ad rq A S) (hw : WF k A) (hc : isCa c) (hp : ¬ s_X8_isCell p = 0) : (x ∈ L ∧ hsK (h_X8_stops x c S).2 x = 6 ∧ hsQ (h_X8_stops x c S).2 x 0 ≠ none) ∧ (((hsQ (h_X8_stops x c S).2 x 0).getD 0) ∈ L ∧ hsK (h_X8_stops x c S).2 ((hsQ (h_X8_stops x c S).2 x 0).getD 0) = 10 ∧ vp_in p (hsN (h_X8_stops x c S).2 ((hsQ (h_X8_stops x c S).2 x 0).getD 0))) := (h.stop hw hc).okc hp
theorem RX.s_some (h : RX L x cC cN ad rq A S) (hw : WF k A) (hc : isCa c) (hp : ¬ s_X8_isCell p = 0) {a : Nat} (ha : hsR (h_X8_stops x c S).2 ((hsQ (h_X8_stops x c S).2 x 0).getD 0) p.toNatClampNeg = Option.some a) : ∃ e, e = aC A p.toNatClampNeg ∧ e ≠ 0 ∧ e ≤ aT A ∧ a = ad e := (h.stop hw hc).some (hw.stop c) hp ha
theorem RX.s_cellq (h : RX L x cC cN ad rq A S) (hw : WF k A) (hc : isCa c) (hp : ¬ s_X8_isCell p = 0) : hsR (h_X8_stops x c S).2 ((hsQ (h_X8_stops x c S).2 x 0).getD 0) p.toNatClampNeg = qa ad (aC A p.toNatClampNeg) := (h.stop hw hc).cellq hp
theorem RX.s_row (h : RX L x cC cN ad rq A S) (hw : WF k A) (hc : isCa c) (h1 : e ≠ 0) (h2 : e ≤ aT A) (hk : aK A e < 10) : hsI (h_X8_stops x c S).2 (ad e) 1 = aN A e := ((h.stop hw hc).row h1 h2 hk).1
theorem RX.s_thing (h : RX L x cC cN ad rq A S) (hw : WF k A) (hc : isCa c) (h1 : e ≠ 0) (h2 : e ≤ aT A) : (ad e ∈ L ∧ 1 ≤ hsK (h_X8_stops x c S).2 (ad e) ∧ hsK (h_X8_stops x c S).2 (ad e) ≤ 5) ∧ hsK (h_X8_stops x c S).2 (ad e) = kx (aK A e) ∧ hsI (h_X8_stops x c S).2 (ad e) 0 = Int32.ofNat (aK A e) := by
  obtain ⟨t1, -, t3, t4⟩ := (h.stop hw hc).thing (hw.stop c) h1 h2
  exact ⟨t1, t3, t4⟩
theorem RX.s_num (h : RX L x cC cN ad rq A S) (hw : WF k A) (hc : isCa c) (h1 : e ≠ 0) (h2 : e ≤ aT A) (hk : aK A e < 7) (i0 : ¬ i < 0) (i1 : ¬ aN A e ≤ i) : h_X8_numberAt_s (ad e) i (h_X8_stops x c S).2 = aE A e i.toNatClampNeg := (h.stop hw hc).number (hw.stop c) h1 h2 hk i0 i1
theorem RX.s_el (h : RX L x cC cN ad rq A S) (hw : WF k A) (hc : isCa c) (h1 : e ≠ 0) (h2 : e ≤ aT A) (hk7 : 7 ≤ aK A e) (hk : aK A e < 10) (i0 : ¬ i < 0) (i1 : ¬ aN A e ≤ i) : h_X8_elementAt_s (ad e) i (h_X8_stops x c S).2 = qa ad (uN (aE A e i.toNatClampNeg)) := (h.stop hw hc).element (hw.stop c) h1 h2 hk7 hk i0 i1
theorem RX.s_own (h : RX L x cC cN ad rq A S) (hw : WF k A) (hc : isCa c) (h1 : e ≠ 0) (h2 : e ≤ aT A) (hk : 10 ≤ aK A e) : (ad e ∈ L ∧ 2 ≤ hsK (h_X8_stops x c S).2 (ad e) ∧ hsK (h_X8_stops x c S).2 (ad e) ≤ 4) ∧ hsI (h_X8_stops x c S).2 (ad e) 2 = aN A e ∧ hsK (h_X8_stops x c S).2 (ad e) = aK A e - 8 := (h.stop hw hc).own (hw.stop c) h1 h2 hk
theorem RX.okn (ty : Int32) : ok_X8_castCause_n L ty S := ⟨trivial, fun _ => trivial, fun _ => trivial⟩
theorem RX.oken (ty : Int32) : ok_X8_elementCause_n L ty i S := ⟨⟨trivial, fun _ => trivial, fun _ => trivial⟩, fun _ => trivial, fun _ => trivial⟩
/-- the ends of an act of the class: with a cause, and without -/
theorem st_not {z : Int32} (hc : isCa z) (h0 : z ≠ 0) (x : Nat) (S : HS) : ¬ (h_X8_stops x z S).1 = 0 := fun y => h0 (hc.stop.mp y)
end WRX
theorem aCast_0 {A : AS} {ty : Int32} {e : Nat} (h : aCast A ty e = 0) : e ≠ 0 ∧ ¬ aIs A ty e = 0 := by
  unfold aCast at h
  by_cases h0 : e = 0
  · rw [if_pos h0] at h
    exact absurd h (by decide)
  · rw [if_neg h0] at h
    by_cases h1 : aIs A ty e = 0
    · rw [if_pos h1] at h
      exact absurd h (by decide)
    · exact ⟨h0, h1⟩
theorem aAgn_0 {A : AS} {ty : Int32} {e : Nat} {i : Int32} (h : aAgn A ty e i = 0) : e ≠ 0 ∧ ¬ aIs A ty e = 0 ∧ ¬ i < 0 ∧ ¬ aN A e ≤ i := by
  unfold aAgn at h
  by_cases h0 : e = 0
  · rw [if_pos h0] at h
    exact absurd h (by decide)
  rw [if_neg h0] at h
  by_cases h1 : aIs A ty e = 0
  · rw [if_pos h1] at h
    exact absurd h (by decide)
  rw [if_neg h1] at h
  by_cases h2 : i < 0
  · rw [if_pos h2] at h
    exact absurd h (by decide)
  rw [if_neg h2] at h
  by_cases h3 : aN A e ≤ i
  · rw [if_pos h3] at h
    exact absurd h (by decide)
  exact ⟨h0, h1, h2, h3⟩
theorem ca_le {c : Int32} (h : isCa c) : c ≤ 0 ↔ c = 0 := by
  rcases h with rfl | ⟨h1, h2⟩
  · decide
  · constructor
    · intro z
      exfalso
      apply h1
      rw [Int32.le_iff_toInt_le, show (0 : Int32).toInt = 0 from by decide] at z
      rw [Int32.lt_iff_toInt_lt, show (1 : Int32).toInt = 1 from by decide]
      omega
    · intro z
      rw [z]
      decide
theorem mEnd_c {c : Int32} (h : c ≠ 0) (m : Nat) (S : HS) : mEnd m c S = (h_X9_fails m c (h_X9_begin m S)).2 := if_neg h
