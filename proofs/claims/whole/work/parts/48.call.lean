/-! ===== call on both sides ===== -/
def aS (A : AS) (e : Nat) : Int32 := if aK A e = 10 then aN A e else if aK A e = 11 then 2 * aN A e else 2 * aN A e + 1
def aCall (A : AS) (e : Nat) (w : Int32) : Int32 := if e = 0 then 1 else if aIs A 13 e = 0 then 4 else if w = 5 then (if 0 ≤ aS A e then 0 else 7) else if w = 6 then (if aN A e = 0 then 6 else 0) else 0
theorem aCall_ca (A : AS) (e : Nat) (w : Int32) : isCa (aCall A e w) := by
  unfold aCall
  repeat' split
  all_goals first | exact isCa_0 | exact isCa_1 | exact isCa_4 | exact isCa_6 | exact isCa_7
theorem owT13 : owT 13 := owT_n 3 (by decide) (by decide)
section CLX
variable {A : AS} {S : HS} {e a : Nat}
theorem v_size (hk : aK A e = 10 ∨ aK A e = 11 ∨ aK A e = 12) (hK : hsK S a = aK A e - 8) (hV : hsI S a 2 = aN A e) : (if hsK S a = 2 then h_X2_size a S else (if hsK S a = 3 then h_X4_size a S else h_X5_size a S)) = aS A e := by
  unfold h_X2_size h_X4_size h_X5_size aS
  rw [hK, hV]
  rcases hk with z | z | z <;> rw [z]
  · rw [if_pos (by decide), if_pos rfl]
  · rw [if_neg (by decide), if_pos (by decide), if_neg (by decide), if_pos rfl]
  · rw [if_neg (by decide), if_neg (by decide), if_neg (by decide), if_neg (by decide)]
theorem v_twice (hk : aK A e = 10 ∨ aK A e = 11 ∨ aK A e = 12) (hK : hsK S a = aK A e - 8) (hV : hsI S a 2 = aN A e) : (if hsK S a = 2 then h_X2_twice a S else (if hsK S a = 3 then h_X4_twice a S else h_X4_twice a S)) = if aK A e = 10 then 2 * aS A e else 3 * aS A e + 100 := by
  have hs := v_size hk hK hV
  unfold h_X2_twice h_X4_twice
  rw [hs]
  rw [hK] at hs ⊢
  rcases hk with z | z | z
  · rw [if_pos (by omega), if_pos z]
  · rw [if_neg (by omega), if_pos (by omega)] at hs
    rw [if_neg (by omega), if_pos (by omega), if_pos (by omega), if_neg (by omega), hs]
  · rw [if_neg (by omega), if_neg (by omega)] at hs
    rw [if_neg (by omega), if_neg (by omega), if_neg (by omega), if_neg (by omega), hs]
theorem v_mark (hk : aK A e = 10 ∨ aK A e = 11 ∨ aK A e = 12) (hK : hsK S a = aK A e - 8) (hV : hsI S a 2 = aN A e) : (if hsK S a = 2 then h_X2_mark a S else (if hsK S a = 3 then h_X2_mark a S else h_X5_mark a S)) = if aK A e = 12 then (7 * aN A e + 1) * 10 else (7 * aN A e + 1) * 1 := by
  unfold h_X5_mark h_X2_mark
  rw [hK, hV]
  rcases hk with z | z | z <;> rw [z]
  · rw [if_pos (by decide), if_neg (by decide), Int32.mul_one]
  · rw [if_neg (by decide), if_pos (by decide), if_neg (by decide), Int32.mul_one]
  · rw [if_neg (by decide), if_neg (by decide), if_pos rfl, Int32.mul_comm]
theorem v_step (hk : aK A e = 10 ∨ aK A e = 11 ∨ aK A e = 12) (hK : hsK S a = aK A e - 8) (hV : hsI S a 2 = aN A e) : (if hsK S a = 2 then h_X2_step a S else (if hsK S a = 3 then h_X4_step a S else h_X5_step a S)) = if aK A e = 10 then 1000 + aN A e + 0 else if aK A e = 11 then 1000 + aN A e + 20 else 1000 + aN A e + 23 := by
  unfold h_X5_step h_X4_step h_X2_step
  rw [hK, hV]
  rcases hk with z | z | z <;> rw [z]
  · rw [if_pos (by decide), if_pos rfl, Int32.add_zero]
  · rw [if_neg (by decide), if_pos (by decide), if_neg (by decide), if_pos rfl]
  · rw [if_neg (by decide), if_neg (by decide), if_neg (by decide), if_neg (by decide), Int32.add_assoc (1000 + aN A e) 20 3]
    rfl
end CLX
theorem k_n {n c : Nat} (hn : n ≤ 12) (hc : c ≤ 12) : Int32.ofNat n = Int32.ofNat c ↔ n = c := by
  constructor
  · intro z
    have h1 := nN (e := n) (by omega)
    rw [z, nN (by omega)] at h1
    exact h1.symm
  · intro z
    rw [z]
section CLS
variable {k : Nat} {LX : List Nat} {x : Nat} {LM : List Nat} {m : Nat} {SX SM : HS}
theorem own_3 {A : AS} {e : Nat} (hw : WF k A) (h1 : e ≠ 0) (h2 : e ≤ aT A) (hz : ¬ aIs A 13 e = 0) : 10 ≤ aK A e ∧ (aK A e = 10 ∨ aK A e = 11 ∨ aK A e = 12) := by
  have h12 := (hw.2.2.1 e (by omega) h2).1
  have := owT13 _ (by omega) hz
  omega
theorem ok_size {L : List Nat} {S : HS} {a : Nat} (h : a ∈ L ∧ 2 ≤ hsK S a ∧ hsK S a ≤ 4) : (a ∈ L ∧ (hsK S a = 2 ∨ hsK S a = 3 ∨ hsK S a = 4)) ∧ ((hsK S a = 2 → ok_X2_size L a S) ∧ (hsK S a = 3 → ok_X4_size L a S) ∧ (hsK S a = 4 → ok_X5_size L a S)) := by
  refine ⟨⟨h.1, by omega⟩, fun _ => ⟨h, trivial⟩, fun _ => ⟨h, trivial⟩, fun _ => ⟨h, trivial⟩⟩
theorem ok_answer {L : List Nat} {S : HS} {a : Nat} (h : a ∈ L ∧ 2 ≤ hsK S a ∧ hsK S a ≤ 4) (w : Int32) : ok_X8_callAnswer L a w S := by
  obtain ⟨s1, s2⟩ := ok_size h
  have s3 : ok_X2_mark L a S := ⟨h, trivial⟩
  have s4 : ok_X2_step L a S := ⟨h, trivial⟩
  have s5 : ok_X4_step L a S := ⟨s1, s4, trivial⟩
  have s6 : hsK S a = 3 ∨ hsK S a = 4 → ok_X4_twice L a S := fun z => ⟨⟨h.1, z⟩, ⟨s2.2.1, s2.2.2⟩, trivial⟩
  have s7 : ok_X2_twice L a S := ⟨s1, s2, trivial⟩
  have s8 : ok_X5_mark L a S := ⟨s1, s3, trivial⟩
  have s9 : ok_X5_step L a S := ⟨s1, s5, trivial⟩
  unfold ok_X8_callAnswer
  repeat' (first | exact trivial | exact h | exact s1 | exact s2 | exact s3 | exact s4 | exact s5 | exact s7 | exact s8 | exact s9 | exact fun z => s6 (Or.inl z) | exact fun z => s6 (Or.inr z) | assumption | (intro _) | (refine And.intro ?_ ?_))
theorem st_call (h : Rel k LX x LM m SX SM) (p0 p1 : Int32) : ok_X8_call LX x p0 p1 SX ∧ ok_X9_call LM m p0 p1 SM ∧ (h_X8_call x p0 p1 SX).1 = (h_X9_call m p0 p1 SM).1 ∧ Rel k LX x LM m (h_X8_call x p0 p1 SX).2 (h_X9_call m p0 p1 SM).2 := by
  have hR := h
  obtain ⟨cC, cN, ad, rq, ma, bs, ui, uo, A, ⟨hw, hui, huo⟩, hX, hM⟩ := h
  have hval : ∀ e, e ≤ aT A → (if e = 0 then h_X8_callCause_n p1 SX else h_X8_callCause_s (ad e) p1 SX) = aCall A e p1 := by
    intro e he
    unfold aCall
    by_cases h0 : e = 0
    · rw [if_pos h0, if_pos h0]
      rfl
    rw [if_neg h0, if_neg h0]
    unfold h_X8_callCause_s h_X8_callCause_s_j38
    rw [hX.castS hw h0 he]
    have hcv : aCast A 13 e = if aIs A 13 e = 0 then 4 else 0 := if_neg h0
    rw [hcv]
    by_cases hz : aIs A 13 e = 0
    · rw [if_pos hz, if_neg (by decide), if_pos hz]
    obtain ⟨hk, hk3⟩ := own_3 hw h0 he hz
    obtain ⟨o1, o2, o3⟩ := hX.own hw h0 he hk
    rw [if_neg hz, if_pos rfl, if_pos o1.2, if_neg hz, v_size hk3 o3 o2, o2]
    by_cases w5 : p1 = 5
    · rw [if_pos w5, if_pos w5, if_neg (show ¬ p1 = 6 by rw [w5]; decide)]
    · rw [if_neg w5, if_neg w5]
  have ok8 : ok_X8_call_j43 LX x p0 p1 8 SX := ⟨hX.okx, hX.okst isCa_8, fun z => absurd z (st_81 x SX), fun _ => trivial⟩
  have ok0 : ok_X8_call_j22 LX x p0 p1 0 SX := ⟨fun _ => ok8, fun z => absurd rfl z⟩
  have okF : ∀ c, isCa c → ¬ s_X8_isCell p0 = 0 → ok_X8_call_j43 LX x p0 p1 c SX := fun c hc hp => by
    refine ⟨hX.okx, hX.okst hc, fun _ => ⟨(hX.s_okc hw hc hp).1, (hX.s_okc hw hc hp).2, fun _ => trivial, fun a ha => ?_⟩, fun _ => trivial⟩
    obtain ⟨e, -, e1, e2, rfl⟩ := hX.s_some hw hc hp ha
    have ht := (hX.s_thing hw hc e1 e2).1
    exact ⟨ht, fun z => ⟨⟨ht.1, z⟩, ok_answer ⟨ht.1, z⟩ p1, trivial⟩, fun _ => trivial⟩
  refine ⟨⟨fun _ => ok0, fun hp => ⟨fun _ => ok0, fun _ => ⟨fun _ => ok0, fun _ => ⟨fun z => absurd z (by decide), fun _ => ⟨(hX.okc hp).1, (hX.okc hp).2, fun _ => ⟨⟨RX.okn 13, fun _ => trivial, fun _ => trivial⟩, okF 1 isCa_1 hp⟩, fun a ha => ?_⟩⟩⟩⟩⟩, ?_, hR.b32 ?_⟩
  · obtain ⟨e, -, e1, e2, rfl⟩ := hX.some hw hp ha
    have hv := hval e e2
    rw [if_neg e1] at hv
    refine ⟨⟨hX.okT_cc hw e1 e2 13, fun _ => ⟨(hX.thing hw e1 e2).1, fun z => ?_, fun _ => trivial⟩, fun _ => trivial⟩, okF _ (by rw [hv]; exact aCall_ca A e p1) hp⟩
    have ho : ad e ∈ LX ∧ 2 ≤ hsK SX (ad e) ∧ hsK SX (ad e) ≤ 4 := ⟨(hX.thing hw e1 e2).1.1, z⟩
    have hj : ok_X8_callCause_s_j38 LX (ad e) p1 SX := ⟨fun _ => ⟨ho, fun _ => trivial, fun _ => trivial⟩, fun _ => trivial⟩
    exact ⟨ho, fun _ => ⟨(ok_size ho).1, (ok_size ho).2, fun _ => hj, fun _ => trivial⟩, fun _ => hj⟩
  · refine ⟨hM.1, ⟨hM.1, trivial⟩, fun _ => hM.b_okf isCa_8, fun hp => ⟨fun _ => hM.b_okf isCa_8, fun _ => ?_⟩⟩
    rw [isCell_eq] at hp
    have he := hX.cle hw hp
    have f1 := hM.b_ok8 hp
    have f2 := hM.b_ok
    rw [hM.b_cell hp]
    have hcell := hM.b_cell hp
    generalize aC A p0.toNatClampNeg = e at he hcell ⊢
    have f3 : ok_X9_passes LM m (Int32.ofNat e) 13 (h_X9_begin m SM) := hM.b_okpass hw he
    have f4 := hM.b_okt hw he (f := 0) (Or.inl rfl)
    have f5 := hM.b_okt hw he (f := 1) (Or.inr (Or.inl rfl))
    have g1 := hM.b_okf isCa_4
    have g2 := hM.b_okf isCa_1
    have g3 := hM.b_okf isCa_7
    have g4 := hM.b_okf isCa_6
    have hj : ∀ z, ok_X9_call_j109 LM m p0 p1 z SM := fun z => by
      unfold ok_X9_call_j109
      rw [hcell]
      repeat' (first | exact trivial | exact f1.1 | exact f1.2 | exact f2 | exact f3 | exact f4.1 | exact f4.2 | exact f5.1 | exact f5.2 | exact g1 | exact g2 | exact g3 | exact g4 | assumption | (intro _) | (refine And.intro ?_ ?_))
    repeat' (first | exact trivial | exact f1.1 | exact f1.2 | exact f2 | exact f3 | exact f4.1 | exact f4.2 | exact f5.1 | exact f5.2 | exact g1 | exact g2 | exact hj _ | (intro _) | (refine And.intro ?_ ?_))
  · unfold h_X9_call
    by_cases hp : s_X8_isCell p0 = 0
    · unfold h_X8_call
      rw [if_pos hp, if_pos (by rw [isCell_eq]; exact hp)]
      exact ⟨8, 0, isCa_8, (if_pos rfl).trans (if_neg (st_81 x SX)), rfl⟩
    rw [if_neg (by rw [isCell_eq]; exact hp)]
    by_cases w0 : p1 < 0
    · unfold h_X8_call
      rw [if_neg hp, if_pos w0, if_pos (in_lo w0)]
      exact ⟨8, 0, isCa_8, (if_pos rfl).trans (if_neg (st_81 x SX)), rfl⟩
    by_cases w6 : 6 < p1
    · unfold h_X8_call
      rw [if_neg hp, if_neg w0, if_pos w6, if_pos (in_hi w0 (Int32.not_le.mpr w6))]
      exact ⟨8, 0, isCa_8, (if_pos rfl).trans (if_neg (st_81 x SX)), rfl⟩
    have he := hX.cle hw hp
    have hcl : h_X8_call x p0 p1 SX = h_X8_call_j43 x p0 p1 (aCall A (aC A p0.toNatClampNeg) p1) SX := by
      unfold h_X8_call h_X8_call_j22
      rw [if_neg hp, if_neg w0, if_neg w6, if_neg (by decide)]
      exact (hX.by (fun z => h_X8_call_j43 x p0 p1 z SX) (fun a => h_X8_callCause_s a p1 SX) hp).trans (congrArg (fun z => h_X8_call_j43 x p0 p1 z SX) (hval _ he))
    rw [hcl, if_neg (show ¬ s_X9_in p1 0 6 = 0 by rw [in_in w0 (Int32.not_lt.mp w6)]; decide), hM.b_cell hp, hM.b_pass hw he]
    have hcell := hM.b_cell hp
    have hq := hX.s_cellq hw isCa_0 hp
    generalize aC A p0.toNatClampNeg = e at he hq hcell ⊢
    have hn := n0 (wf_31 hw he).2
    unfold aCall h_X8_call_j43
    by_cases h0 : e = 0
    · rw [if_pos h0, if_pos h0, if_neg (show ¬ (1 : Int32) = 0 by decide), if_pos (hn.mpr h0)]
      exact ⟨1, 0, isCa_1, if_neg (st_not isCa_1 (by decide) x SX), rfl⟩
    rw [if_neg h0, if_neg h0]
    by_cases hz : aIs A 13 e = 0
    · rw [if_pos hz, if_pos hz, if_pos rfl]
      exact ⟨4, 0, isCa_4, if_neg (st_not isCa_4 (by decide) x SX), rfl⟩
    obtain ⟨hk, hk3⟩ := own_3 hw h0 he hz
    obtain ⟨o1, o2, o3⟩ := hX.s_own hw isCa_0 h0 he hk
    rw [if_neg hz, if_neg hz, if_neg (show ¬ (1 : Int32) = 0 by decide), if_neg (fun z => h0 (hn.mp z)), hM.b_len hw h0 he, hM.b_kind hw h0 he]
    have k10 : Int32.ofNat (aK A e) = 10 ↔ aK A e = 10 := k_n (n := aK A e) (c := 10) (by omega) (by decide)
    have k11 : Int32.ofNat (aK A e) = 11 ↔ aK A e = 11 := k_n (n := aK A e) (c := 11) (by omega) (by decide)
    have k12 : Int32.ofNat (aK A e) = 12 ↔ aK A e = 12 := k_n (n := aK A e) (c := 12) (by omega) (by decide)
    have hj : ∀ z, h_X9_call_j109 m p0 p1 z SM = if p1 = 0 then (z, h_X9_begin m SM) else if p1 = 1 then (if aK A e = 10 then (2 * z, h_X9_begin m SM) else (3 * z + 100, h_X9_begin m SM)) else if p1 = 2 then (if aK A e = 12 then ((7 * aN A e + 1) * 10, h_X9_begin m SM) else ((7 * aN A e + 1) * 1, h_X9_begin m SM)) else if p1 = 3 then (if aK A e = 10 then (1000 + aN A e + 0, h_X9_begin m SM) else if aK A e = 11 then (1000 + aN A e + 20, h_X9_begin m SM) else (1000 + aN A e + 23, h_X9_begin m SM)) else if p1 = 4 then (z - z / 5 * 5, h_X9_begin m SM) else if p1 = 5 then (if 0 ≤ z then (z, h_X9_begin m SM) else ((h_X9_fails m 7 (h_X9_begin m SM)).1, (h_X9_fails m 7 (h_X9_begin m SM)).2)) else if aN A e = 0 then ((h_X9_fails m 6 (h_X9_begin m SM)).1, (h_X9_fails m 6 (h_X9_begin m SM)).2) else (1000 / aN A e, h_X9_begin m SM) := by
      intro z
      unfold h_X9_call_j109
      rw [hcell, hM.b_kind hw h0 he, hM.b_len hw h0 he]
      congr 2
      · by_cases y : aK A e = 10
        · rw [if_pos y, if_pos (k10.mpr y)]
        · rw [if_neg y, if_neg (fun w => y (k10.mp w))]
      congr 1
      · by_cases y : aK A e = 12
        · rw [if_pos y, if_pos (k12.mpr y)]
        · rw [if_neg y, if_neg (fun w => y (k12.mp w))]
      congr 1
      by_cases y : aK A e = 10
      · rw [if_pos y, if_pos (k10.mpr y)]
      · rw [if_neg y, if_neg (fun w => y (k10.mp w))]
        by_cases y1 : aK A e = 11
        · rw [if_pos y1, if_pos (k11.mpr y1)]
        · rw [if_neg y1, if_neg (fun w => y1 (k11.mp w))]
    have hsz : (if Int32.ofNat (aK A e) = 10 then h_X9_call_j109 m p0 p1 (aN A e) SM else if Int32.ofNat (aK A e) = 11 then h_X9_call_j109 m p0 p1 (2 * aN A e) SM else h_X9_call_j109 m p0 p1 (2 * aN A e + 1) SM) = h_X9_call_j109 m p0 p1 (aS A e) SM := by
      unfold aS
      by_cases y : aK A e = 10
      · rw [if_pos y, if_pos (k10.mpr y)]
      · rw [if_neg y, if_neg (fun w => y (k10.mp w))]
        by_cases y1 : aK A e = 11
        · rw [if_pos y1, if_pos (k11.mpr y1)]
        · rw [if_neg y1, if_neg (fun w => y1 (k11.mp w))]
    rw [hsz, hj]
    have hans : h_X8_callAnswer (ad e) p1 (h_X8_stops x 0 SX).2 = if p1 = 1 then (if aK A e = 10 then 2 * aS A e else 3 * aS A e + 100) else if p1 = 2 then (if aK A e = 12 then (7 * aN A e + 1) * 10 else (7 * aN A e + 1) * 1) else if p1 = 3 then (if aK A e = 10 then 1000 + aN A e + 0 else if aK A e = 11 then 1000 + aN A e + 20 else 1000 + aN A e + 23) else if p1 = 4 then aS A e - aS A e / 5 * 5 else if p1 = 5 then aS A e else if p1 = 6 then (if aN A e = 0 then 0 else 1000 / aN A e) else aS A e := by
      unfold h_X8_callAnswer
      rw [v_size hk3 o3 o2, v_twice hk3 o3 o2, v_mark hk3 o3 o2, v_step hk3 o3 o2, o2]
    have hF : ∀ v, h_X8_callAnswer (ad e) p1 (h_X8_stops x 0 SX).2 = v → (if (h_X8_stops x 0 SX).1 = 0 then oq (hsR (h_X8_stops x 0 SX).2 ((hsQ (h_X8_stops x 0 SX).2 x 0).getD 0) p0.toNatClampNeg) (0, (h_X8_stops x 0 SX).2) (fun a => if 2 ≤ hsK (h_X8_stops x 0 SX).2 a ∧ hsK (h_X8_stops x 0 SX).2 a ≤ 4 then (h_X8_callAnswer a p1 (h_X8_stops x 0 SX).2, (h_X8_stops x 0 SX).2) else (0, (h_X8_stops x 0 SX).2)) else (0, (h_X8_stops x 0 SX).2)) = (v, (h_X8_stops x 0 SX).2) := by
      intro v hv
      rw [if_pos (st_01 x SX), hq, qa_s ad h0]
      show (if 2 ≤ hsK (h_X8_stops x 0 SX).2 (ad e) ∧ hsK (h_X8_stops x 0 SX).2 (ad e) ≤ 4 then (h_X8_callAnswer (ad e) p1 (h_X8_stops x 0 SX).2, (h_X8_stops x 0 SX).2) else (0, (h_X8_stops x 0 SX).2)) = _
      rw [if_pos o1.2, hv]
    by_cases c0 : p1 = 0
    · subst c0
      rw [if_pos rfl, if_neg (show ¬ (0 : Int32) = 5 by decide), if_neg (show ¬ (0 : Int32) = 6 by decide)]
      exact ⟨0, aS A e, isCa_0, hF _ hans, rfl⟩
    rw [if_neg c0]
    by_cases c1 : p1 = 1
    · subst c1
      rw [if_pos rfl] at hans ⊢
      rw [if_neg (show ¬ (1 : Int32) = 5 by decide), if_neg (show ¬ (1 : Int32) = 6 by decide)]
      exact ⟨0, _, isCa_0, hF _ hans, by split <;> rfl⟩
    rw [if_neg c1] at hans ⊢
    by_cases c2 : p1 = 2
    · subst c2
      rw [if_pos rfl] at hans ⊢
      rw [if_neg (show ¬ (2 : Int32) = 5 by decide), if_neg (show ¬ (2 : Int32) = 6 by decide)]
      exact ⟨0, _, isCa_0, hF _ hans, by split <;> rfl⟩
    rw [if_neg c2] at hans ⊢
    by_cases c3 : p1 = 3
    · subst c3
      rw [if_pos rfl] at hans ⊢
      rw [if_neg (show ¬ (3 : Int32) = 5 by decide), if_neg (show ¬ (3 : Int32) = 6 by decide)]
      refine ⟨0, _, isCa_0, hF _ hans, ?_⟩
      repeat' split
      all_goals rfl
    rw [if_neg c3] at hans ⊢
    by_cases c4 : p1 = 4
    · subst c4
      rw [if_pos rfl] at hans ⊢
      rw [if_neg (show ¬ (4 : Int32) = 5 by decide), if_neg (show ¬ (4 : Int32) = 6 by decide)]
      exact ⟨0, _, isCa_0, hF _ hans, rfl⟩
    rw [if_neg c4] at hans ⊢
    by_cases c5 : p1 = 5
    · subst c5
      rw [if_pos rfl] at hans
      rw [if_pos rfl, if_pos rfl]
      by_cases y : 0 ≤ aS A e
      · rw [if_pos y, if_pos y]
        exact ⟨0, _, isCa_0, hF _ hans, rfl⟩
      · rw [if_neg y, if_neg y]
        exact ⟨7, 0, isCa_7, if_neg (st_not isCa_7 (by decide) x SX), rfl⟩
    rw [if_neg c5] at hans
    rw [if_neg c5, if_neg c5]
    have c6 : p1 = 6 := by
      have hlt : p1.toInt ≤ 6 := by
        rw [Int32.lt_iff_toInt_lt, show (6 : Int32).toInt = 6 from by decide] at w6
        omega
      have hge : 0 ≤ p1.toInt := by
        rw [Int32.lt_iff_toInt_lt, show (0 : Int32).toInt = 0 from by decide] at w0
        omega
      have ne : ∀ c : Int32, ¬ p1 = c → p1.toInt ≠ c.toInt := fun c h z => h (Int32.toInt.inj z)
      have n0 := ne 0 c0
      have n1 := ne 1 c1
      have n2 := ne 2 c2
      have n3 := ne 3 c3
      have n4 := ne 4 c4
      have n5 := ne 5 c5
      rw [show (0 : Int32).toInt = 0 from by decide] at n0
      rw [show (1 : Int32).toInt = 1 from by decide] at n1
      rw [show (2 : Int32).toInt = 2 from by decide] at n2
      rw [show (3 : Int32).toInt = 3 from by decide] at n3
      rw [show (4 : Int32).toInt = 4 from by decide] at n4
      rw [show (5 : Int32).toInt = 5 from by decide] at n5
      exact Int32.toInt.inj ((show p1.toInt = 6 by omega).trans (by decide))
    subst c6
    rw [if_pos rfl] at hans
    rw [if_pos rfl]
    by_cases y : aN A e = 0
    · rw [if_pos y, if_pos y]
      exact ⟨6, 0, isCa_6, if_neg (st_not isCa_6 (by decide) x SX), rfl⟩
    · rw [if_neg y] at hans
      rw [if_neg y, if_neg y]
      exact ⟨0, _, isCa_0, hF _ hans, rfl⟩
end CLS
