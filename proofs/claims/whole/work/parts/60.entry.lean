/-! ===== what the Statement gives at the law's entry ===== -/
def dTerm : Term := .static "ThrowModels$Format" "DOUBLE" "LThrowModels$Format;"
def fTerm : Term := .static "ThrowModels$Format" "FLOAT" "LThrowModels$Format;"
abbrev lw_D (c0 c1 c2 c3 c4 c5 c6 c7 : ClassId) : Nat → ClassId := fun k => match k with
  | 0 => c0
  | 1 => c1
  | 2 => c2
  | 3 => c3
  | 4 => c4
  | 5 => c5
  | 6 => c6
  | _ => c7
abbrev lw_I (c0 c1 c2 c3 c4 c5 c6 c7 : Nat → Nat) : Nat → Nat → Nat := fun k => match k with
  | 0 => c0
  | 1 => c1
  | 2 => c2
  | 3 => c3
  | 4 => c4
  | 5 => c5
  | 6 => c6
  | _ => c7
set_option maxRecDepth 100000 in
theorem wsMK_tbl : ∀ w ∈ wsMK, w ∈ lw_tbl := fun w h => by
  have e : wsMK = [Cond.methodLink RX5 15 ⟨"ThrowModels$Round", "mark", "()I"⟩, Cond.sameMethod "ThrowModels$Round" "ThrowModels$Plain" "mark" "()I", Cond.superclass RX5 RX4, Cond.superclass RX4 RX2, Cond.instanceMethod yX2_mark, Cond.initialized RX2, Cond.code yX2_mark cX2_mark 1 (some .int), Cond.fieldLink RX2 7 "ThrowModels$Plain" "value" "I"] ++ (wsX20 ++ wsX40 ++ wsX50) := rfl
  rw [e] at h
  rcases List.mem_append.mp h with h | h
  · exact (goodIn_r (big := lw_tbl) [Cond.methodLink RX5 15 ⟨"ThrowModels$Round", "mark", "()I"⟩, Cond.sameMethod "ThrowModels$Round" "ThrowModels$Plain" "mark" "()I", Cond.superclass RX5 RX4, Cond.superclass RX4 RX2, Cond.instanceMethod yX2_mark, Cond.initialized RX2, Cond.code yX2_mark cX2_mark 1 (some .int), Cond.fieldLink RX2 7 "ThrowModels$Plain" "value" "I"] [342, 343, 120, 110, 335, 14, 345, 76] rfl (by decide +kernel) w h).1
  · rcases List.mem_append.mp h with h | h
    · rcases List.mem_append.mp h with h | h
      · exact inX2 w h
      · exact inX4 w h
    · exact inX5 w h
theorem wsMK_onT : wsMK.all (fun w => w.onTables) = true := by decide +kernel
set_option maxRecDepth 100000 in
theorem lw_more : ∀ w ∈ [Cond.castable RX1 RX6, Cond.castable RX2 RX6, Cond.castable RX4 RX6, Cond.castable RX5 RX6, Cond.castable RX7 RX6, Cond.castable RX4 RX2, Cond.castable RX5 RX2, Cond.arrayOver (.object "ThrowModels$Thing"), Cond.arrayClass .int, Cond.arrayClass .long, Cond.laysStatic "ThrowModels$Format" "DOUBLE" "LThrowModels$Format;", Cond.laysStatic "ThrowModels$Format" "FLOAT" "LThrowModels$Format;", Cond.initialized "ThrowModels$Format", Cond.instantiable RX0 7, Cond.instantiable RX1 3, Cond.instantiable RX2 3, Cond.instantiable RX4 3, Cond.instantiable RX5 3, Cond.instantiable RX7 3, Cond.instantiable RX8 4, Cond.instantiable RX9 12], w ∈ lw_tbl := fun w h => by
  have e : [Cond.castable RX1 RX6, Cond.castable RX2 RX6, Cond.castable RX4 RX6, Cond.castable RX5 RX6, Cond.castable RX7 RX6, Cond.castable RX4 RX2, Cond.castable RX5 RX2, Cond.arrayOver (.object "ThrowModels$Thing"), Cond.arrayClass .int, Cond.arrayClass .long, Cond.laysStatic "ThrowModels$Format" "DOUBLE" "LThrowModels$Format;", Cond.laysStatic "ThrowModels$Format" "FLOAT" "LThrowModels$Format;", Cond.initialized "ThrowModels$Format", Cond.instantiable RX0 7, Cond.instantiable RX1 3, Cond.instantiable RX2 3, Cond.instantiable RX4 3, Cond.instantiable RX5 3, Cond.instantiable RX7 3, Cond.instantiable RX8 4, Cond.instantiable RX9 12] = [852, 848, 849, 850, 851, 846, 847, 35, 49, 151, 244, 230, 21, 398, 139, 68, 102, 112, 122, 27, 557].filterMap (fun i => lw_tbl[i]?) := rfl
  rw [e] at h
  obtain ⟨i, -, hi⟩ := List.mem_filterMap.mp h
  exact List.mem_of_getElem? hi
set_option maxHeartbeats 4000000 in
set_option maxRecDepth 100000 in
theorem lw_entry {s : State} {b : Nat} (hts0 : ∀ w ∈ lw_tbl, w.before #[Value.ref b] s = true) (hgv : (Jvm.Cond.and given_1 narrow_1).before #[Value.ref b] s = true) : ∃ G : GE, va_K (gD G) vwCl (gT G) s ∧ EZ G [] s.heap.size s := by
  have more := fun w h => hts0 w (lw_more w h)
  have hs := flat_of_before _ hgv
  obtain ⟨c0, i0, k0⟩ := u_known (C := RX0) (T := TX0) (N := 0) (n := 7) hts0 inX0 (more _ (by simp))
  obtain ⟨c1, i1, k1⟩ := u_known (C := RX1) (T := TX1) (N := 3) (n := 3) hts0 inX1 (more _ (by simp))
  obtain ⟨c2, i2, k2⟩ := u_known (C := RX2) (T := TX2) (N := 3) (n := 3) hts0 inX2 (more _ (by simp))
  obtain ⟨c3, i3, k3⟩ := u_known (C := RX4) (T := TX4) (N := 3) (n := 3) hts0 inX4 (more _ (by simp))
  obtain ⟨c4, i4, k4⟩ := u_known (C := RX5) (T := TX5) (N := 3) (n := 3) hts0 inX5 (more _ (by simp))
  obtain ⟨c5, i5, k5⟩ := u_known (C := RX7) (T := TX7) (N := 3) (n := 3) hts0 inX7 (more _ (by simp))
  obtain ⟨c6, i6, k6⟩ := u_known (C := RX8) (T := TX8) (N := 4) (n := 4) hts0 inX8 (more _ (by simp))
  obtain ⟨c7, i7, k7⟩ := u_known (C := RX9) (T := TX9) (N := 12) (n := 12) hts0 inX9 (more _ (by simp))
  obtain ⟨cI, kI, compI, a1, a2, a3⟩ := Cond.arrayClass_spec (more (Cond.arrayClass .int) (by simp))
  obtain ⟨cJ, kJ, compJ, b1, b2, b3⟩ := Cond.arrayClass_spec (more (Cond.arrayClass .long) (by simp))
  have hover := more (Cond.arrayOver (.object "ThrowModels$Thing")) (by simp)
  obtain ⟨compO, cO, kO, g1, g2, g3, g4, g5⟩ := Cond.arrayOver_spec hover
  have exD : (Cond.exactly dTerm "ThrowModels$Format").before #[Value.ref b] s = true := hs (Cond.exactly dTerm "ThrowModels$Format") (by decide +kernel)
  have exF : (Cond.exactly fTerm "ThrowModels$Format").before #[Value.ref b] s = true := hs (Cond.exactly fTerm "ThrowModels$Format") (by decide +kernel)
  obtain ⟨d, dc, dcA, dkA, dq1, -⟩ := Cond.exactly_spec (args := #[Value.ref b]) (first := s) (o := none) (s := s) (idx := []) (t := dTerm) (cls := "ThrowModels$Format") exD
  obtain ⟨f, fc, fcA, fkA, fq1, -⟩ := Cond.exactly_spec (args := #[Value.ref b]) (first := s) (o := none) (s := s) (idx := []) (t := fTerm) (cls := "ThrowModels$Format") exF
  have hA : ∀ a : Nat, a < s.heap.size → ¬ AZ [] s.heap.size a := fun a ha z => z.elim (fun y => absurd y List.not_mem_nil) (fun y => absurd ha (Nat.not_lt.mpr y))
  have ini := more (Cond.initialized "ThrowModels$Format") (by simp)
  refine ⟨(lw_D c0 c1 c2 c3 c4 c5 c6 c7, lw_I i0 i1 i2 i3 i4 i5 i6 i7, cI, cJ, cO, d, f), ⟨fun k q hq => ?_, fun k q hq => ?_⟩, ⟨?_, ?_, ?_, ?_⟩, ?_⟩
  · match k, hq with
    | 0, hq => cases hq; exact k0
    | 1, hq => cases hq; exact k1
    | 2, hq => cases hq; exact k2
    | 3, hq => cases hq; exact k3
    | 4, hq => cases hq; exact k4
    | 5, hq => cases hq; exact k5
    | 6, hq => cases hq; exact k6
    | 7, hq => cases hq; exact k7
    | k + 8, hq => simp [vwCl] at hq
  · match k, hq with
    | 0, hq => cases hq; exact ⟨fun n z => ⟨fun k h => (by cases h), kI, a2, compI, a3⟩, a1⟩
    | 1, hq => cases hq; exact ⟨fun n z => ⟨fun k h => (by cases h), kJ, b2, compJ, b3⟩, b1⟩
    | 2, hq => cases hq; exact ⟨fun n z => ⟨fun k h => (by cases h), kO, g3, compO, g4⟩, kO, compO, g3, g4, g1, g5⟩
    | k + 3, hq => simp [gT] at hq
  · exact va_Zof (more _ (by simp)) ini dq1 hA
  · exact va_Zof (more _ (by simp)) ini fq1 hA
  · exact ⟨va_Oof exD dq1 hA, vk_OFof dq1 (va_eqt (hs (Cond.eq (.field dTerm "ThrowModels$Format" "fractionBits" "I") (.int 52)) (by decide +kernel))) hA, vk_OFof dq1 (va_eqt (hs (Cond.eq (.field dTerm "ThrowModels$Format" "lowestExponent" "I") (.int (-1074))) (by decide +kernel))) hA, vk_OFof dq1 (va_eqtl (hs (Cond.eq (.field dTerm "ThrowModels$Format" "infinity" "J") (.long 9218868437227405312)) (by decide +kernel))) hA, vk_OFof dq1 (va_eqtl (hs (Cond.eq (.field dTerm "ThrowModels$Format" "signBit" "J") (.long (-9223372036854775808))) (by decide +kernel))) hA⟩
  · exact ⟨va_Oof exF fq1 hA, vk_OFof fq1 (va_eqt (hs (Cond.eq (.field fTerm "ThrowModels$Format" "fractionBits" "I") (.int 23)) (by decide +kernel))) hA, vk_OFof fq1 (va_eqt (hs (Cond.eq (.field fTerm "ThrowModels$Format" "lowestExponent" "I") (.int (-149))) (by decide +kernel))) hA, vk_OFof fq1 (va_eqtl (hs (Cond.eq (.field fTerm "ThrowModels$Format" "infinity" "J") (.long 2139095040)) (by decide +kernel))) hA, vk_OFof fq1 (va_eqtl (hs (Cond.eq (.field fTerm "ThrowModels$Format" "signBit" "J") (.long 2147483648)) (by decide +kernel))) hA⟩
  · refine ⟨⟨va_Nw.of rfl (more (Cond.castable RX1 RX6) (by simp)), va_Nw.of rfl (more (Cond.castable RX2 RX6) (by simp)), va_Nw.of rfl (more (Cond.castable RX4 RX6) (by simp)), va_Nw.of rfl (more (Cond.castable RX5 RX6) (by simp)), va_Nw.of rfl (more (Cond.castable RX7 RX6) (by simp))⟩, ⟨va_Nw.of rfl (more (Cond.castable RX4 RX2) (by simp)), va_Nw.of rfl (more (Cond.castable RX5 RX2) (by simp))⟩, ⟨?_, ?_, ?_, ?_⟩, ⟨?_, ?_, ?_, ?_⟩, ⟨?_, ?_⟩, va_AO.of hover, fun w hw a => va_tabs (List.all_eq_true.mp wsMK_onT w hw) rfl (hts0 w (wsMK_tbl w hw))⟩
    · exact va_Nc.of (hs (Cond.not (Cond.castable RX2 RX1)) (by decide +kernel))
    · exact va_Nc.of (hs (Cond.not (Cond.castable RX4 RX1)) (by decide +kernel))
    · exact va_Nc.of (hs (Cond.not (Cond.castable RX5 RX1)) (by decide +kernel))
    · exact va_Nc.of (hs (Cond.not (Cond.castable RX7 RX1)) (by decide +kernel))
    · exact va_Nc.of (hs (Cond.not (Cond.castable RX1 RX7)) (by decide +kernel))
    · exact va_Nc.of (hs (Cond.not (Cond.castable RX2 RX7)) (by decide +kernel))
    · exact va_Nc.of (hs (Cond.not (Cond.castable RX4 RX7)) (by decide +kernel))
    · exact va_Nc.of (hs (Cond.not (Cond.castable RX5 RX7)) (by decide +kernel))
    · exact va_Nc.of (hs (Cond.not (Cond.castable RX1 RX2)) (by decide +kernel))
    · exact va_Nc.of (hs (Cond.not (Cond.castable RX7 RX2)) (by decide +kernel))
