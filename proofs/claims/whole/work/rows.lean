section
-- ===== PART A: goes FIRST, ahead of the names: the tables' words, and 'selects' of the private methods out of them =====
/-- a private method of a class that the tables say can be made, by its rows of tables_1 -/
def lw_okq (q : MethodName × Nat) : Prop := (q.1.cls ≠ "java/lang/invoke/MethodHandle" ∧ q.1.cls ≠ "java/lang/invoke/VarHandle") ∧ Cond.instantiable q.1.cls q.2 ∈ tables_1 ∧ Cond.privateMethod q.1 ∈ tables_1 ∧ Cond.instanceMethod q.1 ∈ tables_1
theorem lw_p0 : lw_okq (⟨"ThrowModels", "stops", "(I)Z"⟩, 4) := ⟨⟨by decide +kernel, by decide +kernel⟩, List.mem_of_getElem? (i := 17) (by decide +kernel), List.mem_of_getElem? (i := 51) (by decide +kernel), List.mem_of_getElem? (i := 52) (by decide +kernel)⟩
theorem lw_p1 : lw_okq (⟨"ThrowModels$Format", "missingPlaces", "(J)I"⟩, 7) := ⟨⟨by decide +kernel, by decide +kernel⟩, List.mem_of_getElem? (i := 388) (by decide +kernel), List.mem_of_getElem? (i := 386) (by decide +kernel), List.mem_of_getElem? (i := 387) (by decide +kernel)⟩
theorem lw_p2 : lw_okq (⟨"ThrowModelsModel", "begin", "()V"⟩, 12) := ⟨⟨by decide +kernel, by decide +kernel⟩, List.mem_of_getElem? (i := 547) (by decide +kernel), List.mem_of_getElem? (i := 596) (by decide +kernel), List.mem_of_getElem? (i := 597) (by decide +kernel)⟩
theorem lw_p3 : lw_okq (⟨"ThrowModelsModel", "fails", "(I)I"⟩, 12) := ⟨⟨by decide +kernel, by decide +kernel⟩, List.mem_of_getElem? (i := 547) (by decide +kernel), List.mem_of_getElem? (i := 606) (by decide +kernel), List.mem_of_getElem? (i := 607) (by decide +kernel)⟩
theorem lw_p4 : lw_okq (⟨"ThrowModelsModel", "thing", "(II)I"⟩, 12) := ⟨⟨by decide +kernel, by decide +kernel⟩, List.mem_of_getElem? (i := 547) (by decide +kernel), List.mem_of_getElem? (i := 610) (by decide +kernel), List.mem_of_getElem? (i := 611) (by decide +kernel)⟩
theorem lw_p5 : lw_okq (⟨"ThrowModelsModel", "passes", "(II)Z"⟩, 12) := ⟨⟨by decide +kernel, by decide +kernel⟩, List.mem_of_getElem? (i := 547) (by decide +kernel), List.mem_of_getElem? (i := 622) (by decide +kernel), List.mem_of_getElem? (i := 623) (by decide +kernel)⟩
theorem lw_p6 : lw_okq (⟨"ThrowModelsModel", "against", "(III)I"⟩, 12) := ⟨⟨by decide +kernel, by decide +kernel⟩, List.mem_of_getElem? (i := 547) (by decide +kernel), List.mem_of_getElem? (i := 645) (by decide +kernel), List.mem_of_getElem? (i := 646) (by decide +kernel)⟩
theorem lw_p7 : lw_okq (⟨"ThrowModelsModel", "element", "(II)J"⟩, 12) := ⟨⟨by decide +kernel, by decide +kernel⟩, List.mem_of_getElem? (i := 547) (by decide +kernel), List.mem_of_getElem? (i := 649) (by decide +kernel), List.mem_of_getElem? (i := 650) (by decide +kernel)⟩
theorem lw_p8 : lw_okq (⟨"ThrowModelsModel", "set", "(IIJ)V"⟩, 12) := ⟨⟨by decide +kernel, by decide +kernel⟩, List.mem_of_getElem? (i := 547) (by decide +kernel), List.mem_of_getElem? (i := 706) (by decide +kernel), List.mem_of_getElem? (i := 707) (by decide +kernel)⟩
theorem lw_p9 : lw_okq (⟨"ThrowModelsModel", "isBeyond", "(III)Z"⟩, 12) := ⟨⟨by decide +kernel, by decide +kernel⟩, List.mem_of_getElem? (i := 547) (by decide +kernel), List.mem_of_getElem? (i := 735) (by decide +kernel), List.mem_of_getElem? (i := 736) (by decide +kernel)⟩
def lw_privs_1 : List (MethodName × Nat) := [(⟨"ThrowModels", "stops", "(I)Z"⟩, 4), (⟨"ThrowModels$Format", "missingPlaces", "(J)I"⟩, 7), (⟨"ThrowModelsModel", "begin", "()V"⟩, 12), (⟨"ThrowModelsModel", "fails", "(I)I"⟩, 12), (⟨"ThrowModelsModel", "thing", "(II)I"⟩, 12), (⟨"ThrowModelsModel", "passes", "(II)Z"⟩, 12), (⟨"ThrowModelsModel", "against", "(III)I"⟩, 12), (⟨"ThrowModelsModel", "element", "(II)J"⟩, 12), (⟨"ThrowModelsModel", "set", "(IIJ)V"⟩, 12), (⟨"ThrowModelsModel", "isBeyond", "(III)Z"⟩, 12)]
theorem lw_r1 : ∀ q ∈ lw_privs_1, lw_okq q := List.forall_mem_cons.mpr ⟨lw_p0, List.forall_mem_cons.mpr ⟨lw_p1, List.forall_mem_cons.mpr ⟨lw_p2, List.forall_mem_cons.mpr ⟨lw_p3, List.forall_mem_cons.mpr ⟨lw_p4, List.forall_mem_cons.mpr ⟨lw_p5, List.forall_mem_cons.mpr ⟨lw_p6, List.forall_mem_cons.mpr ⟨lw_p7, List.forall_mem_cons.mpr ⟨lw_p8, List.forall_mem_cons.mpr ⟨lw_p9, fun _ h => absurd h List.not_mem_nil⟩⟩⟩⟩⟩⟩⟩⟩⟩⟩
def lw_privs : List (MethodName × Nat) := lw_privs_1
def lw_tbl : List Cond := k2_sels lw_privs ++ tables_1
theorem lw_privs_ok : ∀ q ∈ lw_privs, lw_okq q := lw_r1
/-- the streams that the claim lets the run draw from -/
abbrev lw_cs : List Choice := [Jvm.Choice.named "NaN.bits", Jvm.Choice.named "NaN.copy"]
theorem lw_bits : nanBits ∈ lw_cs := by first | decide | exact List.mem_cons_self | simp [lw_cs, nanBits]
end
section
/-! ===== BEGIN words of one list among another's, by their places ===== -/
theorem goodIn_r {big : List Cond} (ws : List Cond) (ps : List Nat) (hp : ws = ps.filterMap (fun i => big[i]?)) (h : ws.all goodWord = true) : GoodIn big ws := by
  intro w hw
  have h1 := List.all_eq_true.mp h w hw
  rw [hp] at hw
  obtain ⟨i, -, hi⟩ := List.mem_filterMap.mp hw
  have hm : w ∈ big := by first | exact List.mem_of_getElem? hi | exact List.getElem?_mem hi
  exact ⟨hm, good_of_word h1⟩
theorem goodIn_app {big a b : List Cond} (ha : GoodIn big a) (hb : GoodIn big b) : GoodIn big (a ++ b) := fun w h => (List.mem_append.mp h).elim (ha w) (hb w)
theorem goodIn_ca {big a b : List Cond} {c : Cond} (ha : GoodIn big (c :: a)) (hb : GoodIn big b) : GoodIn big (c :: (a ++ b)) := fun w h => (List.mem_cons.mp h).elim (fun e => ha w (List.mem_cons.mpr (Or.inl e))) (fun h => (List.mem_append.mp h).elim (fun h => ha w (List.mem_cons.mpr (Or.inr h))) (hb w))
theorem goodIn_sub {big ws : List Cond} (hm : ∀ w ∈ ws, w ∈ big) (h : ws.all goodWord = true) : GoodIn big ws := fun w hw => ⟨hm w hw, good_of_word (List.all_eq_true.mp h w hw)⟩
/-! ===== END ===== -/

/-! ===== BEGIN printed: names, fields, word lists, decode rows ===== -/
def RX0 : String := "ThrowModels$Format"
def TX0 : u_T := fun k => match k with
  | _ => ("", "", "", false)
def tyX0 : Nat → FieldType := fun k => match k with
  | _ => .int
abbrev wsX00 : List Cond := u_ws RX0 TX0 0
theorem nmX0 : ∀ a, a < 0 → ∀ b, b < 0 → a ≠ b → (TX0 a).2.1 ≠ (TX0 b).2.1 := by decide +kernel
theorem tyX0_ok : ∀ k, k < 0 → parseFieldDescriptor (TX0 k).2.2.1 = some (tyX0 k) := by decide +kernel
abbrev cX0_plainNaN : ByteArray := prog_2_method_4_code
def yX0_plainNaN : MethodName := ⟨RX0, "plainNaN", "()J"⟩
abbrev cX0_magnitude : ByteArray := prog_2_method_5_code
def yX0_magnitude : MethodName := ⟨RX0, "magnitude", "(J)J"⟩
abbrev cX0_isNegative : ByteArray := prog_2_method_6_code
def yX0_isNegative : MethodName := ⟨RX0, "isNegative", "(J)Z"⟩
abbrev cX0_isNaN : ByteArray := prog_2_method_7_code
def yX0_isNaN : MethodName := ⟨RX0, "isNaN", "(J)Z"⟩
abbrev cX0_isInfinite : ByteArray := prog_2_method_8_code
def yX0_isInfinite : MethodName := ⟨RX0, "isInfinite", "(J)Z"⟩
abbrev cX0_isZero : ByteArray := prog_2_method_9_code
def yX0_isZero : MethodName := ⟨RX0, "isZero", "(J)Z"⟩
abbrev cX0_missingPlaces : ByteArray := prog_2_method_10_code
def yX0_missingPlaces : MethodName := ⟨RX0, "missingPlaces", "(J)I"⟩
abbrev cX0_significand : ByteArray := prog_2_method_11_code
def yX0_significand : MethodName := ⟨RX0, "significand", "(J)J"⟩
abbrev cX0_exponent : ByteArray := prog_2_method_12_code
def yX0_exponent : MethodName := ⟨RX0, "exponent", "(J)I"⟩
abbrev cX0_pack : ByteArray := prog_2_method_13_code
def yX0_pack : MethodName := ⟨RX0, "pack", "(ZIJ)J"⟩
abbrev cX0_rounded : ByteArray := prog_2_method_14_code
def yX0_rounded : MethodName := ⟨RX0, "rounded", "(JI)J"⟩
abbrev cX0_highestBit : ByteArray := prog_2_method_15_code
def yX0_highestBit : MethodName := ⟨RX0, "highestBit", "(J)I"⟩
def RX1 : String := "ThrowModels$NumberArray"
def TX1 : u_T := fun k => match k with
  | 0 => ("ThrowModels$Thing", "kind", "I", true)
  | 1 => ("ThrowModels$Thing", "length", "I", true)
  | _ => ("ThrowModels$NumberArray", "numbers", "[J", true)
def tyX1 : Nat → FieldType := fun k => match k with
  | 0 => .int
  | 1 => .int
  | _ => .array .long
abbrev wsX10 : List Cond := u_ws RX1 TX1 3
theorem nmX1 : ∀ a, a < 3 → ∀ b, b < 3 → a ≠ b → (TX1 a).2.1 ≠ (TX1 b).2.1 := by decide +kernel
theorem tyX1_ok : ∀ k, k < 3 → parseFieldDescriptor (TX1 k).2.2.1 = some (tyX1 k) := by decide +kernel
abbrev cX1_init : ByteArray := prog_3_method_1_code
def yX1_init : MethodName := ⟨RX1, "<init>", "(II)V"⟩
def RX2 : String := "ThrowModels$Plain"
def TX2 : u_T := fun k => match k with
  | 0 => ("ThrowModels$Thing", "kind", "I", true)
  | 1 => ("ThrowModels$Thing", "length", "I", true)
  | _ => ("ThrowModels$Plain", "value", "I", false)
def tyX2 : Nat → FieldType := fun k => match k with
  | 0 => .int
  | 1 => .int
  | _ => .int
abbrev wsX20 : List Cond := u_ws RX2 TX2 3
theorem nmX2 : ∀ a, a < 3 → ∀ b, b < 3 → a ≠ b → (TX2 a).2.1 ≠ (TX2 b).2.1 := by decide +kernel
theorem tyX2_ok : ∀ k, k < 3 → parseFieldDescriptor (TX2 k).2.2.1 = some (tyX2 k) := by decide +kernel
abbrev cX2_init : ByteArray := prog_4_method_1_code
def yX2_init : MethodName := ⟨RX2, "<init>", "(II)V"⟩
abbrev cX2_size : ByteArray := prog_4_method_2_code
def yX2_size : MethodName := ⟨RX2, "size", "()I"⟩
abbrev cX2_twice : ByteArray := prog_4_method_3_code
def yX2_twice : MethodName := ⟨RX2, "twice", "()I"⟩
abbrev cX2_mark : ByteArray := prog_4_method_4_code
def yX2_mark : MethodName := ⟨RX2, "mark", "()I"⟩
abbrev cX2_step : ByteArray := prog_4_method_5_code
def yX2_step : MethodName := ⟨RX2, "step", "()I"⟩
def RX3 : String := "ThrowModels$Reals"
def TX3 : u_T := fun k => match k with
  | _ => ("", "", "", false)
def tyX3 : Nat → FieldType := fun k => match k with
  | _ => .int
abbrev wsX30 : List Cond := u_ws RX3 TX3 0
theorem nmX3 : ∀ a, a < 0 → ∀ b, b < 0 → a ≠ b → (TX3 a).2.1 ≠ (TX3 b).2.1 := by decide +kernel
theorem tyX3_ok : ∀ k, k < 0 → parseFieldDescriptor (TX3 k).2.2.1 = some (tyX3 k) := by decide +kernel
abbrev cX3_sum : ByteArray := prog_5_method_2_code
def yX3_sum : MethodName := ⟨RX3, "sum", "(JJ)J"⟩
abbrev cX3_sumOfFinite : ByteArray := prog_5_method_3_code
def yX3_sumOfFinite : MethodName := ⟨RX3, "sumOfFinite", "(JJ)J"⟩
abbrev cX3_movedDown : ByteArray := prog_5_method_4_code
def yX3_movedDown : MethodName := ⟨RX3, "movedDown", "(JI)J"⟩
abbrev cX3_difference : ByteArray := prog_5_method_5_code
def yX3_difference : MethodName := ⟨RX3, "difference", "(JJ)J"⟩
abbrev cX3_product : ByteArray := prog_5_method_6_code
def yX3_product : MethodName := ⟨RX3, "product", "(JJ)J"⟩
abbrev cX3_productOfFinite : ByteArray := prog_5_method_7_code
def yX3_productOfFinite : MethodName := ⟨RX3, "productOfFinite", "(JJ)J"⟩
abbrev cX3_quotient : ByteArray := prog_5_method_8_code
def yX3_quotient : MethodName := ⟨RX3, "quotient", "(JJ)J"⟩
abbrev cX3_quotientOfFinite : ByteArray := prog_5_method_9_code
def yX3_quotientOfFinite : MethodName := ⟨RX3, "quotientOfFinite", "(JJ)J"⟩
abbrev cX3_remainder : ByteArray := prog_5_method_10_code
def yX3_remainder : MethodName := ⟨RX3, "remainder", "(JJ)J"⟩
abbrev cX3_remainderOfFinite : ByteArray := prog_5_method_11_code
def yX3_remainderOfFinite : MethodName := ⟨RX3, "remainderOfFinite", "(JJ)J"⟩
abbrev cX3_greater : ByteArray := prog_5_method_12_code
def yX3_greater : MethodName := ⟨RX3, "greater", "(JJ)J"⟩
abbrev cX3_lesser : ByteArray := prog_5_method_13_code
def yX3_lesser : MethodName := ⟨RX3, "lesser", "(JJ)J"⟩
abbrev cX3_rankWithSignOfZero : ByteArray := prog_5_method_14_code
def yX3_rankWithSignOfZero : MethodName := ⟨RX3, "rankWithSignOfZero", "(J)J"⟩
abbrev cX3_rank : ByteArray := prog_5_method_15_code
def yX3_rank : MethodName := ⟨RX3, "rank", "(J)J"⟩
abbrev cX3_withSignOf : ByteArray := prog_5_method_16_code
def yX3_withSignOf : MethodName := ⟨RX3, "withSignOf", "(JJ)J"⟩
abbrev cX3_isTrue : ByteArray := prog_5_method_17_code
def yX3_isTrue : MethodName := ⟨RX3, "isTrue", "(IJJ)Z"⟩
abbrev cX3_mathOfNumber : ByteArray := prog_5_method_18_code
def yX3_mathOfNumber : MethodName := ⟨RX3, "mathOfNumber", "(IJ)J"⟩
abbrev cX3_power : ByteArray := prog_5_method_19_code
def yX3_power : MethodName := ⟨RX3, "power", "(J)I"⟩
abbrev cX3_floor : ByteArray := prog_5_method_20_code
def yX3_floor : MethodName := ⟨RX3, "floor", "(J)J"⟩
abbrev cX3_nearestWhole : ByteArray := prog_5_method_21_code
def yX3_nearestWhole : MethodName := ⟨RX3, "nearestWhole", "(J)J"⟩
abbrev cX3_distanceToNext : ByteArray := prog_5_method_22_code
def yX3_distanceToNext : MethodName := ⟨RX3, "distanceToNext", "(J)J"⟩
abbrev cX3_nextUp : ByteArray := prog_5_method_23_code
def yX3_nextUp : MethodName := ⟨RX3, "nextUp", "(J)J"⟩
abbrev cX3_scaled : ByteArray := prog_5_method_24_code
def yX3_scaled : MethodName := ⟨RX3, "scaled", "(JI)J"⟩
abbrev cX3_converted : ByteArray := prog_5_method_25_code
def yX3_converted : MethodName := ⟨RX3, "converted", "(LThrowModels$Format;LThrowModels$Format;J)J"⟩
abbrev cX3_fromLong : ByteArray := prog_5_method_26_code
def yX3_fromLong : MethodName := ⟨RX3, "fromLong", "(LThrowModels$Format;J)J"⟩
abbrev cX3_toLong : ByteArray := prog_5_method_27_code
def yX3_toLong : MethodName := ⟨RX3, "toLong", "(J)J"⟩
abbrev cX3_toInt : ByteArray := prog_5_method_28_code
def yX3_toInt : MethodName := ⟨RX3, "toInt", "(J)I"⟩
def RX4 : String := "ThrowModels$Round"
def TX4 : u_T := fun k => match k with
  | 0 => ("ThrowModels$Plain", "value", "I", false)
  | 1 => ("ThrowModels$Thing", "kind", "I", true)
  | _ => ("ThrowModels$Thing", "length", "I", true)
def tyX4 : Nat → FieldType := fun k => match k with
  | 0 => .int
  | 1 => .int
  | _ => .int
abbrev wsX40 : List Cond := u_ws RX4 TX4 3
theorem nmX4 : ∀ a, a < 3 → ∀ b, b < 3 → a ≠ b → (TX4 a).2.1 ≠ (TX4 b).2.1 := by decide +kernel
theorem tyX4_ok : ∀ k, k < 3 → parseFieldDescriptor (TX4 k).2.2.1 = some (tyX4 k) := by decide +kernel
abbrev cX4_init : ByteArray := prog_6_method_1_code
def yX4_init : MethodName := ⟨RX4, "<init>", "(II)V"⟩
abbrev cX4_size : ByteArray := prog_6_method_2_code
def yX4_size : MethodName := ⟨RX4, "size", "()I"⟩
abbrev cX4_twice : ByteArray := prog_6_method_3_code
def yX4_twice : MethodName := ⟨RX4, "twice", "()I"⟩
abbrev cX4_step : ByteArray := prog_6_method_4_code
def yX4_step : MethodName := ⟨RX4, "step", "()I"⟩
def RX5 : String := "ThrowModels$Square"
def TX5 : u_T := fun k => match k with
  | 0 => ("ThrowModels$Plain", "value", "I", false)
  | 1 => ("ThrowModels$Thing", "kind", "I", true)
  | _ => ("ThrowModels$Thing", "length", "I", true)
def tyX5 : Nat → FieldType := fun k => match k with
  | 0 => .int
  | 1 => .int
  | _ => .int
abbrev wsX50 : List Cond := u_ws RX5 TX5 3
theorem nmX5 : ∀ a, a < 3 → ∀ b, b < 3 → a ≠ b → (TX5 a).2.1 ≠ (TX5 b).2.1 := by decide +kernel
theorem tyX5_ok : ∀ k, k < 3 → parseFieldDescriptor (TX5 k).2.2.1 = some (tyX5 k) := by decide +kernel
abbrev cX5_init : ByteArray := prog_7_method_1_code
def yX5_init : MethodName := ⟨RX5, "<init>", "(I)V"⟩
abbrev cX5_size : ByteArray := prog_7_method_2_code
def yX5_size : MethodName := ⟨RX5, "size", "()I"⟩
abbrev cX5_mark : ByteArray := prog_7_method_3_code
def yX5_mark : MethodName := ⟨RX5, "mark", "()I"⟩
abbrev cX5_step : ByteArray := prog_7_method_4_code
def yX5_step : MethodName := ⟨RX5, "step", "()I"⟩
def RX6 : String := "ThrowModels$Thing"
def TX6 : u_T := fun k => match k with
  | _ => ("", "", "", false)
def tyX6 : Nat → FieldType := fun k => match k with
  | _ => .int
abbrev wsX60 : List Cond := u_ws RX6 TX6 0
theorem nmX6 : ∀ a, a < 0 → ∀ b, b < 0 → a ≠ b → (TX6 a).2.1 ≠ (TX6 b).2.1 := by decide +kernel
theorem tyX6_ok : ∀ k, k < 0 → parseFieldDescriptor (TX6 k).2.2.1 = some (tyX6 k) := by decide +kernel
abbrev cX6_init : ByteArray := prog_8_method_1_code
def yX6_init : MethodName := ⟨RX6, "<init>", "(II)V"⟩
abbrev cX6_isOf : ByteArray := prog_8_method_2_code
def yX6_isOf : MethodName := ⟨RX6, "isOf", "(I)Z"⟩
abbrev cX6_holds : ByteArray := prog_8_method_3_code
def yX6_holds : MethodName := ⟨RX6, "holds", "(I)Z"⟩
def RX7 : String := "ThrowModels$ThingArray"
def TX7 : u_T := fun k => match k with
  | 0 => ("ThrowModels$Thing", "kind", "I", true)
  | 1 => ("ThrowModels$Thing", "length", "I", true)
  | _ => ("ThrowModels$ThingArray", "elements", "[LThrowModels$Thing;", true)
def tyX7 : Nat → FieldType := fun k => match k with
  | 0 => .int
  | 1 => .int
  | _ => .array (.object "ThrowModels$Thing")
abbrev wsX70 : List Cond := u_ws RX7 TX7 3
theorem nmX7 : ∀ a, a < 3 → ∀ b, b < 3 → a ≠ b → (TX7 a).2.1 ≠ (TX7 b).2.1 := by decide +kernel
theorem tyX7_ok : ∀ k, k < 3 → parseFieldDescriptor (TX7 k).2.2.1 = some (tyX7 k) := by decide +kernel
abbrev cX7_init : ByteArray := prog_9_method_1_code
def yX7_init : MethodName := ⟨RX7, "<init>", "(II)V"⟩
def RX8 : String := "ThrowModels"
def TX8 : u_T := fun k => match k with
  | 0 => ("ThrowModels", "cells", "[LThrowModels$Thing;", true)
  | 1 => ("ThrowModels", "throwCounts", "[I", true)
  | 2 => ("ThrowModels", "latestThrow", "I", false)
  | _ => ("ThrowModels", "latestTrace", "I", false)
def tyX8 : Nat → FieldType := fun k => match k with
  | 0 => .array (.object "ThrowModels$Thing")
  | 1 => .array .int
  | 2 => .int
  | _ => .int
abbrev wsX80 : List Cond := u_ws RX8 TX8 4
theorem nmX8 : ∀ a, a < 4 → ∀ b, b < 4 → a ≠ b → (TX8 a).2.1 ≠ (TX8 b).2.1 := by decide +kernel
theorem tyX8_ok : ∀ k, k < 4 → parseFieldDescriptor (TX8 k).2.2.1 = some (tyX8 k) := by decide +kernel
abbrev cX8_init : ByteArray := prog_1_method_1_code
def yX8_init : MethodName := ⟨RX8, "<init>", "()V"⟩
abbrev cX8_make : ByteArray := prog_1_method_2_code
def yX8_make : MethodName := ⟨RX8, "make", "(IIII)I"⟩
abbrev cX8_move : ByteArray := prog_1_method_3_code
def yX8_move : MethodName := ⟨RX8, "move", "(II)I"⟩
abbrev cX8_twin : ByteArray := prog_1_method_4_code
def yX8_twin : MethodName := ⟨RX8, "twin", "(II)I"⟩
abbrev cX8_is : ByteArray := prog_1_method_5_code
def yX8_is : MethodName := ⟨RX8, "is", "(II)I"⟩
abbrev cX8_same : ByteArray := prog_1_method_6_code
def yX8_same : MethodName := ⟨RX8, "same", "(II)I"⟩
abbrev cX8_length : ByteArray := prog_1_method_7_code
def yX8_length : MethodName := ⟨RX8, "length", "(II)I"⟩
abbrev cX8_load : ByteArray := prog_1_method_8_code
def yX8_load : MethodName := ⟨RX8, "load", "(III)J"⟩
abbrev cX8_store : ByteArray := prog_1_method_9_code
def yX8_store : MethodName := ⟨RX8, "store", "(IIIJ)I"⟩
abbrev cX8_take : ByteArray := prog_1_method_10_code
def yX8_take : MethodName := ⟨RX8, "take", "(IIII)I"⟩
abbrev cX8_put : ByteArray := prog_1_method_11_code
def yX8_put : MethodName := ⟨RX8, "put", "(IIII)I"⟩
abbrev cX8_cross : ByteArray := prog_1_method_12_code
def yX8_cross : MethodName := ⟨RX8, "cross", "(III)I"⟩
abbrev cX8_copy : ByteArray := prog_1_method_13_code
def yX8_copy : MethodName := ⟨RX8, "copy", "(IIIII)I"⟩
abbrev cX8_field : ByteArray := prog_1_method_14_code
def yX8_field : MethodName := ⟨RX8, "field", "(II)I"⟩
abbrev cX8_write : ByteArray := prog_1_method_15_code
def yX8_write : MethodName := ⟨RX8, "write", "(III)I"⟩
abbrev cX8_call : ByteArray := prog_1_method_16_code
def yX8_call : MethodName := ⟨RX8, "call", "(II)I"⟩
abbrev cX8_divide : ByteArray := prog_1_method_17_code
def yX8_divide : MethodName := ⟨RX8, "divide", "(IJJ)J"⟩
abbrev cX8_real : ByteArray := prog_1_method_18_code
def yX8_real : MethodName := ⟨RX8, "real", "(IJJ)J"⟩
abbrev cX8_math : ByteArray := prog_1_method_19_code
def yX8_math : MethodName := ⟨RX8, "math", "(IJ)J"⟩
abbrev cX8_narrow : ByteArray := prog_1_method_20_code
def yX8_narrow : MethodName := ⟨RX8, "narrow", "(IJ)J"⟩
abbrev cX8_widen : ByteArray := prog_1_method_21_code
def yX8_widen : MethodName := ⟨RX8, "widen", "(IJ)J"⟩
abbrev cX8_compare : ByteArray := prog_1_method_22_code
def yX8_compare : MethodName := ⟨RX8, "compare", "(IJJ)I"⟩
abbrev cX8_pass : ByteArray := prog_1_method_23_code
def yX8_pass : MethodName := ⟨RX8, "pass", "(III)J"⟩
abbrev cX8_trace : ByteArray := prog_1_method_24_code
def yX8_trace : MethodName := ⟨RX8, "trace", "()I"⟩
abbrev cX8_latest : ByteArray := prog_1_method_25_code
def yX8_latest : MethodName := ⟨RX8, "latest", "()I"⟩
abbrev cX8_thrown : ByteArray := prog_1_method_26_code
def yX8_thrown : MethodName := ⟨RX8, "thrown", "(I)I"⟩
abbrev cX8_isCell : ByteArray := prog_1_method_27_code
def yX8_isCell : MethodName := ⟨RX8, "isCell", "(I)Z"⟩
abbrev cX8_isNumberType : ByteArray := prog_1_method_28_code
def yX8_isNumberType : MethodName := ⟨RX8, "isNumberType", "(I)Z"⟩
abbrev cX8_isThingArrayType : ByteArray := prog_1_method_29_code
def yX8_isThingArrayType : MethodName := ⟨RX8, "isThingArrayType", "(I)Z"⟩
abbrev cX8_isArrayType : ByteArray := prog_1_method_30_code
def yX8_isArrayType : MethodName := ⟨RX8, "isArrayType", "(I)Z"⟩
abbrev cX8_isOwnType : ByteArray := prog_1_method_31_code
def yX8_isOwnType : MethodName := ⟨RX8, "isOwnType", "(I)Z"⟩
abbrev cX8_stops : ByteArray := prog_1_method_32_code
def yX8_stops : MethodName := ⟨RX8, "stops", "(I)Z"⟩
abbrev cX8_makeCause : ByteArray := prog_1_method_33_code
def yX8_makeCause : MethodName := ⟨RX8, "makeCause", "(IIII)I"⟩
abbrev cX8_passesCast : ByteArray := prog_1_method_34_code
def yX8_passesCast : MethodName := ⟨RX8, "passesCast", "(ILThrowModels$Thing;)Z"⟩
abbrev cX8_castCause : ByteArray := prog_1_method_35_code
def yX8_castCause : MethodName := ⟨RX8, "castCause", "(ILThrowModels$Thing;)I"⟩
abbrev cX8_elementCause : ByteArray := prog_1_method_36_code
def yX8_elementCause : MethodName := ⟨RX8, "elementCause", "(ILThrowModels$Thing;I)I"⟩
abbrev cX8_putCause : ByteArray := prog_1_method_37_code
def yX8_putCause : MethodName := ⟨RX8, "putCause", "(ILThrowModels$Thing;ILThrowModels$Thing;)I"⟩
abbrev cX8_crossCause : ByteArray := prog_1_method_38_code
def yX8_crossCause : MethodName := ⟨RX8, "crossCause", "(LThrowModels$Thing;II)I"⟩
abbrev cX8_copyCause : ByteArray := prog_1_method_39_code
def yX8_copyCause : MethodName := ⟨RX8, "copyCause", "(LThrowModels$Thing;ILThrowModels$Thing;II)I"⟩
abbrev cX8_callCause : ByteArray := prog_1_method_40_code
def yX8_callCause : MethodName := ⟨RX8, "callCause", "(LThrowModels$Thing;I)I"⟩
abbrev cX8_divideCause : ByteArray := prog_1_method_41_code
def yX8_divideCause : MethodName := ⟨RX8, "divideCause", "(IJ)I"⟩
abbrev cX8_traceOf : ByteArray := prog_1_method_42_code
def yX8_traceOf : MethodName := ⟨RX8, "traceOf", "(I)I"⟩
abbrev cX8_newThing : ByteArray := prog_1_method_43_code
def yX8_newThing : MethodName := ⟨RX8, "newThing", "(III)LThrowModels$Thing;"⟩
abbrev cX8_newRows : ByteArray := prog_1_method_44_code
def yX8_newRows : MethodName := ⟨RX8, "newRows", "(II)LThrowModels$ThingArray;"⟩
abbrev cX8_numberAt : ByteArray := prog_1_method_45_code
def yX8_numberAt : MethodName := ⟨RX8, "numberAt", "(LThrowModels$Thing;I)J"⟩
abbrev cX8_elementAt : ByteArray := prog_1_method_46_code
def yX8_elementAt : MethodName := ⟨RX8, "elementAt", "(LThrowModels$Thing;I)LThrowModels$Thing;"⟩
abbrev cX8_elementTypeOfType : ByteArray := prog_1_method_47_code
def yX8_elementTypeOfType : MethodName := ⟨RX8, "elementTypeOfType", "(I)I"⟩
abbrev cX8_elementTypeOfKind : ByteArray := prog_1_method_48_code
def yX8_elementTypeOfKind : MethodName := ⟨RX8, "elementTypeOfKind", "(I)I"⟩
abbrev cX8_cutToWidth : ByteArray := prog_1_method_49_code
def yX8_cutToWidth : MethodName := ⟨RX8, "cutToWidth", "(IJ)J"⟩
abbrev cX8_copyElements : ByteArray := prog_1_method_50_code
def yX8_copyElements : MethodName := ⟨RX8, "copyElements", "(LThrowModels$Thing;ILThrowModels$Thing;II)I"⟩
abbrev cX8_shiftThings : ByteArray := prog_1_method_51_code
def yX8_shiftThings : MethodName := ⟨RX8, "shiftThings", "(LThrowModels$ThingArray;III)V"⟩
abbrev cX8_copyThings : ByteArray := prog_1_method_52_code
def yX8_copyThings : MethodName := ⟨RX8, "copyThings", "(LThrowModels$ThingArray;ILThrowModels$ThingArray;II)I"⟩
abbrev cX8_callAnswer : ByteArray := prog_1_method_53_code
def yX8_callAnswer : MethodName := ⟨RX8, "callAnswer", "(LThrowModels$Plain;I)I"⟩
def RX9 : String := "ThrowModelsModel"
def TX9 : u_T := fun k => match k with
  | 0 => ("ThrowModelsModel", "kind", "[I", true)
  | 1 => ("ThrowModelsModel", "length", "[I", true)
  | 2 => ("ThrowModelsModel", "base", "[I", true)
  | 3 => ("ThrowModelsModel", "things", "I", false)
  | 4 => ("ThrowModelsModel", "ints", "[I", true)
  | 5 => ("ThrowModelsModel", "usedInts", "I", false)
  | 6 => ("ThrowModelsModel", "others", "[J", true)
  | 7 => ("ThrowModelsModel", "usedOthers", "I", false)
  | 8 => ("ThrowModelsModel", "cells", "[I", true)
  | 9 => ("ThrowModelsModel", "latest", "I", false)
  | 10 => ("ThrowModelsModel", "counts", "[I", true)
  | _ => ("ThrowModelsModel", "trace", "I", false)
def tyX9 : Nat → FieldType := fun k => match k with
  | 0 => .array .int
  | 1 => .array .int
  | 2 => .array .int
  | 3 => .int
  | 4 => .array .int
  | 5 => .int
  | 6 => .array .long
  | 7 => .int
  | 8 => .array .int
  | 9 => .int
  | 10 => .array .int
  | _ => .int
abbrev wsX90 : List Cond := u_ws RX9 TX9 12
theorem nmX9 : ∀ a, a < 12 → ∀ b, b < 12 → a ≠ b → (TX9 a).2.1 ≠ (TX9 b).2.1 := by decide +kernel
theorem tyX9_ok : ∀ k, k < 12 → parseFieldDescriptor (TX9 k).2.2.1 = some (tyX9 k) := by decide +kernel
abbrev cX9_init : ByteArray := prog_11_method_1_code
def yX9_init : MethodName := ⟨RX9, "<init>", "()V"⟩
abbrev cX9_begin : ByteArray := prog_11_method_2_code
def yX9_begin : MethodName := ⟨RX9, "begin", "()V"⟩
abbrev cX9_fails : ByteArray := prog_11_method_3_code
def yX9_fails : MethodName := ⟨RX9, "fails", "(I)I"⟩
abbrev cX9_realBits : ByteArray := prog_11_method_4_code
def yX9_realBits : MethodName := ⟨RX9, "realBits", "(J)D"⟩
abbrev cX9_singleBits : ByteArray := prog_11_method_5_code
def yX9_singleBits : MethodName := ⟨RX9, "singleBits", "(I)F"⟩
abbrev cX9_in : ByteArray := prog_11_method_6_code
def yX9_in : MethodName := ⟨RX9, "in", "(III)Z"⟩
abbrev cX9_isCell : ByteArray := prog_11_method_7_code
def yX9_isCell : MethodName := ⟨RX9, "isCell", "(I)Z"⟩
abbrev cX9_isKindOf : ByteArray := prog_11_method_8_code
def yX9_isKindOf : MethodName := ⟨RX9, "isKindOf", "(II)Z"⟩
abbrev cX9_passes : ByteArray := prog_11_method_9_code
def yX9_passes : MethodName := ⟨RX9, "passes", "(II)Z"⟩
abbrev cX9_thing : ByteArray := prog_11_method_10_code
def yX9_thing : MethodName := ⟨RX9, "thing", "(II)I"⟩
abbrev cX9_make : ByteArray := prog_11_method_11_code
def yX9_make : MethodName := ⟨RX9, "make", "(IIII)I"⟩
abbrev cX9_move : ByteArray := prog_11_method_12_code
def yX9_move : MethodName := ⟨RX9, "move", "(II)I"⟩
abbrev cX9_twin : ByteArray := prog_11_method_13_code
def yX9_twin : MethodName := ⟨RX9, "twin", "(II)I"⟩
abbrev cX9_is : ByteArray := prog_11_method_14_code
def yX9_is : MethodName := ⟨RX9, "is", "(II)I"⟩
abbrev cX9_same : ByteArray := prog_11_method_15_code
def yX9_same : MethodName := ⟨RX9, "same", "(II)I"⟩
abbrev cX9_length : ByteArray := prog_11_method_16_code
def yX9_length : MethodName := ⟨RX9, "length", "(II)I"⟩
abbrev cX9_doubleBits : ByteArray := prog_11_method_17_code
def yX9_doubleBits : MethodName := ⟨RX9, "doubleBits", "(D)J"⟩
abbrev cX9_floatBits : ByteArray := prog_11_method_18_code
def yX9_floatBits : MethodName := ⟨RX9, "floatBits", "(F)J"⟩
abbrev cX9_cut : ByteArray := prog_11_method_19_code
def yX9_cut : MethodName := ⟨RX9, "cut", "(IJ)J"⟩
abbrev cX9_against : ByteArray := prog_11_method_20_code
def yX9_against : MethodName := ⟨RX9, "against", "(III)I"⟩
abbrev cX9_element : ByteArray := prog_11_method_21_code
def yX9_element : MethodName := ⟨RX9, "element", "(II)J"⟩
abbrev cX9_set : ByteArray := prog_11_method_22_code
def yX9_set : MethodName := ⟨RX9, "set", "(IIJ)V"⟩
abbrev cX9_load : ByteArray := prog_11_method_23_code
def yX9_load : MethodName := ⟨RX9, "load", "(III)J"⟩
abbrev cX9_store : ByteArray := prog_11_method_24_code
def yX9_store : MethodName := ⟨RX9, "store", "(IIIJ)I"⟩
abbrev cX9_isHolder : ByteArray := prog_11_method_25_code
def yX9_isHolder : MethodName := ⟨RX9, "isHolder", "(I)Z"⟩
abbrev cX9_take : ByteArray := prog_11_method_26_code
def yX9_take : MethodName := ⟨RX9, "take", "(IIII)I"⟩
abbrev cX9_elementType : ByteArray := prog_11_method_27_code
def yX9_elementType : MethodName := ⟨RX9, "elementType", "(I)I"⟩
abbrev cX9_put : ByteArray := prog_11_method_28_code
def yX9_put : MethodName := ⟨RX9, "put", "(IIII)I"⟩
abbrev cX9_cross : ByteArray := prog_11_method_29_code
def yX9_cross : MethodName := ⟨RX9, "cross", "(III)I"⟩
abbrev cX9_isFamily : ByteArray := prog_11_method_30_code
def yX9_isFamily : MethodName := ⟨RX9, "isFamily", "(I)Z"⟩
abbrev cX9_isBeyond : ByteArray := prog_11_method_31_code
def yX9_isBeyond : MethodName := ⟨RX9, "isBeyond", "(III)Z"⟩
abbrev cX9_copy : ByteArray := prog_11_method_32_code
def yX9_copy : MethodName := ⟨RX9, "copy", "(IIIII)I"⟩
abbrev cX9_field : ByteArray := prog_11_method_33_code
def yX9_field : MethodName := ⟨RX9, "field", "(II)I"⟩
abbrev cX9_write : ByteArray := prog_11_method_34_code
def yX9_write : MethodName := ⟨RX9, "write", "(III)I"⟩
abbrev cX9_call : ByteArray := prog_11_method_35_code
def yX9_call : MethodName := ⟨RX9, "call", "(II)I"⟩
abbrev cX9_divide : ByteArray := prog_11_method_36_code
def yX9_divide : MethodName := ⟨RX9, "divide", "(IJJ)J"⟩
abbrev cX9_isEndless : ByteArray := prog_11_method_37_code
def yX9_isEndless : MethodName := ⟨RX9, "isEndless", "(D)Z"⟩
abbrev cX9_sumOf : ByteArray := prog_11_method_38_code
def yX9_sumOf : MethodName := ⟨RX9, "sumOf", "(DD)D"⟩
abbrev cX9_lessOf : ByteArray := prog_11_method_39_code
def yX9_lessOf : MethodName := ⟨RX9, "lessOf", "(DD)D"⟩
abbrev cX9_timesOf : ByteArray := prog_11_method_40_code
def yX9_timesOf : MethodName := ⟨RX9, "timesOf", "(DD)D"⟩
abbrev cX9_overOf : ByteArray := prog_11_method_41_code
def yX9_overOf : MethodName := ⟨RX9, "overOf", "(DD)D"⟩
abbrev cX9_wide : ByteArray := prog_11_method_42_code
def yX9_wide : MethodName := ⟨RX9, "wide", "(I)D"⟩
abbrev cX9_real : ByteArray := prog_11_method_43_code
def yX9_real : MethodName := ⟨RX9, "real", "(IJJ)J"⟩
abbrev cX9_isWhole : ByteArray := prog_11_method_44_code
def yX9_isWhole : MethodName := ⟨RX9, "isWhole", "(D)Z"⟩
abbrev cX9_signed : ByteArray := prog_11_method_45_code
def yX9_signed : MethodName := ⟨RX9, "signed", "(DJ)J"⟩
abbrev cX9_rounded : ByteArray := prog_11_method_46_code
def yX9_rounded : MethodName := ⟨RX9, "rounded", "(DI)D"⟩
abbrev cX9_math : ByteArray := prog_11_method_47_code
def yX9_math : MethodName := ⟨RX9, "math", "(IJ)J"⟩
abbrev cX9_narrow : ByteArray := prog_11_method_48_code
def yX9_narrow : MethodName := ⟨RX9, "narrow", "(IJ)J"⟩
abbrev cX9_widen : ByteArray := prog_11_method_49_code
def yX9_widen : MethodName := ⟨RX9, "widen", "(IJ)J"⟩
abbrev cX9_holds : ByteArray := prog_11_method_50_code
def yX9_holds : MethodName := ⟨RX9, "holds", "(IDD)Z"⟩
abbrev cX9_compare : ByteArray := prog_11_method_51_code
def yX9_compare : MethodName := ⟨RX9, "compare", "(IJJ)I"⟩
abbrev cX9_pass : ByteArray := prog_11_method_52_code
def yX9_pass : MethodName := ⟨RX9, "pass", "(III)J"⟩
abbrev cX9_trace : ByteArray := prog_11_method_53_code
def yX9_trace : MethodName := ⟨RX9, "trace", "()I"⟩
abbrev cX9_latest : ByteArray := prog_11_method_54_code
def yX9_latest : MethodName := ⟨RX9, "latest", "()I"⟩
abbrev cX9_thrown : ByteArray := prog_11_method_55_code
def yX9_thrown : MethodName := ⟨RX9, "thrown", "(I)I"⟩
def RJxe99ae : String := "java/lang/Double"
def TJxe99ae : u_T := fun k => match k with
  | _ => ("", "", "", false)
def tyJxe99ae : Nat → FieldType := fun k => match k with
  | _ => .int
abbrev wsJxe99ae0 : List Cond := u_ws RJxe99ae TJxe99ae 0
theorem nmJxe99ae : ∀ a, a < 0 → ∀ b, b < 0 → a ≠ b → (TJxe99ae a).2.1 ≠ (TJxe99ae b).2.1 := by decide +kernel
theorem tyJxe99ae_ok : ∀ k, k < 0 → parseFieldDescriptor (TJxe99ae k).2.2.1 = some (tyJxe99ae k) := by decide +kernel
abbrev cJxe99ae_isNaN_b9ae7 : ByteArray := prog_12_method_6_code
def yJxe99ae_isNaN_b9ae7 : MethodName := ⟨RJxe99ae, "isNaN", "(D)Z"⟩
abbrev cJxe99ae_doubleToLongBits_ccdee : ByteArray := prog_12_method_23_code
def yJxe99ae_doubleToLongBits_ccdee : MethodName := ⟨RJxe99ae, "doubleToLongBits", "(D)J"⟩
def RJx29ce0 : String := "java/lang/Enum"
def TJx29ce0 : u_T := fun k => match k with
  | _ => ("", "", "", false)
def tyJx29ce0 : Nat → FieldType := fun k => match k with
  | _ => .int
abbrev wsJx29ce00 : List Cond := u_ws RJx29ce0 TJx29ce0 0
theorem nmJx29ce0 : ∀ a, a < 0 → ∀ b, b < 0 → a ≠ b → (TJx29ce0 a).2.1 ≠ (TJx29ce0 b).2.1 := by decide +kernel
theorem tyJx29ce0_ok : ∀ k, k < 0 → parseFieldDescriptor (TJx29ce0 k).2.2.1 = some (tyJx29ce0 k) := by decide +kernel
def RJxf58ca : String := "java/lang/Float"
def TJxf58ca : u_T := fun k => match k with
  | _ => ("", "", "", false)
def tyJxf58ca : Nat → FieldType := fun k => match k with
  | _ => .int
abbrev wsJxf58ca0 : List Cond := u_ws RJxf58ca TJxf58ca 0
theorem nmJxf58ca : ∀ a, a < 0 → ∀ b, b < 0 → a ≠ b → (TJxf58ca a).2.1 ≠ (TJxf58ca b).2.1 := by decide +kernel
theorem tyJxf58ca_ok : ∀ k, k < 0 → parseFieldDescriptor (TJxf58ca k).2.2.1 = some (tyJxf58ca k) := by decide +kernel
abbrev cJxf58ca_isNaN_12338 : ByteArray := prog_14_method_6_code
def yJxf58ca_isNaN_12338 : MethodName := ⟨RJxf58ca, "isNaN", "(F)Z"⟩
abbrev cJxf58ca_floatToIntBits_5c35a : ByteArray := prog_14_method_24_code
def yJxf58ca_floatToIntBits_5c35a : MethodName := ⟨RJxf58ca, "floatToIntBits", "(F)I"⟩
def RJ9 : String := "java/lang/Math"
def TJ9 : u_T := fun k => match k with
  | _ => ("", "", "", false)
def tyJ9 : Nat → FieldType := fun k => match k with
  | _ => .int
abbrev wsJ90 : List Cond := u_ws RJ9 TJ9 0
theorem nmJ9 : ∀ a, a < 0 → ∀ b, b < 0 → a ≠ b → (TJ9 a).2.1 ≠ (TJ9 b).2.1 := by decide +kernel
theorem tyJ9_ok : ∀ k, k < 0 → parseFieldDescriptor (TJ9 k).2.2.1 = some (tyJ9 k) := by decide +kernel
abbrev cJ9_abs_067f4 : ByteArray := prog_15_method_61_code
def yJ9_abs_067f4 : MethodName := ⟨RJ9, "abs", "(J)J"⟩
abbrev cJ9_max_7cf53 : ByteArray := prog_15_method_65_code
def yJ9_max_7cf53 : MethodName := ⟨RJ9, "max", "(II)I"⟩
abbrev cJ9_max_f86c9 : ByteArray := prog_15_method_66_code
def yJ9_max_f86c9 : MethodName := ⟨RJ9, "max", "(JJ)J"⟩
abbrev cJ9_min_7cf53 : ByteArray := prog_15_method_69_code
def yJ9_min_7cf53 : MethodName := ⟨RJ9, "min", "(II)I"⟩
abbrev cJ9_min_f86c9 : ByteArray := prog_15_method_70_code
def yJ9_min_f86c9 : MethodName := ⟨RJ9, "min", "(JJ)J"⟩
def RJ10 : String := "java/lang/System"
def TJ10 : u_T := fun k => match k with
  | _ => ("", "", "", false)
def tyJ10 : Nat → FieldType := fun k => match k with
  | _ => .int
abbrev wsJ100 : List Cond := u_ws RJ10 TJ10 0
theorem nmJ10 : ∀ a, a < 0 → ∀ b, b < 0 → a ≠ b → (TJ10 a).2.1 ≠ (TJ10 b).2.1 := by decide +kernel
theorem tyJ10_ok : ∀ k, k < 0 → parseFieldDescriptor (TJ10 k).2.2.1 = some (tyJ10 k) := by decide +kernel
def RL : String := "ThrowModelsLaw"
abbrev cL_law : ByteArray := code
def yL_law : MethodName := ⟨RL, "law", "([I)Z"⟩
def wsX0_plainNaN : List Cond := .code yX0_plainNaN cX0_plainNaN 1 (some .long) :: ([.fieldLink RX0 36 "ThrowModels$Format" "infinity" "J", .fieldLink RX0 29 "ThrowModels$Format" "fractionBits" "I"])
def wsX0_magnitude : List Cond := .code yX0_magnitude cX0_magnitude 3 (some .long) :: ([.fieldLink RX0 40 "ThrowModels$Format" "signBit" "J"])
def wsX0_isNegative : List Cond := .code yX0_isNegative cX0_isNegative 3 (some .boolean) :: ([.fieldLink RX0 40 "ThrowModels$Format" "signBit" "J"])
def wsX0_isNaN : List Cond := .code yX0_isNaN cX0_isNaN 3 (some .boolean) :: ([.fieldLink RX0 36 "ThrowModels$Format" "infinity" "J", .methodLink RX0 43 yX0_magnitude, .instanceMethod yX0_magnitude, .selects RX0 yX0_magnitude yX0_magnitude, .initialized RX0, .code yX0_magnitude cX0_magnitude 3 (some .long), .fieldLink RX0 40 "ThrowModels$Format" "signBit" "J"])
def wsX0_isInfinite : List Cond := .code yX0_isInfinite cX0_isInfinite 3 (some .boolean) :: ([.fieldLink RX0 36 "ThrowModels$Format" "infinity" "J", .methodLink RX0 43 yX0_magnitude, .instanceMethod yX0_magnitude, .selects RX0 yX0_magnitude yX0_magnitude, .initialized RX0, .code yX0_magnitude cX0_magnitude 3 (some .long), .fieldLink RX0 40 "ThrowModels$Format" "signBit" "J"])
def wsX0_isZero : List Cond := .code yX0_isZero cX0_isZero 3 (some .boolean) :: ([.methodLink RX0 43 yX0_magnitude, .instanceMethod yX0_magnitude, .selects RX0 yX0_magnitude yX0_magnitude, .initialized RX0, .code yX0_magnitude cX0_magnitude 3 (some .long), .fieldLink RX0 40 "ThrowModels$Format" "signBit" "J"])
def wsX0_highestBit : List Cond := .code yX0_highestBit cX0_highestBit 4 (some .int) :: ([])
def wsX0_missingPlaces : List Cond := .code yX0_missingPlaces cX0_missingPlaces 5 (some .int) :: ([.fieldLink RX0 29 "ThrowModels$Format" "fractionBits" "I", .methodLink RX0 43 yX0_magnitude, .instanceMethod yX0_magnitude, .selects RX0 yX0_magnitude yX0_magnitude, .initialized RX0, .code yX0_magnitude cX0_magnitude 3 (some .long), .fieldLink RX0 40 "ThrowModels$Format" "signBit" "J", .methodLink RX0 47 yX0_highestBit, .static yX0_highestBit, .code yX0_highestBit cX0_highestBit 4 (some .int)])
def wsX0_significand : List Cond := .code yX0_significand cX0_significand 7 (some .long) :: ([.fieldLink RX0 29 "ThrowModels$Format" "fractionBits" "I", .methodLink RX0 43 yX0_magnitude, .instanceMethod yX0_magnitude, .selects RX0 yX0_magnitude yX0_magnitude, .initialized RX0, .code yX0_magnitude cX0_magnitude 3 (some .long), .fieldLink RX0 40 "ThrowModels$Format" "signBit" "J", .methodLink RX0 51 yX0_missingPlaces, .instanceMethod yX0_missingPlaces, .selects RX0 yX0_missingPlaces yX0_missingPlaces, .code yX0_missingPlaces cX0_missingPlaces 5 (some .int), .methodLink RX0 47 yX0_highestBit, .static yX0_highestBit, .code yX0_highestBit cX0_highestBit 4 (some .int)])
def wsX0_exponent : List Cond := .code yX0_exponent cX0_exponent 4 (some .int) :: ([.fieldLink RX0 29 "ThrowModels$Format" "fractionBits" "I", .fieldLink RX0 33 "ThrowModels$Format" "lowestExponent" "I", .methodLink RX0 54 Lib.Math.max.name, .static Lib.Math.max.name, .initialized "java/lang/Math", .code Lib.Math.max.name Lib.Math.max.code 2 (some .int), .methodLink RX0 43 yX0_magnitude, .instanceMethod yX0_magnitude, .selects RX0 yX0_magnitude yX0_magnitude, .initialized RX0, .code yX0_magnitude cX0_magnitude 3 (some .long), .fieldLink RX0 40 "ThrowModels$Format" "signBit" "J", .methodLink RX0 51 yX0_missingPlaces, .instanceMethod yX0_missingPlaces, .selects RX0 yX0_missingPlaces yX0_missingPlaces, .code yX0_missingPlaces cX0_missingPlaces 5 (some .int), .methodLink RX0 47 yX0_highestBit, .static yX0_highestBit, .code yX0_highestBit cX0_highestBit 4 (some .int)])
def wsX0_rounded : List Cond := .code yX0_rounded cX0_rounded 10 (some .long) :: ([])
def wsX0_pack : List Cond := .code yX0_pack cX0_pack 10 (some .long) :: ([.fieldLink RX0 40 "ThrowModels$Format" "signBit" "J", .fieldLink RX0 29 "ThrowModels$Format" "fractionBits" "I", .fieldLink RX0 33 "ThrowModels$Format" "lowestExponent" "I", .methodLink RX0 54 Lib.Math.max.name, .static Lib.Math.max.name, .initialized "java/lang/Math", .code Lib.Math.max.name Lib.Math.max.code 2 (some .int), .fieldLink RX0 36 "ThrowModels$Format" "infinity" "J", .methodLink RX0 47 yX0_highestBit, .static yX0_highestBit, .initialized RX0, .code yX0_highestBit cX0_highestBit 4 (some .int), .methodLink RX0 60 yX0_rounded, .static yX0_rounded, .code yX0_rounded cX0_rounded 10 (some .long)])
def wsX6_init : List Cond := .code yX6_init cX6_init 3 none :: ([.methodLink RX6 3 objectInit, .instanceMethod objectInit, .code objectInit ⟨#[0xb1]⟩ 1 none, .fieldLink RX6 9 "ThrowModels$Thing" "kind" "I", .fieldLink RX6 15 "ThrowModels$Thing" "length" "I"] ++ wsX10 ++ wsX20 ++ wsX40 ++ wsX50 ++ wsX70)
def wsX1_init : List Cond := .code yX1_init cX1_init 3 none :: ([.arrayClass .long, .fieldLink RX1 7 "ThrowModels$NumberArray" "numbers" "[J", .methodLink RX1 1 yX6_init, .instanceMethod yX6_init, .initialized RX6, .code yX6_init cX6_init 3 none, .methodLink RX6 3 objectInit, .instanceMethod objectInit, .code objectInit ⟨#[0xb1]⟩ 1 none, .fieldLink RX6 9 "ThrowModels$Thing" "kind" "I", .fieldLink RX6 15 "ThrowModels$Thing" "length" "I"] ++ wsX10 ++ wsX20 ++ wsX40 ++ wsX50 ++ wsX70)
def wsX2_init : List Cond := .code yX2_init cX2_init 3 none :: ([.fieldLink RX2 7 "ThrowModels$Plain" "value" "I", .methodLink RX2 1 yX6_init, .instanceMethod yX6_init, .initialized RX6, .code yX6_init cX6_init 3 none, .methodLink RX6 3 objectInit, .instanceMethod objectInit, .code objectInit ⟨#[0xb1]⟩ 1 none, .fieldLink RX6 9 "ThrowModels$Thing" "kind" "I", .fieldLink RX6 15 "ThrowModels$Thing" "length" "I"] ++ wsX20 ++ wsX40 ++ wsX50 ++ wsX10 ++ wsX70)
def wsX2_size : List Cond := .code yX2_size cX2_size 1 (some .int) :: ([.fieldLink RX2 7 "ThrowModels$Plain" "value" "I"] ++ wsX20 ++ wsX40 ++ wsX50)
def wsX4_size : List Cond := .code yX4_size cX4_size 1 (some .int) :: ([.fieldLink RX4 7 "ThrowModels$Round" "value" "I", .sameField "ThrowModels$Round" "ThrowModels$Plain" "value" "I"] ++ wsX20 ++ wsX40 ++ wsX50)
def wsX5_size : List Cond := .code yX5_size cX5_size 1 (some .int) :: ([.fieldLink RX5 9 "ThrowModels$Square" "value" "I", .sameField "ThrowModels$Square" "ThrowModels$Plain" "value" "I"] ++ wsX20 ++ wsX40 ++ wsX50)
def wsX2_twice : List Cond := .code yX2_twice cX2_twice 1 (some .int) :: ([.methodLink RX2 13 yX2_size, .instanceMethod yX2_size, .selects RX2 yX2_size yX2_size, .initialized RX2, .code yX2_size cX2_size 1 (some .int), .fieldLink RX2 7 "ThrowModels$Plain" "value" "I", .methodLink RX2 13 ⟨"ThrowModels$Plain", "size", "()I"⟩, .sameMethod "ThrowModels$Plain" "ThrowModels$Plain" "size" "()I", .instanceMethod ⟨"ThrowModels$Plain", "size", "()I"⟩, .selects RX4 ⟨"ThrowModels$Plain", "size", "()I"⟩ yX4_size, .instanceMethod yX4_size, .initialized RX4, .code yX4_size cX4_size 1 (some .int), .fieldLink RX4 7 "ThrowModels$Round" "value" "I", .sameField "ThrowModels$Round" "ThrowModels$Plain" "value" "I", .selects RX5 ⟨"ThrowModels$Plain", "size", "()I"⟩ yX5_size, .instanceMethod yX5_size, .initialized RX5, .code yX5_size cX5_size 1 (some .int), .fieldLink RX5 9 "ThrowModels$Square" "value" "I", .sameField "ThrowModels$Square" "ThrowModels$Plain" "value" "I"] ++ wsX20 ++ wsX40 ++ wsX50)
def wsX2_mark : List Cond := .code yX2_mark cX2_mark 1 (some .int) :: ([.fieldLink RX2 7 "ThrowModels$Plain" "value" "I"] ++ wsX20 ++ wsX40 ++ wsX50)
def wsX2_step : List Cond := .code yX2_step cX2_step 1 (some .int) :: ([.fieldLink RX2 7 "ThrowModels$Plain" "value" "I"] ++ wsX20 ++ wsX40 ++ wsX50)
def wsX3_movedDown : List Cond := .code yX3_movedDown cX3_movedDown 5 (some .long) :: ([])
def wsX3_sumOfFinite_r1 : List Cond := [Cond.fieldLink RX3 11 "ThrowModels$Format" "DOUBLE" "LThrowModels$Format;", Cond.methodLink RX3 39 yX0_exponent, Cond.instanceMethod yX0_exponent, Cond.selects RX0 yX0_exponent yX0_exponent, Cond.initialized RX0, Cond.code yX0_exponent cX0_exponent 4 (some .int), Cond.fieldLink RX0 29 "ThrowModels$Format" "fractionBits" "I", Cond.fieldLink RX0 33 "ThrowModels$Format" "lowestExponent" "I", Cond.methodLink RX0 54 Lib.Math.max.name, Cond.static Lib.Math.max.name, Cond.initialized "java/lang/Math", Cond.code Lib.Math.max.name Lib.Math.max.code 2 (some .int), Cond.methodLink RX0 43 yX0_magnitude, Cond.instanceMethod yX0_magnitude, Cond.selects RX0 yX0_magnitude yX0_magnitude, Cond.code yX0_magnitude cX0_magnitude 3 (some .long), Cond.fieldLink RX0 40 "ThrowModels$Format" "signBit" "J", Cond.methodLink RX0 51 yX0_missingPlaces, Cond.instanceMethod yX0_missingPlaces, Cond.selects RX0 yX0_missingPlaces yX0_missingPlaces, Cond.code yX0_missingPlaces cX0_missingPlaces 5 (some .int), Cond.methodLink RX0 47 yX0_highestBit, Cond.static yX0_highestBit, Cond.code yX0_highestBit cX0_highestBit 4 (some .int)]
def wsX3_sumOfFinite_r2 : List Cond := [Cond.methodLink RX3 43 yX0_significand, Cond.instanceMethod yX0_significand, Cond.selects RX0 yX0_significand yX0_significand, Cond.code yX0_significand cX0_significand 7 (some .long), Cond.methodLink RX3 46 yX3_movedDown, Cond.static yX3_movedDown, Cond.initialized RX3, Cond.code yX3_movedDown cX3_movedDown 5 (some .long), Cond.methodLink RX3 50 yX0_pack, Cond.instanceMethod yX0_pack, Cond.selects RX0 yX0_pack yX0_pack, Cond.code yX0_pack cX0_pack 10 (some .long), Cond.fieldLink RX0 36 "ThrowModels$Format" "infinity" "J", Cond.methodLink RX0 60 yX0_rounded, Cond.static yX0_rounded, Cond.code yX0_rounded cX0_rounded 10 (some .long)]
def wsX3_sumOfFinite : List Cond := .code yX3_sumOfFinite cX3_sumOfFinite 13 (some .long) :: ((wsX3_sumOfFinite_r1 ++ wsX3_sumOfFinite_r2))
def wsX3_sum_r1 : List Cond := [Cond.fieldLink RX3 11 "ThrowModels$Format" "DOUBLE" "LThrowModels$Format;", Cond.methodLink RX3 17 yX0_isNaN, Cond.instanceMethod yX0_isNaN, Cond.selects RX0 yX0_isNaN yX0_isNaN, Cond.initialized RX0, Cond.code yX0_isNaN cX0_isNaN 3 (some .boolean), Cond.fieldLink RX0 36 "ThrowModels$Format" "infinity" "J", Cond.methodLink RX0 43 yX0_magnitude, Cond.instanceMethod yX0_magnitude, Cond.selects RX0 yX0_magnitude yX0_magnitude, Cond.code yX0_magnitude cX0_magnitude 3 (some .long), Cond.fieldLink RX0 40 "ThrowModels$Format" "signBit" "J", Cond.methodLink RX3 21 yX0_plainNaN, Cond.instanceMethod yX0_plainNaN, Cond.selects RX0 yX0_plainNaN yX0_plainNaN, Cond.code yX0_plainNaN cX0_plainNaN 1 (some .long), Cond.fieldLink RX0 29 "ThrowModels$Format" "fractionBits" "I", Cond.methodLink RX3 25 yX0_isInfinite, Cond.instanceMethod yX0_isInfinite, Cond.selects RX0 yX0_isInfinite yX0_isInfinite, Cond.code yX0_isInfinite cX0_isInfinite 3 (some .boolean), Cond.methodLink RX3 28 yX0_magnitude, Cond.methodLink RX3 32 yX0_isZero, Cond.instanceMethod yX0_isZero]
def wsX3_sum_r2 : List Cond := [Cond.selects RX0 yX0_isZero yX0_isZero, Cond.code yX0_isZero cX0_isZero 3 (some .boolean), Cond.methodLink RX3 35 yX3_sumOfFinite, Cond.static yX3_sumOfFinite, Cond.initialized RX3, Cond.code yX3_sumOfFinite cX3_sumOfFinite 13 (some .long), Cond.methodLink RX3 39 yX0_exponent, Cond.instanceMethod yX0_exponent, Cond.selects RX0 yX0_exponent yX0_exponent, Cond.code yX0_exponent cX0_exponent 4 (some .int), Cond.fieldLink RX0 33 "ThrowModels$Format" "lowestExponent" "I", Cond.methodLink RX0 54 Lib.Math.max.name, Cond.static Lib.Math.max.name, Cond.initialized "java/lang/Math", Cond.code Lib.Math.max.name Lib.Math.max.code 2 (some .int), Cond.methodLink RX0 51 yX0_missingPlaces, Cond.instanceMethod yX0_missingPlaces, Cond.selects RX0 yX0_missingPlaces yX0_missingPlaces, Cond.code yX0_missingPlaces cX0_missingPlaces 5 (some .int), Cond.methodLink RX0 47 yX0_highestBit, Cond.static yX0_highestBit, Cond.code yX0_highestBit cX0_highestBit 4 (some .int), Cond.methodLink RX3 43 yX0_significand, Cond.instanceMethod yX0_significand]
def wsX3_sum_r3 : List Cond := [Cond.selects RX0 yX0_significand yX0_significand, Cond.code yX0_significand cX0_significand 7 (some .long), Cond.methodLink RX3 46 yX3_movedDown, Cond.static yX3_movedDown, Cond.code yX3_movedDown cX3_movedDown 5 (some .long), Cond.methodLink RX3 50 yX0_pack, Cond.instanceMethod yX0_pack, Cond.selects RX0 yX0_pack yX0_pack, Cond.code yX0_pack cX0_pack 10 (some .long), Cond.methodLink RX0 60 yX0_rounded, Cond.static yX0_rounded, Cond.code yX0_rounded cX0_rounded 10 (some .long)]
def wsX3_sum : List Cond := .code yX3_sum cX3_sum 9 (some .long) :: ((wsX3_sum_r1 ++ (wsX3_sum_r2 ++ wsX3_sum_r3)))
def wsX3_difference_r1 : List Cond := [Cond.constantLong RX3 54 (-9223372036854775808), Cond.methodLink RX3 56 yX3_sum, Cond.static yX3_sum, Cond.initialized RX3, Cond.code yX3_sum cX3_sum 9 (some .long), Cond.fieldLink RX3 11 "ThrowModels$Format" "DOUBLE" "LThrowModels$Format;", Cond.methodLink RX3 17 yX0_isNaN, Cond.instanceMethod yX0_isNaN, Cond.selects RX0 yX0_isNaN yX0_isNaN, Cond.initialized RX0, Cond.code yX0_isNaN cX0_isNaN 3 (some .boolean), Cond.fieldLink RX0 36 "ThrowModels$Format" "infinity" "J", Cond.methodLink RX0 43 yX0_magnitude, Cond.instanceMethod yX0_magnitude, Cond.selects RX0 yX0_magnitude yX0_magnitude, Cond.code yX0_magnitude cX0_magnitude 3 (some .long), Cond.fieldLink RX0 40 "ThrowModels$Format" "signBit" "J", Cond.methodLink RX3 21 yX0_plainNaN, Cond.instanceMethod yX0_plainNaN, Cond.selects RX0 yX0_plainNaN yX0_plainNaN, Cond.code yX0_plainNaN cX0_plainNaN 1 (some .long), Cond.fieldLink RX0 29 "ThrowModels$Format" "fractionBits" "I", Cond.methodLink RX3 25 yX0_isInfinite, Cond.instanceMethod yX0_isInfinite]
def wsX3_difference_r2 : List Cond := [Cond.selects RX0 yX0_isInfinite yX0_isInfinite, Cond.code yX0_isInfinite cX0_isInfinite 3 (some .boolean), Cond.methodLink RX3 28 yX0_magnitude, Cond.methodLink RX3 32 yX0_isZero, Cond.instanceMethod yX0_isZero, Cond.selects RX0 yX0_isZero yX0_isZero, Cond.code yX0_isZero cX0_isZero 3 (some .boolean), Cond.methodLink RX3 35 yX3_sumOfFinite, Cond.static yX3_sumOfFinite, Cond.code yX3_sumOfFinite cX3_sumOfFinite 13 (some .long), Cond.methodLink RX3 39 yX0_exponent, Cond.instanceMethod yX0_exponent, Cond.selects RX0 yX0_exponent yX0_exponent, Cond.code yX0_exponent cX0_exponent 4 (some .int), Cond.fieldLink RX0 33 "ThrowModels$Format" "lowestExponent" "I", Cond.methodLink RX0 54 Lib.Math.max.name, Cond.static Lib.Math.max.name, Cond.initialized "java/lang/Math", Cond.code Lib.Math.max.name Lib.Math.max.code 2 (some .int), Cond.methodLink RX0 51 yX0_missingPlaces, Cond.instanceMethod yX0_missingPlaces, Cond.selects RX0 yX0_missingPlaces yX0_missingPlaces, Cond.code yX0_missingPlaces cX0_missingPlaces 5 (some .int), Cond.methodLink RX0 47 yX0_highestBit]
def wsX3_difference_r3 : List Cond := [Cond.static yX0_highestBit, Cond.code yX0_highestBit cX0_highestBit 4 (some .int), Cond.methodLink RX3 43 yX0_significand, Cond.instanceMethod yX0_significand, Cond.selects RX0 yX0_significand yX0_significand, Cond.code yX0_significand cX0_significand 7 (some .long), Cond.methodLink RX3 46 yX3_movedDown, Cond.static yX3_movedDown, Cond.code yX3_movedDown cX3_movedDown 5 (some .long), Cond.methodLink RX3 50 yX0_pack, Cond.instanceMethod yX0_pack, Cond.selects RX0 yX0_pack yX0_pack, Cond.code yX0_pack cX0_pack 10 (some .long), Cond.methodLink RX0 60 yX0_rounded, Cond.static yX0_rounded, Cond.code yX0_rounded cX0_rounded 10 (some .long)]
def wsX3_difference : List Cond := .code yX3_difference cX3_difference 4 (some .long) :: ((wsX3_difference_r1 ++ (wsX3_difference_r2 ++ wsX3_difference_r3)))
def wsX3_productOfFinite_r1 : List Cond := [Cond.fieldLink RX3 11 "ThrowModels$Format" "DOUBLE" "LThrowModels$Format;", Cond.constantLong RX3 66 (134217727), Cond.methodLink RX3 43 yX0_significand, Cond.instanceMethod yX0_significand, Cond.selects RX0 yX0_significand yX0_significand, Cond.initialized RX0, Cond.code yX0_significand cX0_significand 7 (some .long), Cond.fieldLink RX0 29 "ThrowModels$Format" "fractionBits" "I", Cond.methodLink RX0 43 yX0_magnitude, Cond.instanceMethod yX0_magnitude, Cond.selects RX0 yX0_magnitude yX0_magnitude, Cond.code yX0_magnitude cX0_magnitude 3 (some .long), Cond.fieldLink RX0 40 "ThrowModels$Format" "signBit" "J", Cond.methodLink RX0 51 yX0_missingPlaces, Cond.instanceMethod yX0_missingPlaces, Cond.selects RX0 yX0_missingPlaces yX0_missingPlaces, Cond.code yX0_missingPlaces cX0_missingPlaces 5 (some .int), Cond.methodLink RX0 47 yX0_highestBit, Cond.static yX0_highestBit, Cond.code yX0_highestBit cX0_highestBit 4 (some .int), Cond.methodLink RX3 46 yX3_movedDown, Cond.static yX3_movedDown, Cond.initialized RX3, Cond.code yX3_movedDown cX3_movedDown 5 (some .long)]
def wsX3_productOfFinite_r2 : List Cond := [Cond.methodLink RX3 39 yX0_exponent, Cond.instanceMethod yX0_exponent, Cond.selects RX0 yX0_exponent yX0_exponent, Cond.code yX0_exponent cX0_exponent 4 (some .int), Cond.fieldLink RX0 33 "ThrowModels$Format" "lowestExponent" "I", Cond.methodLink RX0 54 Lib.Math.max.name, Cond.static Lib.Math.max.name, Cond.initialized "java/lang/Math", Cond.code Lib.Math.max.name Lib.Math.max.code 2 (some .int), Cond.methodLink RX3 50 yX0_pack, Cond.instanceMethod yX0_pack, Cond.selects RX0 yX0_pack yX0_pack, Cond.code yX0_pack cX0_pack 10 (some .long), Cond.fieldLink RX0 36 "ThrowModels$Format" "infinity" "J", Cond.methodLink RX0 60 yX0_rounded, Cond.static yX0_rounded, Cond.code yX0_rounded cX0_rounded 10 (some .long)]
def wsX3_productOfFinite : List Cond := .code yX3_productOfFinite cX3_productOfFinite 25 (some .long) :: ((wsX3_productOfFinite_r1 ++ wsX3_productOfFinite_r2))
def wsX3_product_r1 : List Cond := [Cond.fieldLink RX3 11 "ThrowModels$Format" "DOUBLE" "LThrowModels$Format;", Cond.constantLong RX3 54 (-9223372036854775808), Cond.fieldLink RX3 59 "ThrowModels$Format" "infinity" "J", Cond.methodLink RX3 17 yX0_isNaN, Cond.instanceMethod yX0_isNaN, Cond.selects RX0 yX0_isNaN yX0_isNaN, Cond.initialized RX0, Cond.code yX0_isNaN cX0_isNaN 3 (some .boolean), Cond.fieldLink RX0 36 "ThrowModels$Format" "infinity" "J", Cond.methodLink RX0 43 yX0_magnitude, Cond.instanceMethod yX0_magnitude, Cond.selects RX0 yX0_magnitude yX0_magnitude, Cond.code yX0_magnitude cX0_magnitude 3 (some .long), Cond.fieldLink RX0 40 "ThrowModels$Format" "signBit" "J", Cond.methodLink RX3 21 yX0_plainNaN, Cond.instanceMethod yX0_plainNaN, Cond.selects RX0 yX0_plainNaN yX0_plainNaN, Cond.code yX0_plainNaN cX0_plainNaN 1 (some .long), Cond.fieldLink RX0 29 "ThrowModels$Format" "fractionBits" "I", Cond.methodLink RX3 32 yX0_isZero, Cond.instanceMethod yX0_isZero, Cond.selects RX0 yX0_isZero yX0_isZero, Cond.code yX0_isZero cX0_isZero 3 (some .boolean), Cond.methodLink RX3 25 yX0_isInfinite]
def wsX3_product_r2 : List Cond := [Cond.instanceMethod yX0_isInfinite, Cond.selects RX0 yX0_isInfinite yX0_isInfinite, Cond.code yX0_isInfinite cX0_isInfinite 3 (some .boolean), Cond.methodLink RX3 63 yX3_productOfFinite, Cond.static yX3_productOfFinite, Cond.initialized RX3, Cond.code yX3_productOfFinite cX3_productOfFinite 25 (some .long), Cond.constantLong RX3 66 (134217727), Cond.methodLink RX3 43 yX0_significand, Cond.instanceMethod yX0_significand, Cond.selects RX0 yX0_significand yX0_significand, Cond.code yX0_significand cX0_significand 7 (some .long), Cond.methodLink RX0 51 yX0_missingPlaces, Cond.instanceMethod yX0_missingPlaces, Cond.selects RX0 yX0_missingPlaces yX0_missingPlaces, Cond.code yX0_missingPlaces cX0_missingPlaces 5 (some .int), Cond.methodLink RX0 47 yX0_highestBit, Cond.static yX0_highestBit, Cond.code yX0_highestBit cX0_highestBit 4 (some .int), Cond.methodLink RX3 46 yX3_movedDown, Cond.static yX3_movedDown, Cond.code yX3_movedDown cX3_movedDown 5 (some .long), Cond.methodLink RX3 39 yX0_exponent, Cond.instanceMethod yX0_exponent]
def wsX3_product_r3 : List Cond := [Cond.selects RX0 yX0_exponent yX0_exponent, Cond.code yX0_exponent cX0_exponent 4 (some .int), Cond.fieldLink RX0 33 "ThrowModels$Format" "lowestExponent" "I", Cond.methodLink RX0 54 Lib.Math.max.name, Cond.static Lib.Math.max.name, Cond.initialized "java/lang/Math", Cond.code Lib.Math.max.name Lib.Math.max.code 2 (some .int), Cond.methodLink RX3 50 yX0_pack, Cond.instanceMethod yX0_pack, Cond.selects RX0 yX0_pack yX0_pack, Cond.code yX0_pack cX0_pack 10 (some .long), Cond.methodLink RX0 60 yX0_rounded, Cond.static yX0_rounded, Cond.code yX0_rounded cX0_rounded 10 (some .long)]
def wsX3_product : List Cond := .code yX3_product cX3_product 7 (some .long) :: ((wsX3_product_r1 ++ (wsX3_product_r2 ++ wsX3_product_r3)))
def wsX3_quotientOfFinite_r1 : List Cond := [Cond.fieldLink RX3 11 "ThrowModels$Format" "DOUBLE" "LThrowModels$Format;", Cond.methodLink RX3 43 yX0_significand, Cond.instanceMethod yX0_significand, Cond.selects RX0 yX0_significand yX0_significand, Cond.initialized RX0, Cond.code yX0_significand cX0_significand 7 (some .long), Cond.fieldLink RX0 29 "ThrowModels$Format" "fractionBits" "I", Cond.methodLink RX0 43 yX0_magnitude, Cond.instanceMethod yX0_magnitude, Cond.selects RX0 yX0_magnitude yX0_magnitude, Cond.code yX0_magnitude cX0_magnitude 3 (some .long), Cond.fieldLink RX0 40 "ThrowModels$Format" "signBit" "J", Cond.methodLink RX0 51 yX0_missingPlaces, Cond.instanceMethod yX0_missingPlaces, Cond.selects RX0 yX0_missingPlaces yX0_missingPlaces, Cond.code yX0_missingPlaces cX0_missingPlaces 5 (some .int), Cond.methodLink RX0 47 yX0_highestBit, Cond.static yX0_highestBit, Cond.code yX0_highestBit cX0_highestBit 4 (some .int), Cond.methodLink RX3 21 yX0_plainNaN, Cond.instanceMethod yX0_plainNaN, Cond.selects RX0 yX0_plainNaN yX0_plainNaN, Cond.code yX0_plainNaN cX0_plainNaN 1 (some .long), Cond.fieldLink RX0 36 "ThrowModels$Format" "infinity" "J"]
def wsX3_quotientOfFinite_r2 : List Cond := [Cond.methodLink RX3 39 yX0_exponent, Cond.instanceMethod yX0_exponent, Cond.selects RX0 yX0_exponent yX0_exponent, Cond.code yX0_exponent cX0_exponent 4 (some .int), Cond.fieldLink RX0 33 "ThrowModels$Format" "lowestExponent" "I", Cond.methodLink RX0 54 Lib.Math.max.name, Cond.static Lib.Math.max.name, Cond.initialized "java/lang/Math", Cond.code Lib.Math.max.name Lib.Math.max.code 2 (some .int), Cond.methodLink RX3 50 yX0_pack, Cond.instanceMethod yX0_pack, Cond.selects RX0 yX0_pack yX0_pack, Cond.code yX0_pack cX0_pack 10 (some .long), Cond.methodLink RX0 60 yX0_rounded, Cond.static yX0_rounded, Cond.code yX0_rounded cX0_rounded 10 (some .long)]
def wsX3_quotientOfFinite : List Cond := .code yX3_quotientOfFinite cX3_quotientOfFinite 12 (some .long) :: ((wsX3_quotientOfFinite_r1 ++ wsX3_quotientOfFinite_r2))
def wsX3_quotient_r1 : List Cond := [Cond.fieldLink RX3 11 "ThrowModels$Format" "DOUBLE" "LThrowModels$Format;", Cond.constantLong RX3 54 (-9223372036854775808), Cond.fieldLink RX3 59 "ThrowModels$Format" "infinity" "J", Cond.methodLink RX3 17 yX0_isNaN, Cond.instanceMethod yX0_isNaN, Cond.selects RX0 yX0_isNaN yX0_isNaN, Cond.initialized RX0, Cond.code yX0_isNaN cX0_isNaN 3 (some .boolean), Cond.fieldLink RX0 36 "ThrowModels$Format" "infinity" "J", Cond.methodLink RX0 43 yX0_magnitude, Cond.instanceMethod yX0_magnitude, Cond.selects RX0 yX0_magnitude yX0_magnitude, Cond.code yX0_magnitude cX0_magnitude 3 (some .long), Cond.fieldLink RX0 40 "ThrowModels$Format" "signBit" "J", Cond.methodLink RX3 21 yX0_plainNaN, Cond.instanceMethod yX0_plainNaN, Cond.selects RX0 yX0_plainNaN yX0_plainNaN, Cond.code yX0_plainNaN cX0_plainNaN 1 (some .long), Cond.fieldLink RX0 29 "ThrowModels$Format" "fractionBits" "I", Cond.methodLink RX3 25 yX0_isInfinite, Cond.instanceMethod yX0_isInfinite, Cond.selects RX0 yX0_isInfinite yX0_isInfinite, Cond.code yX0_isInfinite cX0_isInfinite 3 (some .boolean), Cond.methodLink RX3 32 yX0_isZero]
def wsX3_quotient_r2 : List Cond := [Cond.instanceMethod yX0_isZero, Cond.selects RX0 yX0_isZero yX0_isZero, Cond.code yX0_isZero cX0_isZero 3 (some .boolean), Cond.methodLink RX3 68 yX3_quotientOfFinite, Cond.static yX3_quotientOfFinite, Cond.initialized RX3, Cond.code yX3_quotientOfFinite cX3_quotientOfFinite 12 (some .long), Cond.methodLink RX3 43 yX0_significand, Cond.instanceMethod yX0_significand, Cond.selects RX0 yX0_significand yX0_significand, Cond.code yX0_significand cX0_significand 7 (some .long), Cond.methodLink RX0 51 yX0_missingPlaces, Cond.instanceMethod yX0_missingPlaces, Cond.selects RX0 yX0_missingPlaces yX0_missingPlaces, Cond.code yX0_missingPlaces cX0_missingPlaces 5 (some .int), Cond.methodLink RX0 47 yX0_highestBit, Cond.static yX0_highestBit, Cond.code yX0_highestBit cX0_highestBit 4 (some .int), Cond.methodLink RX3 39 yX0_exponent, Cond.instanceMethod yX0_exponent, Cond.selects RX0 yX0_exponent yX0_exponent, Cond.code yX0_exponent cX0_exponent 4 (some .int), Cond.fieldLink RX0 33 "ThrowModels$Format" "lowestExponent" "I", Cond.methodLink RX0 54 Lib.Math.max.name]
def wsX3_quotient_r3 : List Cond := [Cond.static Lib.Math.max.name, Cond.initialized "java/lang/Math", Cond.code Lib.Math.max.name Lib.Math.max.code 2 (some .int), Cond.methodLink RX3 50 yX0_pack, Cond.instanceMethod yX0_pack, Cond.selects RX0 yX0_pack yX0_pack, Cond.code yX0_pack cX0_pack 10 (some .long), Cond.methodLink RX0 60 yX0_rounded, Cond.static yX0_rounded, Cond.code yX0_rounded cX0_rounded 10 (some .long)]
def wsX3_quotient : List Cond := .code yX3_quotient cX3_quotient 6 (some .long) :: ((wsX3_quotient_r1 ++ (wsX3_quotient_r2 ++ wsX3_quotient_r3)))
def wsX3_remainderOfFinite_r1 : List Cond := [Cond.fieldLink RX3 11 "ThrowModels$Format" "DOUBLE" "LThrowModels$Format;", Cond.methodLink RX3 74 Lib.Math.min.name, Cond.static Lib.Math.min.name, Cond.initialized "java/lang/Math", Cond.code Lib.Math.min.name Lib.Math.min.code 2 (some .int), Cond.methodLink RX3 43 yX0_significand, Cond.instanceMethod yX0_significand, Cond.selects RX0 yX0_significand yX0_significand, Cond.initialized RX0, Cond.code yX0_significand cX0_significand 7 (some .long), Cond.fieldLink RX0 29 "ThrowModels$Format" "fractionBits" "I", Cond.methodLink RX0 43 yX0_magnitude, Cond.instanceMethod yX0_magnitude, Cond.selects RX0 yX0_magnitude yX0_magnitude, Cond.code yX0_magnitude cX0_magnitude 3 (some .long), Cond.fieldLink RX0 40 "ThrowModels$Format" "signBit" "J", Cond.methodLink RX0 51 yX0_missingPlaces, Cond.instanceMethod yX0_missingPlaces, Cond.selects RX0 yX0_missingPlaces yX0_missingPlaces, Cond.code yX0_missingPlaces cX0_missingPlaces 5 (some .int), Cond.methodLink RX0 47 yX0_highestBit, Cond.static yX0_highestBit, Cond.code yX0_highestBit cX0_highestBit 4 (some .int), Cond.methodLink RX3 21 yX0_plainNaN]
def wsX3_remainderOfFinite_r2 : List Cond := [Cond.instanceMethod yX0_plainNaN, Cond.selects RX0 yX0_plainNaN yX0_plainNaN, Cond.code yX0_plainNaN cX0_plainNaN 1 (some .long), Cond.fieldLink RX0 36 "ThrowModels$Format" "infinity" "J", Cond.methodLink RX3 39 yX0_exponent, Cond.instanceMethod yX0_exponent, Cond.selects RX0 yX0_exponent yX0_exponent, Cond.code yX0_exponent cX0_exponent 4 (some .int), Cond.fieldLink RX0 33 "ThrowModels$Format" "lowestExponent" "I", Cond.methodLink RX0 54 Lib.Math.max.name, Cond.static Lib.Math.max.name, Cond.code Lib.Math.max.name Lib.Math.max.code 2 (some .int), Cond.methodLink RX3 50 yX0_pack, Cond.instanceMethod yX0_pack, Cond.selects RX0 yX0_pack yX0_pack, Cond.code yX0_pack cX0_pack 10 (some .long), Cond.methodLink RX0 60 yX0_rounded, Cond.static yX0_rounded, Cond.code yX0_rounded cX0_rounded 10 (some .long)]
def wsX3_remainderOfFinite : List Cond := .code yX3_remainderOfFinite cX3_remainderOfFinite 10 (some .long) :: ((wsX3_remainderOfFinite_r1 ++ wsX3_remainderOfFinite_r2))
def wsX3_remainder_r1 : List Cond := [Cond.fieldLink RX3 11 "ThrowModels$Format" "DOUBLE" "LThrowModels$Format;", Cond.methodLink RX3 17 yX0_isNaN, Cond.instanceMethod yX0_isNaN, Cond.selects RX0 yX0_isNaN yX0_isNaN, Cond.initialized RX0, Cond.code yX0_isNaN cX0_isNaN 3 (some .boolean), Cond.fieldLink RX0 36 "ThrowModels$Format" "infinity" "J", Cond.methodLink RX0 43 yX0_magnitude, Cond.instanceMethod yX0_magnitude, Cond.selects RX0 yX0_magnitude yX0_magnitude, Cond.code yX0_magnitude cX0_magnitude 3 (some .long), Cond.fieldLink RX0 40 "ThrowModels$Format" "signBit" "J", Cond.methodLink RX3 25 yX0_isInfinite, Cond.instanceMethod yX0_isInfinite, Cond.selects RX0 yX0_isInfinite yX0_isInfinite, Cond.code yX0_isInfinite cX0_isInfinite 3 (some .boolean), Cond.methodLink RX3 32 yX0_isZero, Cond.instanceMethod yX0_isZero, Cond.selects RX0 yX0_isZero yX0_isZero, Cond.code yX0_isZero cX0_isZero 3 (some .boolean), Cond.methodLink RX3 21 yX0_plainNaN, Cond.instanceMethod yX0_plainNaN, Cond.selects RX0 yX0_plainNaN yX0_plainNaN, Cond.code yX0_plainNaN cX0_plainNaN 1 (some .long)]
def wsX3_remainder_r2 : List Cond := [Cond.fieldLink RX0 29 "ThrowModels$Format" "fractionBits" "I", Cond.methodLink RX3 28 yX0_magnitude, Cond.methodLink RX3 71 yX3_remainderOfFinite, Cond.static yX3_remainderOfFinite, Cond.initialized RX3, Cond.code yX3_remainderOfFinite cX3_remainderOfFinite 10 (some .long), Cond.methodLink RX3 74 Lib.Math.min.name, Cond.static Lib.Math.min.name, Cond.initialized "java/lang/Math", Cond.code Lib.Math.min.name Lib.Math.min.code 2 (some .int), Cond.methodLink RX3 43 yX0_significand, Cond.instanceMethod yX0_significand, Cond.selects RX0 yX0_significand yX0_significand, Cond.code yX0_significand cX0_significand 7 (some .long), Cond.methodLink RX0 51 yX0_missingPlaces, Cond.instanceMethod yX0_missingPlaces, Cond.selects RX0 yX0_missingPlaces yX0_missingPlaces, Cond.code yX0_missingPlaces cX0_missingPlaces 5 (some .int), Cond.methodLink RX0 47 yX0_highestBit, Cond.static yX0_highestBit, Cond.code yX0_highestBit cX0_highestBit 4 (some .int), Cond.methodLink RX3 39 yX0_exponent, Cond.instanceMethod yX0_exponent, Cond.selects RX0 yX0_exponent yX0_exponent]
def wsX3_remainder_r3 : List Cond := [Cond.code yX0_exponent cX0_exponent 4 (some .int), Cond.fieldLink RX0 33 "ThrowModels$Format" "lowestExponent" "I", Cond.methodLink RX0 54 Lib.Math.max.name, Cond.static Lib.Math.max.name, Cond.code Lib.Math.max.name Lib.Math.max.code 2 (some .int), Cond.methodLink RX3 50 yX0_pack, Cond.instanceMethod yX0_pack, Cond.selects RX0 yX0_pack yX0_pack, Cond.code yX0_pack cX0_pack 10 (some .long), Cond.methodLink RX0 60 yX0_rounded, Cond.static yX0_rounded, Cond.code yX0_rounded cX0_rounded 10 (some .long)]
def wsX3_remainder : List Cond := .code yX3_remainder cX3_remainder 6 (some .long) :: ((wsX3_remainder_r1 ++ (wsX3_remainder_r2 ++ wsX3_remainder_r3)))
def wsX3_rankWithSignOfZero : List Cond := .code yX3_rankWithSignOfZero cX3_rankWithSignOfZero 2 (some .long) :: ([.fieldLink RX3 11 "ThrowModels$Format" "DOUBLE" "LThrowModels$Format;", .constantLong RX3 83 (-1), .methodLink RX3 28 yX0_magnitude, .instanceMethod yX0_magnitude, .selects RX0 yX0_magnitude yX0_magnitude, .initialized RX0, .code yX0_magnitude cX0_magnitude 3 (some .long), .fieldLink RX0 40 "ThrowModels$Format" "signBit" "J"])
def wsX3_greater : List Cond := .code yX3_greater cX3_greater 4 (some .long) :: ([.fieldLink RX3 11 "ThrowModels$Format" "DOUBLE" "LThrowModels$Format;", .methodLink RX3 17 yX0_isNaN, .instanceMethod yX0_isNaN, .selects RX0 yX0_isNaN yX0_isNaN, .initialized RX0, .code yX0_isNaN cX0_isNaN 3 (some .boolean), .fieldLink RX0 36 "ThrowModels$Format" "infinity" "J", .methodLink RX0 43 yX0_magnitude, .instanceMethod yX0_magnitude, .selects RX0 yX0_magnitude yX0_magnitude, .code yX0_magnitude cX0_magnitude 3 (some .long), .fieldLink RX0 40 "ThrowModels$Format" "signBit" "J", .methodLink RX3 21 yX0_plainNaN, .instanceMethod yX0_plainNaN, .selects RX0 yX0_plainNaN yX0_plainNaN, .code yX0_plainNaN cX0_plainNaN 1 (some .long), .fieldLink RX0 29 "ThrowModels$Format" "fractionBits" "I", .methodLink RX3 80 yX3_rankWithSignOfZero, .static yX3_rankWithSignOfZero, .initialized RX3, .code yX3_rankWithSignOfZero cX3_rankWithSignOfZero 2 (some .long), .constantLong RX3 83 (-1), .methodLink RX3 28 yX0_magnitude])
def wsX3_lesser : List Cond := .code yX3_lesser cX3_lesser 4 (some .long) :: ([.fieldLink RX3 11 "ThrowModels$Format" "DOUBLE" "LThrowModels$Format;", .methodLink RX3 17 yX0_isNaN, .instanceMethod yX0_isNaN, .selects RX0 yX0_isNaN yX0_isNaN, .initialized RX0, .code yX0_isNaN cX0_isNaN 3 (some .boolean), .fieldLink RX0 36 "ThrowModels$Format" "infinity" "J", .methodLink RX0 43 yX0_magnitude, .instanceMethod yX0_magnitude, .selects RX0 yX0_magnitude yX0_magnitude, .code yX0_magnitude cX0_magnitude 3 (some .long), .fieldLink RX0 40 "ThrowModels$Format" "signBit" "J", .methodLink RX3 21 yX0_plainNaN, .instanceMethod yX0_plainNaN, .selects RX0 yX0_plainNaN yX0_plainNaN, .code yX0_plainNaN cX0_plainNaN 1 (some .long), .fieldLink RX0 29 "ThrowModels$Format" "fractionBits" "I", .methodLink RX3 80 yX3_rankWithSignOfZero, .static yX3_rankWithSignOfZero, .initialized RX3, .code yX3_rankWithSignOfZero cX3_rankWithSignOfZero 2 (some .long), .constantLong RX3 83 (-1), .methodLink RX3 28 yX0_magnitude])
def wsX3_rank : List Cond := .code yX3_rank cX3_rank 2 (some .long) :: ([.fieldLink RX3 11 "ThrowModels$Format" "DOUBLE" "LThrowModels$Format;", .methodLink RX3 28 yX0_magnitude, .instanceMethod yX0_magnitude, .selects RX0 yX0_magnitude yX0_magnitude, .initialized RX0, .code yX0_magnitude cX0_magnitude 3 (some .long), .fieldLink RX0 40 "ThrowModels$Format" "signBit" "J"])
def wsX3_withSignOf : List Cond := .code yX3_withSignOf cX3_withSignOf 6 (some .long) :: ([.fieldLink RX3 11 "ThrowModels$Format" "DOUBLE" "LThrowModels$Format;", .constantLong RX3 54 (-9223372036854775808), .methodLink RX3 17 yX0_isNaN, .instanceMethod yX0_isNaN, .selects RX0 yX0_isNaN yX0_isNaN, .initialized RX0, .code yX0_isNaN cX0_isNaN 3 (some .boolean), .fieldLink RX0 36 "ThrowModels$Format" "infinity" "J", .methodLink RX0 43 yX0_magnitude, .instanceMethod yX0_magnitude, .selects RX0 yX0_magnitude yX0_magnitude, .code yX0_magnitude cX0_magnitude 3 (some .long), .fieldLink RX0 40 "ThrowModels$Format" "signBit" "J", .methodLink RX3 21 yX0_plainNaN, .instanceMethod yX0_plainNaN, .selects RX0 yX0_plainNaN yX0_plainNaN, .code yX0_plainNaN cX0_plainNaN 1 (some .long), .fieldLink RX0 29 "ThrowModels$Format" "fractionBits" "I", .methodLink RX3 28 yX0_magnitude])
def wsX3_isTrue : List Cond := .code yX3_isTrue cX3_isTrue 9 (some .boolean) :: ([.fieldLink RX3 11 "ThrowModels$Format" "DOUBLE" "LThrowModels$Format;", .methodLink RX3 17 yX0_isNaN, .instanceMethod yX0_isNaN, .selects RX0 yX0_isNaN yX0_isNaN, .initialized RX0, .code yX0_isNaN cX0_isNaN 3 (some .boolean), .fieldLink RX0 36 "ThrowModels$Format" "infinity" "J", .methodLink RX0 43 yX0_magnitude, .instanceMethod yX0_magnitude, .selects RX0 yX0_magnitude yX0_magnitude, .code yX0_magnitude cX0_magnitude 3 (some .long), .fieldLink RX0 40 "ThrowModels$Format" "signBit" "J", .methodLink RX3 85 yX3_rank, .static yX3_rank, .initialized RX3, .code yX3_rank cX3_rank 2 (some .long), .methodLink RX3 28 yX0_magnitude])
def wsX3_power : List Cond := .code yX3_power cX3_power 2 (some .int) :: ([.fieldLink RX3 11 "ThrowModels$Format" "DOUBLE" "LThrowModels$Format;", .fieldLink RX3 105 "ThrowModels$Format" "fractionBits" "I", .methodLink RX3 28 yX0_magnitude, .instanceMethod yX0_magnitude, .selects RX0 yX0_magnitude yX0_magnitude, .initialized RX0, .code yX0_magnitude cX0_magnitude 3 (some .long), .fieldLink RX0 40 "ThrowModels$Format" "signBit" "J"])
def wsX3_floor : List Cond := .code yX3_floor cX3_floor 7 (some .long) :: ([.fieldLink RX3 11 "ThrowModels$Format" "DOUBLE" "LThrowModels$Format;", .fieldLink RX3 105 "ThrowModels$Format" "fractionBits" "I", .constantLong RX3 112 (-4616189618054758400), .constantLong RX3 83 (-1), .methodLink RX3 109 yX3_power, .static yX3_power, .initialized RX3, .code yX3_power cX3_power 2 (some .int), .methodLink RX3 28 yX0_magnitude, .instanceMethod yX0_magnitude, .selects RX0 yX0_magnitude yX0_magnitude, .initialized RX0, .code yX0_magnitude cX0_magnitude 3 (some .long), .fieldLink RX0 40 "ThrowModels$Format" "signBit" "J", .methodLink RX3 32 yX0_isZero, .instanceMethod yX0_isZero, .selects RX0 yX0_isZero yX0_isZero, .code yX0_isZero cX0_isZero 3 (some .boolean), .methodLink RX0 43 yX0_magnitude])
def wsX3_nearestWhole_r1 : List Cond := [Cond.fieldLink RX3 11 "ThrowModels$Format" "DOUBLE" "LThrowModels$Format;", Cond.fieldLink RX3 105 "ThrowModels$Format" "fractionBits" "I", Cond.methodLink RX3 109 yX3_power, Cond.static yX3_power, Cond.initialized RX3, Cond.code yX3_power cX3_power 2 (some .int), Cond.methodLink RX3 28 yX0_magnitude, Cond.instanceMethod yX0_magnitude, Cond.selects RX0 yX0_magnitude yX0_magnitude, Cond.initialized RX0, Cond.code yX0_magnitude cX0_magnitude 3 (some .long), Cond.fieldLink RX0 40 "ThrowModels$Format" "signBit" "J", Cond.methodLink RX3 43 yX0_significand, Cond.instanceMethod yX0_significand, Cond.selects RX0 yX0_significand yX0_significand, Cond.code yX0_significand cX0_significand 7 (some .long), Cond.fieldLink RX0 29 "ThrowModels$Format" "fractionBits" "I", Cond.methodLink RX0 43 yX0_magnitude, Cond.methodLink RX0 51 yX0_missingPlaces, Cond.instanceMethod yX0_missingPlaces, Cond.selects RX0 yX0_missingPlaces yX0_missingPlaces, Cond.code yX0_missingPlaces cX0_missingPlaces 5 (some .int), Cond.methodLink RX0 47 yX0_highestBit, Cond.static yX0_highestBit]
def wsX3_nearestWhole_r2 : List Cond := [Cond.code yX0_highestBit cX0_highestBit 4 (some .int), Cond.methodLink RX3 39 yX0_exponent, Cond.instanceMethod yX0_exponent, Cond.selects RX0 yX0_exponent yX0_exponent, Cond.code yX0_exponent cX0_exponent 4 (some .int), Cond.fieldLink RX0 33 "ThrowModels$Format" "lowestExponent" "I", Cond.methodLink RX0 54 Lib.Math.max.name, Cond.static Lib.Math.max.name, Cond.initialized "java/lang/Math", Cond.code Lib.Math.max.name Lib.Math.max.code 2 (some .int), Cond.methodLink RX3 114 yX0_rounded, Cond.static yX0_rounded, Cond.code yX0_rounded cX0_rounded 10 (some .long), Cond.methodLink RX3 50 yX0_pack, Cond.instanceMethod yX0_pack, Cond.selects RX0 yX0_pack yX0_pack, Cond.code yX0_pack cX0_pack 10 (some .long), Cond.fieldLink RX0 36 "ThrowModels$Format" "infinity" "J", Cond.methodLink RX0 60 yX0_rounded]
def wsX3_nearestWhole : List Cond := .code yX3_nearestWhole cX3_nearestWhole 4 (some .long) :: ((wsX3_nearestWhole_r1 ++ wsX3_nearestWhole_r2))
def wsX3_distanceToNext_r1 : List Cond := [Cond.fieldLink RX3 11 "ThrowModels$Format" "DOUBLE" "LThrowModels$Format;", Cond.fieldLink RX3 59 "ThrowModels$Format" "infinity" "J", Cond.fieldLink RX3 117 "ThrowModels$Format" "lowestExponent" "I", Cond.methodLink RX3 120 Lib.Math.max.name, Cond.static Lib.Math.max.name, Cond.initialized "java/lang/Math", Cond.code Lib.Math.max.name Lib.Math.max.code 2 (some .int), Cond.methodLink RX3 25 yX0_isInfinite, Cond.instanceMethod yX0_isInfinite, Cond.selects RX0 yX0_isInfinite yX0_isInfinite, Cond.initialized RX0, Cond.code yX0_isInfinite cX0_isInfinite 3 (some .boolean), Cond.fieldLink RX0 36 "ThrowModels$Format" "infinity" "J", Cond.methodLink RX0 43 yX0_magnitude, Cond.instanceMethod yX0_magnitude, Cond.selects RX0 yX0_magnitude yX0_magnitude, Cond.code yX0_magnitude cX0_magnitude 3 (some .long), Cond.fieldLink RX0 40 "ThrowModels$Format" "signBit" "J", Cond.methodLink RX3 39 yX0_exponent, Cond.instanceMethod yX0_exponent, Cond.selects RX0 yX0_exponent yX0_exponent, Cond.code yX0_exponent cX0_exponent 4 (some .int), Cond.fieldLink RX0 29 "ThrowModels$Format" "fractionBits" "I", Cond.fieldLink RX0 33 "ThrowModels$Format" "lowestExponent" "I"]
def wsX3_distanceToNext_r2 : List Cond := [Cond.methodLink RX0 54 Lib.Math.max.name, Cond.methodLink RX0 51 yX0_missingPlaces, Cond.instanceMethod yX0_missingPlaces, Cond.selects RX0 yX0_missingPlaces yX0_missingPlaces, Cond.code yX0_missingPlaces cX0_missingPlaces 5 (some .int), Cond.methodLink RX0 47 yX0_highestBit, Cond.static yX0_highestBit, Cond.code yX0_highestBit cX0_highestBit 4 (some .int), Cond.methodLink RX3 50 yX0_pack, Cond.instanceMethod yX0_pack, Cond.selects RX0 yX0_pack yX0_pack, Cond.code yX0_pack cX0_pack 10 (some .long), Cond.methodLink RX0 60 yX0_rounded, Cond.static yX0_rounded, Cond.code yX0_rounded cX0_rounded 10 (some .long)]
def wsX3_distanceToNext : List Cond := .code yX3_distanceToNext cX3_distanceToNext 3 (some .long) :: ((wsX3_distanceToNext_r1 ++ wsX3_distanceToNext_r2))
def wsX3_nextUp : List Cond := .code yX3_nextUp cX3_nextUp 2 (some .long) :: ([.fieldLink RX3 11 "ThrowModels$Format" "DOUBLE" "LThrowModels$Format;", .methodLink RX3 32 yX0_isZero, .instanceMethod yX0_isZero, .selects RX0 yX0_isZero yX0_isZero, .initialized RX0, .code yX0_isZero cX0_isZero 3 (some .boolean), .methodLink RX0 43 yX0_magnitude, .instanceMethod yX0_magnitude, .selects RX0 yX0_magnitude yX0_magnitude, .code yX0_magnitude cX0_magnitude 3 (some .long), .fieldLink RX0 40 "ThrowModels$Format" "signBit" "J", .methodLink RX3 25 yX0_isInfinite, .instanceMethod yX0_isInfinite, .selects RX0 yX0_isInfinite yX0_isInfinite, .code yX0_isInfinite cX0_isInfinite 3 (some .boolean), .fieldLink RX0 36 "ThrowModels$Format" "infinity" "J"])
def wsX3_scaled_r1 : List Cond := [Cond.fieldLink RX3 11 "ThrowModels$Format" "DOUBLE" "LThrowModels$Format;", Cond.methodLink RX3 25 yX0_isInfinite, Cond.instanceMethod yX0_isInfinite, Cond.selects RX0 yX0_isInfinite yX0_isInfinite, Cond.initialized RX0, Cond.code yX0_isInfinite cX0_isInfinite 3 (some .boolean), Cond.fieldLink RX0 36 "ThrowModels$Format" "infinity" "J", Cond.methodLink RX0 43 yX0_magnitude, Cond.instanceMethod yX0_magnitude, Cond.selects RX0 yX0_magnitude yX0_magnitude, Cond.code yX0_magnitude cX0_magnitude 3 (some .long), Cond.fieldLink RX0 40 "ThrowModels$Format" "signBit" "J", Cond.methodLink RX3 39 yX0_exponent, Cond.instanceMethod yX0_exponent, Cond.selects RX0 yX0_exponent yX0_exponent, Cond.code yX0_exponent cX0_exponent 4 (some .int), Cond.fieldLink RX0 29 "ThrowModels$Format" "fractionBits" "I", Cond.fieldLink RX0 33 "ThrowModels$Format" "lowestExponent" "I", Cond.methodLink RX0 54 Lib.Math.max.name, Cond.static Lib.Math.max.name, Cond.initialized "java/lang/Math", Cond.code Lib.Math.max.name Lib.Math.max.code 2 (some .int), Cond.methodLink RX0 51 yX0_missingPlaces, Cond.instanceMethod yX0_missingPlaces]
def wsX3_scaled_r2 : List Cond := [Cond.selects RX0 yX0_missingPlaces yX0_missingPlaces, Cond.code yX0_missingPlaces cX0_missingPlaces 5 (some .int), Cond.methodLink RX0 47 yX0_highestBit, Cond.static yX0_highestBit, Cond.code yX0_highestBit cX0_highestBit 4 (some .int), Cond.methodLink RX3 43 yX0_significand, Cond.instanceMethod yX0_significand, Cond.selects RX0 yX0_significand yX0_significand, Cond.code yX0_significand cX0_significand 7 (some .long), Cond.methodLink RX3 50 yX0_pack, Cond.instanceMethod yX0_pack, Cond.selects RX0 yX0_pack yX0_pack, Cond.code yX0_pack cX0_pack 10 (some .long), Cond.methodLink RX0 60 yX0_rounded, Cond.static yX0_rounded, Cond.code yX0_rounded cX0_rounded 10 (some .long)]
def wsX3_scaled : List Cond := .code yX3_scaled cX3_scaled 3 (some .long) :: ((wsX3_scaled_r1 ++ wsX3_scaled_r2))
def wsX3_mathOfNumber_r1 : List Cond := [Cond.constantLong RX3 54 (-9223372036854775808), Cond.fieldLink RX3 11 "ThrowModels$Format" "DOUBLE" "LThrowModels$Format;", Cond.constantLong RX3 94 (4607182418800017408), Cond.methodLink RX3 88 yX3_floor, Cond.static yX3_floor, Cond.initialized RX3, Cond.code yX3_floor cX3_floor 7 (some .long), Cond.fieldLink RX3 105 "ThrowModels$Format" "fractionBits" "I", Cond.constantLong RX3 112 (-4616189618054758400), Cond.constantLong RX3 83 (-1), Cond.methodLink RX3 109 yX3_power, Cond.static yX3_power, Cond.code yX3_power cX3_power 2 (some .int), Cond.methodLink RX3 28 yX0_magnitude, Cond.instanceMethod yX0_magnitude, Cond.selects RX0 yX0_magnitude yX0_magnitude, Cond.initialized RX0, Cond.code yX0_magnitude cX0_magnitude 3 (some .long), Cond.fieldLink RX0 40 "ThrowModels$Format" "signBit" "J", Cond.methodLink RX3 32 yX0_isZero, Cond.instanceMethod yX0_isZero, Cond.selects RX0 yX0_isZero yX0_isZero, Cond.code yX0_isZero cX0_isZero 3 (some .boolean), Cond.methodLink RX0 43 yX0_magnitude]
def wsX3_mathOfNumber_r2 : List Cond := [Cond.methodLink RX3 91 yX3_nearestWhole, Cond.static yX3_nearestWhole, Cond.code yX3_nearestWhole cX3_nearestWhole 4 (some .long), Cond.methodLink RX3 43 yX0_significand, Cond.instanceMethod yX0_significand, Cond.selects RX0 yX0_significand yX0_significand, Cond.code yX0_significand cX0_significand 7 (some .long), Cond.fieldLink RX0 29 "ThrowModels$Format" "fractionBits" "I", Cond.methodLink RX0 51 yX0_missingPlaces, Cond.instanceMethod yX0_missingPlaces, Cond.selects RX0 yX0_missingPlaces yX0_missingPlaces, Cond.code yX0_missingPlaces cX0_missingPlaces 5 (some .int), Cond.methodLink RX0 47 yX0_highestBit, Cond.static yX0_highestBit, Cond.code yX0_highestBit cX0_highestBit 4 (some .int), Cond.methodLink RX3 39 yX0_exponent, Cond.instanceMethod yX0_exponent, Cond.selects RX0 yX0_exponent yX0_exponent, Cond.code yX0_exponent cX0_exponent 4 (some .int), Cond.fieldLink RX0 33 "ThrowModels$Format" "lowestExponent" "I", Cond.methodLink RX0 54 Lib.Math.max.name, Cond.static Lib.Math.max.name, Cond.initialized "java/lang/Math", Cond.code Lib.Math.max.name Lib.Math.max.code 2 (some .int)]
def wsX3_mathOfNumber_r3 : List Cond := [Cond.methodLink RX3 114 yX0_rounded, Cond.static yX0_rounded, Cond.code yX0_rounded cX0_rounded 10 (some .long), Cond.methodLink RX3 50 yX0_pack, Cond.instanceMethod yX0_pack, Cond.selects RX0 yX0_pack yX0_pack, Cond.code yX0_pack cX0_pack 10 (some .long), Cond.fieldLink RX0 36 "ThrowModels$Format" "infinity" "J", Cond.methodLink RX0 60 yX0_rounded, Cond.methodLink RX3 96 yX3_distanceToNext, Cond.static yX3_distanceToNext, Cond.code yX3_distanceToNext cX3_distanceToNext 3 (some .long), Cond.fieldLink RX3 59 "ThrowModels$Format" "infinity" "J", Cond.fieldLink RX3 117 "ThrowModels$Format" "lowestExponent" "I", Cond.methodLink RX3 120 Lib.Math.max.name, Cond.methodLink RX3 25 yX0_isInfinite, Cond.instanceMethod yX0_isInfinite, Cond.selects RX0 yX0_isInfinite yX0_isInfinite, Cond.code yX0_isInfinite cX0_isInfinite 3 (some .boolean), Cond.methodLink RX3 99 yX3_nextUp, Cond.static yX3_nextUp, Cond.code yX3_nextUp cX3_nextUp 2 (some .long), Cond.methodLink RX3 102 yX3_scaled, Cond.static yX3_scaled]
def wsX3_mathOfNumber_r4 : List Cond := [Cond.code yX3_scaled cX3_scaled 3 (some .long)]
def wsX3_mathOfNumber : List Cond := .code yX3_mathOfNumber cX3_mathOfNumber 3 (some .long) :: ((wsX3_mathOfNumber_r1 ++ (wsX3_mathOfNumber_r2 ++ (wsX3_mathOfNumber_r3 ++ wsX3_mathOfNumber_r4))))
def wsX3_converted_r1 : List Cond := [Cond.fieldLink RX3 126 "ThrowModels$Format" "signBit" "J", Cond.fieldLink RX3 59 "ThrowModels$Format" "infinity" "J", Cond.methodLink RX3 17 yX0_isNaN, Cond.instanceMethod yX0_isNaN, Cond.selects RX0 yX0_isNaN yX0_isNaN, Cond.initialized RX0, Cond.code yX0_isNaN cX0_isNaN 3 (some .boolean), Cond.fieldLink RX0 36 "ThrowModels$Format" "infinity" "J", Cond.methodLink RX0 43 yX0_magnitude, Cond.instanceMethod yX0_magnitude, Cond.selects RX0 yX0_magnitude yX0_magnitude, Cond.code yX0_magnitude cX0_magnitude 3 (some .long), Cond.fieldLink RX0 40 "ThrowModels$Format" "signBit" "J", Cond.methodLink RX3 21 yX0_plainNaN, Cond.instanceMethod yX0_plainNaN, Cond.selects RX0 yX0_plainNaN yX0_plainNaN, Cond.code yX0_plainNaN cX0_plainNaN 1 (some .long), Cond.fieldLink RX0 29 "ThrowModels$Format" "fractionBits" "I", Cond.methodLink RX3 123 yX0_isNegative, Cond.instanceMethod yX0_isNegative, Cond.selects RX0 yX0_isNegative yX0_isNegative, Cond.code yX0_isNegative cX0_isNegative 3 (some .boolean), Cond.methodLink RX3 25 yX0_isInfinite, Cond.instanceMethod yX0_isInfinite]
def wsX3_converted_r2 : List Cond := [Cond.selects RX0 yX0_isInfinite yX0_isInfinite, Cond.code yX0_isInfinite cX0_isInfinite 3 (some .boolean), Cond.methodLink RX3 39 yX0_exponent, Cond.instanceMethod yX0_exponent, Cond.selects RX0 yX0_exponent yX0_exponent, Cond.code yX0_exponent cX0_exponent 4 (some .int), Cond.fieldLink RX0 33 "ThrowModels$Format" "lowestExponent" "I", Cond.methodLink RX0 54 Lib.Math.max.name, Cond.static Lib.Math.max.name, Cond.initialized "java/lang/Math", Cond.code Lib.Math.max.name Lib.Math.max.code 2 (some .int), Cond.methodLink RX0 51 yX0_missingPlaces, Cond.instanceMethod yX0_missingPlaces, Cond.selects RX0 yX0_missingPlaces yX0_missingPlaces, Cond.code yX0_missingPlaces cX0_missingPlaces 5 (some .int), Cond.methodLink RX0 47 yX0_highestBit, Cond.static yX0_highestBit, Cond.code yX0_highestBit cX0_highestBit 4 (some .int), Cond.methodLink RX3 43 yX0_significand, Cond.instanceMethod yX0_significand, Cond.selects RX0 yX0_significand yX0_significand, Cond.code yX0_significand cX0_significand 7 (some .long), Cond.methodLink RX3 50 yX0_pack, Cond.instanceMethod yX0_pack]
def wsX3_converted_r3 : List Cond := [Cond.selects RX0 yX0_pack yX0_pack, Cond.code yX0_pack cX0_pack 10 (some .long), Cond.methodLink RX0 60 yX0_rounded, Cond.static yX0_rounded, Cond.code yX0_rounded cX0_rounded 10 (some .long)]
def wsX3_converted : List Cond := .code yX3_converted cX3_converted 5 (some .long) :: ((wsX3_converted_r1 ++ (wsX3_converted_r2 ++ wsX3_converted_r3)))
def wsX3_fromLong : List Cond := .code yX3_fromLong cX3_fromLong 3 (some .long) :: ([.constantLong RX3 54 (-9223372036854775808), .constantLong RX3 129 (4611686018427387904), .methodLink RX3 131 Lib.MathLoose.abs_long.x, .static Lib.MathLoose.abs_long.x, .initialized "java/lang/Math", .code Lib.MathLoose.abs_long.x Lib.MathLoose.abs_long.code 2 (some .long), .methodLink RX3 50 yX0_pack, .instanceMethod yX0_pack, .selects RX0 yX0_pack yX0_pack, .initialized RX0, .code yX0_pack cX0_pack 10 (some .long), .fieldLink RX0 40 "ThrowModels$Format" "signBit" "J", .fieldLink RX0 29 "ThrowModels$Format" "fractionBits" "I", .fieldLink RX0 33 "ThrowModels$Format" "lowestExponent" "I", .methodLink RX0 54 Lib.Math.max.name, .static Lib.Math.max.name, .code Lib.Math.max.name Lib.Math.max.code 2 (some .int), .fieldLink RX0 36 "ThrowModels$Format" "infinity" "J", .methodLink RX0 47 yX0_highestBit, .static yX0_highestBit, .code yX0_highestBit cX0_highestBit 4 (some .int), .methodLink RX0 60 yX0_rounded, .static yX0_rounded, .code yX0_rounded cX0_rounded 10 (some .long)])
def wsX3_toLong_r1 : List Cond := [Cond.fieldLink RX3 11 "ThrowModels$Format" "DOUBLE" "LThrowModels$Format;", Cond.constantLong RX3 54 (-9223372036854775808), Cond.constantLong RX3 134 (9223372036854775807), Cond.methodLink RX3 74 Lib.Math.min.name, Cond.static Lib.Math.min.name, Cond.initialized "java/lang/Math", Cond.code Lib.Math.min.name Lib.Math.min.code 2 (some .int), Cond.methodLink RX3 17 yX0_isNaN, Cond.instanceMethod yX0_isNaN, Cond.selects RX0 yX0_isNaN yX0_isNaN, Cond.initialized RX0, Cond.code yX0_isNaN cX0_isNaN 3 (some .boolean), Cond.fieldLink RX0 36 "ThrowModels$Format" "infinity" "J", Cond.methodLink RX0 43 yX0_magnitude, Cond.instanceMethod yX0_magnitude, Cond.selects RX0 yX0_magnitude yX0_magnitude, Cond.code yX0_magnitude cX0_magnitude 3 (some .long), Cond.fieldLink RX0 40 "ThrowModels$Format" "signBit" "J", Cond.methodLink RX3 109 yX3_power, Cond.static yX3_power, Cond.initialized RX3, Cond.code yX3_power cX3_power 2 (some .int), Cond.fieldLink RX3 105 "ThrowModels$Format" "fractionBits" "I", Cond.methodLink RX3 28 yX0_magnitude]
def wsX3_toLong_r2 : List Cond := [Cond.methodLink RX3 39 yX0_exponent, Cond.instanceMethod yX0_exponent, Cond.selects RX0 yX0_exponent yX0_exponent, Cond.code yX0_exponent cX0_exponent 4 (some .int), Cond.fieldLink RX0 29 "ThrowModels$Format" "fractionBits" "I", Cond.fieldLink RX0 33 "ThrowModels$Format" "lowestExponent" "I", Cond.methodLink RX0 54 Lib.Math.max.name, Cond.static Lib.Math.max.name, Cond.code Lib.Math.max.name Lib.Math.max.code 2 (some .int), Cond.methodLink RX0 51 yX0_missingPlaces, Cond.instanceMethod yX0_missingPlaces, Cond.selects RX0 yX0_missingPlaces yX0_missingPlaces, Cond.code yX0_missingPlaces cX0_missingPlaces 5 (some .int), Cond.methodLink RX0 47 yX0_highestBit, Cond.static yX0_highestBit, Cond.code yX0_highestBit cX0_highestBit 4 (some .int), Cond.methodLink RX3 43 yX0_significand, Cond.instanceMethod yX0_significand, Cond.selects RX0 yX0_significand yX0_significand, Cond.code yX0_significand cX0_significand 7 (some .long)]
def wsX3_toLong : List Cond := .code yX3_toLong cX3_toLong 7 (some .long) :: ((wsX3_toLong_r1 ++ wsX3_toLong_r2))
def wsX3_toInt_r1 : List Cond := [Cond.constantLong RX3 139 (2147483647), Cond.methodLink RX3 141 Lib.MathLoose.min_long.x, Cond.static Lib.MathLoose.min_long.x, Cond.initialized "java/lang/Math", Cond.code Lib.MathLoose.min_long.x Lib.MathLoose.min_long.code 4 (some .long), Cond.constantLong RX3 143 (-2147483648), Cond.methodLink RX3 145 Lib.MathLoose.max_long.x, Cond.static Lib.MathLoose.max_long.x, Cond.code Lib.MathLoose.max_long.x Lib.MathLoose.max_long.code 4 (some .long), Cond.methodLink RX3 136 yX3_toLong, Cond.static yX3_toLong, Cond.initialized RX3, Cond.code yX3_toLong cX3_toLong 7 (some .long), Cond.fieldLink RX3 11 "ThrowModels$Format" "DOUBLE" "LThrowModels$Format;", Cond.constantLong RX3 54 (-9223372036854775808), Cond.constantLong RX3 134 (9223372036854775807), Cond.methodLink RX3 74 Lib.Math.min.name, Cond.static Lib.Math.min.name, Cond.code Lib.Math.min.name Lib.Math.min.code 2 (some .int), Cond.methodLink RX3 17 yX0_isNaN, Cond.instanceMethod yX0_isNaN, Cond.selects RX0 yX0_isNaN yX0_isNaN, Cond.initialized RX0, Cond.code yX0_isNaN cX0_isNaN 3 (some .boolean)]
def wsX3_toInt_r2 : List Cond := [Cond.fieldLink RX0 36 "ThrowModels$Format" "infinity" "J", Cond.methodLink RX0 43 yX0_magnitude, Cond.instanceMethod yX0_magnitude, Cond.selects RX0 yX0_magnitude yX0_magnitude, Cond.code yX0_magnitude cX0_magnitude 3 (some .long), Cond.fieldLink RX0 40 "ThrowModels$Format" "signBit" "J", Cond.methodLink RX3 109 yX3_power, Cond.static yX3_power, Cond.code yX3_power cX3_power 2 (some .int), Cond.fieldLink RX3 105 "ThrowModels$Format" "fractionBits" "I", Cond.methodLink RX3 28 yX0_magnitude, Cond.methodLink RX3 39 yX0_exponent, Cond.instanceMethod yX0_exponent, Cond.selects RX0 yX0_exponent yX0_exponent, Cond.code yX0_exponent cX0_exponent 4 (some .int), Cond.fieldLink RX0 29 "ThrowModels$Format" "fractionBits" "I", Cond.fieldLink RX0 33 "ThrowModels$Format" "lowestExponent" "I", Cond.methodLink RX0 54 Lib.Math.max.name, Cond.static Lib.Math.max.name, Cond.code Lib.Math.max.name Lib.Math.max.code 2 (some .int), Cond.methodLink RX0 51 yX0_missingPlaces, Cond.instanceMethod yX0_missingPlaces, Cond.selects RX0 yX0_missingPlaces yX0_missingPlaces, Cond.code yX0_missingPlaces cX0_missingPlaces 5 (some .int)]
def wsX3_toInt_r3 : List Cond := [Cond.methodLink RX0 47 yX0_highestBit, Cond.static yX0_highestBit, Cond.code yX0_highestBit cX0_highestBit 4 (some .int), Cond.methodLink RX3 43 yX0_significand, Cond.instanceMethod yX0_significand, Cond.selects RX0 yX0_significand yX0_significand, Cond.code yX0_significand cX0_significand 7 (some .long)]
def wsX3_toInt : List Cond := .code yX3_toInt cX3_toInt 2 (some .int) :: ((wsX3_toInt_r1 ++ (wsX3_toInt_r2 ++ wsX3_toInt_r3)))
def wsX4_init : List Cond := .code yX4_init cX4_init 3 none :: ([.methodLink RX4 1 yX2_init, .instanceMethod yX2_init, .initialized RX2, .code yX2_init cX2_init 3 none, .fieldLink RX2 7 "ThrowModels$Plain" "value" "I", .methodLink RX2 1 yX6_init, .instanceMethod yX6_init, .initialized RX6, .code yX6_init cX6_init 3 none, .methodLink RX6 3 objectInit, .instanceMethod objectInit, .code objectInit ⟨#[0xb1]⟩ 1 none, .fieldLink RX6 9 "ThrowModels$Thing" "kind" "I", .fieldLink RX6 15 "ThrowModels$Thing" "length" "I"] ++ wsX20 ++ wsX40 ++ wsX50 ++ wsX10 ++ wsX70)
def wsX4_twice : List Cond := .code yX4_twice cX4_twice 1 (some .int) :: ([.methodLink RX4 13 yX4_size, .instanceMethod yX4_size, .selects RX4 yX4_size yX4_size, .initialized RX4, .code yX4_size cX4_size 1 (some .int), .fieldLink RX4 7 "ThrowModels$Round" "value" "I", .sameField "ThrowModels$Round" "ThrowModels$Plain" "value" "I", .methodLink RX4 13 ⟨"ThrowModels$Round", "size", "()I"⟩, .sameMethod "ThrowModels$Round" "ThrowModels$Round" "size" "()I", .instanceMethod ⟨"ThrowModels$Round", "size", "()I"⟩, .selects RX5 ⟨"ThrowModels$Round", "size", "()I"⟩ yX5_size, .instanceMethod yX5_size, .initialized RX5, .code yX5_size cX5_size 1 (some .int), .fieldLink RX5 9 "ThrowModels$Square" "value" "I", .sameField "ThrowModels$Square" "ThrowModels$Plain" "value" "I"] ++ wsX20 ++ wsX40 ++ wsX50)
def wsX4_step : List Cond := .code yX4_step cX4_step 1 (some .int) :: ([.methodLink RX4 17 yX2_step, .sameMethod "ThrowModels$Plain" "ThrowModels$Plain" "step" "()I", .superclass RX4 RX2, .instanceMethod yX2_step, .initialized RX2, .code yX2_step cX2_step 1 (some .int), .fieldLink RX2 7 "ThrowModels$Plain" "value" "I"] ++ wsX20 ++ wsX40 ++ wsX50)
def wsX5_init : List Cond := .code yX5_init cX5_init 2 none :: ([.methodLink RX5 3 yX4_init, .instanceMethod yX4_init, .initialized RX4, .code yX4_init cX4_init 3 none, .methodLink RX4 1 yX2_init, .instanceMethod yX2_init, .initialized RX2, .code yX2_init cX2_init 3 none, .fieldLink RX2 7 "ThrowModels$Plain" "value" "I", .methodLink RX2 1 yX6_init, .instanceMethod yX6_init, .initialized RX6, .code yX6_init cX6_init 3 none, .methodLink RX6 3 objectInit, .instanceMethod objectInit, .code objectInit ⟨#[0xb1]⟩ 1 none, .fieldLink RX6 9 "ThrowModels$Thing" "kind" "I", .fieldLink RX6 15 "ThrowModels$Thing" "length" "I"] ++ wsX20 ++ wsX40 ++ wsX50 ++ wsX10 ++ wsX70)
def wsX5_mark : List Cond := .code yX5_mark cX5_mark 1 (some .int) :: ([])
def wsX5_step : List Cond := .code yX5_step cX5_step 1 (some .int) :: ([.methodLink RX5 19 yX4_step, .sameMethod "ThrowModels$Round" "ThrowModels$Round" "step" "()I", .superclass RX5 RX4, .instanceMethod yX4_step, .initialized RX4, .code yX4_step cX4_step 1 (some .int), .methodLink RX4 17 yX2_step, .sameMethod "ThrowModels$Plain" "ThrowModels$Plain" "step" "()I", .superclass RX4 RX2, .instanceMethod yX2_step, .initialized RX2, .code yX2_step cX2_step 1 (some .int), .fieldLink RX2 7 "ThrowModels$Plain" "value" "I"] ++ wsX20 ++ wsX40 ++ wsX50)
def wsX6_isOf : List Cond := .code yX6_isOf cX6_isOf 2 (some .boolean) :: ([.fieldLink RX6 9 "ThrowModels$Thing" "kind" "I"] ++ wsX10 ++ wsX20 ++ wsX40 ++ wsX50 ++ wsX70)
def wsX6_holds : List Cond := .code yX6_holds cX6_holds 2 (some .boolean) :: ([.fieldLink RX6 15 "ThrowModels$Thing" "length" "I"] ++ wsX10 ++ wsX20 ++ wsX40 ++ wsX50 ++ wsX70)
def wsX7_init : List Cond := .code yX7_init cX7_init 3 none :: ([.classLink RX7 2 RX6, .fieldLink RX7 7 "ThrowModels$ThingArray" "elements" "[LThrowModels$Thing;", .methodLink RX7 1 yX6_init, .instanceMethod yX6_init, .initialized RX6, .code yX6_init cX6_init 3 none, .methodLink RX6 3 objectInit, .instanceMethod objectInit, .code objectInit ⟨#[0xb1]⟩ 1 none, .fieldLink RX6 9 "ThrowModels$Thing" "kind" "I", .fieldLink RX6 15 "ThrowModels$Thing" "length" "I"] ++ wsX70 ++ wsX10 ++ wsX20 ++ wsX40 ++ wsX50)
def wsX8_init : List Cond := .code yX8_init cX8_init 1 none :: ([.methodLink RX8 1 objectInit, .instanceMethod objectInit, .code objectInit ⟨#[0xb1]⟩ 1 none, .classLink RX8 9 RX6, .fieldLink RX8 11 "ThrowModels" "cells" "[LThrowModels$Thing;", .arrayClass .int, .fieldLink RX8 15 "ThrowModels" "throwCounts" "[I", .fieldLink RX8 19 "ThrowModels" "latestThrow" "I", .fieldLink RX8 23 "ThrowModels" "latestTrace" "I"] ++ wsX80)
def wsX8_isCell : List Cond := .code yX8_isCell cX8_isCell 1 (some .boolean) :: ([])
def wsX8_makeCause : List Cond := .code yX8_makeCause cX8_makeCause 5 (some .int) :: ([.methodLink RX8 38 yX8_isCell, .static yX8_isCell, .initialized RX8, .code yX8_isCell cX8_isCell 1 (some .boolean)])
def wsX8_stops : List Cond := .code yX8_stops cX8_stops 2 (some .boolean) :: ([.fieldLink RX8 19 "ThrowModels" "latestThrow" "I", .fieldLink RX8 15 "ThrowModels" "throwCounts" "[I"] ++ wsX80)
def wsX8_newRows_r1 : List Cond := [Cond.classLink RX8 102 RX7, Cond.instantiable RX7 3, Cond.initialized RX7, Cond.fieldLink RX8 247 "ThrowModels$ThingArray" "length" "I", Cond.sameField "ThrowModels$ThingArray" "ThrowModels$Thing" "length" "I", Cond.fieldLink RX8 105 "ThrowModels$ThingArray" "elements" "[LThrowModels$Thing;", Cond.classLink RX8 45 RX1, Cond.instantiable RX1 3, Cond.initialized RX1, Cond.methodLink RX8 242 yX7_init, Cond.instanceMethod yX7_init, Cond.code yX7_init cX7_init 3 none, Cond.classLink RX7 2 RX6, Cond.fieldLink RX7 7 "ThrowModels$ThingArray" "elements" "[LThrowModels$Thing;", Cond.methodLink RX7 1 yX6_init, Cond.instanceMethod yX6_init, Cond.initialized RX6, Cond.code yX6_init cX6_init 3 none, Cond.methodLink RX6 3 objectInit, Cond.instanceMethod objectInit, Cond.code objectInit ⟨#[0xb1]⟩ 1 none, Cond.fieldLink RX6 9 "ThrowModels$Thing" "kind" "I", Cond.fieldLink RX6 15 "ThrowModels$Thing" "length" "I", Cond.methodLink RX8 50 yX1_init]
def wsX8_newRows_r2 : List Cond := [Cond.instanceMethod yX1_init, Cond.code yX1_init cX1_init 3 none, Cond.arrayClass .long, Cond.fieldLink RX1 7 "ThrowModels$NumberArray" "numbers" "[J", Cond.methodLink RX1 1 yX6_init]
def wsX8_newRows : List Cond := .code yX8_newRows cX8_newRows 4 (some (.object "ThrowModels$ThingArray")) :: ((wsX8_newRows_r1 ++ wsX8_newRows_r2) ++ wsX70 ++ wsX10 ++ wsX20 ++ wsX40 ++ wsX50)
def wsX8_newThing_r1 : List Cond := [Cond.classLink RX8 122 RX2, Cond.instantiable RX2 3, Cond.initialized RX2, Cond.classLink RX8 234 RX4, Cond.instantiable RX4 3, Cond.initialized RX4, Cond.classLink RX8 237 RX5, Cond.instantiable RX5 3, Cond.initialized RX5, Cond.classLink RX8 102 RX7, Cond.instantiable RX7 3, Cond.initialized RX7, Cond.classLink RX8 45 RX1, Cond.instantiable RX1 3, Cond.initialized RX1, Cond.methodLink RX8 233 yX2_init, Cond.instanceMethod yX2_init, Cond.code yX2_init cX2_init 3 none, Cond.fieldLink RX2 7 "ThrowModels$Plain" "value" "I", Cond.methodLink RX2 1 yX6_init, Cond.instanceMethod yX6_init, Cond.initialized RX6, Cond.code yX6_init cX6_init 3 none, Cond.methodLink RX6 3 objectInit]
def wsX8_newThing_r2 : List Cond := [Cond.instanceMethod objectInit, Cond.code objectInit ⟨#[0xb1]⟩ 1 none, Cond.fieldLink RX6 9 "ThrowModels$Thing" "kind" "I", Cond.fieldLink RX6 15 "ThrowModels$Thing" "length" "I", Cond.methodLink RX8 236 yX4_init, Cond.instanceMethod yX4_init, Cond.code yX4_init cX4_init 3 none, Cond.methodLink RX4 1 yX2_init, Cond.methodLink RX8 239 yX5_init, Cond.instanceMethod yX5_init, Cond.code yX5_init cX5_init 2 none, Cond.methodLink RX5 3 yX4_init, Cond.methodLink RX8 242 yX7_init, Cond.instanceMethod yX7_init, Cond.code yX7_init cX7_init 3 none, Cond.classLink RX7 2 RX6, Cond.fieldLink RX7 7 "ThrowModels$ThingArray" "elements" "[LThrowModels$Thing;", Cond.methodLink RX7 1 yX6_init, Cond.methodLink RX8 243 yX8_newRows, Cond.static yX8_newRows, Cond.initialized RX8, Cond.code yX8_newRows cX8_newRows 4 (some (.object "ThrowModels$ThingArray")), Cond.fieldLink RX8 247 "ThrowModels$ThingArray" "length" "I", Cond.sameField "ThrowModels$ThingArray" "ThrowModels$Thing" "length" "I"]
def wsX8_newThing_r3 : List Cond := [Cond.fieldLink RX8 105 "ThrowModels$ThingArray" "elements" "[LThrowModels$Thing;", Cond.methodLink RX8 50 yX1_init, Cond.instanceMethod yX1_init, Cond.code yX1_init cX1_init 3 none, Cond.arrayClass .long, Cond.fieldLink RX1 7 "ThrowModels$NumberArray" "numbers" "[J", Cond.methodLink RX1 1 yX6_init]
def wsX8_newThing : List Cond := .code yX8_newThing cX8_newThing 3 (some (.object "ThrowModels$Thing")) :: ((wsX8_newThing_r1 ++ (wsX8_newThing_r2 ++ wsX8_newThing_r3)) ++ wsX20 ++ wsX40 ++ wsX50 ++ wsX70 ++ wsX10)
def wsX8_make_r1 : List Cond := [Cond.fieldLink RX8 11 "ThrowModels" "cells" "[LThrowModels$Thing;", Cond.methodLink RX8 26 yX8_makeCause, Cond.static yX8_makeCause, Cond.initialized RX8, Cond.code yX8_makeCause cX8_makeCause 5 (some .int), Cond.methodLink RX8 38 yX8_isCell, Cond.static yX8_isCell, Cond.code yX8_isCell cX8_isCell 1 (some .boolean), Cond.methodLink RX8 30 yX8_stops, Cond.instanceMethod yX8_stops, Cond.selects RX8 yX8_stops yX8_stops, Cond.code yX8_stops cX8_stops 2 (some .boolean), Cond.fieldLink RX8 19 "ThrowModels" "latestThrow" "I", Cond.fieldLink RX8 15 "ThrowModels" "throwCounts" "[I", Cond.methodLink RX8 34 yX8_newThing, Cond.static yX8_newThing, Cond.code yX8_newThing cX8_newThing 3 (some (.object "ThrowModels$Thing")), Cond.classLink RX8 122 RX2, Cond.instantiable RX2 3, Cond.initialized RX2, Cond.classLink RX8 234 RX4, Cond.instantiable RX4 3, Cond.initialized RX4, Cond.classLink RX8 237 RX5]
def wsX8_make_r2 : List Cond := [Cond.instantiable RX5 3, Cond.initialized RX5, Cond.classLink RX8 102 RX7, Cond.instantiable RX7 3, Cond.initialized RX7, Cond.classLink RX8 45 RX1, Cond.instantiable RX1 3, Cond.initialized RX1, Cond.methodLink RX8 233 yX2_init, Cond.instanceMethod yX2_init, Cond.code yX2_init cX2_init 3 none, Cond.fieldLink RX2 7 "ThrowModels$Plain" "value" "I", Cond.methodLink RX2 1 yX6_init, Cond.instanceMethod yX6_init, Cond.initialized RX6, Cond.code yX6_init cX6_init 3 none, Cond.methodLink RX6 3 objectInit, Cond.instanceMethod objectInit, Cond.code objectInit ⟨#[0xb1]⟩ 1 none, Cond.fieldLink RX6 9 "ThrowModels$Thing" "kind" "I", Cond.fieldLink RX6 15 "ThrowModels$Thing" "length" "I", Cond.methodLink RX8 236 yX4_init, Cond.instanceMethod yX4_init, Cond.code yX4_init cX4_init 3 none]
def wsX8_make_r3 : List Cond := [Cond.methodLink RX4 1 yX2_init, Cond.methodLink RX8 239 yX5_init, Cond.instanceMethod yX5_init, Cond.code yX5_init cX5_init 2 none, Cond.methodLink RX5 3 yX4_init, Cond.methodLink RX8 242 yX7_init, Cond.instanceMethod yX7_init, Cond.code yX7_init cX7_init 3 none, Cond.classLink RX7 2 RX6, Cond.fieldLink RX7 7 "ThrowModels$ThingArray" "elements" "[LThrowModels$Thing;", Cond.methodLink RX7 1 yX6_init, Cond.methodLink RX8 243 yX8_newRows, Cond.static yX8_newRows, Cond.code yX8_newRows cX8_newRows 4 (some (.object "ThrowModels$ThingArray")), Cond.fieldLink RX8 247 "ThrowModels$ThingArray" "length" "I", Cond.sameField "ThrowModels$ThingArray" "ThrowModels$Thing" "length" "I", Cond.fieldLink RX8 105 "ThrowModels$ThingArray" "elements" "[LThrowModels$Thing;", Cond.methodLink RX8 50 yX1_init, Cond.instanceMethod yX1_init, Cond.code yX1_init cX1_init 3 none, Cond.arrayClass .long, Cond.fieldLink RX1 7 "ThrowModels$NumberArray" "numbers" "[J", Cond.methodLink RX1 1 yX6_init]
def wsX8_make : List Cond := .code yX8_make cX8_make 5 (some .int) :: ((wsX8_make_r1 ++ (wsX8_make_r2 ++ wsX8_make_r3)) ++ wsX80 ++ wsX20 ++ wsX40 ++ wsX50 ++ wsX70 ++ wsX10)
def wsX8_move : List Cond := .code yX8_move cX8_move 4 (some .int) :: ([.fieldLink RX8 11 "ThrowModels" "cells" "[LThrowModels$Thing;", .methodLink RX8 38 yX8_isCell, .static yX8_isCell, .initialized RX8, .code yX8_isCell cX8_isCell 1 (some .boolean), .methodLink RX8 30 yX8_stops, .instanceMethod yX8_stops, .selects RX8 yX8_stops yX8_stops, .code yX8_stops cX8_stops 2 (some .boolean), .fieldLink RX8 19 "ThrowModels" "latestThrow" "I", .fieldLink RX8 15 "ThrowModels" "throwCounts" "[I"] ++ wsX80)
def wsX8_passesCast : List Cond := .code yX8_passesCast cX8_passesCast 2 (some .boolean) :: ([.methodLink RX8 63 ⟨"ThrowModels$Thing", "isOf", "(I)Z"⟩, .sameMethod "ThrowModels$Thing" "ThrowModels$Thing" "isOf" "(I)Z", .selects RX1 ⟨"ThrowModels$Thing", "isOf", "(I)Z"⟩ yX6_isOf, .instanceMethod yX6_isOf, .initialized RX6, .code yX6_isOf cX6_isOf 2 (some .boolean), .fieldLink RX6 9 "ThrowModels$Thing" "kind" "I", .selects RX2 ⟨"ThrowModels$Thing", "isOf", "(I)Z"⟩ yX6_isOf, .selects RX4 ⟨"ThrowModels$Thing", "isOf", "(I)Z"⟩ yX6_isOf, .selects RX5 ⟨"ThrowModels$Thing", "isOf", "(I)Z"⟩ yX6_isOf, .selects RX7 ⟨"ThrowModels$Thing", "isOf", "(I)Z"⟩ yX6_isOf] ++ wsX10 ++ wsX20 ++ wsX40 ++ wsX50 ++ wsX70)
def wsX8_castCause : List Cond := .code yX8_castCause cX8_castCause 2 (some .int) :: ([.methodLink RX8 217 yX8_passesCast, .static yX8_passesCast, .initialized RX8, .code yX8_passesCast cX8_passesCast 2 (some .boolean), .methodLink RX8 63 ⟨"ThrowModels$Thing", "isOf", "(I)Z"⟩, .sameMethod "ThrowModels$Thing" "ThrowModels$Thing" "isOf" "(I)Z", .selects RX1 ⟨"ThrowModels$Thing", "isOf", "(I)Z"⟩ yX6_isOf, .instanceMethod yX6_isOf, .initialized RX6, .code yX6_isOf cX6_isOf 2 (some .boolean), .fieldLink RX6 9 "ThrowModels$Thing" "kind" "I", .selects RX2 ⟨"ThrowModels$Thing", "isOf", "(I)Z"⟩ yX6_isOf, .selects RX4 ⟨"ThrowModels$Thing", "isOf", "(I)Z"⟩ yX6_isOf, .selects RX5 ⟨"ThrowModels$Thing", "isOf", "(I)Z"⟩ yX6_isOf, .selects RX7 ⟨"ThrowModels$Thing", "isOf", "(I)Z"⟩ yX6_isOf] ++ wsX10 ++ wsX20 ++ wsX40 ++ wsX50 ++ wsX70)
def wsX8_twin_r1 : List Cond := [Cond.fieldLink RX8 11 "ThrowModels" "cells" "[LThrowModels$Thing;", Cond.classLink RX8 45 "ThrowModels$NumberArray", Cond.classLink RX8 45 RX1, Cond.instantiable RX1 3, Cond.initialized RX1, Cond.fieldLink RX8 47 "ThrowModels$NumberArray" "length" "I", Cond.sameField "ThrowModels$NumberArray" "ThrowModels$Thing" "length" "I", Cond.fieldLink RX8 53 "ThrowModels$NumberArray" "numbers" "[J", Cond.methodLink RX8 57 arraycopyName, Cond.native arraycopyName, Cond.static arraycopyName, Cond.initialized "java/lang/System", Cond.methodLink RX8 38 yX8_isCell, Cond.static yX8_isCell, Cond.initialized RX8, Cond.code yX8_isCell cX8_isCell 1 (some .boolean), Cond.methodLink RX8 41 yX8_castCause, Cond.static yX8_castCause, Cond.code yX8_castCause cX8_castCause 2 (some .int), Cond.methodLink RX8 217 yX8_passesCast, Cond.static yX8_passesCast, Cond.code yX8_passesCast cX8_passesCast 2 (some .boolean), Cond.methodLink RX8 63 ⟨"ThrowModels$Thing", "isOf", "(I)Z"⟩, Cond.sameMethod "ThrowModels$Thing" "ThrowModels$Thing" "isOf" "(I)Z"]
def wsX8_twin_r2 : List Cond := [Cond.selects RX1 ⟨"ThrowModels$Thing", "isOf", "(I)Z"⟩ yX6_isOf, Cond.instanceMethod yX6_isOf, Cond.initialized RX6, Cond.code yX6_isOf cX6_isOf 2 (some .boolean), Cond.fieldLink RX6 9 "ThrowModels$Thing" "kind" "I", Cond.selects RX2 ⟨"ThrowModels$Thing", "isOf", "(I)Z"⟩ yX6_isOf, Cond.selects RX4 ⟨"ThrowModels$Thing", "isOf", "(I)Z"⟩ yX6_isOf, Cond.selects RX5 ⟨"ThrowModels$Thing", "isOf", "(I)Z"⟩ yX6_isOf, Cond.selects RX7 ⟨"ThrowModels$Thing", "isOf", "(I)Z"⟩ yX6_isOf, Cond.methodLink RX8 30 yX8_stops, Cond.instanceMethod yX8_stops, Cond.selects RX8 yX8_stops yX8_stops, Cond.code yX8_stops cX8_stops 2 (some .boolean), Cond.fieldLink RX8 19 "ThrowModels" "latestThrow" "I", Cond.fieldLink RX8 15 "ThrowModels" "throwCounts" "[I", Cond.methodLink RX8 50 yX1_init, Cond.instanceMethod yX1_init, Cond.code yX1_init cX1_init 3 none, Cond.arrayClass .long, Cond.fieldLink RX1 7 "ThrowModels$NumberArray" "numbers" "[J", Cond.methodLink RX1 1 yX6_init, Cond.instanceMethod yX6_init, Cond.code yX6_init cX6_init 3 none, Cond.methodLink RX6 3 objectInit]
def wsX8_twin_r3 : List Cond := [Cond.instanceMethod objectInit, Cond.code objectInit ⟨#[0xb1]⟩ 1 none, Cond.fieldLink RX6 15 "ThrowModels$Thing" "length" "I"]
def wsX8_twin : List Cond := .code yX8_twin cX8_twin 6 (some .int) :: ((wsX8_twin_r1 ++ (wsX8_twin_r2 ++ wsX8_twin_r3)) ++ wsX80 ++ wsX10 ++ wsX20 ++ wsX40 ++ wsX50 ++ wsX70)
def wsX8_is : List Cond := .code yX8_is cX8_is 4 (some .int) :: ([.fieldLink RX8 11 "ThrowModels" "cells" "[LThrowModels$Thing;", .methodLink RX8 38 yX8_isCell, .static yX8_isCell, .initialized RX8, .code yX8_isCell cX8_isCell 1 (some .boolean), .methodLink RX8 63 ⟨"ThrowModels$Thing", "isOf", "(I)Z"⟩, .sameMethod "ThrowModels$Thing" "ThrowModels$Thing" "isOf" "(I)Z", .selects RX1 ⟨"ThrowModels$Thing", "isOf", "(I)Z"⟩ yX6_isOf, .instanceMethod yX6_isOf, .initialized RX6, .code yX6_isOf cX6_isOf 2 (some .boolean), .fieldLink RX6 9 "ThrowModels$Thing" "kind" "I", .selects RX2 ⟨"ThrowModels$Thing", "isOf", "(I)Z"⟩ yX6_isOf, .selects RX4 ⟨"ThrowModels$Thing", "isOf", "(I)Z"⟩ yX6_isOf, .selects RX5 ⟨"ThrowModels$Thing", "isOf", "(I)Z"⟩ yX6_isOf, .selects RX7 ⟨"ThrowModels$Thing", "isOf", "(I)Z"⟩ yX6_isOf] ++ wsX80 ++ wsX10 ++ wsX20 ++ wsX40 ++ wsX50 ++ wsX70)
def wsX8_same : List Cond := .code yX8_same cX8_same 3 (some .int) :: ([.fieldLink RX8 11 "ThrowModels" "cells" "[LThrowModels$Thing;", .methodLink RX8 38 yX8_isCell, .static yX8_isCell, .initialized RX8, .code yX8_isCell cX8_isCell 1 (some .boolean)] ++ wsX80)
def wsX8_isNumberType : List Cond := .code yX8_isNumberType cX8_isNumberType 1 (some .boolean) :: ([])
def wsX8_isThingArrayType : List Cond := .code yX8_isThingArrayType cX8_isThingArrayType 1 (some .boolean) :: ([])
def wsX8_isArrayType : List Cond := .code yX8_isArrayType cX8_isArrayType 1 (some .boolean) :: ([.methodLink RX8 70 yX8_isNumberType, .static yX8_isNumberType, .initialized RX8, .code yX8_isNumberType cX8_isNumberType 1 (some .boolean), .methodLink RX8 91 yX8_isThingArrayType, .static yX8_isThingArrayType, .code yX8_isThingArrayType cX8_isThingArrayType 1 (some .boolean)])
def wsX8_length_r1 : List Cond := [Cond.fieldLink RX8 11 "ThrowModels" "cells" "[LThrowModels$Thing;", Cond.fieldLink RX8 69 "ThrowModels$Thing" "length" "I", Cond.methodLink RX8 66 yX8_isArrayType, Cond.static yX8_isArrayType, Cond.initialized RX8, Cond.code yX8_isArrayType cX8_isArrayType 1 (some .boolean), Cond.methodLink RX8 70 yX8_isNumberType, Cond.static yX8_isNumberType, Cond.code yX8_isNumberType cX8_isNumberType 1 (some .boolean), Cond.methodLink RX8 91 yX8_isThingArrayType, Cond.static yX8_isThingArrayType, Cond.code yX8_isThingArrayType cX8_isThingArrayType 1 (some .boolean), Cond.methodLink RX8 38 yX8_isCell, Cond.static yX8_isCell, Cond.code yX8_isCell cX8_isCell 1 (some .boolean), Cond.methodLink RX8 41 yX8_castCause, Cond.static yX8_castCause, Cond.code yX8_castCause cX8_castCause 2 (some .int), Cond.methodLink RX8 217 yX8_passesCast, Cond.static yX8_passesCast, Cond.code yX8_passesCast cX8_passesCast 2 (some .boolean), Cond.methodLink RX8 63 ⟨"ThrowModels$Thing", "isOf", "(I)Z"⟩, Cond.sameMethod "ThrowModels$Thing" "ThrowModels$Thing" "isOf" "(I)Z", Cond.selects RX1 ⟨"ThrowModels$Thing", "isOf", "(I)Z"⟩ yX6_isOf]
def wsX8_length_r2 : List Cond := [Cond.instanceMethod yX6_isOf, Cond.initialized RX6, Cond.code yX6_isOf cX6_isOf 2 (some .boolean), Cond.fieldLink RX6 9 "ThrowModels$Thing" "kind" "I", Cond.selects RX2 ⟨"ThrowModels$Thing", "isOf", "(I)Z"⟩ yX6_isOf, Cond.selects RX4 ⟨"ThrowModels$Thing", "isOf", "(I)Z"⟩ yX6_isOf, Cond.selects RX5 ⟨"ThrowModels$Thing", "isOf", "(I)Z"⟩ yX6_isOf, Cond.selects RX7 ⟨"ThrowModels$Thing", "isOf", "(I)Z"⟩ yX6_isOf, Cond.methodLink RX8 30 yX8_stops, Cond.instanceMethod yX8_stops, Cond.selects RX8 yX8_stops yX8_stops, Cond.code yX8_stops cX8_stops 2 (some .boolean), Cond.fieldLink RX8 19 "ThrowModels" "latestThrow" "I", Cond.fieldLink RX8 15 "ThrowModels" "throwCounts" "[I"]
def wsX8_length : List Cond := .code yX8_length cX8_length 5 (some .int) :: ((wsX8_length_r1 ++ wsX8_length_r2) ++ wsX80 ++ wsX10 ++ wsX20 ++ wsX40 ++ wsX50 ++ wsX70)
def wsX8_elementCause_r1 : List Cond := [Cond.methodLink RX8 41 yX8_castCause, Cond.static yX8_castCause, Cond.initialized RX8, Cond.code yX8_castCause cX8_castCause 2 (some .int), Cond.methodLink RX8 217 yX8_passesCast, Cond.static yX8_passesCast, Cond.code yX8_passesCast cX8_passesCast 2 (some .boolean), Cond.methodLink RX8 63 ⟨"ThrowModels$Thing", "isOf", "(I)Z"⟩, Cond.sameMethod "ThrowModels$Thing" "ThrowModels$Thing" "isOf" "(I)Z", Cond.selects RX1 ⟨"ThrowModels$Thing", "isOf", "(I)Z"⟩ yX6_isOf, Cond.instanceMethod yX6_isOf, Cond.initialized RX6, Cond.code yX6_isOf cX6_isOf 2 (some .boolean), Cond.fieldLink RX6 9 "ThrowModels$Thing" "kind" "I", Cond.selects RX2 ⟨"ThrowModels$Thing", "isOf", "(I)Z"⟩ yX6_isOf, Cond.selects RX4 ⟨"ThrowModels$Thing", "isOf", "(I)Z"⟩ yX6_isOf, Cond.selects RX5 ⟨"ThrowModels$Thing", "isOf", "(I)Z"⟩ yX6_isOf, Cond.selects RX7 ⟨"ThrowModels$Thing", "isOf", "(I)Z"⟩ yX6_isOf, Cond.methodLink RX8 221 ⟨"ThrowModels$Thing", "holds", "(I)Z"⟩, Cond.sameMethod "ThrowModels$Thing" "ThrowModels$Thing" "holds" "(I)Z", Cond.selects RX1 ⟨"ThrowModels$Thing", "holds", "(I)Z"⟩ yX6_holds, Cond.instanceMethod yX6_holds, Cond.code yX6_holds cX6_holds 2 (some .boolean), Cond.fieldLink RX6 15 "ThrowModels$Thing" "length" "I"]
def wsX8_elementCause_r2 : List Cond := [Cond.selects RX2 ⟨"ThrowModels$Thing", "holds", "(I)Z"⟩ yX6_holds, Cond.selects RX4 ⟨"ThrowModels$Thing", "holds", "(I)Z"⟩ yX6_holds, Cond.selects RX5 ⟨"ThrowModels$Thing", "holds", "(I)Z"⟩ yX6_holds, Cond.selects RX7 ⟨"ThrowModels$Thing", "holds", "(I)Z"⟩ yX6_holds]
def wsX8_elementCause : List Cond := .code yX8_elementCause cX8_elementCause 4 (some .int) :: ((wsX8_elementCause_r1 ++ wsX8_elementCause_r2) ++ wsX10 ++ wsX20 ++ wsX40 ++ wsX50 ++ wsX70)
def wsX8_numberAt : List Cond := .code yX8_numberAt cX8_numberAt 3 (some .long) :: ([.classLink RX8 45 "ThrowModels$NumberArray", .fieldLink RX8 53 "ThrowModels$NumberArray" "numbers" "[J", .methodLink RX8 81 ⟨"ThrowModels$NumberArray", "holds", "(I)Z"⟩, .sameMethod "ThrowModels$NumberArray" "ThrowModels$Thing" "holds" "(I)Z", .selects RX1 ⟨"ThrowModels$NumberArray", "holds", "(I)Z"⟩ yX6_holds, .instanceMethod yX6_holds, .initialized RX6, .code yX6_holds cX6_holds 2 (some .boolean), .fieldLink RX6 15 "ThrowModels$Thing" "length" "I"] ++ wsX10 ++ wsX20 ++ wsX40 ++ wsX50 ++ wsX70)
def wsX8_load_r1 : List Cond := [Cond.fieldLink RX8 11 "ThrowModels" "cells" "[LThrowModels$Thing;", Cond.methodLink RX8 70 yX8_isNumberType, Cond.static yX8_isNumberType, Cond.initialized RX8, Cond.code yX8_isNumberType cX8_isNumberType 1 (some .boolean), Cond.methodLink RX8 38 yX8_isCell, Cond.static yX8_isCell, Cond.code yX8_isCell cX8_isCell 1 (some .boolean), Cond.methodLink RX8 73 yX8_elementCause, Cond.static yX8_elementCause, Cond.code yX8_elementCause cX8_elementCause 4 (some .int), Cond.methodLink RX8 41 yX8_castCause, Cond.static yX8_castCause, Cond.code yX8_castCause cX8_castCause 2 (some .int), Cond.methodLink RX8 217 yX8_passesCast, Cond.static yX8_passesCast, Cond.code yX8_passesCast cX8_passesCast 2 (some .boolean), Cond.methodLink RX8 63 ⟨"ThrowModels$Thing", "isOf", "(I)Z"⟩, Cond.sameMethod "ThrowModels$Thing" "ThrowModels$Thing" "isOf" "(I)Z", Cond.selects RX1 ⟨"ThrowModels$Thing", "isOf", "(I)Z"⟩ yX6_isOf, Cond.instanceMethod yX6_isOf, Cond.initialized RX6, Cond.code yX6_isOf cX6_isOf 2 (some .boolean), Cond.fieldLink RX6 9 "ThrowModels$Thing" "kind" "I"]
def wsX8_load_r2 : List Cond := [Cond.selects RX2 ⟨"ThrowModels$Thing", "isOf", "(I)Z"⟩ yX6_isOf, Cond.selects RX4 ⟨"ThrowModels$Thing", "isOf", "(I)Z"⟩ yX6_isOf, Cond.selects RX5 ⟨"ThrowModels$Thing", "isOf", "(I)Z"⟩ yX6_isOf, Cond.selects RX7 ⟨"ThrowModels$Thing", "isOf", "(I)Z"⟩ yX6_isOf, Cond.methodLink RX8 221 ⟨"ThrowModels$Thing", "holds", "(I)Z"⟩, Cond.sameMethod "ThrowModels$Thing" "ThrowModels$Thing" "holds" "(I)Z", Cond.selects RX1 ⟨"ThrowModels$Thing", "holds", "(I)Z"⟩ yX6_holds, Cond.instanceMethod yX6_holds, Cond.code yX6_holds cX6_holds 2 (some .boolean), Cond.fieldLink RX6 15 "ThrowModels$Thing" "length" "I", Cond.selects RX2 ⟨"ThrowModels$Thing", "holds", "(I)Z"⟩ yX6_holds, Cond.selects RX4 ⟨"ThrowModels$Thing", "holds", "(I)Z"⟩ yX6_holds, Cond.selects RX5 ⟨"ThrowModels$Thing", "holds", "(I)Z"⟩ yX6_holds, Cond.selects RX7 ⟨"ThrowModels$Thing", "holds", "(I)Z"⟩ yX6_holds, Cond.methodLink RX8 30 yX8_stops, Cond.instanceMethod yX8_stops, Cond.selects RX8 yX8_stops yX8_stops, Cond.code yX8_stops cX8_stops 2 (some .boolean), Cond.fieldLink RX8 19 "ThrowModels" "latestThrow" "I", Cond.fieldLink RX8 15 "ThrowModels" "throwCounts" "[I", Cond.methodLink RX8 77 yX8_numberAt, Cond.static yX8_numberAt, Cond.code yX8_numberAt cX8_numberAt 3 (some .long), Cond.classLink RX8 45 "ThrowModels$NumberArray"]
def wsX8_load_r3 : List Cond := [Cond.fieldLink RX8 53 "ThrowModels$NumberArray" "numbers" "[J", Cond.methodLink RX8 81 ⟨"ThrowModels$NumberArray", "holds", "(I)Z"⟩, Cond.sameMethod "ThrowModels$NumberArray" "ThrowModels$Thing" "holds" "(I)Z", Cond.selects RX1 ⟨"ThrowModels$NumberArray", "holds", "(I)Z"⟩ yX6_holds]
def wsX8_load : List Cond := .code yX8_load cX8_load 5 (some .long) :: ((wsX8_load_r1 ++ (wsX8_load_r2 ++ wsX8_load_r3)) ++ wsX80 ++ wsX10 ++ wsX20 ++ wsX40 ++ wsX50 ++ wsX70)
def wsX8_cutToWidth : List Cond := .code yX8_cutToWidth cX8_cutToWidth 3 (some .long) :: ([.fieldLink RX8 194 "ThrowModels$Format" "FLOAT" "LThrowModels$Format;", .fieldLink RX8 170 "ThrowModels$Format" "DOUBLE" "LThrowModels$Format;", .methodLink RX8 176 yX0_isNaN, .instanceMethod yX0_isNaN, .selects RX0 yX0_isNaN yX0_isNaN, .initialized RX0, .code yX0_isNaN cX0_isNaN 3 (some .boolean), .fieldLink RX0 36 "ThrowModels$Format" "infinity" "J", .methodLink RX0 43 yX0_magnitude, .instanceMethod yX0_magnitude, .selects RX0 yX0_magnitude yX0_magnitude, .code yX0_magnitude cX0_magnitude 3 (some .long), .fieldLink RX0 40 "ThrowModels$Format" "signBit" "J", .methodLink RX8 180 yX0_plainNaN, .instanceMethod yX0_plainNaN, .selects RX0 yX0_plainNaN yX0_plainNaN, .code yX0_plainNaN cX0_plainNaN 1 (some .long), .fieldLink RX0 29 "ThrowModels$Format" "fractionBits" "I"])
def wsX8_store_r1 : List Cond := [Cond.fieldLink RX8 11 "ThrowModels" "cells" "[LThrowModels$Thing;", Cond.classLink RX8 45 "ThrowModels$NumberArray", Cond.fieldLink RX8 53 "ThrowModels$NumberArray" "numbers" "[J", Cond.fieldLink RX8 84 "ThrowModels$NumberArray" "kind" "I", Cond.sameField "ThrowModels$NumberArray" "ThrowModels$Thing" "kind" "I", Cond.methodLink RX8 70 yX8_isNumberType, Cond.static yX8_isNumberType, Cond.initialized RX8, Cond.code yX8_isNumberType cX8_isNumberType 1 (some .boolean), Cond.methodLink RX8 38 yX8_isCell, Cond.static yX8_isCell, Cond.code yX8_isCell cX8_isCell 1 (some .boolean), Cond.methodLink RX8 73 yX8_elementCause, Cond.static yX8_elementCause, Cond.code yX8_elementCause cX8_elementCause 4 (some .int), Cond.methodLink RX8 41 yX8_castCause, Cond.static yX8_castCause, Cond.code yX8_castCause cX8_castCause 2 (some .int), Cond.methodLink RX8 217 yX8_passesCast, Cond.static yX8_passesCast, Cond.code yX8_passesCast cX8_passesCast 2 (some .boolean), Cond.methodLink RX8 63 ⟨"ThrowModels$Thing", "isOf", "(I)Z"⟩, Cond.sameMethod "ThrowModels$Thing" "ThrowModels$Thing" "isOf" "(I)Z", Cond.selects RX1 ⟨"ThrowModels$Thing", "isOf", "(I)Z"⟩ yX6_isOf]
def wsX8_store_r2 : List Cond := [Cond.instanceMethod yX6_isOf, Cond.initialized RX6, Cond.code yX6_isOf cX6_isOf 2 (some .boolean), Cond.fieldLink RX6 9 "ThrowModels$Thing" "kind" "I", Cond.selects RX2 ⟨"ThrowModels$Thing", "isOf", "(I)Z"⟩ yX6_isOf, Cond.selects RX4 ⟨"ThrowModels$Thing", "isOf", "(I)Z"⟩ yX6_isOf, Cond.selects RX5 ⟨"ThrowModels$Thing", "isOf", "(I)Z"⟩ yX6_isOf, Cond.selects RX7 ⟨"ThrowModels$Thing", "isOf", "(I)Z"⟩ yX6_isOf, Cond.methodLink RX8 221 ⟨"ThrowModels$Thing", "holds", "(I)Z"⟩, Cond.sameMethod "ThrowModels$Thing" "ThrowModels$Thing" "holds" "(I)Z", Cond.selects RX1 ⟨"ThrowModels$Thing", "holds", "(I)Z"⟩ yX6_holds, Cond.instanceMethod yX6_holds, Cond.code yX6_holds cX6_holds 2 (some .boolean), Cond.fieldLink RX6 15 "ThrowModels$Thing" "length" "I", Cond.selects RX2 ⟨"ThrowModels$Thing", "holds", "(I)Z"⟩ yX6_holds, Cond.selects RX4 ⟨"ThrowModels$Thing", "holds", "(I)Z"⟩ yX6_holds, Cond.selects RX5 ⟨"ThrowModels$Thing", "holds", "(I)Z"⟩ yX6_holds, Cond.selects RX7 ⟨"ThrowModels$Thing", "holds", "(I)Z"⟩ yX6_holds, Cond.methodLink RX8 30 yX8_stops, Cond.instanceMethod yX8_stops, Cond.selects RX8 yX8_stops yX8_stops, Cond.code yX8_stops cX8_stops 2 (some .boolean), Cond.fieldLink RX8 19 "ThrowModels" "latestThrow" "I", Cond.fieldLink RX8 15 "ThrowModels" "throwCounts" "[I"]
def wsX8_store_r3 : List Cond := [Cond.methodLink RX8 81 ⟨"ThrowModels$NumberArray", "holds", "(I)Z"⟩, Cond.sameMethod "ThrowModels$NumberArray" "ThrowModels$Thing" "holds" "(I)Z", Cond.selects RX1 ⟨"ThrowModels$NumberArray", "holds", "(I)Z"⟩ yX6_holds, Cond.methodLink RX8 87 yX8_cutToWidth, Cond.static yX8_cutToWidth, Cond.code yX8_cutToWidth cX8_cutToWidth 3 (some .long), Cond.fieldLink RX8 194 "ThrowModels$Format" "FLOAT" "LThrowModels$Format;", Cond.fieldLink RX8 170 "ThrowModels$Format" "DOUBLE" "LThrowModels$Format;", Cond.methodLink RX8 176 yX0_isNaN, Cond.instanceMethod yX0_isNaN, Cond.selects RX0 yX0_isNaN yX0_isNaN, Cond.initialized RX0, Cond.code yX0_isNaN cX0_isNaN 3 (some .boolean), Cond.fieldLink RX0 36 "ThrowModels$Format" "infinity" "J", Cond.methodLink RX0 43 yX0_magnitude, Cond.instanceMethod yX0_magnitude, Cond.selects RX0 yX0_magnitude yX0_magnitude, Cond.code yX0_magnitude cX0_magnitude 3 (some .long), Cond.fieldLink RX0 40 "ThrowModels$Format" "signBit" "J", Cond.methodLink RX8 180 yX0_plainNaN, Cond.instanceMethod yX0_plainNaN, Cond.selects RX0 yX0_plainNaN yX0_plainNaN, Cond.code yX0_plainNaN cX0_plainNaN 1 (some .long), Cond.fieldLink RX0 29 "ThrowModels$Format" "fractionBits" "I"]
def wsX8_store : List Cond := .code yX8_store cX8_store 9 (some .int) :: ((wsX8_store_r1 ++ (wsX8_store_r2 ++ wsX8_store_r3)) ++ wsX80 ++ wsX10 ++ wsX20 ++ wsX40 ++ wsX50 ++ wsX70)
def wsX8_elementAt : List Cond := .code yX8_elementAt cX8_elementAt 3 (some (.object "ThrowModels$Thing")) :: ([.classLink RX8 102 "ThrowModels$ThingArray", .fieldLink RX8 105 "ThrowModels$ThingArray" "elements" "[LThrowModels$Thing;", .methodLink RX8 104 ⟨"ThrowModels$ThingArray", "holds", "(I)Z"⟩, .sameMethod "ThrowModels$ThingArray" "ThrowModels$Thing" "holds" "(I)Z", .selects RX7 ⟨"ThrowModels$ThingArray", "holds", "(I)Z"⟩ yX6_holds, .instanceMethod yX6_holds, .initialized RX6, .code yX6_holds cX6_holds 2 (some .boolean), .fieldLink RX6 15 "ThrowModels$Thing" "length" "I"] ++ wsX70 ++ wsX10 ++ wsX20 ++ wsX40 ++ wsX50)
def wsX8_take_r1 : List Cond := [Cond.fieldLink RX8 11 "ThrowModels" "cells" "[LThrowModels$Thing;", Cond.methodLink RX8 91 yX8_isThingArrayType, Cond.static yX8_isThingArrayType, Cond.initialized RX8, Cond.code yX8_isThingArrayType cX8_isThingArrayType 1 (some .boolean), Cond.methodLink RX8 38 yX8_isCell, Cond.static yX8_isCell, Cond.code yX8_isCell cX8_isCell 1 (some .boolean), Cond.methodLink RX8 73 yX8_elementCause, Cond.static yX8_elementCause, Cond.code yX8_elementCause cX8_elementCause 4 (some .int), Cond.methodLink RX8 41 yX8_castCause, Cond.static yX8_castCause, Cond.code yX8_castCause cX8_castCause 2 (some .int), Cond.methodLink RX8 217 yX8_passesCast, Cond.static yX8_passesCast, Cond.code yX8_passesCast cX8_passesCast 2 (some .boolean), Cond.methodLink RX8 63 ⟨"ThrowModels$Thing", "isOf", "(I)Z"⟩, Cond.sameMethod "ThrowModels$Thing" "ThrowModels$Thing" "isOf" "(I)Z", Cond.selects RX1 ⟨"ThrowModels$Thing", "isOf", "(I)Z"⟩ yX6_isOf, Cond.instanceMethod yX6_isOf, Cond.initialized RX6, Cond.code yX6_isOf cX6_isOf 2 (some .boolean), Cond.fieldLink RX6 9 "ThrowModels$Thing" "kind" "I"]
def wsX8_take_r2 : List Cond := [Cond.selects RX2 ⟨"ThrowModels$Thing", "isOf", "(I)Z"⟩ yX6_isOf, Cond.selects RX4 ⟨"ThrowModels$Thing", "isOf", "(I)Z"⟩ yX6_isOf, Cond.selects RX5 ⟨"ThrowModels$Thing", "isOf", "(I)Z"⟩ yX6_isOf, Cond.selects RX7 ⟨"ThrowModels$Thing", "isOf", "(I)Z"⟩ yX6_isOf, Cond.methodLink RX8 221 ⟨"ThrowModels$Thing", "holds", "(I)Z"⟩, Cond.sameMethod "ThrowModels$Thing" "ThrowModels$Thing" "holds" "(I)Z", Cond.selects RX1 ⟨"ThrowModels$Thing", "holds", "(I)Z"⟩ yX6_holds, Cond.instanceMethod yX6_holds, Cond.code yX6_holds cX6_holds 2 (some .boolean), Cond.fieldLink RX6 15 "ThrowModels$Thing" "length" "I", Cond.selects RX2 ⟨"ThrowModels$Thing", "holds", "(I)Z"⟩ yX6_holds, Cond.selects RX4 ⟨"ThrowModels$Thing", "holds", "(I)Z"⟩ yX6_holds, Cond.selects RX5 ⟨"ThrowModels$Thing", "holds", "(I)Z"⟩ yX6_holds, Cond.selects RX7 ⟨"ThrowModels$Thing", "holds", "(I)Z"⟩ yX6_holds, Cond.methodLink RX8 30 yX8_stops, Cond.instanceMethod yX8_stops, Cond.selects RX8 yX8_stops yX8_stops, Cond.code yX8_stops cX8_stops 2 (some .boolean), Cond.fieldLink RX8 19 "ThrowModels" "latestThrow" "I", Cond.fieldLink RX8 15 "ThrowModels" "throwCounts" "[I", Cond.methodLink RX8 94 yX8_elementAt, Cond.static yX8_elementAt, Cond.code yX8_elementAt cX8_elementAt 3 (some (.object "ThrowModels$Thing")), Cond.classLink RX8 102 "ThrowModels$ThingArray"]
def wsX8_take_r3 : List Cond := [Cond.fieldLink RX8 105 "ThrowModels$ThingArray" "elements" "[LThrowModels$Thing;", Cond.methodLink RX8 104 ⟨"ThrowModels$ThingArray", "holds", "(I)Z"⟩, Cond.sameMethod "ThrowModels$ThingArray" "ThrowModels$Thing" "holds" "(I)Z", Cond.selects RX7 ⟨"ThrowModels$ThingArray", "holds", "(I)Z"⟩ yX6_holds]
def wsX8_take : List Cond := .code yX8_take cX8_take 6 (some .int) :: ((wsX8_take_r1 ++ (wsX8_take_r2 ++ wsX8_take_r3)) ++ wsX80 ++ wsX10 ++ wsX20 ++ wsX40 ++ wsX50 ++ wsX70)
def wsX8_elementTypeOfKind : List Cond := .code yX8_elementTypeOfKind cX8_elementTypeOfKind 1 (some .int) :: ([])
def wsX8_elementTypeOfType : List Cond := .code yX8_elementTypeOfType cX8_elementTypeOfType 1 (some .int) :: ([.methodLink RX8 226 yX8_elementTypeOfKind, .static yX8_elementTypeOfKind, .initialized RX8, .code yX8_elementTypeOfKind cX8_elementTypeOfKind 1 (some .int)])
def wsX8_putCause_r1 : List Cond := [Cond.fieldLink RX8 225 "ThrowModels$Thing" "kind" "I", Cond.methodLink RX8 217 yX8_passesCast, Cond.static yX8_passesCast, Cond.initialized RX8, Cond.code yX8_passesCast cX8_passesCast 2 (some .boolean), Cond.methodLink RX8 63 ⟨"ThrowModels$Thing", "isOf", "(I)Z"⟩, Cond.sameMethod "ThrowModels$Thing" "ThrowModels$Thing" "isOf" "(I)Z", Cond.selects RX1 ⟨"ThrowModels$Thing", "isOf", "(I)Z"⟩ yX6_isOf, Cond.instanceMethod yX6_isOf, Cond.initialized RX6, Cond.code yX6_isOf cX6_isOf 2 (some .boolean), Cond.fieldLink RX6 9 "ThrowModels$Thing" "kind" "I", Cond.selects RX2 ⟨"ThrowModels$Thing", "isOf", "(I)Z"⟩ yX6_isOf, Cond.selects RX4 ⟨"ThrowModels$Thing", "isOf", "(I)Z"⟩ yX6_isOf, Cond.selects RX5 ⟨"ThrowModels$Thing", "isOf", "(I)Z"⟩ yX6_isOf, Cond.selects RX7 ⟨"ThrowModels$Thing", "isOf", "(I)Z"⟩ yX6_isOf, Cond.methodLink RX8 222 yX8_elementTypeOfType, Cond.static yX8_elementTypeOfType, Cond.code yX8_elementTypeOfType cX8_elementTypeOfType 1 (some .int), Cond.methodLink RX8 226 yX8_elementTypeOfKind, Cond.static yX8_elementTypeOfKind, Cond.code yX8_elementTypeOfKind cX8_elementTypeOfKind 1 (some .int), Cond.methodLink RX8 221 ⟨"ThrowModels$Thing", "holds", "(I)Z"⟩, Cond.sameMethod "ThrowModels$Thing" "ThrowModels$Thing" "holds" "(I)Z"]
def wsX8_putCause_r2 : List Cond := [Cond.selects RX1 ⟨"ThrowModels$Thing", "holds", "(I)Z"⟩ yX6_holds, Cond.instanceMethod yX6_holds, Cond.code yX6_holds cX6_holds 2 (some .boolean), Cond.fieldLink RX6 15 "ThrowModels$Thing" "length" "I", Cond.selects RX2 ⟨"ThrowModels$Thing", "holds", "(I)Z"⟩ yX6_holds, Cond.selects RX4 ⟨"ThrowModels$Thing", "holds", "(I)Z"⟩ yX6_holds, Cond.selects RX5 ⟨"ThrowModels$Thing", "holds", "(I)Z"⟩ yX6_holds, Cond.selects RX7 ⟨"ThrowModels$Thing", "holds", "(I)Z"⟩ yX6_holds]
def wsX8_putCause : List Cond := .code yX8_putCause cX8_putCause 4 (some .int) :: ((wsX8_putCause_r1 ++ wsX8_putCause_r2) ++ wsX10 ++ wsX20 ++ wsX40 ++ wsX50 ++ wsX70)
def wsX8_put_r1 : List Cond := [Cond.fieldLink RX8 11 "ThrowModels" "cells" "[LThrowModels$Thing;", Cond.classLink RX8 102 "ThrowModels$ThingArray", Cond.fieldLink RX8 105 "ThrowModels$ThingArray" "elements" "[LThrowModels$Thing;", Cond.methodLink RX8 91 yX8_isThingArrayType, Cond.static yX8_isThingArrayType, Cond.initialized RX8, Cond.code yX8_isThingArrayType cX8_isThingArrayType 1 (some .boolean), Cond.methodLink RX8 38 yX8_isCell, Cond.static yX8_isCell, Cond.code yX8_isCell cX8_isCell 1 (some .boolean), Cond.methodLink RX8 98 yX8_putCause, Cond.static yX8_putCause, Cond.code yX8_putCause cX8_putCause 4 (some .int), Cond.fieldLink RX8 225 "ThrowModels$Thing" "kind" "I", Cond.methodLink RX8 217 yX8_passesCast, Cond.static yX8_passesCast, Cond.code yX8_passesCast cX8_passesCast 2 (some .boolean), Cond.methodLink RX8 63 ⟨"ThrowModels$Thing", "isOf", "(I)Z"⟩, Cond.sameMethod "ThrowModels$Thing" "ThrowModels$Thing" "isOf" "(I)Z", Cond.selects RX1 ⟨"ThrowModels$Thing", "isOf", "(I)Z"⟩ yX6_isOf, Cond.instanceMethod yX6_isOf, Cond.initialized RX6, Cond.code yX6_isOf cX6_isOf 2 (some .boolean), Cond.fieldLink RX6 9 "ThrowModels$Thing" "kind" "I"]
def wsX8_put_r2 : List Cond := [Cond.selects RX2 ⟨"ThrowModels$Thing", "isOf", "(I)Z"⟩ yX6_isOf, Cond.selects RX4 ⟨"ThrowModels$Thing", "isOf", "(I)Z"⟩ yX6_isOf, Cond.selects RX5 ⟨"ThrowModels$Thing", "isOf", "(I)Z"⟩ yX6_isOf, Cond.selects RX7 ⟨"ThrowModels$Thing", "isOf", "(I)Z"⟩ yX6_isOf, Cond.methodLink RX8 222 yX8_elementTypeOfType, Cond.static yX8_elementTypeOfType, Cond.code yX8_elementTypeOfType cX8_elementTypeOfType 1 (some .int), Cond.methodLink RX8 226 yX8_elementTypeOfKind, Cond.static yX8_elementTypeOfKind, Cond.code yX8_elementTypeOfKind cX8_elementTypeOfKind 1 (some .int), Cond.methodLink RX8 221 ⟨"ThrowModels$Thing", "holds", "(I)Z"⟩, Cond.sameMethod "ThrowModels$Thing" "ThrowModels$Thing" "holds" "(I)Z", Cond.selects RX1 ⟨"ThrowModels$Thing", "holds", "(I)Z"⟩ yX6_holds, Cond.instanceMethod yX6_holds, Cond.code yX6_holds cX6_holds 2 (some .boolean), Cond.fieldLink RX6 15 "ThrowModels$Thing" "length" "I", Cond.selects RX2 ⟨"ThrowModels$Thing", "holds", "(I)Z"⟩ yX6_holds, Cond.selects RX4 ⟨"ThrowModels$Thing", "holds", "(I)Z"⟩ yX6_holds, Cond.selects RX5 ⟨"ThrowModels$Thing", "holds", "(I)Z"⟩ yX6_holds, Cond.selects RX7 ⟨"ThrowModels$Thing", "holds", "(I)Z"⟩ yX6_holds, Cond.methodLink RX8 30 yX8_stops, Cond.instanceMethod yX8_stops, Cond.selects RX8 yX8_stops yX8_stops, Cond.code yX8_stops cX8_stops 2 (some .boolean)]
def wsX8_put_r3 : List Cond := [Cond.fieldLink RX8 19 "ThrowModels" "latestThrow" "I", Cond.fieldLink RX8 15 "ThrowModels" "throwCounts" "[I", Cond.methodLink RX8 104 ⟨"ThrowModels$ThingArray", "holds", "(I)Z"⟩, Cond.sameMethod "ThrowModels$ThingArray" "ThrowModels$Thing" "holds" "(I)Z", Cond.selects RX7 ⟨"ThrowModels$ThingArray", "holds", "(I)Z"⟩ yX6_holds]
def wsX8_put : List Cond := .code yX8_put cX8_put 8 (some .int) :: ((wsX8_put_r1 ++ (wsX8_put_r2 ++ wsX8_put_r3)) ++ wsX80 ++ wsX70 ++ wsX10 ++ wsX20 ++ wsX40 ++ wsX50)
def wsX8_crossCause_r1 : List Cond := [Cond.methodLink RX8 73 yX8_elementCause, Cond.static yX8_elementCause, Cond.initialized RX8, Cond.code yX8_elementCause cX8_elementCause 4 (some .int), Cond.methodLink RX8 41 yX8_castCause, Cond.static yX8_castCause, Cond.code yX8_castCause cX8_castCause 2 (some .int), Cond.methodLink RX8 217 yX8_passesCast, Cond.static yX8_passesCast, Cond.code yX8_passesCast cX8_passesCast 2 (some .boolean), Cond.methodLink RX8 63 ⟨"ThrowModels$Thing", "isOf", "(I)Z"⟩, Cond.sameMethod "ThrowModels$Thing" "ThrowModels$Thing" "isOf" "(I)Z", Cond.selects RX1 ⟨"ThrowModels$Thing", "isOf", "(I)Z"⟩ yX6_isOf, Cond.instanceMethod yX6_isOf, Cond.initialized RX6, Cond.code yX6_isOf cX6_isOf 2 (some .boolean), Cond.fieldLink RX6 9 "ThrowModels$Thing" "kind" "I", Cond.selects RX2 ⟨"ThrowModels$Thing", "isOf", "(I)Z"⟩ yX6_isOf, Cond.selects RX4 ⟨"ThrowModels$Thing", "isOf", "(I)Z"⟩ yX6_isOf, Cond.selects RX5 ⟨"ThrowModels$Thing", "isOf", "(I)Z"⟩ yX6_isOf, Cond.selects RX7 ⟨"ThrowModels$Thing", "isOf", "(I)Z"⟩ yX6_isOf, Cond.methodLink RX8 221 ⟨"ThrowModels$Thing", "holds", "(I)Z"⟩, Cond.sameMethod "ThrowModels$Thing" "ThrowModels$Thing" "holds" "(I)Z", Cond.selects RX1 ⟨"ThrowModels$Thing", "holds", "(I)Z"⟩ yX6_holds]
def wsX8_crossCause_r2 : List Cond := [Cond.instanceMethod yX6_holds, Cond.code yX6_holds cX6_holds 2 (some .boolean), Cond.fieldLink RX6 15 "ThrowModels$Thing" "length" "I", Cond.selects RX2 ⟨"ThrowModels$Thing", "holds", "(I)Z"⟩ yX6_holds, Cond.selects RX4 ⟨"ThrowModels$Thing", "holds", "(I)Z"⟩ yX6_holds, Cond.selects RX5 ⟨"ThrowModels$Thing", "holds", "(I)Z"⟩ yX6_holds, Cond.selects RX7 ⟨"ThrowModels$Thing", "holds", "(I)Z"⟩ yX6_holds, Cond.methodLink RX8 94 yX8_elementAt, Cond.static yX8_elementAt, Cond.code yX8_elementAt cX8_elementAt 3 (some (.object "ThrowModels$Thing")), Cond.classLink RX8 102 "ThrowModels$ThingArray", Cond.fieldLink RX8 105 "ThrowModels$ThingArray" "elements" "[LThrowModels$Thing;", Cond.methodLink RX8 104 ⟨"ThrowModels$ThingArray", "holds", "(I)Z"⟩, Cond.sameMethod "ThrowModels$ThingArray" "ThrowModels$Thing" "holds" "(I)Z", Cond.selects RX7 ⟨"ThrowModels$ThingArray", "holds", "(I)Z"⟩ yX6_holds]
def wsX8_crossCause : List Cond := .code yX8_crossCause cX8_crossCause 4 (some .int) :: ((wsX8_crossCause_r1 ++ wsX8_crossCause_r2) ++ wsX10 ++ wsX20 ++ wsX40 ++ wsX50 ++ wsX70)
def wsX8_cross_r1 : List Cond := [Cond.fieldLink RX8 11 "ThrowModels" "cells" "[LThrowModels$Thing;", Cond.methodLink RX8 38 yX8_isCell, Cond.static yX8_isCell, Cond.initialized RX8, Cond.code yX8_isCell cX8_isCell 1 (some .boolean), Cond.methodLink RX8 108 yX8_crossCause, Cond.static yX8_crossCause, Cond.code yX8_crossCause cX8_crossCause 4 (some .int), Cond.methodLink RX8 73 yX8_elementCause, Cond.static yX8_elementCause, Cond.code yX8_elementCause cX8_elementCause 4 (some .int), Cond.methodLink RX8 41 yX8_castCause, Cond.static yX8_castCause, Cond.code yX8_castCause cX8_castCause 2 (some .int), Cond.methodLink RX8 217 yX8_passesCast, Cond.static yX8_passesCast, Cond.code yX8_passesCast cX8_passesCast 2 (some .boolean), Cond.methodLink RX8 63 ⟨"ThrowModels$Thing", "isOf", "(I)Z"⟩, Cond.sameMethod "ThrowModels$Thing" "ThrowModels$Thing" "isOf" "(I)Z", Cond.selects RX1 ⟨"ThrowModels$Thing", "isOf", "(I)Z"⟩ yX6_isOf, Cond.instanceMethod yX6_isOf, Cond.initialized RX6, Cond.code yX6_isOf cX6_isOf 2 (some .boolean), Cond.fieldLink RX6 9 "ThrowModels$Thing" "kind" "I"]
def wsX8_cross_r2 : List Cond := [Cond.selects RX2 ⟨"ThrowModels$Thing", "isOf", "(I)Z"⟩ yX6_isOf, Cond.selects RX4 ⟨"ThrowModels$Thing", "isOf", "(I)Z"⟩ yX6_isOf, Cond.selects RX5 ⟨"ThrowModels$Thing", "isOf", "(I)Z"⟩ yX6_isOf, Cond.selects RX7 ⟨"ThrowModels$Thing", "isOf", "(I)Z"⟩ yX6_isOf, Cond.methodLink RX8 221 ⟨"ThrowModels$Thing", "holds", "(I)Z"⟩, Cond.sameMethod "ThrowModels$Thing" "ThrowModels$Thing" "holds" "(I)Z", Cond.selects RX1 ⟨"ThrowModels$Thing", "holds", "(I)Z"⟩ yX6_holds, Cond.instanceMethod yX6_holds, Cond.code yX6_holds cX6_holds 2 (some .boolean), Cond.fieldLink RX6 15 "ThrowModels$Thing" "length" "I", Cond.selects RX2 ⟨"ThrowModels$Thing", "holds", "(I)Z"⟩ yX6_holds, Cond.selects RX4 ⟨"ThrowModels$Thing", "holds", "(I)Z"⟩ yX6_holds, Cond.selects RX5 ⟨"ThrowModels$Thing", "holds", "(I)Z"⟩ yX6_holds, Cond.selects RX7 ⟨"ThrowModels$Thing", "holds", "(I)Z"⟩ yX6_holds, Cond.methodLink RX8 94 yX8_elementAt, Cond.static yX8_elementAt, Cond.code yX8_elementAt cX8_elementAt 3 (some (.object "ThrowModels$Thing")), Cond.classLink RX8 102 "ThrowModels$ThingArray", Cond.fieldLink RX8 105 "ThrowModels$ThingArray" "elements" "[LThrowModels$Thing;", Cond.methodLink RX8 104 ⟨"ThrowModels$ThingArray", "holds", "(I)Z"⟩, Cond.sameMethod "ThrowModels$ThingArray" "ThrowModels$Thing" "holds" "(I)Z", Cond.selects RX7 ⟨"ThrowModels$ThingArray", "holds", "(I)Z"⟩ yX6_holds, Cond.methodLink RX8 30 yX8_stops, Cond.instanceMethod yX8_stops]
def wsX8_cross_r3 : List Cond := [Cond.selects RX8 yX8_stops yX8_stops, Cond.code yX8_stops cX8_stops 2 (some .boolean), Cond.fieldLink RX8 19 "ThrowModels" "latestThrow" "I", Cond.fieldLink RX8 15 "ThrowModels" "throwCounts" "[I", Cond.methodLink RX8 77 yX8_numberAt, Cond.static yX8_numberAt, Cond.code yX8_numberAt cX8_numberAt 3 (some .long), Cond.classLink RX8 45 "ThrowModels$NumberArray", Cond.fieldLink RX8 53 "ThrowModels$NumberArray" "numbers" "[J", Cond.methodLink RX8 81 ⟨"ThrowModels$NumberArray", "holds", "(I)Z"⟩, Cond.sameMethod "ThrowModels$NumberArray" "ThrowModels$Thing" "holds" "(I)Z", Cond.selects RX1 ⟨"ThrowModels$NumberArray", "holds", "(I)Z"⟩ yX6_holds]
def wsX8_cross : List Cond := .code yX8_cross cX8_cross 4 (some .int) :: ((wsX8_cross_r1 ++ (wsX8_cross_r2 ++ wsX8_cross_r3)) ++ wsX80 ++ wsX10 ++ wsX20 ++ wsX40 ++ wsX50 ++ wsX70)
def wsX8_copyCause : List Cond := .code yX8_copyCause cX8_copyCause 8 (some .int) :: ([.fieldLink RX8 225 "ThrowModels$Thing" "kind" "I", .fieldLink RX8 69 "ThrowModels$Thing" "length" "I", .methodLink RX8 91 yX8_isThingArrayType, .static yX8_isThingArrayType, .initialized RX8, .code yX8_isThingArrayType cX8_isThingArrayType 1 (some .boolean), .methodLink RX8 66 yX8_isArrayType, .static yX8_isArrayType, .code yX8_isArrayType cX8_isArrayType 1 (some .boolean), .methodLink RX8 70 yX8_isNumberType, .static yX8_isNumberType, .code yX8_isNumberType cX8_isNumberType 1 (some .boolean)] ++ wsX10 ++ wsX20 ++ wsX40 ++ wsX50 ++ wsX70)
def wsX8_copyThings : List Cond := .code yX8_copyThings cX8_copyThings 8 (some .int) :: ([.fieldLink RX8 256 "ThrowModels$ThingArray" "kind" "I", .sameField "ThrowModels$ThingArray" "ThrowModels$Thing" "kind" "I", .fieldLink RX8 105 "ThrowModels$ThingArray" "elements" "[LThrowModels$Thing;", .methodLink RX8 226 yX8_elementTypeOfKind, .static yX8_elementTypeOfKind, .initialized RX8, .code yX8_elementTypeOfKind cX8_elementTypeOfKind 1 (some .int), .methodLink RX8 217 yX8_passesCast, .static yX8_passesCast, .code yX8_passesCast cX8_passesCast 2 (some .boolean), .methodLink RX8 63 ⟨"ThrowModels$Thing", "isOf", "(I)Z"⟩, .sameMethod "ThrowModels$Thing" "ThrowModels$Thing" "isOf" "(I)Z", .selects RX1 ⟨"ThrowModels$Thing", "isOf", "(I)Z"⟩ yX6_isOf, .instanceMethod yX6_isOf, .initialized RX6, .code yX6_isOf cX6_isOf 2 (some .boolean), .fieldLink RX6 9 "ThrowModels$Thing" "kind" "I", .selects RX2 ⟨"ThrowModels$Thing", "isOf", "(I)Z"⟩ yX6_isOf, .selects RX4 ⟨"ThrowModels$Thing", "isOf", "(I)Z"⟩ yX6_isOf, .selects RX5 ⟨"ThrowModels$Thing", "isOf", "(I)Z"⟩ yX6_isOf, .selects RX7 ⟨"ThrowModels$Thing", "isOf", "(I)Z"⟩ yX6_isOf] ++ wsX10 ++ wsX20 ++ wsX40 ++ wsX50 ++ wsX70)
def wsX8_shiftThings : List Cond := .code yX8_shiftThings cX8_shiftThings 6 none :: ([.fieldLink RX8 105 "ThrowModels$ThingArray" "elements" "[LThrowModels$Thing;"] ++ wsX70)
def wsX8_copyElements_r1 : List Cond := [Cond.classLink RX8 45 "ThrowModels$NumberArray", Cond.fieldLink RX8 53 "ThrowModels$NumberArray" "numbers" "[J", Cond.methodLink RX8 57 arraycopyName, Cond.native arraycopyName, Cond.static arraycopyName, Cond.initialized "java/lang/System", Cond.classLink RX8 102 "ThrowModels$ThingArray", Cond.methodLink RX8 248 yX8_copyThings, Cond.static yX8_copyThings, Cond.initialized RX8, Cond.code yX8_copyThings cX8_copyThings 8 (some .int), Cond.fieldLink RX8 256 "ThrowModels$ThingArray" "kind" "I", Cond.sameField "ThrowModels$ThingArray" "ThrowModels$Thing" "kind" "I", Cond.fieldLink RX8 105 "ThrowModels$ThingArray" "elements" "[LThrowModels$Thing;", Cond.methodLink RX8 226 yX8_elementTypeOfKind, Cond.static yX8_elementTypeOfKind, Cond.code yX8_elementTypeOfKind cX8_elementTypeOfKind 1 (some .int), Cond.methodLink RX8 217 yX8_passesCast, Cond.static yX8_passesCast, Cond.code yX8_passesCast cX8_passesCast 2 (some .boolean), Cond.methodLink RX8 63 ⟨"ThrowModels$Thing", "isOf", "(I)Z"⟩, Cond.sameMethod "ThrowModels$Thing" "ThrowModels$Thing" "isOf" "(I)Z", Cond.selects RX1 ⟨"ThrowModels$Thing", "isOf", "(I)Z"⟩ yX6_isOf, Cond.instanceMethod yX6_isOf]
def wsX8_copyElements_r2 : List Cond := [Cond.initialized RX6, Cond.code yX6_isOf cX6_isOf 2 (some .boolean), Cond.fieldLink RX6 9 "ThrowModels$Thing" "kind" "I", Cond.selects RX2 ⟨"ThrowModels$Thing", "isOf", "(I)Z"⟩ yX6_isOf, Cond.selects RX4 ⟨"ThrowModels$Thing", "isOf", "(I)Z"⟩ yX6_isOf, Cond.selects RX5 ⟨"ThrowModels$Thing", "isOf", "(I)Z"⟩ yX6_isOf, Cond.selects RX7 ⟨"ThrowModels$Thing", "isOf", "(I)Z"⟩ yX6_isOf, Cond.methodLink RX8 252 yX8_shiftThings, Cond.static yX8_shiftThings, Cond.code yX8_shiftThings cX8_shiftThings 6 none]
def wsX8_copyElements : List Cond := .code yX8_copyElements cX8_copyElements 7 (some .int) :: ((wsX8_copyElements_r1 ++ wsX8_copyElements_r2) ++ wsX10 ++ wsX20 ++ wsX40 ++ wsX50 ++ wsX70)
def wsX8_copy_r1 : List Cond := [Cond.fieldLink RX8 11 "ThrowModels" "cells" "[LThrowModels$Thing;", Cond.methodLink RX8 38 yX8_isCell, Cond.static yX8_isCell, Cond.initialized RX8, Cond.code yX8_isCell cX8_isCell 1 (some .boolean), Cond.methodLink RX8 112 yX8_copyCause, Cond.static yX8_copyCause, Cond.code yX8_copyCause cX8_copyCause 8 (some .int), Cond.fieldLink RX8 225 "ThrowModels$Thing" "kind" "I", Cond.fieldLink RX8 69 "ThrowModels$Thing" "length" "I", Cond.methodLink RX8 91 yX8_isThingArrayType, Cond.static yX8_isThingArrayType, Cond.code yX8_isThingArrayType cX8_isThingArrayType 1 (some .boolean), Cond.methodLink RX8 66 yX8_isArrayType, Cond.static yX8_isArrayType, Cond.code yX8_isArrayType cX8_isArrayType 1 (some .boolean), Cond.methodLink RX8 70 yX8_isNumberType, Cond.static yX8_isNumberType, Cond.code yX8_isNumberType cX8_isNumberType 1 (some .boolean), Cond.methodLink RX8 116 yX8_copyElements, Cond.static yX8_copyElements, Cond.code yX8_copyElements cX8_copyElements 7 (some .int), Cond.classLink RX8 45 "ThrowModels$NumberArray", Cond.fieldLink RX8 53 "ThrowModels$NumberArray" "numbers" "[J"]
def wsX8_copy_r2 : List Cond := [Cond.methodLink RX8 57 arraycopyName, Cond.native arraycopyName, Cond.static arraycopyName, Cond.initialized "java/lang/System", Cond.classLink RX8 102 "ThrowModels$ThingArray", Cond.methodLink RX8 248 yX8_copyThings, Cond.static yX8_copyThings, Cond.code yX8_copyThings cX8_copyThings 8 (some .int), Cond.fieldLink RX8 256 "ThrowModels$ThingArray" "kind" "I", Cond.sameField "ThrowModels$ThingArray" "ThrowModels$Thing" "kind" "I", Cond.fieldLink RX8 105 "ThrowModels$ThingArray" "elements" "[LThrowModels$Thing;", Cond.methodLink RX8 226 yX8_elementTypeOfKind, Cond.static yX8_elementTypeOfKind, Cond.code yX8_elementTypeOfKind cX8_elementTypeOfKind 1 (some .int), Cond.methodLink RX8 217 yX8_passesCast, Cond.static yX8_passesCast, Cond.code yX8_passesCast cX8_passesCast 2 (some .boolean), Cond.methodLink RX8 63 ⟨"ThrowModels$Thing", "isOf", "(I)Z"⟩, Cond.sameMethod "ThrowModels$Thing" "ThrowModels$Thing" "isOf" "(I)Z", Cond.selects RX1 ⟨"ThrowModels$Thing", "isOf", "(I)Z"⟩ yX6_isOf, Cond.instanceMethod yX6_isOf, Cond.initialized RX6, Cond.code yX6_isOf cX6_isOf 2 (some .boolean), Cond.fieldLink RX6 9 "ThrowModels$Thing" "kind" "I"]
def wsX8_copy_r3 : List Cond := [Cond.selects RX2 ⟨"ThrowModels$Thing", "isOf", "(I)Z"⟩ yX6_isOf, Cond.selects RX4 ⟨"ThrowModels$Thing", "isOf", "(I)Z"⟩ yX6_isOf, Cond.selects RX5 ⟨"ThrowModels$Thing", "isOf", "(I)Z"⟩ yX6_isOf, Cond.selects RX7 ⟨"ThrowModels$Thing", "isOf", "(I)Z"⟩ yX6_isOf, Cond.methodLink RX8 252 yX8_shiftThings, Cond.static yX8_shiftThings, Cond.code yX8_shiftThings cX8_shiftThings 6 none, Cond.methodLink RX8 30 yX8_stops, Cond.instanceMethod yX8_stops, Cond.selects RX8 yX8_stops yX8_stops, Cond.code yX8_stops cX8_stops 2 (some .boolean), Cond.fieldLink RX8 19 "ThrowModels" "latestThrow" "I", Cond.fieldLink RX8 15 "ThrowModels" "throwCounts" "[I"]
def wsX8_copy : List Cond := .code yX8_copy cX8_copy 8 (some .int) :: ((wsX8_copy_r1 ++ (wsX8_copy_r2 ++ wsX8_copy_r3)) ++ wsX80 ++ wsX10 ++ wsX20 ++ wsX40 ++ wsX50 ++ wsX70)
def wsX8_isOwnType : List Cond := .code yX8_isOwnType cX8_isOwnType 1 (some .boolean) :: ([])
def wsX8_field_r1 : List Cond := [Cond.fieldLink RX8 11 "ThrowModels" "cells" "[LThrowModels$Thing;", Cond.classLink RX8 122 "ThrowModels$Plain", Cond.fieldLink RX8 124 "ThrowModels$Plain" "value" "I", Cond.methodLink RX8 119 yX8_isOwnType, Cond.static yX8_isOwnType, Cond.initialized RX8, Cond.code yX8_isOwnType cX8_isOwnType 1 (some .boolean), Cond.methodLink RX8 38 yX8_isCell, Cond.static yX8_isCell, Cond.code yX8_isCell cX8_isCell 1 (some .boolean), Cond.methodLink RX8 41 yX8_castCause, Cond.static yX8_castCause, Cond.code yX8_castCause cX8_castCause 2 (some .int), Cond.methodLink RX8 217 yX8_passesCast, Cond.static yX8_passesCast, Cond.code yX8_passesCast cX8_passesCast 2 (some .boolean), Cond.methodLink RX8 63 ⟨"ThrowModels$Thing", "isOf", "(I)Z"⟩, Cond.sameMethod "ThrowModels$Thing" "ThrowModels$Thing" "isOf" "(I)Z", Cond.selects RX1 ⟨"ThrowModels$Thing", "isOf", "(I)Z"⟩ yX6_isOf, Cond.instanceMethod yX6_isOf, Cond.initialized RX6, Cond.code yX6_isOf cX6_isOf 2 (some .boolean), Cond.fieldLink RX6 9 "ThrowModels$Thing" "kind" "I", Cond.selects RX2 ⟨"ThrowModels$Thing", "isOf", "(I)Z"⟩ yX6_isOf]
def wsX8_field_r2 : List Cond := [Cond.selects RX4 ⟨"ThrowModels$Thing", "isOf", "(I)Z"⟩ yX6_isOf, Cond.selects RX5 ⟨"ThrowModels$Thing", "isOf", "(I)Z"⟩ yX6_isOf, Cond.selects RX7 ⟨"ThrowModels$Thing", "isOf", "(I)Z"⟩ yX6_isOf, Cond.methodLink RX8 30 yX8_stops, Cond.instanceMethod yX8_stops, Cond.selects RX8 yX8_stops yX8_stops, Cond.code yX8_stops cX8_stops 2 (some .boolean), Cond.fieldLink RX8 19 "ThrowModels" "latestThrow" "I", Cond.fieldLink RX8 15 "ThrowModels" "throwCounts" "[I"]
def wsX8_field : List Cond := .code yX8_field cX8_field 6 (some .int) :: ((wsX8_field_r1 ++ wsX8_field_r2) ++ wsX80 ++ wsX20 ++ wsX40 ++ wsX50 ++ wsX10 ++ wsX70)
def wsX8_write_r1 : List Cond := [Cond.fieldLink RX8 11 "ThrowModels" "cells" "[LThrowModels$Thing;", Cond.classLink RX8 122 "ThrowModels$Plain", Cond.fieldLink RX8 124 "ThrowModels$Plain" "value" "I", Cond.methodLink RX8 119 yX8_isOwnType, Cond.static yX8_isOwnType, Cond.initialized RX8, Cond.code yX8_isOwnType cX8_isOwnType 1 (some .boolean), Cond.methodLink RX8 38 yX8_isCell, Cond.static yX8_isCell, Cond.code yX8_isCell cX8_isCell 1 (some .boolean), Cond.methodLink RX8 41 yX8_castCause, Cond.static yX8_castCause, Cond.code yX8_castCause cX8_castCause 2 (some .int), Cond.methodLink RX8 217 yX8_passesCast, Cond.static yX8_passesCast, Cond.code yX8_passesCast cX8_passesCast 2 (some .boolean), Cond.methodLink RX8 63 ⟨"ThrowModels$Thing", "isOf", "(I)Z"⟩, Cond.sameMethod "ThrowModels$Thing" "ThrowModels$Thing" "isOf" "(I)Z", Cond.selects RX1 ⟨"ThrowModels$Thing", "isOf", "(I)Z"⟩ yX6_isOf, Cond.instanceMethod yX6_isOf, Cond.initialized RX6, Cond.code yX6_isOf cX6_isOf 2 (some .boolean), Cond.fieldLink RX6 9 "ThrowModels$Thing" "kind" "I", Cond.selects RX2 ⟨"ThrowModels$Thing", "isOf", "(I)Z"⟩ yX6_isOf]
def wsX8_write_r2 : List Cond := [Cond.selects RX4 ⟨"ThrowModels$Thing", "isOf", "(I)Z"⟩ yX6_isOf, Cond.selects RX5 ⟨"ThrowModels$Thing", "isOf", "(I)Z"⟩ yX6_isOf, Cond.selects RX7 ⟨"ThrowModels$Thing", "isOf", "(I)Z"⟩ yX6_isOf, Cond.methodLink RX8 30 yX8_stops, Cond.instanceMethod yX8_stops, Cond.selects RX8 yX8_stops yX8_stops, Cond.code yX8_stops cX8_stops 2 (some .boolean), Cond.fieldLink RX8 19 "ThrowModels" "latestThrow" "I", Cond.fieldLink RX8 15 "ThrowModels" "throwCounts" "[I"]
def wsX8_write : List Cond := .code yX8_write cX8_write 7 (some .int) :: ((wsX8_write_r1 ++ wsX8_write_r2) ++ wsX80 ++ wsX20 ++ wsX40 ++ wsX50 ++ wsX10 ++ wsX70)
def wsX8_callCause_r1 : List Cond := [Cond.classLink RX8 122 "ThrowModels$Plain", Cond.fieldLink RX8 124 "ThrowModels$Plain" "value" "I", Cond.methodLink RX8 41 yX8_castCause, Cond.static yX8_castCause, Cond.initialized RX8, Cond.code yX8_castCause cX8_castCause 2 (some .int), Cond.methodLink RX8 217 yX8_passesCast, Cond.static yX8_passesCast, Cond.code yX8_passesCast cX8_passesCast 2 (some .boolean), Cond.methodLink RX8 63 ⟨"ThrowModels$Thing", "isOf", "(I)Z"⟩, Cond.sameMethod "ThrowModels$Thing" "ThrowModels$Thing" "isOf" "(I)Z", Cond.selects RX1 ⟨"ThrowModels$Thing", "isOf", "(I)Z"⟩ yX6_isOf, Cond.instanceMethod yX6_isOf, Cond.initialized RX6, Cond.code yX6_isOf cX6_isOf 2 (some .boolean), Cond.fieldLink RX6 9 "ThrowModels$Thing" "kind" "I", Cond.selects RX2 ⟨"ThrowModels$Thing", "isOf", "(I)Z"⟩ yX6_isOf, Cond.selects RX4 ⟨"ThrowModels$Thing", "isOf", "(I)Z"⟩ yX6_isOf, Cond.selects RX5 ⟨"ThrowModels$Thing", "isOf", "(I)Z"⟩ yX6_isOf, Cond.selects RX7 ⟨"ThrowModels$Thing", "isOf", "(I)Z"⟩ yX6_isOf, Cond.methodLink RX8 229 yX2_size, Cond.instanceMethod yX2_size, Cond.selects RX2 yX2_size yX2_size, Cond.initialized RX2]
def wsX8_callCause_r2 : List Cond := [Cond.code yX2_size cX2_size 1 (some .int), Cond.fieldLink RX2 7 "ThrowModels$Plain" "value" "I", Cond.methodLink RX8 229 ⟨"ThrowModels$Plain", "size", "()I"⟩, Cond.sameMethod "ThrowModels$Plain" "ThrowModels$Plain" "size" "()I", Cond.instanceMethod ⟨"ThrowModels$Plain", "size", "()I"⟩, Cond.selects RX4 ⟨"ThrowModels$Plain", "size", "()I"⟩ yX4_size, Cond.instanceMethod yX4_size, Cond.initialized RX4, Cond.code yX4_size cX4_size 1 (some .int), Cond.fieldLink RX4 7 "ThrowModels$Round" "value" "I", Cond.sameField "ThrowModels$Round" "ThrowModels$Plain" "value" "I", Cond.selects RX5 ⟨"ThrowModels$Plain", "size", "()I"⟩ yX5_size, Cond.instanceMethod yX5_size, Cond.initialized RX5, Cond.code yX5_size cX5_size 1 (some .int), Cond.fieldLink RX5 9 "ThrowModels$Square" "value" "I", Cond.sameField "ThrowModels$Square" "ThrowModels$Plain" "value" "I"]
def wsX8_callCause : List Cond := .code yX8_callCause cX8_callCause 4 (some .int) :: ((wsX8_callCause_r1 ++ wsX8_callCause_r2) ++ wsX20 ++ wsX40 ++ wsX50 ++ wsX10 ++ wsX70)
def wsX8_callAnswer_r1 : List Cond := [Cond.fieldLink RX8 124 "ThrowModels$Plain" "value" "I", Cond.methodLink RX8 257 yX2_twice, Cond.instanceMethod yX2_twice, Cond.selects RX2 yX2_twice yX2_twice, Cond.initialized RX2, Cond.code yX2_twice cX2_twice 1 (some .int), Cond.methodLink RX2 13 yX2_size, Cond.instanceMethod yX2_size, Cond.selects RX2 yX2_size yX2_size, Cond.code yX2_size cX2_size 1 (some .int), Cond.fieldLink RX2 7 "ThrowModels$Plain" "value" "I", Cond.methodLink RX2 13 ⟨"ThrowModels$Plain", "size", "()I"⟩, Cond.sameMethod "ThrowModels$Plain" "ThrowModels$Plain" "size" "()I", Cond.instanceMethod ⟨"ThrowModels$Plain", "size", "()I"⟩, Cond.selects RX4 ⟨"ThrowModels$Plain", "size", "()I"⟩ yX4_size, Cond.instanceMethod yX4_size, Cond.initialized RX4, Cond.code yX4_size cX4_size 1 (some .int), Cond.fieldLink RX4 7 "ThrowModels$Round" "value" "I", Cond.sameField "ThrowModels$Round" "ThrowModels$Plain" "value" "I", Cond.selects RX5 ⟨"ThrowModels$Plain", "size", "()I"⟩ yX5_size, Cond.instanceMethod yX5_size, Cond.initialized RX5, Cond.code yX5_size cX5_size 1 (some .int)]
def wsX8_callAnswer_r2 : List Cond := [Cond.fieldLink RX5 9 "ThrowModels$Square" "value" "I", Cond.sameField "ThrowModels$Square" "ThrowModels$Plain" "value" "I", Cond.methodLink RX8 257 ⟨"ThrowModels$Plain", "twice", "()I"⟩, Cond.sameMethod "ThrowModels$Plain" "ThrowModels$Plain" "twice" "()I", Cond.instanceMethod ⟨"ThrowModels$Plain", "twice", "()I"⟩, Cond.selects RX4 ⟨"ThrowModels$Plain", "twice", "()I"⟩ yX4_twice, Cond.instanceMethod yX4_twice, Cond.code yX4_twice cX4_twice 1 (some .int), Cond.methodLink RX4 13 yX4_size, Cond.selects RX4 yX4_size yX4_size, Cond.methodLink RX4 13 ⟨"ThrowModels$Round", "size", "()I"⟩, Cond.sameMethod "ThrowModels$Round" "ThrowModels$Round" "size" "()I", Cond.instanceMethod ⟨"ThrowModels$Round", "size", "()I"⟩, Cond.selects RX5 ⟨"ThrowModels$Round", "size", "()I"⟩ yX5_size, Cond.selects RX5 ⟨"ThrowModels$Plain", "twice", "()I"⟩ yX4_twice, Cond.methodLink RX8 260 yX2_mark, Cond.instanceMethod yX2_mark, Cond.selects RX2 yX2_mark yX2_mark, Cond.code yX2_mark cX2_mark 1 (some .int), Cond.methodLink RX8 260 ⟨"ThrowModels$Plain", "mark", "()I"⟩, Cond.sameMethod "ThrowModels$Plain" "ThrowModels$Plain" "mark" "()I", Cond.selects RX4 ⟨"ThrowModels$Plain", "mark", "()I"⟩ yX2_mark, Cond.instanceMethod ⟨"ThrowModels$Plain", "mark", "()I"⟩, Cond.selects RX5 ⟨"ThrowModels$Plain", "mark", "()I"⟩ yX5_mark]
def wsX8_callAnswer_r3 : List Cond := [Cond.instanceMethod yX5_mark, Cond.code yX5_mark cX5_mark 1 (some .int), Cond.methodLink RX8 263 yX2_step, Cond.instanceMethod yX2_step, Cond.selects RX2 yX2_step yX2_step, Cond.code yX2_step cX2_step 1 (some .int), Cond.methodLink RX8 263 ⟨"ThrowModels$Plain", "step", "()I"⟩, Cond.sameMethod "ThrowModels$Plain" "ThrowModels$Plain" "step" "()I", Cond.instanceMethod ⟨"ThrowModels$Plain", "step", "()I"⟩, Cond.selects RX4 ⟨"ThrowModels$Plain", "step", "()I"⟩ yX4_step, Cond.instanceMethod yX4_step, Cond.code yX4_step cX4_step 1 (some .int), Cond.methodLink RX4 17 yX2_step, Cond.superclass RX4 RX2, Cond.selects RX5 ⟨"ThrowModels$Plain", "step", "()I"⟩ yX5_step, Cond.instanceMethod yX5_step, Cond.code yX5_step cX5_step 1 (some .int), Cond.methodLink RX5 19 yX4_step, Cond.sameMethod "ThrowModels$Round" "ThrowModels$Round" "step" "()I", Cond.superclass RX5 RX4, Cond.methodLink RX8 229 yX2_size, Cond.methodLink RX8 229 ⟨"ThrowModels$Plain", "size", "()I"⟩]
def wsX8_callAnswer : List Cond := .code yX8_callAnswer cX8_callAnswer 2 (some .int) :: ((wsX8_callAnswer_r1 ++ (wsX8_callAnswer_r2 ++ wsX8_callAnswer_r3)) ++ wsX20 ++ wsX40 ++ wsX50)
def wsX8_call_r1 : List Cond := [Cond.fieldLink RX8 11 "ThrowModels" "cells" "[LThrowModels$Thing;", Cond.classLink RX8 122 "ThrowModels$Plain", Cond.methodLink RX8 38 yX8_isCell, Cond.static yX8_isCell, Cond.initialized RX8, Cond.code yX8_isCell cX8_isCell 1 (some .boolean), Cond.methodLink RX8 127 yX8_callCause, Cond.static yX8_callCause, Cond.code yX8_callCause cX8_callCause 4 (some .int), Cond.fieldLink RX8 124 "ThrowModels$Plain" "value" "I", Cond.methodLink RX8 41 yX8_castCause, Cond.static yX8_castCause, Cond.code yX8_castCause cX8_castCause 2 (some .int), Cond.methodLink RX8 217 yX8_passesCast, Cond.static yX8_passesCast, Cond.code yX8_passesCast cX8_passesCast 2 (some .boolean), Cond.methodLink RX8 63 ⟨"ThrowModels$Thing", "isOf", "(I)Z"⟩, Cond.sameMethod "ThrowModels$Thing" "ThrowModels$Thing" "isOf" "(I)Z", Cond.selects RX1 ⟨"ThrowModels$Thing", "isOf", "(I)Z"⟩ yX6_isOf, Cond.instanceMethod yX6_isOf, Cond.initialized RX6, Cond.code yX6_isOf cX6_isOf 2 (some .boolean), Cond.fieldLink RX6 9 "ThrowModels$Thing" "kind" "I", Cond.selects RX2 ⟨"ThrowModels$Thing", "isOf", "(I)Z"⟩ yX6_isOf]
def wsX8_call_r2 : List Cond := [Cond.selects RX4 ⟨"ThrowModels$Thing", "isOf", "(I)Z"⟩ yX6_isOf, Cond.selects RX5 ⟨"ThrowModels$Thing", "isOf", "(I)Z"⟩ yX6_isOf, Cond.selects RX7 ⟨"ThrowModels$Thing", "isOf", "(I)Z"⟩ yX6_isOf, Cond.methodLink RX8 229 yX2_size, Cond.instanceMethod yX2_size, Cond.selects RX2 yX2_size yX2_size, Cond.initialized RX2, Cond.code yX2_size cX2_size 1 (some .int), Cond.fieldLink RX2 7 "ThrowModels$Plain" "value" "I", Cond.methodLink RX8 229 ⟨"ThrowModels$Plain", "size", "()I"⟩, Cond.sameMethod "ThrowModels$Plain" "ThrowModels$Plain" "size" "()I", Cond.instanceMethod ⟨"ThrowModels$Plain", "size", "()I"⟩, Cond.selects RX4 ⟨"ThrowModels$Plain", "size", "()I"⟩ yX4_size, Cond.instanceMethod yX4_size, Cond.initialized RX4, Cond.code yX4_size cX4_size 1 (some .int), Cond.fieldLink RX4 7 "ThrowModels$Round" "value" "I", Cond.sameField "ThrowModels$Round" "ThrowModels$Plain" "value" "I", Cond.selects RX5 ⟨"ThrowModels$Plain", "size", "()I"⟩ yX5_size, Cond.instanceMethod yX5_size, Cond.initialized RX5, Cond.code yX5_size cX5_size 1 (some .int), Cond.fieldLink RX5 9 "ThrowModels$Square" "value" "I", Cond.sameField "ThrowModels$Square" "ThrowModels$Plain" "value" "I"]
def wsX8_call_r3 : List Cond := [Cond.methodLink RX8 30 yX8_stops, Cond.instanceMethod yX8_stops, Cond.selects RX8 yX8_stops yX8_stops, Cond.code yX8_stops cX8_stops 2 (some .boolean), Cond.fieldLink RX8 19 "ThrowModels" "latestThrow" "I", Cond.fieldLink RX8 15 "ThrowModels" "throwCounts" "[I", Cond.methodLink RX8 131 yX8_callAnswer, Cond.static yX8_callAnswer, Cond.code yX8_callAnswer cX8_callAnswer 2 (some .int), Cond.methodLink RX8 257 yX2_twice, Cond.instanceMethod yX2_twice, Cond.selects RX2 yX2_twice yX2_twice, Cond.code yX2_twice cX2_twice 1 (some .int), Cond.methodLink RX2 13 yX2_size, Cond.methodLink RX2 13 ⟨"ThrowModels$Plain", "size", "()I"⟩, Cond.methodLink RX8 257 ⟨"ThrowModels$Plain", "twice", "()I"⟩, Cond.sameMethod "ThrowModels$Plain" "ThrowModels$Plain" "twice" "()I", Cond.instanceMethod ⟨"ThrowModels$Plain", "twice", "()I"⟩, Cond.selects RX4 ⟨"ThrowModels$Plain", "twice", "()I"⟩ yX4_twice, Cond.instanceMethod yX4_twice, Cond.code yX4_twice cX4_twice 1 (some .int), Cond.methodLink RX4 13 yX4_size, Cond.selects RX4 yX4_size yX4_size, Cond.methodLink RX4 13 ⟨"ThrowModels$Round", "size", "()I"⟩]
def wsX8_call_r4 : List Cond := [Cond.sameMethod "ThrowModels$Round" "ThrowModels$Round" "size" "()I", Cond.instanceMethod ⟨"ThrowModels$Round", "size", "()I"⟩, Cond.selects RX5 ⟨"ThrowModels$Round", "size", "()I"⟩ yX5_size, Cond.selects RX5 ⟨"ThrowModels$Plain", "twice", "()I"⟩ yX4_twice, Cond.methodLink RX8 260 yX2_mark, Cond.instanceMethod yX2_mark, Cond.selects RX2 yX2_mark yX2_mark, Cond.code yX2_mark cX2_mark 1 (some .int), Cond.methodLink RX8 260 ⟨"ThrowModels$Plain", "mark", "()I"⟩, Cond.sameMethod "ThrowModels$Plain" "ThrowModels$Plain" "mark" "()I", Cond.selects RX4 ⟨"ThrowModels$Plain", "mark", "()I"⟩ yX2_mark, Cond.instanceMethod ⟨"ThrowModels$Plain", "mark", "()I"⟩, Cond.selects RX5 ⟨"ThrowModels$Plain", "mark", "()I"⟩ yX5_mark, Cond.instanceMethod yX5_mark, Cond.code yX5_mark cX5_mark 1 (some .int), Cond.methodLink RX8 263 yX2_step, Cond.instanceMethod yX2_step, Cond.selects RX2 yX2_step yX2_step, Cond.code yX2_step cX2_step 1 (some .int), Cond.methodLink RX8 263 ⟨"ThrowModels$Plain", "step", "()I"⟩, Cond.sameMethod "ThrowModels$Plain" "ThrowModels$Plain" "step" "()I", Cond.instanceMethod ⟨"ThrowModels$Plain", "step", "()I"⟩, Cond.selects RX4 ⟨"ThrowModels$Plain", "step", "()I"⟩ yX4_step, Cond.instanceMethod yX4_step]
def wsX8_call_r5 : List Cond := [Cond.code yX4_step cX4_step 1 (some .int), Cond.methodLink RX4 17 yX2_step, Cond.superclass RX4 RX2, Cond.selects RX5 ⟨"ThrowModels$Plain", "step", "()I"⟩ yX5_step, Cond.instanceMethod yX5_step, Cond.code yX5_step cX5_step 1 (some .int), Cond.methodLink RX5 19 yX4_step, Cond.sameMethod "ThrowModels$Round" "ThrowModels$Round" "step" "()I", Cond.superclass RX5 RX4]
def wsX8_call : List Cond := .code yX8_call cX8_call 6 (some .int) :: ((wsX8_call_r1 ++ (wsX8_call_r2 ++ (wsX8_call_r3 ++ (wsX8_call_r4 ++ wsX8_call_r5)))) ++ wsX80 ++ wsX20 ++ wsX40 ++ wsX50 ++ wsX10 ++ wsX70)
def wsX8_divideCause : List Cond := .code yX8_divideCause cX8_divideCause 4 (some .int) :: ([])
def wsX8_divide : List Cond := .code yX8_divide cX8_divide 6 (some .long) :: ([.methodLink RX8 135 yX8_divideCause, .static yX8_divideCause, .initialized RX8, .code yX8_divideCause cX8_divideCause 4 (some .int), .methodLink RX8 30 yX8_stops, .instanceMethod yX8_stops, .selects RX8 yX8_stops yX8_stops, .code yX8_stops cX8_stops 2 (some .boolean), .fieldLink RX8 19 "ThrowModels" "latestThrow" "I", .fieldLink RX8 15 "ThrowModels" "throwCounts" "[I"] ++ wsX80)
def wsX8_real_r1 : List Cond := [Cond.methodLink RX8 30 yX8_stops, Cond.instanceMethod yX8_stops, Cond.selects RX8 yX8_stops yX8_stops, Cond.initialized RX8, Cond.code yX8_stops cX8_stops 2 (some .boolean), Cond.fieldLink RX8 19 "ThrowModels" "latestThrow" "I", Cond.fieldLink RX8 15 "ThrowModels" "throwCounts" "[I", Cond.methodLink RX8 139 yX3_sum, Cond.static yX3_sum, Cond.initialized RX3, Cond.code yX3_sum cX3_sum 9 (some .long), Cond.fieldLink RX3 11 "ThrowModels$Format" "DOUBLE" "LThrowModels$Format;", Cond.methodLink RX3 17 yX0_isNaN, Cond.instanceMethod yX0_isNaN, Cond.selects RX0 yX0_isNaN yX0_isNaN, Cond.initialized RX0, Cond.code yX0_isNaN cX0_isNaN 3 (some .boolean), Cond.fieldLink RX0 36 "ThrowModels$Format" "infinity" "J", Cond.methodLink RX0 43 yX0_magnitude, Cond.instanceMethod yX0_magnitude, Cond.selects RX0 yX0_magnitude yX0_magnitude, Cond.code yX0_magnitude cX0_magnitude 3 (some .long), Cond.fieldLink RX0 40 "ThrowModels$Format" "signBit" "J", Cond.methodLink RX3 21 yX0_plainNaN]
def wsX8_real_r2 : List Cond := [Cond.instanceMethod yX0_plainNaN, Cond.selects RX0 yX0_plainNaN yX0_plainNaN, Cond.code yX0_plainNaN cX0_plainNaN 1 (some .long), Cond.fieldLink RX0 29 "ThrowModels$Format" "fractionBits" "I", Cond.methodLink RX3 25 yX0_isInfinite, Cond.instanceMethod yX0_isInfinite, Cond.selects RX0 yX0_isInfinite yX0_isInfinite, Cond.code yX0_isInfinite cX0_isInfinite 3 (some .boolean), Cond.methodLink RX3 28 yX0_magnitude, Cond.methodLink RX3 32 yX0_isZero, Cond.instanceMethod yX0_isZero, Cond.selects RX0 yX0_isZero yX0_isZero, Cond.code yX0_isZero cX0_isZero 3 (some .boolean), Cond.methodLink RX3 35 yX3_sumOfFinite, Cond.static yX3_sumOfFinite, Cond.code yX3_sumOfFinite cX3_sumOfFinite 13 (some .long), Cond.methodLink RX3 39 yX0_exponent, Cond.instanceMethod yX0_exponent, Cond.selects RX0 yX0_exponent yX0_exponent, Cond.code yX0_exponent cX0_exponent 4 (some .int), Cond.fieldLink RX0 33 "ThrowModels$Format" "lowestExponent" "I", Cond.methodLink RX0 54 Lib.Math.max.name, Cond.static Lib.Math.max.name, Cond.initialized "java/lang/Math"]
def wsX8_real_r3 : List Cond := [Cond.code Lib.Math.max.name Lib.Math.max.code 2 (some .int), Cond.methodLink RX0 51 yX0_missingPlaces, Cond.instanceMethod yX0_missingPlaces, Cond.selects RX0 yX0_missingPlaces yX0_missingPlaces, Cond.code yX0_missingPlaces cX0_missingPlaces 5 (some .int), Cond.methodLink RX0 47 yX0_highestBit, Cond.static yX0_highestBit, Cond.code yX0_highestBit cX0_highestBit 4 (some .int), Cond.methodLink RX3 43 yX0_significand, Cond.instanceMethod yX0_significand, Cond.selects RX0 yX0_significand yX0_significand, Cond.code yX0_significand cX0_significand 7 (some .long), Cond.methodLink RX3 46 yX3_movedDown, Cond.static yX3_movedDown, Cond.code yX3_movedDown cX3_movedDown 5 (some .long), Cond.methodLink RX3 50 yX0_pack, Cond.instanceMethod yX0_pack, Cond.selects RX0 yX0_pack yX0_pack, Cond.code yX0_pack cX0_pack 10 (some .long), Cond.methodLink RX0 60 yX0_rounded, Cond.static yX0_rounded, Cond.code yX0_rounded cX0_rounded 10 (some .long), Cond.methodLink RX8 145 yX3_difference, Cond.static yX3_difference]
def wsX8_real_r4 : List Cond := [Cond.code yX3_difference cX3_difference 4 (some .long), Cond.constantLong RX3 54 (-9223372036854775808), Cond.methodLink RX3 56 yX3_sum, Cond.methodLink RX8 148 yX3_product, Cond.static yX3_product, Cond.code yX3_product cX3_product 7 (some .long), Cond.fieldLink RX3 59 "ThrowModels$Format" "infinity" "J", Cond.methodLink RX3 63 yX3_productOfFinite, Cond.static yX3_productOfFinite, Cond.code yX3_productOfFinite cX3_productOfFinite 25 (some .long), Cond.constantLong RX3 66 (134217727), Cond.methodLink RX8 151 yX3_quotient, Cond.static yX3_quotient, Cond.code yX3_quotient cX3_quotient 6 (some .long), Cond.methodLink RX3 68 yX3_quotientOfFinite, Cond.static yX3_quotientOfFinite, Cond.code yX3_quotientOfFinite cX3_quotientOfFinite 12 (some .long), Cond.methodLink RX8 154 yX3_remainder, Cond.static yX3_remainder, Cond.code yX3_remainder cX3_remainder 6 (some .long), Cond.methodLink RX3 71 yX3_remainderOfFinite, Cond.static yX3_remainderOfFinite, Cond.code yX3_remainderOfFinite cX3_remainderOfFinite 10 (some .long), Cond.methodLink RX3 74 Lib.Math.min.name]
def wsX8_real_r5 : List Cond := [Cond.static Lib.Math.min.name, Cond.code Lib.Math.min.name Lib.Math.min.code 2 (some .int), Cond.methodLink RX8 157 yX3_greater, Cond.static yX3_greater, Cond.code yX3_greater cX3_greater 4 (some .long), Cond.methodLink RX3 80 yX3_rankWithSignOfZero, Cond.static yX3_rankWithSignOfZero, Cond.code yX3_rankWithSignOfZero cX3_rankWithSignOfZero 2 (some .long), Cond.constantLong RX3 83 (-1), Cond.methodLink RX8 160 yX3_lesser, Cond.static yX3_lesser, Cond.code yX3_lesser cX3_lesser 4 (some .long), Cond.methodLink RX8 163 yX3_withSignOf, Cond.static yX3_withSignOf, Cond.code yX3_withSignOf cX3_withSignOf 6 (some .long)]
def wsX8_real : List Cond := .code yX8_real cX8_real 6 (some .long) :: ((wsX8_real_r1 ++ (wsX8_real_r2 ++ (wsX8_real_r3 ++ (wsX8_real_r4 ++ wsX8_real_r5)))) ++ wsX80)
def wsX8_math_r1 : List Cond := [Cond.fieldLink RX8 170 "ThrowModels$Format" "DOUBLE" "LThrowModels$Format;", Cond.methodLink RX8 30 yX8_stops, Cond.instanceMethod yX8_stops, Cond.selects RX8 yX8_stops yX8_stops, Cond.initialized RX8, Cond.code yX8_stops cX8_stops 2 (some .boolean), Cond.fieldLink RX8 19 "ThrowModels" "latestThrow" "I", Cond.fieldLink RX8 15 "ThrowModels" "throwCounts" "[I", Cond.methodLink RX8 166 yX3_power, Cond.static yX3_power, Cond.initialized RX3, Cond.code yX3_power cX3_power 2 (some .int), Cond.fieldLink RX3 11 "ThrowModels$Format" "DOUBLE" "LThrowModels$Format;", Cond.fieldLink RX3 105 "ThrowModels$Format" "fractionBits" "I", Cond.methodLink RX3 28 yX0_magnitude, Cond.instanceMethod yX0_magnitude, Cond.selects RX0 yX0_magnitude yX0_magnitude, Cond.initialized RX0, Cond.code yX0_magnitude cX0_magnitude 3 (some .long), Cond.fieldLink RX0 40 "ThrowModels$Format" "signBit" "J", Cond.methodLink RX8 176 yX0_isNaN, Cond.instanceMethod yX0_isNaN, Cond.selects RX0 yX0_isNaN yX0_isNaN, Cond.code yX0_isNaN cX0_isNaN 3 (some .boolean)]
def wsX8_math_r2 : List Cond := [Cond.fieldLink RX0 36 "ThrowModels$Format" "infinity" "J", Cond.methodLink RX0 43 yX0_magnitude, Cond.methodLink RX8 180 yX0_plainNaN, Cond.instanceMethod yX0_plainNaN, Cond.selects RX0 yX0_plainNaN yX0_plainNaN, Cond.code yX0_plainNaN cX0_plainNaN 1 (some .long), Cond.fieldLink RX0 29 "ThrowModels$Format" "fractionBits" "I", Cond.methodLink RX8 184 yX3_mathOfNumber, Cond.static yX3_mathOfNumber, Cond.code yX3_mathOfNumber cX3_mathOfNumber 3 (some .long), Cond.constantLong RX3 54 (-9223372036854775808), Cond.constantLong RX3 94 (4607182418800017408), Cond.methodLink RX3 88 yX3_floor, Cond.static yX3_floor, Cond.code yX3_floor cX3_floor 7 (some .long), Cond.constantLong RX3 112 (-4616189618054758400), Cond.constantLong RX3 83 (-1), Cond.methodLink RX3 109 yX3_power, Cond.methodLink RX3 32 yX0_isZero, Cond.instanceMethod yX0_isZero, Cond.selects RX0 yX0_isZero yX0_isZero, Cond.code yX0_isZero cX0_isZero 3 (some .boolean), Cond.methodLink RX3 91 yX3_nearestWhole, Cond.static yX3_nearestWhole]
def wsX8_math_r3 : List Cond := [Cond.code yX3_nearestWhole cX3_nearestWhole 4 (some .long), Cond.methodLink RX3 43 yX0_significand, Cond.instanceMethod yX0_significand, Cond.selects RX0 yX0_significand yX0_significand, Cond.code yX0_significand cX0_significand 7 (some .long), Cond.methodLink RX0 51 yX0_missingPlaces, Cond.instanceMethod yX0_missingPlaces, Cond.selects RX0 yX0_missingPlaces yX0_missingPlaces, Cond.code yX0_missingPlaces cX0_missingPlaces 5 (some .int), Cond.methodLink RX0 47 yX0_highestBit, Cond.static yX0_highestBit, Cond.code yX0_highestBit cX0_highestBit 4 (some .int), Cond.methodLink RX3 39 yX0_exponent, Cond.instanceMethod yX0_exponent, Cond.selects RX0 yX0_exponent yX0_exponent, Cond.code yX0_exponent cX0_exponent 4 (some .int), Cond.fieldLink RX0 33 "ThrowModels$Format" "lowestExponent" "I", Cond.methodLink RX0 54 Lib.Math.max.name, Cond.static Lib.Math.max.name, Cond.initialized "java/lang/Math", Cond.code Lib.Math.max.name Lib.Math.max.code 2 (some .int), Cond.methodLink RX3 114 yX0_rounded, Cond.static yX0_rounded, Cond.code yX0_rounded cX0_rounded 10 (some .long)]
def wsX8_math_r4 : List Cond := [Cond.methodLink RX3 50 yX0_pack, Cond.instanceMethod yX0_pack, Cond.selects RX0 yX0_pack yX0_pack, Cond.code yX0_pack cX0_pack 10 (some .long), Cond.methodLink RX0 60 yX0_rounded, Cond.methodLink RX3 96 yX3_distanceToNext, Cond.static yX3_distanceToNext, Cond.code yX3_distanceToNext cX3_distanceToNext 3 (some .long), Cond.fieldLink RX3 59 "ThrowModels$Format" "infinity" "J", Cond.fieldLink RX3 117 "ThrowModels$Format" "lowestExponent" "I", Cond.methodLink RX3 120 Lib.Math.max.name, Cond.methodLink RX3 25 yX0_isInfinite, Cond.instanceMethod yX0_isInfinite, Cond.selects RX0 yX0_isInfinite yX0_isInfinite, Cond.code yX0_isInfinite cX0_isInfinite 3 (some .boolean), Cond.methodLink RX3 99 yX3_nextUp, Cond.static yX3_nextUp, Cond.code yX3_nextUp cX3_nextUp 2 (some .long), Cond.methodLink RX3 102 yX3_scaled, Cond.static yX3_scaled, Cond.code yX3_scaled cX3_scaled 3 (some .long)]
def wsX8_math : List Cond := .code yX8_math cX8_math 4 (some .long) :: ((wsX8_math_r1 ++ (wsX8_math_r2 ++ (wsX8_math_r3 ++ wsX8_math_r4))) ++ wsX80)
def wsX8_narrow_r1 : List Cond := [Cond.fieldLink RX8 170 "ThrowModels$Format" "DOUBLE" "LThrowModels$Format;", Cond.fieldLink RX8 194 "ThrowModels$Format" "FLOAT" "LThrowModels$Format;", Cond.methodLink RX8 30 yX8_stops, Cond.instanceMethod yX8_stops, Cond.selects RX8 yX8_stops yX8_stops, Cond.initialized RX8, Cond.code yX8_stops cX8_stops 2 (some .boolean), Cond.fieldLink RX8 19 "ThrowModels" "latestThrow" "I", Cond.fieldLink RX8 15 "ThrowModels" "throwCounts" "[I", Cond.methodLink RX8 187 yX3_toInt, Cond.static yX3_toInt, Cond.initialized RX3, Cond.code yX3_toInt cX3_toInt 2 (some .int), Cond.constantLong RX3 139 (2147483647), Cond.methodLink RX3 141 Lib.MathLoose.min_long.x, Cond.static Lib.MathLoose.min_long.x, Cond.initialized "java/lang/Math", Cond.code Lib.MathLoose.min_long.x Lib.MathLoose.min_long.code 4 (some .long), Cond.constantLong RX3 143 (-2147483648), Cond.methodLink RX3 145 Lib.MathLoose.max_long.x, Cond.static Lib.MathLoose.max_long.x, Cond.code Lib.MathLoose.max_long.x Lib.MathLoose.max_long.code 4 (some .long), Cond.methodLink RX3 136 yX3_toLong, Cond.static yX3_toLong]
def wsX8_narrow_r2 : List Cond := [Cond.code yX3_toLong cX3_toLong 7 (some .long), Cond.fieldLink RX3 11 "ThrowModels$Format" "DOUBLE" "LThrowModels$Format;", Cond.constantLong RX3 54 (-9223372036854775808), Cond.constantLong RX3 134 (9223372036854775807), Cond.methodLink RX3 74 Lib.Math.min.name, Cond.static Lib.Math.min.name, Cond.code Lib.Math.min.name Lib.Math.min.code 2 (some .int), Cond.methodLink RX3 17 yX0_isNaN, Cond.instanceMethod yX0_isNaN, Cond.selects RX0 yX0_isNaN yX0_isNaN, Cond.initialized RX0, Cond.code yX0_isNaN cX0_isNaN 3 (some .boolean), Cond.fieldLink RX0 36 "ThrowModels$Format" "infinity" "J", Cond.methodLink RX0 43 yX0_magnitude, Cond.instanceMethod yX0_magnitude, Cond.selects RX0 yX0_magnitude yX0_magnitude, Cond.code yX0_magnitude cX0_magnitude 3 (some .long), Cond.fieldLink RX0 40 "ThrowModels$Format" "signBit" "J", Cond.methodLink RX3 109 yX3_power, Cond.static yX3_power, Cond.code yX3_power cX3_power 2 (some .int), Cond.fieldLink RX3 105 "ThrowModels$Format" "fractionBits" "I", Cond.methodLink RX3 28 yX0_magnitude, Cond.methodLink RX3 39 yX0_exponent]
def wsX8_narrow_r3 : List Cond := [Cond.instanceMethod yX0_exponent, Cond.selects RX0 yX0_exponent yX0_exponent, Cond.code yX0_exponent cX0_exponent 4 (some .int), Cond.fieldLink RX0 29 "ThrowModels$Format" "fractionBits" "I", Cond.fieldLink RX0 33 "ThrowModels$Format" "lowestExponent" "I", Cond.methodLink RX0 54 Lib.Math.max.name, Cond.static Lib.Math.max.name, Cond.code Lib.Math.max.name Lib.Math.max.code 2 (some .int), Cond.methodLink RX0 51 yX0_missingPlaces, Cond.instanceMethod yX0_missingPlaces, Cond.selects RX0 yX0_missingPlaces yX0_missingPlaces, Cond.code yX0_missingPlaces cX0_missingPlaces 5 (some .int), Cond.methodLink RX0 47 yX0_highestBit, Cond.static yX0_highestBit, Cond.code yX0_highestBit cX0_highestBit 4 (some .int), Cond.methodLink RX3 43 yX0_significand, Cond.instanceMethod yX0_significand, Cond.selects RX0 yX0_significand yX0_significand, Cond.code yX0_significand cX0_significand 7 (some .long), Cond.methodLink RX8 190 yX3_toLong, Cond.methodLink RX8 197 yX3_converted, Cond.static yX3_converted, Cond.code yX3_converted cX3_converted 5 (some .long), Cond.fieldLink RX3 126 "ThrowModels$Format" "signBit" "J"]
def wsX8_narrow_r4 : List Cond := [Cond.fieldLink RX3 59 "ThrowModels$Format" "infinity" "J", Cond.methodLink RX3 21 yX0_plainNaN, Cond.instanceMethod yX0_plainNaN, Cond.selects RX0 yX0_plainNaN yX0_plainNaN, Cond.code yX0_plainNaN cX0_plainNaN 1 (some .long), Cond.methodLink RX3 123 yX0_isNegative, Cond.instanceMethod yX0_isNegative, Cond.selects RX0 yX0_isNegative yX0_isNegative, Cond.code yX0_isNegative cX0_isNegative 3 (some .boolean), Cond.methodLink RX3 25 yX0_isInfinite, Cond.instanceMethod yX0_isInfinite, Cond.selects RX0 yX0_isInfinite yX0_isInfinite, Cond.code yX0_isInfinite cX0_isInfinite 3 (some .boolean), Cond.methodLink RX3 50 yX0_pack, Cond.instanceMethod yX0_pack, Cond.selects RX0 yX0_pack yX0_pack, Cond.code yX0_pack cX0_pack 10 (some .long), Cond.methodLink RX0 60 yX0_rounded, Cond.static yX0_rounded, Cond.code yX0_rounded cX0_rounded 10 (some .long)]
def wsX8_narrow : List Cond := .code yX8_narrow cX8_narrow 4 (some .long) :: ((wsX8_narrow_r1 ++ (wsX8_narrow_r2 ++ (wsX8_narrow_r3 ++ wsX8_narrow_r4))) ++ wsX80)
def wsX8_widen_r1 : List Cond := [Cond.fieldLink RX8 170 "ThrowModels$Format" "DOUBLE" "LThrowModels$Format;", Cond.fieldLink RX8 194 "ThrowModels$Format" "FLOAT" "LThrowModels$Format;", Cond.methodLink RX8 30 yX8_stops, Cond.instanceMethod yX8_stops, Cond.selects RX8 yX8_stops yX8_stops, Cond.initialized RX8, Cond.code yX8_stops cX8_stops 2 (some .boolean), Cond.fieldLink RX8 19 "ThrowModels" "latestThrow" "I", Cond.fieldLink RX8 15 "ThrowModels" "throwCounts" "[I", Cond.methodLink RX8 201 yX3_fromLong, Cond.static yX3_fromLong, Cond.initialized RX3, Cond.code yX3_fromLong cX3_fromLong 3 (some .long), Cond.constantLong RX3 54 (-9223372036854775808), Cond.constantLong RX3 129 (4611686018427387904), Cond.methodLink RX3 131 Lib.MathLoose.abs_long.x, Cond.static Lib.MathLoose.abs_long.x, Cond.initialized "java/lang/Math", Cond.code Lib.MathLoose.abs_long.x Lib.MathLoose.abs_long.code 2 (some .long), Cond.methodLink RX3 50 yX0_pack, Cond.instanceMethod yX0_pack, Cond.selects RX0 yX0_pack yX0_pack, Cond.initialized RX0, Cond.code yX0_pack cX0_pack 10 (some .long)]
def wsX8_widen_r2 : List Cond := [Cond.fieldLink RX0 40 "ThrowModels$Format" "signBit" "J", Cond.fieldLink RX0 29 "ThrowModels$Format" "fractionBits" "I", Cond.fieldLink RX0 33 "ThrowModels$Format" "lowestExponent" "I", Cond.methodLink RX0 54 Lib.Math.max.name, Cond.static Lib.Math.max.name, Cond.code Lib.Math.max.name Lib.Math.max.code 2 (some .int), Cond.fieldLink RX0 36 "ThrowModels$Format" "infinity" "J", Cond.methodLink RX0 47 yX0_highestBit, Cond.static yX0_highestBit, Cond.code yX0_highestBit cX0_highestBit 4 (some .int), Cond.methodLink RX0 60 yX0_rounded, Cond.static yX0_rounded, Cond.code yX0_rounded cX0_rounded 10 (some .long), Cond.methodLink RX8 197 yX3_converted, Cond.static yX3_converted, Cond.code yX3_converted cX3_converted 5 (some .long), Cond.fieldLink RX3 126 "ThrowModels$Format" "signBit" "J", Cond.fieldLink RX3 59 "ThrowModels$Format" "infinity" "J", Cond.methodLink RX3 17 yX0_isNaN, Cond.instanceMethod yX0_isNaN, Cond.selects RX0 yX0_isNaN yX0_isNaN, Cond.code yX0_isNaN cX0_isNaN 3 (some .boolean), Cond.methodLink RX0 43 yX0_magnitude, Cond.instanceMethod yX0_magnitude]
def wsX8_widen_r3 : List Cond := [Cond.selects RX0 yX0_magnitude yX0_magnitude, Cond.code yX0_magnitude cX0_magnitude 3 (some .long), Cond.methodLink RX3 21 yX0_plainNaN, Cond.instanceMethod yX0_plainNaN, Cond.selects RX0 yX0_plainNaN yX0_plainNaN, Cond.code yX0_plainNaN cX0_plainNaN 1 (some .long), Cond.methodLink RX3 123 yX0_isNegative, Cond.instanceMethod yX0_isNegative, Cond.selects RX0 yX0_isNegative yX0_isNegative, Cond.code yX0_isNegative cX0_isNegative 3 (some .boolean), Cond.methodLink RX3 25 yX0_isInfinite, Cond.instanceMethod yX0_isInfinite, Cond.selects RX0 yX0_isInfinite yX0_isInfinite, Cond.code yX0_isInfinite cX0_isInfinite 3 (some .boolean), Cond.methodLink RX3 39 yX0_exponent, Cond.instanceMethod yX0_exponent, Cond.selects RX0 yX0_exponent yX0_exponent, Cond.code yX0_exponent cX0_exponent 4 (some .int), Cond.methodLink RX0 51 yX0_missingPlaces, Cond.instanceMethod yX0_missingPlaces, Cond.selects RX0 yX0_missingPlaces yX0_missingPlaces, Cond.code yX0_missingPlaces cX0_missingPlaces 5 (some .int), Cond.methodLink RX3 43 yX0_significand, Cond.instanceMethod yX0_significand]
def wsX8_widen_r4 : List Cond := [Cond.selects RX0 yX0_significand yX0_significand, Cond.code yX0_significand cX0_significand 7 (some .long)]
def wsX8_widen : List Cond := .code yX8_widen cX8_widen 4 (some .long) :: ((wsX8_widen_r1 ++ (wsX8_widen_r2 ++ (wsX8_widen_r3 ++ wsX8_widen_r4))) ++ wsX80)
def wsX8_compare_r1 : List Cond := [Cond.fieldLink RX8 194 "ThrowModels$Format" "FLOAT" "LThrowModels$Format;", Cond.fieldLink RX8 170 "ThrowModels$Format" "DOUBLE" "LThrowModels$Format;", Cond.methodLink RX8 30 yX8_stops, Cond.instanceMethod yX8_stops, Cond.selects RX8 yX8_stops yX8_stops, Cond.initialized RX8, Cond.code yX8_stops cX8_stops 2 (some .boolean), Cond.fieldLink RX8 19 "ThrowModels" "latestThrow" "I", Cond.fieldLink RX8 15 "ThrowModels" "throwCounts" "[I", Cond.methodLink RX8 205 yX3_isTrue, Cond.static yX3_isTrue, Cond.initialized RX3, Cond.code yX3_isTrue cX3_isTrue 9 (some .boolean), Cond.fieldLink RX3 11 "ThrowModels$Format" "DOUBLE" "LThrowModels$Format;", Cond.methodLink RX3 17 yX0_isNaN, Cond.instanceMethod yX0_isNaN, Cond.selects RX0 yX0_isNaN yX0_isNaN, Cond.initialized RX0, Cond.code yX0_isNaN cX0_isNaN 3 (some .boolean), Cond.fieldLink RX0 36 "ThrowModels$Format" "infinity" "J", Cond.methodLink RX0 43 yX0_magnitude, Cond.instanceMethod yX0_magnitude, Cond.selects RX0 yX0_magnitude yX0_magnitude, Cond.code yX0_magnitude cX0_magnitude 3 (some .long)]
def wsX8_compare_r2 : List Cond := [Cond.fieldLink RX0 40 "ThrowModels$Format" "signBit" "J", Cond.methodLink RX3 85 yX3_rank, Cond.static yX3_rank, Cond.code yX3_rank cX3_rank 2 (some .long), Cond.methodLink RX3 28 yX0_magnitude, Cond.methodLink RX8 197 yX3_converted, Cond.static yX3_converted, Cond.code yX3_converted cX3_converted 5 (some .long), Cond.fieldLink RX3 126 "ThrowModels$Format" "signBit" "J", Cond.fieldLink RX3 59 "ThrowModels$Format" "infinity" "J", Cond.methodLink RX3 21 yX0_plainNaN, Cond.instanceMethod yX0_plainNaN, Cond.selects RX0 yX0_plainNaN yX0_plainNaN, Cond.code yX0_plainNaN cX0_plainNaN 1 (some .long), Cond.fieldLink RX0 29 "ThrowModels$Format" "fractionBits" "I", Cond.methodLink RX3 123 yX0_isNegative, Cond.instanceMethod yX0_isNegative, Cond.selects RX0 yX0_isNegative yX0_isNegative, Cond.code yX0_isNegative cX0_isNegative 3 (some .boolean), Cond.methodLink RX3 25 yX0_isInfinite, Cond.instanceMethod yX0_isInfinite, Cond.selects RX0 yX0_isInfinite yX0_isInfinite, Cond.code yX0_isInfinite cX0_isInfinite 3 (some .boolean), Cond.methodLink RX3 39 yX0_exponent]
def wsX8_compare_r3 : List Cond := [Cond.instanceMethod yX0_exponent, Cond.selects RX0 yX0_exponent yX0_exponent, Cond.code yX0_exponent cX0_exponent 4 (some .int), Cond.fieldLink RX0 33 "ThrowModels$Format" "lowestExponent" "I", Cond.methodLink RX0 54 Lib.Math.max.name, Cond.static Lib.Math.max.name, Cond.initialized "java/lang/Math", Cond.code Lib.Math.max.name Lib.Math.max.code 2 (some .int), Cond.methodLink RX0 51 yX0_missingPlaces, Cond.instanceMethod yX0_missingPlaces, Cond.selects RX0 yX0_missingPlaces yX0_missingPlaces, Cond.code yX0_missingPlaces cX0_missingPlaces 5 (some .int), Cond.methodLink RX0 47 yX0_highestBit, Cond.static yX0_highestBit, Cond.code yX0_highestBit cX0_highestBit 4 (some .int), Cond.methodLink RX3 43 yX0_significand, Cond.instanceMethod yX0_significand, Cond.selects RX0 yX0_significand yX0_significand, Cond.code yX0_significand cX0_significand 7 (some .long), Cond.methodLink RX3 50 yX0_pack, Cond.instanceMethod yX0_pack, Cond.selects RX0 yX0_pack yX0_pack, Cond.code yX0_pack cX0_pack 10 (some .long), Cond.methodLink RX0 60 yX0_rounded]
def wsX8_compare_r4 : List Cond := [Cond.static yX0_rounded, Cond.code yX0_rounded cX0_rounded 10 (some .long)]
def wsX8_compare : List Cond := .code yX8_compare cX8_compare 10 (some .int) :: ((wsX8_compare_r1 ++ (wsX8_compare_r2 ++ (wsX8_compare_r3 ++ wsX8_compare_r4))) ++ wsX80)
def wsX8_traceOf : List Cond := .code yX8_traceOf cX8_traceOf 1 (some .int) :: ([])
def wsX8_pass_r1 : List Cond := [Cond.fieldLink RX8 11 "ThrowModels" "cells" "[LThrowModels$Thing;", Cond.fieldLink RX8 23 "ThrowModels" "latestTrace" "I", Cond.constantLong RX8 213 (-104), Cond.constantLong RX8 215 (-102), Cond.methodLink RX8 70 yX8_isNumberType, Cond.static yX8_isNumberType, Cond.initialized RX8, Cond.code yX8_isNumberType cX8_isNumberType 1 (some .boolean), Cond.methodLink RX8 38 yX8_isCell, Cond.static yX8_isCell, Cond.code yX8_isCell cX8_isCell 1 (some .boolean), Cond.methodLink RX8 30 yX8_stops, Cond.instanceMethod yX8_stops, Cond.selects RX8 yX8_stops yX8_stops, Cond.code yX8_stops cX8_stops 2 (some .boolean), Cond.fieldLink RX8 19 "ThrowModels" "latestThrow" "I", Cond.fieldLink RX8 15 "ThrowModels" "throwCounts" "[I", Cond.methodLink RX8 73 yX8_elementCause, Cond.static yX8_elementCause, Cond.code yX8_elementCause cX8_elementCause 4 (some .int), Cond.methodLink RX8 41 yX8_castCause, Cond.static yX8_castCause, Cond.code yX8_castCause cX8_castCause 2 (some .int), Cond.methodLink RX8 217 yX8_passesCast]
def wsX8_pass_r2 : List Cond := [Cond.static yX8_passesCast, Cond.code yX8_passesCast cX8_passesCast 2 (some .boolean), Cond.methodLink RX8 63 ⟨"ThrowModels$Thing", "isOf", "(I)Z"⟩, Cond.sameMethod "ThrowModels$Thing" "ThrowModels$Thing" "isOf" "(I)Z", Cond.selects RX1 ⟨"ThrowModels$Thing", "isOf", "(I)Z"⟩ yX6_isOf, Cond.instanceMethod yX6_isOf, Cond.initialized RX6, Cond.code yX6_isOf cX6_isOf 2 (some .boolean), Cond.fieldLink RX6 9 "ThrowModels$Thing" "kind" "I", Cond.selects RX2 ⟨"ThrowModels$Thing", "isOf", "(I)Z"⟩ yX6_isOf, Cond.selects RX4 ⟨"ThrowModels$Thing", "isOf", "(I)Z"⟩ yX6_isOf, Cond.selects RX5 ⟨"ThrowModels$Thing", "isOf", "(I)Z"⟩ yX6_isOf, Cond.selects RX7 ⟨"ThrowModels$Thing", "isOf", "(I)Z"⟩ yX6_isOf, Cond.methodLink RX8 221 ⟨"ThrowModels$Thing", "holds", "(I)Z"⟩, Cond.sameMethod "ThrowModels$Thing" "ThrowModels$Thing" "holds" "(I)Z", Cond.selects RX1 ⟨"ThrowModels$Thing", "holds", "(I)Z"⟩ yX6_holds, Cond.instanceMethod yX6_holds, Cond.code yX6_holds cX6_holds 2 (some .boolean), Cond.fieldLink RX6 15 "ThrowModels$Thing" "length" "I", Cond.selects RX2 ⟨"ThrowModels$Thing", "holds", "(I)Z"⟩ yX6_holds, Cond.selects RX4 ⟨"ThrowModels$Thing", "holds", "(I)Z"⟩ yX6_holds, Cond.selects RX5 ⟨"ThrowModels$Thing", "holds", "(I)Z"⟩ yX6_holds, Cond.selects RX7 ⟨"ThrowModels$Thing", "holds", "(I)Z"⟩ yX6_holds, Cond.methodLink RX8 209 yX8_traceOf]
def wsX8_pass_r3 : List Cond := [Cond.static yX8_traceOf, Cond.code yX8_traceOf cX8_traceOf 1 (some .int), Cond.methodLink RX8 77 yX8_numberAt, Cond.static yX8_numberAt, Cond.code yX8_numberAt cX8_numberAt 3 (some .long), Cond.classLink RX8 45 "ThrowModels$NumberArray", Cond.fieldLink RX8 53 "ThrowModels$NumberArray" "numbers" "[J", Cond.methodLink RX8 81 ⟨"ThrowModels$NumberArray", "holds", "(I)Z"⟩, Cond.sameMethod "ThrowModels$NumberArray" "ThrowModels$Thing" "holds" "(I)Z", Cond.selects RX1 ⟨"ThrowModels$NumberArray", "holds", "(I)Z"⟩ yX6_holds]
def wsX8_pass : List Cond := .code yX8_pass cX8_pass 6 (some .long) :: ((wsX8_pass_r1 ++ (wsX8_pass_r2 ++ wsX8_pass_r3)) ++ wsX80 ++ wsX10 ++ wsX20 ++ wsX40 ++ wsX50 ++ wsX70)
def wsX8_trace : List Cond := .code yX8_trace cX8_trace 1 (some .int) :: ([.fieldLink RX8 23 "ThrowModels" "latestTrace" "I"] ++ wsX80)
def wsX8_latest : List Cond := .code yX8_latest cX8_latest 1 (some .int) :: ([.fieldLink RX8 19 "ThrowModels" "latestThrow" "I"] ++ wsX80)
def wsX8_thrown : List Cond := .code yX8_thrown cX8_thrown 2 (some .int) :: ([.fieldLink RX8 15 "ThrowModels" "throwCounts" "[I"] ++ wsX80)
def wsX9_init : List Cond := .code yX9_init cX9_init 1 none :: ([.methodLink RX9 1 objectInit, .instanceMethod objectInit, .code objectInit ⟨#[0xb1]⟩ 1 none, .constant RX9 7 (33400), .arrayClass .int, .fieldLink RX9 8 "ThrowModelsModel" "kind" "[I", .fieldLink RX9 14 "ThrowModelsModel" "length" "[I", .fieldLink RX9 17 "ThrowModelsModel" "base" "[I", .constant RX9 20 (2130000), .fieldLink RX9 21 "ThrowModelsModel" "ints" "[I", .arrayClass .long, .fieldLink RX9 24 "ThrowModelsModel" "others" "[J", .fieldLink RX9 28 "ThrowModelsModel" "cells" "[I", .fieldLink RX9 31 "ThrowModelsModel" "counts" "[I"] ++ wsX90)
def wsX9_begin : List Cond := .code yX9_begin cX9_begin 1 none :: ([.fieldLink RX9 34 "ThrowModelsModel" "latest" "I"] ++ wsX90)
def wsX9_fails : List Cond := .code yX9_fails cX9_fails 2 (some .int) :: ([.fieldLink RX9 34 "ThrowModelsModel" "latest" "I", .fieldLink RX9 31 "ThrowModelsModel" "counts" "[I"] ++ wsX90)
def wsX9_realBits : List Cond := .code yX9_realBits cX9_realBits 2 (some .double) :: ([.constantLong RX9 38 (9223372036854775807), .constantLong RX9 40 (9218868437227405312), .constantDouble RX9 44 (9221120237041090560), .methodLink RX9 46 ⟨"java/lang/Double", "longBitsToDouble", "(J)D"⟩, .native ⟨"java/lang/Double", "longBitsToDouble", "(J)D"⟩, .static ⟨"java/lang/Double", "longBitsToDouble", "(J)D"⟩, .initialized "java/lang/Double"])
def wsX9_singleBits : List Cond := .code yX9_singleBits cX9_singleBits 1 (some .float) :: ([.constant RX9 50 (2147483647), .constant RX9 51 (2139095040), .constantFloat RX9 54 (2143289344), .methodLink RX9 55 ⟨"java/lang/Float", "intBitsToFloat", "(I)F"⟩, .native ⟨"java/lang/Float", "intBitsToFloat", "(I)F"⟩, .static ⟨"java/lang/Float", "intBitsToFloat", "(I)F"⟩, .initialized "java/lang/Float"])
def wsX9_in : List Cond := .code yX9_in cX9_in 3 (some .boolean) :: ([])
def wsX9_isCell : List Cond := .code yX9_isCell cX9_isCell 1 (some .boolean) :: ([.methodLink RX9 59 yX9_in, .static yX9_in, .initialized RX9, .code yX9_in cX9_in 3 (some .boolean)])
def wsX9_isKindOf : List Cond := .code yX9_isKindOf cX9_isKindOf 2 (some .boolean) :: ([])
def wsX9_passes : List Cond := .code yX9_passes cX9_passes 3 (some .boolean) :: ([.fieldLink RX9 8 "ThrowModelsModel" "kind" "[I", .methodLink RX9 63 yX9_isKindOf, .static yX9_isKindOf, .initialized RX9, .code yX9_isKindOf cX9_isKindOf 2 (some .boolean)] ++ wsX90)
def wsX9_thing : List Cond := .code yX9_thing cX9_thing 3 (some .int) :: ([.fieldLink RX9 67 "ThrowModelsModel" "things" "I", .fieldLink RX9 8 "ThrowModelsModel" "kind" "[I", .fieldLink RX9 14 "ThrowModelsModel" "length" "[I", .fieldLink RX9 17 "ThrowModelsModel" "base" "[I", .fieldLink RX9 70 "ThrowModelsModel" "usedInts" "I", .fieldLink RX9 73 "ThrowModelsModel" "usedOthers" "I"] ++ wsX90)
def wsX9_make_r1 : List Cond := [Cond.fieldLink RX9 24 "ThrowModelsModel" "others" "[J", Cond.fieldLink RX9 17 "ThrowModelsModel" "base" "[I", Cond.fieldLink RX9 28 "ThrowModelsModel" "cells" "[I", Cond.methodLink RX9 76 yX9_begin, Cond.instanceMethod yX9_begin, Cond.selects RX9 yX9_begin yX9_begin, Cond.initialized RX9, Cond.code yX9_begin cX9_begin 1 none, Cond.fieldLink RX9 34 "ThrowModelsModel" "latest" "I", Cond.methodLink RX9 59 yX9_in, Cond.static yX9_in, Cond.code yX9_in cX9_in 3 (some .boolean), Cond.methodLink RX9 79 yX9_isCell, Cond.static yX9_isCell, Cond.code yX9_isCell cX9_isCell 1 (some .boolean), Cond.methodLink RX9 83 yX9_fails, Cond.instanceMethod yX9_fails, Cond.selects RX9 yX9_fails yX9_fails, Cond.code yX9_fails cX9_fails 2 (some .int), Cond.fieldLink RX9 31 "ThrowModelsModel" "counts" "[I", Cond.methodLink RX9 87 yX9_thing, Cond.instanceMethod yX9_thing, Cond.selects RX9 yX9_thing yX9_thing, Cond.code yX9_thing cX9_thing 3 (some .int)]
def wsX9_make_r2 : List Cond := [Cond.fieldLink RX9 67 "ThrowModelsModel" "things" "I", Cond.fieldLink RX9 8 "ThrowModelsModel" "kind" "[I", Cond.fieldLink RX9 14 "ThrowModelsModel" "length" "[I", Cond.fieldLink RX9 70 "ThrowModelsModel" "usedInts" "I", Cond.fieldLink RX9 73 "ThrowModelsModel" "usedOthers" "I"]
def wsX9_make : List Cond := .code yX9_make cX9_make 7 (some .int) :: ((wsX9_make_r1 ++ wsX9_make_r2) ++ wsX90)
def wsX9_move : List Cond := .code yX9_move cX9_move 3 (some .int) :: ([.fieldLink RX9 28 "ThrowModelsModel" "cells" "[I", .methodLink RX9 76 yX9_begin, .instanceMethod yX9_begin, .selects RX9 yX9_begin yX9_begin, .initialized RX9, .code yX9_begin cX9_begin 1 none, .fieldLink RX9 34 "ThrowModelsModel" "latest" "I", .methodLink RX9 59 yX9_in, .static yX9_in, .code yX9_in cX9_in 3 (some .boolean), .methodLink RX9 79 yX9_isCell, .static yX9_isCell, .code yX9_isCell cX9_isCell 1 (some .boolean), .methodLink RX9 83 yX9_fails, .instanceMethod yX9_fails, .selects RX9 yX9_fails yX9_fails, .code yX9_fails cX9_fails 2 (some .int), .fieldLink RX9 31 "ThrowModelsModel" "counts" "[I"] ++ wsX90)
def wsX9_twin_r1 : List Cond := [Cond.fieldLink RX9 28 "ThrowModelsModel" "cells" "[I", Cond.fieldLink RX9 14 "ThrowModelsModel" "length" "[I", Cond.fieldLink RX9 21 "ThrowModelsModel" "ints" "[I", Cond.fieldLink RX9 17 "ThrowModelsModel" "base" "[I", Cond.methodLink RX9 76 yX9_begin, Cond.instanceMethod yX9_begin, Cond.selects RX9 yX9_begin yX9_begin, Cond.initialized RX9, Cond.code yX9_begin cX9_begin 1 none, Cond.fieldLink RX9 34 "ThrowModelsModel" "latest" "I", Cond.methodLink RX9 79 yX9_isCell, Cond.static yX9_isCell, Cond.code yX9_isCell cX9_isCell 1 (some .boolean), Cond.methodLink RX9 59 yX9_in, Cond.static yX9_in, Cond.code yX9_in cX9_in 3 (some .boolean), Cond.methodLink RX9 83 yX9_fails, Cond.instanceMethod yX9_fails, Cond.selects RX9 yX9_fails yX9_fails, Cond.code yX9_fails cX9_fails 2 (some .int), Cond.fieldLink RX9 31 "ThrowModelsModel" "counts" "[I", Cond.methodLink RX9 91 yX9_passes, Cond.instanceMethod yX9_passes, Cond.selects RX9 yX9_passes yX9_passes]
def wsX9_twin_r2 : List Cond := [Cond.code yX9_passes cX9_passes 3 (some .boolean), Cond.fieldLink RX9 8 "ThrowModelsModel" "kind" "[I", Cond.methodLink RX9 63 yX9_isKindOf, Cond.static yX9_isKindOf, Cond.code yX9_isKindOf cX9_isKindOf 2 (some .boolean), Cond.methodLink RX9 87 yX9_thing, Cond.instanceMethod yX9_thing, Cond.selects RX9 yX9_thing yX9_thing, Cond.code yX9_thing cX9_thing 3 (some .int), Cond.fieldLink RX9 67 "ThrowModelsModel" "things" "I", Cond.fieldLink RX9 70 "ThrowModelsModel" "usedInts" "I", Cond.fieldLink RX9 73 "ThrowModelsModel" "usedOthers" "I"]
def wsX9_twin : List Cond := .code yX9_twin cX9_twin 6 (some .int) :: ((wsX9_twin_r1 ++ wsX9_twin_r2) ++ wsX90)
def wsX9_is : List Cond := .code yX9_is cX9_is 3 (some .int) :: ([.fieldLink RX9 28 "ThrowModelsModel" "cells" "[I", .fieldLink RX9 8 "ThrowModelsModel" "kind" "[I", .methodLink RX9 79 yX9_isCell, .static yX9_isCell, .initialized RX9, .code yX9_isCell cX9_isCell 1 (some .boolean), .methodLink RX9 59 yX9_in, .static yX9_in, .code yX9_in cX9_in 3 (some .boolean), .methodLink RX9 63 yX9_isKindOf, .static yX9_isKindOf, .code yX9_isKindOf cX9_isKindOf 2 (some .boolean)] ++ wsX90)
def wsX9_same : List Cond := .code yX9_same cX9_same 3 (some .int) :: ([.fieldLink RX9 28 "ThrowModelsModel" "cells" "[I", .methodLink RX9 79 yX9_isCell, .static yX9_isCell, .initialized RX9, .code yX9_isCell cX9_isCell 1 (some .boolean), .methodLink RX9 59 yX9_in, .static yX9_in, .code yX9_in cX9_in 3 (some .boolean)] ++ wsX90)
def wsX9_length_r1 : List Cond := [Cond.fieldLink RX9 28 "ThrowModelsModel" "cells" "[I", Cond.fieldLink RX9 14 "ThrowModelsModel" "length" "[I", Cond.methodLink RX9 76 yX9_begin, Cond.instanceMethod yX9_begin, Cond.selects RX9 yX9_begin yX9_begin, Cond.initialized RX9, Cond.code yX9_begin cX9_begin 1 none, Cond.fieldLink RX9 34 "ThrowModelsModel" "latest" "I", Cond.methodLink RX9 59 yX9_in, Cond.static yX9_in, Cond.code yX9_in cX9_in 3 (some .boolean), Cond.methodLink RX9 79 yX9_isCell, Cond.static yX9_isCell, Cond.code yX9_isCell cX9_isCell 1 (some .boolean), Cond.methodLink RX9 83 yX9_fails, Cond.instanceMethod yX9_fails, Cond.selects RX9 yX9_fails yX9_fails, Cond.code yX9_fails cX9_fails 2 (some .int), Cond.fieldLink RX9 31 "ThrowModelsModel" "counts" "[I", Cond.methodLink RX9 91 yX9_passes, Cond.instanceMethod yX9_passes, Cond.selects RX9 yX9_passes yX9_passes, Cond.code yX9_passes cX9_passes 3 (some .boolean), Cond.fieldLink RX9 8 "ThrowModelsModel" "kind" "[I"]
def wsX9_length_r2 : List Cond := [Cond.methodLink RX9 63 yX9_isKindOf, Cond.static yX9_isKindOf, Cond.code yX9_isKindOf cX9_isKindOf 2 (some .boolean)]
def wsX9_length : List Cond := .code yX9_length cX9_length 4 (some .int) :: ((wsX9_length_r1 ++ wsX9_length_r2) ++ wsX90)
def wsJxe99ae_isNaN_b9ae7 : List Cond := .code yJxe99ae_isNaN_b9ae7 cJxe99ae_isNaN_b9ae7 2 (some .boolean) :: ([])
def wsJxe99ae_doubleToLongBits_ccdee : List Cond := .code yJxe99ae_doubleToLongBits_ccdee cJxe99ae_doubleToLongBits_ccdee 2 (some .long) :: ([.methodLink RJxe99ae 134 ⟨"java/lang/Double", "doubleToRawLongBits", "(D)J"⟩, .native ⟨"java/lang/Double", "doubleToRawLongBits", "(D)J"⟩, .static ⟨"java/lang/Double", "doubleToRawLongBits", "(D)J"⟩, .initialized "java/lang/Double", .constantLong RJxe99ae 137 (9221120237041090560), .methodLink RJxe99ae 122 yJxe99ae_isNaN_b9ae7, .static yJxe99ae_isNaN_b9ae7, .initialized RJxe99ae, .code yJxe99ae_isNaN_b9ae7 cJxe99ae_isNaN_b9ae7 2 (some .boolean)])
def wsX9_doubleBits : List Cond := .code yX9_doubleBits cX9_doubleBits 2 (some .long) :: ([.constantLong RX9 94 (9221120237041090560), .methodLink RX9 96 yJxe99ae_doubleToLongBits_ccdee, .static yJxe99ae_doubleToLongBits_ccdee, .initialized RJxe99ae, .code yJxe99ae_doubleToLongBits_ccdee cJxe99ae_doubleToLongBits_ccdee 2 (some .long), .methodLink RJxe99ae 134 ⟨"java/lang/Double", "doubleToRawLongBits", "(D)J"⟩, .native ⟨"java/lang/Double", "doubleToRawLongBits", "(D)J"⟩, .static ⟨"java/lang/Double", "doubleToRawLongBits", "(D)J"⟩, .initialized "java/lang/Double", .constantLong RJxe99ae 137 (9221120237041090560), .methodLink RJxe99ae 122 yJxe99ae_isNaN_b9ae7, .static yJxe99ae_isNaN_b9ae7, .code yJxe99ae_isNaN_b9ae7 cJxe99ae_isNaN_b9ae7 2 (some .boolean)])
def wsJxf58ca_isNaN_12338 : List Cond := .code yJxf58ca_isNaN_12338 cJxf58ca_isNaN_12338 1 (some .boolean) :: ([])
def wsJxf58ca_floatToIntBits_5c35a : List Cond := .code yJxf58ca_floatToIntBits_5c35a cJxf58ca_floatToIntBits_5c35a 1 (some .int) :: ([.methodLink RJxf58ca 74 ⟨"java/lang/Float", "floatToRawIntBits", "(F)I"⟩, .native ⟨"java/lang/Float", "floatToRawIntBits", "(F)I"⟩, .static ⟨"java/lang/Float", "floatToRawIntBits", "(F)I"⟩, .initialized "java/lang/Float", .constant RJxf58ca 77 (2143289344), .methodLink RJxf58ca 59 yJxf58ca_isNaN_12338, .static yJxf58ca_isNaN_12338, .initialized RJxf58ca, .code yJxf58ca_isNaN_12338 cJxf58ca_isNaN_12338 1 (some .boolean)])
def wsX9_floatBits : List Cond := .code yX9_floatBits cX9_floatBits 1 (some .long) :: ([.constantLong RX9 100 (2143289344), .methodLink RX9 102 yJxf58ca_floatToIntBits_5c35a, .static yJxf58ca_floatToIntBits_5c35a, .initialized RJxf58ca, .code yJxf58ca_floatToIntBits_5c35a cJxf58ca_floatToIntBits_5c35a 1 (some .int), .methodLink RJxf58ca 74 ⟨"java/lang/Float", "floatToRawIntBits", "(F)I"⟩, .native ⟨"java/lang/Float", "floatToRawIntBits", "(F)I"⟩, .static ⟨"java/lang/Float", "floatToRawIntBits", "(F)I"⟩, .initialized "java/lang/Float", .constant RJxf58ca 77 (2143289344), .methodLink RJxf58ca 59 yJxf58ca_isNaN_12338, .static yJxf58ca_isNaN_12338, .code yJxf58ca_isNaN_12338 cJxf58ca_isNaN_12338 1 (some .boolean)])
def wsX9_cut_r1 : List Cond := [Cond.methodLink RX9 106 yX9_singleBits, Cond.static yX9_singleBits, Cond.initialized RX9, Cond.code yX9_singleBits cX9_singleBits 1 (some .float), Cond.constant RX9 50 (2147483647), Cond.constant RX9 51 (2139095040), Cond.constantFloat RX9 54 (2143289344), Cond.methodLink RX9 55 ⟨"java/lang/Float", "intBitsToFloat", "(I)F"⟩, Cond.native ⟨"java/lang/Float", "intBitsToFloat", "(I)F"⟩, Cond.static ⟨"java/lang/Float", "intBitsToFloat", "(I)F"⟩, Cond.initialized "java/lang/Float", Cond.methodLink RX9 109 yX9_floatBits, Cond.static yX9_floatBits, Cond.code yX9_floatBits cX9_floatBits 1 (some .long), Cond.constantLong RX9 100 (2143289344), Cond.methodLink RX9 102 yJxf58ca_floatToIntBits_5c35a, Cond.static yJxf58ca_floatToIntBits_5c35a, Cond.initialized RJxf58ca, Cond.code yJxf58ca_floatToIntBits_5c35a cJxf58ca_floatToIntBits_5c35a 1 (some .int), Cond.methodLink RJxf58ca 74 ⟨"java/lang/Float", "floatToRawIntBits", "(F)I"⟩, Cond.native ⟨"java/lang/Float", "floatToRawIntBits", "(F)I"⟩, Cond.static ⟨"java/lang/Float", "floatToRawIntBits", "(F)I"⟩, Cond.constant RJxf58ca 77 (2143289344), Cond.methodLink RJxf58ca 59 yJxf58ca_isNaN_12338]
def wsX9_cut_r2 : List Cond := [Cond.static yJxf58ca_isNaN_12338, Cond.code yJxf58ca_isNaN_12338 cJxf58ca_isNaN_12338 1 (some .boolean), Cond.methodLink RX9 113 yX9_realBits, Cond.static yX9_realBits, Cond.code yX9_realBits cX9_realBits 2 (some .double), Cond.constantLong RX9 38 (9223372036854775807), Cond.constantLong RX9 40 (9218868437227405312), Cond.constantDouble RX9 44 (9221120237041090560), Cond.methodLink RX9 46 ⟨"java/lang/Double", "longBitsToDouble", "(J)D"⟩, Cond.native ⟨"java/lang/Double", "longBitsToDouble", "(J)D"⟩, Cond.static ⟨"java/lang/Double", "longBitsToDouble", "(J)D"⟩, Cond.initialized "java/lang/Double", Cond.methodLink RX9 116 yX9_doubleBits, Cond.static yX9_doubleBits, Cond.code yX9_doubleBits cX9_doubleBits 2 (some .long), Cond.constantLong RX9 94 (9221120237041090560), Cond.methodLink RX9 96 yJxe99ae_doubleToLongBits_ccdee, Cond.static yJxe99ae_doubleToLongBits_ccdee, Cond.initialized RJxe99ae, Cond.code yJxe99ae_doubleToLongBits_ccdee cJxe99ae_doubleToLongBits_ccdee 2 (some .long), Cond.methodLink RJxe99ae 134 ⟨"java/lang/Double", "doubleToRawLongBits", "(D)J"⟩, Cond.native ⟨"java/lang/Double", "doubleToRawLongBits", "(D)J"⟩, Cond.static ⟨"java/lang/Double", "doubleToRawLongBits", "(D)J"⟩, Cond.constantLong RJxe99ae 137 (9221120237041090560)]
def wsX9_cut_r3 : List Cond := [Cond.methodLink RJxe99ae 122 yJxe99ae_isNaN_b9ae7, Cond.static yJxe99ae_isNaN_b9ae7, Cond.code yJxe99ae_isNaN_b9ae7 cJxe99ae_isNaN_b9ae7 2 (some .boolean)]
def wsX9_cut : List Cond := .code yX9_cut cX9_cut 3 (some .long) :: ((wsX9_cut_r1 ++ (wsX9_cut_r2 ++ wsX9_cut_r3)))
def wsX9_against : List Cond := .code yX9_against cX9_against 4 (some .int) :: ([.fieldLink RX9 14 "ThrowModelsModel" "length" "[I", .methodLink RX9 91 yX9_passes, .instanceMethod yX9_passes, .selects RX9 yX9_passes yX9_passes, .initialized RX9, .code yX9_passes cX9_passes 3 (some .boolean), .fieldLink RX9 8 "ThrowModelsModel" "kind" "[I", .methodLink RX9 63 yX9_isKindOf, .static yX9_isKindOf, .code yX9_isKindOf cX9_isKindOf 2 (some .boolean), .methodLink RX9 59 yX9_in, .static yX9_in, .code yX9_in cX9_in 3 (some .boolean)] ++ wsX90)
def wsX9_element : List Cond := .code yX9_element cX9_element 3 (some .long) :: ([.fieldLink RX9 8 "ThrowModelsModel" "kind" "[I", .fieldLink RX9 21 "ThrowModelsModel" "ints" "[I", .fieldLink RX9 17 "ThrowModelsModel" "base" "[I", .fieldLink RX9 24 "ThrowModelsModel" "others" "[J"] ++ wsX90)
def wsX9_set : List Cond := .code yX9_set cX9_set 5 none :: ([.fieldLink RX9 8 "ThrowModelsModel" "kind" "[I", .fieldLink RX9 21 "ThrowModelsModel" "ints" "[I", .fieldLink RX9 17 "ThrowModelsModel" "base" "[I", .fieldLink RX9 24 "ThrowModelsModel" "others" "[J"] ++ wsX90)
def wsX9_load_r1 : List Cond := [Cond.fieldLink RX9 28 "ThrowModelsModel" "cells" "[I", Cond.methodLink RX9 76 yX9_begin, Cond.instanceMethod yX9_begin, Cond.selects RX9 yX9_begin yX9_begin, Cond.initialized RX9, Cond.code yX9_begin cX9_begin 1 none, Cond.fieldLink RX9 34 "ThrowModelsModel" "latest" "I", Cond.methodLink RX9 59 yX9_in, Cond.static yX9_in, Cond.code yX9_in cX9_in 3 (some .boolean), Cond.methodLink RX9 79 yX9_isCell, Cond.static yX9_isCell, Cond.code yX9_isCell cX9_isCell 1 (some .boolean), Cond.methodLink RX9 83 yX9_fails, Cond.instanceMethod yX9_fails, Cond.selects RX9 yX9_fails yX9_fails, Cond.code yX9_fails cX9_fails 2 (some .int), Cond.fieldLink RX9 31 "ThrowModelsModel" "counts" "[I", Cond.methodLink RX9 119 yX9_against, Cond.instanceMethod yX9_against, Cond.selects RX9 yX9_against yX9_against, Cond.code yX9_against cX9_against 4 (some .int), Cond.fieldLink RX9 14 "ThrowModelsModel" "length" "[I", Cond.methodLink RX9 91 yX9_passes]
def wsX9_load_r2 : List Cond := [Cond.instanceMethod yX9_passes, Cond.selects RX9 yX9_passes yX9_passes, Cond.code yX9_passes cX9_passes 3 (some .boolean), Cond.fieldLink RX9 8 "ThrowModelsModel" "kind" "[I", Cond.methodLink RX9 63 yX9_isKindOf, Cond.static yX9_isKindOf, Cond.code yX9_isKindOf cX9_isKindOf 2 (some .boolean), Cond.methodLink RX9 123 yX9_element, Cond.instanceMethod yX9_element, Cond.selects RX9 yX9_element yX9_element, Cond.code yX9_element cX9_element 3 (some .long), Cond.fieldLink RX9 21 "ThrowModelsModel" "ints" "[I", Cond.fieldLink RX9 17 "ThrowModelsModel" "base" "[I", Cond.fieldLink RX9 24 "ThrowModelsModel" "others" "[J"]
def wsX9_load : List Cond := .code yX9_load cX9_load 5 (some .long) :: ((wsX9_load_r1 ++ wsX9_load_r2) ++ wsX90)
def wsX9_store_r1 : List Cond := [Cond.fieldLink RX9 28 "ThrowModelsModel" "cells" "[I", Cond.methodLink RX9 76 yX9_begin, Cond.instanceMethod yX9_begin, Cond.selects RX9 yX9_begin yX9_begin, Cond.initialized RX9, Cond.code yX9_begin cX9_begin 1 none, Cond.fieldLink RX9 34 "ThrowModelsModel" "latest" "I", Cond.methodLink RX9 59 yX9_in, Cond.static yX9_in, Cond.code yX9_in cX9_in 3 (some .boolean), Cond.methodLink RX9 79 yX9_isCell, Cond.static yX9_isCell, Cond.code yX9_isCell cX9_isCell 1 (some .boolean), Cond.methodLink RX9 83 yX9_fails, Cond.instanceMethod yX9_fails, Cond.selects RX9 yX9_fails yX9_fails, Cond.code yX9_fails cX9_fails 2 (some .int), Cond.fieldLink RX9 31 "ThrowModelsModel" "counts" "[I", Cond.methodLink RX9 119 yX9_against, Cond.instanceMethod yX9_against, Cond.selects RX9 yX9_against yX9_against, Cond.code yX9_against cX9_against 4 (some .int), Cond.fieldLink RX9 14 "ThrowModelsModel" "length" "[I", Cond.methodLink RX9 91 yX9_passes]
def wsX9_store_r2 : List Cond := [Cond.instanceMethod yX9_passes, Cond.selects RX9 yX9_passes yX9_passes, Cond.code yX9_passes cX9_passes 3 (some .boolean), Cond.fieldLink RX9 8 "ThrowModelsModel" "kind" "[I", Cond.methodLink RX9 63 yX9_isKindOf, Cond.static yX9_isKindOf, Cond.code yX9_isKindOf cX9_isKindOf 2 (some .boolean), Cond.methodLink RX9 127 yX9_cut, Cond.static yX9_cut, Cond.code yX9_cut cX9_cut 3 (some .long), Cond.methodLink RX9 106 yX9_singleBits, Cond.static yX9_singleBits, Cond.code yX9_singleBits cX9_singleBits 1 (some .float), Cond.constant RX9 50 (2147483647), Cond.constant RX9 51 (2139095040), Cond.constantFloat RX9 54 (2143289344), Cond.methodLink RX9 55 ⟨"java/lang/Float", "intBitsToFloat", "(I)F"⟩, Cond.native ⟨"java/lang/Float", "intBitsToFloat", "(I)F"⟩, Cond.static ⟨"java/lang/Float", "intBitsToFloat", "(I)F"⟩, Cond.initialized "java/lang/Float", Cond.methodLink RX9 109 yX9_floatBits, Cond.static yX9_floatBits, Cond.code yX9_floatBits cX9_floatBits 1 (some .long), Cond.constantLong RX9 100 (2143289344)]
def wsX9_store_r3 : List Cond := [Cond.methodLink RX9 102 yJxf58ca_floatToIntBits_5c35a, Cond.static yJxf58ca_floatToIntBits_5c35a, Cond.initialized RJxf58ca, Cond.code yJxf58ca_floatToIntBits_5c35a cJxf58ca_floatToIntBits_5c35a 1 (some .int), Cond.methodLink RJxf58ca 74 ⟨"java/lang/Float", "floatToRawIntBits", "(F)I"⟩, Cond.native ⟨"java/lang/Float", "floatToRawIntBits", "(F)I"⟩, Cond.static ⟨"java/lang/Float", "floatToRawIntBits", "(F)I"⟩, Cond.constant RJxf58ca 77 (2143289344), Cond.methodLink RJxf58ca 59 yJxf58ca_isNaN_12338, Cond.static yJxf58ca_isNaN_12338, Cond.code yJxf58ca_isNaN_12338 cJxf58ca_isNaN_12338 1 (some .boolean), Cond.methodLink RX9 113 yX9_realBits, Cond.static yX9_realBits, Cond.code yX9_realBits cX9_realBits 2 (some .double), Cond.constantLong RX9 38 (9223372036854775807), Cond.constantLong RX9 40 (9218868437227405312), Cond.constantDouble RX9 44 (9221120237041090560), Cond.methodLink RX9 46 ⟨"java/lang/Double", "longBitsToDouble", "(J)D"⟩, Cond.native ⟨"java/lang/Double", "longBitsToDouble", "(J)D"⟩, Cond.static ⟨"java/lang/Double", "longBitsToDouble", "(J)D"⟩, Cond.initialized "java/lang/Double", Cond.methodLink RX9 116 yX9_doubleBits, Cond.static yX9_doubleBits, Cond.code yX9_doubleBits cX9_doubleBits 2 (some .long)]
def wsX9_store_r4 : List Cond := [Cond.constantLong RX9 94 (9221120237041090560), Cond.methodLink RX9 96 yJxe99ae_doubleToLongBits_ccdee, Cond.static yJxe99ae_doubleToLongBits_ccdee, Cond.initialized RJxe99ae, Cond.code yJxe99ae_doubleToLongBits_ccdee cJxe99ae_doubleToLongBits_ccdee 2 (some .long), Cond.methodLink RJxe99ae 134 ⟨"java/lang/Double", "doubleToRawLongBits", "(D)J"⟩, Cond.native ⟨"java/lang/Double", "doubleToRawLongBits", "(D)J"⟩, Cond.static ⟨"java/lang/Double", "doubleToRawLongBits", "(D)J"⟩, Cond.constantLong RJxe99ae 137 (9221120237041090560), Cond.methodLink RJxe99ae 122 yJxe99ae_isNaN_b9ae7, Cond.static yJxe99ae_isNaN_b9ae7, Cond.code yJxe99ae_isNaN_b9ae7 cJxe99ae_isNaN_b9ae7 2 (some .boolean), Cond.methodLink RX9 131 yX9_set, Cond.instanceMethod yX9_set, Cond.selects RX9 yX9_set yX9_set, Cond.code yX9_set cX9_set 5 none, Cond.fieldLink RX9 21 "ThrowModelsModel" "ints" "[I", Cond.fieldLink RX9 17 "ThrowModelsModel" "base" "[I", Cond.fieldLink RX9 24 "ThrowModelsModel" "others" "[J"]
def wsX9_store : List Cond := .code yX9_store cX9_store 7 (some .int) :: ((wsX9_store_r1 ++ (wsX9_store_r2 ++ (wsX9_store_r3 ++ wsX9_store_r4))) ++ wsX90)
def wsX9_isHolder : List Cond := .code yX9_isHolder cX9_isHolder 1 (some .boolean) :: ([.methodLink RX9 59 yX9_in, .static yX9_in, .initialized RX9, .code yX9_in cX9_in 3 (some .boolean)])
def wsX9_take_r1 : List Cond := [Cond.fieldLink RX9 28 "ThrowModelsModel" "cells" "[I", Cond.fieldLink RX9 24 "ThrowModelsModel" "others" "[J", Cond.fieldLink RX9 17 "ThrowModelsModel" "base" "[I", Cond.methodLink RX9 76 yX9_begin, Cond.instanceMethod yX9_begin, Cond.selects RX9 yX9_begin yX9_begin, Cond.initialized RX9, Cond.code yX9_begin cX9_begin 1 none, Cond.fieldLink RX9 34 "ThrowModelsModel" "latest" "I", Cond.methodLink RX9 135 yX9_isHolder, Cond.static yX9_isHolder, Cond.code yX9_isHolder cX9_isHolder 1 (some .boolean), Cond.methodLink RX9 59 yX9_in, Cond.static yX9_in, Cond.code yX9_in cX9_in 3 (some .boolean), Cond.methodLink RX9 79 yX9_isCell, Cond.static yX9_isCell, Cond.code yX9_isCell cX9_isCell 1 (some .boolean), Cond.methodLink RX9 83 yX9_fails, Cond.instanceMethod yX9_fails, Cond.selects RX9 yX9_fails yX9_fails, Cond.code yX9_fails cX9_fails 2 (some .int), Cond.fieldLink RX9 31 "ThrowModelsModel" "counts" "[I", Cond.methodLink RX9 119 yX9_against]
def wsX9_take_r2 : List Cond := [Cond.instanceMethod yX9_against, Cond.selects RX9 yX9_against yX9_against, Cond.code yX9_against cX9_against 4 (some .int), Cond.fieldLink RX9 14 "ThrowModelsModel" "length" "[I", Cond.methodLink RX9 91 yX9_passes, Cond.instanceMethod yX9_passes, Cond.selects RX9 yX9_passes yX9_passes, Cond.code yX9_passes cX9_passes 3 (some .boolean), Cond.fieldLink RX9 8 "ThrowModelsModel" "kind" "[I", Cond.methodLink RX9 63 yX9_isKindOf, Cond.static yX9_isKindOf, Cond.code yX9_isKindOf cX9_isKindOf 2 (some .boolean)]
def wsX9_take : List Cond := .code yX9_take cX9_take 6 (some .int) :: ((wsX9_take_r1 ++ wsX9_take_r2) ++ wsX90)
def wsX9_elementType : List Cond := .code yX9_elementType cX9_elementType 1 (some .int) :: ([])
def wsX9_put_r1 : List Cond := [Cond.fieldLink RX9 28 "ThrowModelsModel" "cells" "[I", Cond.fieldLink RX9 8 "ThrowModelsModel" "kind" "[I", Cond.fieldLink RX9 24 "ThrowModelsModel" "others" "[J", Cond.fieldLink RX9 17 "ThrowModelsModel" "base" "[I", Cond.methodLink RX9 76 yX9_begin, Cond.instanceMethod yX9_begin, Cond.selects RX9 yX9_begin yX9_begin, Cond.initialized RX9, Cond.code yX9_begin cX9_begin 1 none, Cond.fieldLink RX9 34 "ThrowModelsModel" "latest" "I", Cond.methodLink RX9 135 yX9_isHolder, Cond.static yX9_isHolder, Cond.code yX9_isHolder cX9_isHolder 1 (some .boolean), Cond.methodLink RX9 59 yX9_in, Cond.static yX9_in, Cond.code yX9_in cX9_in 3 (some .boolean), Cond.methodLink RX9 79 yX9_isCell, Cond.static yX9_isCell, Cond.code yX9_isCell cX9_isCell 1 (some .boolean), Cond.methodLink RX9 83 yX9_fails, Cond.instanceMethod yX9_fails, Cond.selects RX9 yX9_fails yX9_fails, Cond.code yX9_fails cX9_fails 2 (some .int), Cond.fieldLink RX9 31 "ThrowModelsModel" "counts" "[I"]
def wsX9_put_r2 : List Cond := [Cond.methodLink RX9 91 yX9_passes, Cond.instanceMethod yX9_passes, Cond.selects RX9 yX9_passes yX9_passes, Cond.code yX9_passes cX9_passes 3 (some .boolean), Cond.methodLink RX9 63 yX9_isKindOf, Cond.static yX9_isKindOf, Cond.code yX9_isKindOf cX9_isKindOf 2 (some .boolean), Cond.methodLink RX9 138 yX9_elementType, Cond.static yX9_elementType, Cond.code yX9_elementType cX9_elementType 1 (some .int), Cond.methodLink RX9 119 yX9_against, Cond.instanceMethod yX9_against, Cond.selects RX9 yX9_against yX9_against, Cond.code yX9_against cX9_against 4 (some .int), Cond.fieldLink RX9 14 "ThrowModelsModel" "length" "[I"]
def wsX9_put : List Cond := .code yX9_put cX9_put 8 (some .int) :: ((wsX9_put_r1 ++ wsX9_put_r2) ++ wsX90)
def wsX9_cross_r1 : List Cond := [Cond.fieldLink RX9 28 "ThrowModelsModel" "cells" "[I", Cond.fieldLink RX9 24 "ThrowModelsModel" "others" "[J", Cond.fieldLink RX9 17 "ThrowModelsModel" "base" "[I", Cond.fieldLink RX9 21 "ThrowModelsModel" "ints" "[I", Cond.methodLink RX9 76 yX9_begin, Cond.instanceMethod yX9_begin, Cond.selects RX9 yX9_begin yX9_begin, Cond.initialized RX9, Cond.code yX9_begin cX9_begin 1 none, Cond.fieldLink RX9 34 "ThrowModelsModel" "latest" "I", Cond.methodLink RX9 79 yX9_isCell, Cond.static yX9_isCell, Cond.code yX9_isCell cX9_isCell 1 (some .boolean), Cond.methodLink RX9 59 yX9_in, Cond.static yX9_in, Cond.code yX9_in cX9_in 3 (some .boolean), Cond.methodLink RX9 83 yX9_fails, Cond.instanceMethod yX9_fails, Cond.selects RX9 yX9_fails yX9_fails, Cond.code yX9_fails cX9_fails 2 (some .int), Cond.fieldLink RX9 31 "ThrowModelsModel" "counts" "[I", Cond.methodLink RX9 119 yX9_against, Cond.instanceMethod yX9_against, Cond.selects RX9 yX9_against yX9_against]
def wsX9_cross_r2 : List Cond := [Cond.code yX9_against cX9_against 4 (some .int), Cond.fieldLink RX9 14 "ThrowModelsModel" "length" "[I", Cond.methodLink RX9 91 yX9_passes, Cond.instanceMethod yX9_passes, Cond.selects RX9 yX9_passes yX9_passes, Cond.code yX9_passes cX9_passes 3 (some .boolean), Cond.fieldLink RX9 8 "ThrowModelsModel" "kind" "[I", Cond.methodLink RX9 63 yX9_isKindOf, Cond.static yX9_isKindOf, Cond.code yX9_isKindOf cX9_isKindOf 2 (some .boolean)]
def wsX9_cross : List Cond := .code yX9_cross cX9_cross 6 (some .int) :: ((wsX9_cross_r1 ++ wsX9_cross_r2) ++ wsX90)
def wsX9_isFamily : List Cond := .code yX9_isFamily cX9_isFamily 1 (some .boolean) :: ([.methodLink RX9 59 yX9_in, .static yX9_in, .initialized RX9, .code yX9_in cX9_in 3 (some .boolean)])
def wsX9_isBeyond : List Cond := .code yX9_isBeyond cX9_isBeyond 4 (some .boolean) :: ([.fieldLink RX9 14 "ThrowModelsModel" "length" "[I"] ++ wsX90)
def wsX9_copy_r1 : List Cond := [Cond.fieldLink RX9 28 "ThrowModelsModel" "cells" "[I", Cond.fieldLink RX9 8 "ThrowModelsModel" "kind" "[I", Cond.methodLink RX9 76 yX9_begin, Cond.instanceMethod yX9_begin, Cond.selects RX9 yX9_begin yX9_begin, Cond.initialized RX9, Cond.code yX9_begin cX9_begin 1 none, Cond.fieldLink RX9 34 "ThrowModelsModel" "latest" "I", Cond.methodLink RX9 79 yX9_isCell, Cond.static yX9_isCell, Cond.code yX9_isCell cX9_isCell 1 (some .boolean), Cond.methodLink RX9 59 yX9_in, Cond.static yX9_in, Cond.code yX9_in cX9_in 3 (some .boolean), Cond.methodLink RX9 83 yX9_fails, Cond.instanceMethod yX9_fails, Cond.selects RX9 yX9_fails yX9_fails, Cond.code yX9_fails cX9_fails 2 (some .int), Cond.fieldLink RX9 31 "ThrowModelsModel" "counts" "[I", Cond.methodLink RX9 141 yX9_isFamily, Cond.static yX9_isFamily, Cond.code yX9_isFamily cX9_isFamily 1 (some .boolean), Cond.methodLink RX9 144 yX9_isBeyond, Cond.instanceMethod yX9_isBeyond]
def wsX9_copy_r2 : List Cond := [Cond.selects RX9 yX9_isBeyond yX9_isBeyond, Cond.code yX9_isBeyond cX9_isBeyond 4 (some .boolean), Cond.fieldLink RX9 14 "ThrowModelsModel" "length" "[I", Cond.methodLink RX9 123 yX9_element, Cond.instanceMethod yX9_element, Cond.selects RX9 yX9_element yX9_element, Cond.code yX9_element cX9_element 3 (some .long), Cond.fieldLink RX9 21 "ThrowModelsModel" "ints" "[I", Cond.fieldLink RX9 17 "ThrowModelsModel" "base" "[I", Cond.fieldLink RX9 24 "ThrowModelsModel" "others" "[J", Cond.methodLink RX9 131 yX9_set, Cond.instanceMethod yX9_set, Cond.selects RX9 yX9_set yX9_set, Cond.code yX9_set cX9_set 5 none, Cond.methodLink RX9 138 yX9_elementType, Cond.static yX9_elementType, Cond.code yX9_elementType cX9_elementType 1 (some .int), Cond.methodLink RX9 91 yX9_passes, Cond.instanceMethod yX9_passes, Cond.selects RX9 yX9_passes yX9_passes, Cond.code yX9_passes cX9_passes 3 (some .boolean), Cond.methodLink RX9 63 yX9_isKindOf, Cond.static yX9_isKindOf, Cond.code yX9_isKindOf cX9_isKindOf 2 (some .boolean)]
def wsX9_copy : List Cond := .code yX9_copy cX9_copy 11 (some .int) :: ((wsX9_copy_r1 ++ wsX9_copy_r2) ++ wsX90)
def wsX9_field_r1 : List Cond := [Cond.fieldLink RX9 28 "ThrowModelsModel" "cells" "[I", Cond.fieldLink RX9 14 "ThrowModelsModel" "length" "[I", Cond.methodLink RX9 76 yX9_begin, Cond.instanceMethod yX9_begin, Cond.selects RX9 yX9_begin yX9_begin, Cond.initialized RX9, Cond.code yX9_begin cX9_begin 1 none, Cond.fieldLink RX9 34 "ThrowModelsModel" "latest" "I", Cond.methodLink RX9 59 yX9_in, Cond.static yX9_in, Cond.code yX9_in cX9_in 3 (some .boolean), Cond.methodLink RX9 79 yX9_isCell, Cond.static yX9_isCell, Cond.code yX9_isCell cX9_isCell 1 (some .boolean), Cond.methodLink RX9 83 yX9_fails, Cond.instanceMethod yX9_fails, Cond.selects RX9 yX9_fails yX9_fails, Cond.code yX9_fails cX9_fails 2 (some .int), Cond.fieldLink RX9 31 "ThrowModelsModel" "counts" "[I", Cond.methodLink RX9 91 yX9_passes, Cond.instanceMethod yX9_passes, Cond.selects RX9 yX9_passes yX9_passes, Cond.code yX9_passes cX9_passes 3 (some .boolean), Cond.fieldLink RX9 8 "ThrowModelsModel" "kind" "[I"]
def wsX9_field_r2 : List Cond := [Cond.methodLink RX9 63 yX9_isKindOf, Cond.static yX9_isKindOf, Cond.code yX9_isKindOf cX9_isKindOf 2 (some .boolean)]
def wsX9_field : List Cond := .code yX9_field cX9_field 4 (some .int) :: ((wsX9_field_r1 ++ wsX9_field_r2) ++ wsX90)
def wsX9_write_r1 : List Cond := [Cond.fieldLink RX9 28 "ThrowModelsModel" "cells" "[I", Cond.fieldLink RX9 14 "ThrowModelsModel" "length" "[I", Cond.methodLink RX9 76 yX9_begin, Cond.instanceMethod yX9_begin, Cond.selects RX9 yX9_begin yX9_begin, Cond.initialized RX9, Cond.code yX9_begin cX9_begin 1 none, Cond.fieldLink RX9 34 "ThrowModelsModel" "latest" "I", Cond.methodLink RX9 59 yX9_in, Cond.static yX9_in, Cond.code yX9_in cX9_in 3 (some .boolean), Cond.methodLink RX9 79 yX9_isCell, Cond.static yX9_isCell, Cond.code yX9_isCell cX9_isCell 1 (some .boolean), Cond.methodLink RX9 83 yX9_fails, Cond.instanceMethod yX9_fails, Cond.selects RX9 yX9_fails yX9_fails, Cond.code yX9_fails cX9_fails 2 (some .int), Cond.fieldLink RX9 31 "ThrowModelsModel" "counts" "[I", Cond.methodLink RX9 91 yX9_passes, Cond.instanceMethod yX9_passes, Cond.selects RX9 yX9_passes yX9_passes, Cond.code yX9_passes cX9_passes 3 (some .boolean), Cond.fieldLink RX9 8 "ThrowModelsModel" "kind" "[I"]
def wsX9_write_r2 : List Cond := [Cond.methodLink RX9 63 yX9_isKindOf, Cond.static yX9_isKindOf, Cond.code yX9_isKindOf cX9_isKindOf 2 (some .boolean)]
def wsX9_write : List Cond := .code yX9_write cX9_write 5 (some .int) :: ((wsX9_write_r1 ++ wsX9_write_r2) ++ wsX90)
def wsX9_call_r1 : List Cond := [Cond.fieldLink RX9 28 "ThrowModelsModel" "cells" "[I", Cond.fieldLink RX9 8 "ThrowModelsModel" "kind" "[I", Cond.fieldLink RX9 14 "ThrowModelsModel" "length" "[I", Cond.methodLink RX9 76 yX9_begin, Cond.instanceMethod yX9_begin, Cond.selects RX9 yX9_begin yX9_begin, Cond.initialized RX9, Cond.code yX9_begin cX9_begin 1 none, Cond.fieldLink RX9 34 "ThrowModelsModel" "latest" "I", Cond.methodLink RX9 79 yX9_isCell, Cond.static yX9_isCell, Cond.code yX9_isCell cX9_isCell 1 (some .boolean), Cond.methodLink RX9 59 yX9_in, Cond.static yX9_in, Cond.code yX9_in cX9_in 3 (some .boolean), Cond.methodLink RX9 83 yX9_fails, Cond.instanceMethod yX9_fails, Cond.selects RX9 yX9_fails yX9_fails, Cond.code yX9_fails cX9_fails 2 (some .int), Cond.fieldLink RX9 31 "ThrowModelsModel" "counts" "[I", Cond.methodLink RX9 91 yX9_passes, Cond.instanceMethod yX9_passes, Cond.selects RX9 yX9_passes yX9_passes, Cond.code yX9_passes cX9_passes 3 (some .boolean)]
def wsX9_call_r2 : List Cond := [Cond.methodLink RX9 63 yX9_isKindOf, Cond.static yX9_isKindOf, Cond.code yX9_isKindOf cX9_isKindOf 2 (some .boolean)]
def wsX9_call : List Cond := .code yX9_call cX9_call 7 (some .int) :: ((wsX9_call_r1 ++ wsX9_call_r2) ++ wsX90)
def wsX9_divide : List Cond := .code yX9_divide cX9_divide 8 (some .long) :: ([.methodLink RX9 76 yX9_begin, .instanceMethod yX9_begin, .selects RX9 yX9_begin yX9_begin, .initialized RX9, .code yX9_begin cX9_begin 1 none, .fieldLink RX9 34 "ThrowModelsModel" "latest" "I", .methodLink RX9 59 yX9_in, .static yX9_in, .code yX9_in cX9_in 3 (some .boolean), .methodLink RX9 83 yX9_fails, .instanceMethod yX9_fails, .selects RX9 yX9_fails yX9_fails, .code yX9_fails cX9_fails 2 (some .int), .fieldLink RX9 31 "ThrowModelsModel" "counts" "[I"] ++ wsX90)
def wsX9_isEndless : List Cond := .code yX9_isEndless cX9_isEndless 2 (some .boolean) :: ([.constantDouble RX9 147 (9218868437227405311), .constantDouble RX9 149 (18442240474082181119)])
def wsX9_sumOf : List Cond := .code yX9_sumOf cX9_sumOf 4 (some .double) :: ([.constantDouble RX9 44 (9221120237041090560), .methodLink RX9 151 yX9_isEndless, .static yX9_isEndless, .initialized RX9, .code yX9_isEndless cX9_isEndless 2 (some .boolean), .constantDouble RX9 147 (9218868437227405311), .constantDouble RX9 149 (18442240474082181119)])
def wsX9_lessOf : List Cond := .code yX9_lessOf cX9_lessOf 4 (some .double) :: ([.constantDouble RX9 44 (9221120237041090560), .methodLink RX9 151 yX9_isEndless, .static yX9_isEndless, .initialized RX9, .code yX9_isEndless cX9_isEndless 2 (some .boolean), .constantDouble RX9 147 (9218868437227405311), .constantDouble RX9 149 (18442240474082181119)])
def wsX9_timesOf : List Cond := .code yX9_timesOf cX9_timesOf 4 (some .double) :: ([.constantDouble RX9 44 (9221120237041090560), .methodLink RX9 151 yX9_isEndless, .static yX9_isEndless, .initialized RX9, .code yX9_isEndless cX9_isEndless 2 (some .boolean), .constantDouble RX9 147 (9218868437227405311), .constantDouble RX9 149 (18442240474082181119)])
def wsX9_overOf : List Cond := .code yX9_overOf cX9_overOf 4 (some .double) :: ([.constantDouble RX9 44 (9221120237041090560), .methodLink RX9 151 yX9_isEndless, .static yX9_isEndless, .initialized RX9, .code yX9_isEndless cX9_isEndless 2 (some .boolean), .constantDouble RX9 147 (9218868437227405311), .constantDouble RX9 149 (18442240474082181119)])
def wsX9_wide : List Cond := .code yX9_wide cX9_wide 2 (some .double) :: ([.constantDouble RX9 44 (9221120237041090560), .methodLink RX9 106 yX9_singleBits, .static yX9_singleBits, .initialized RX9, .code yX9_singleBits cX9_singleBits 1 (some .float), .constant RX9 50 (2147483647), .constant RX9 51 (2139095040), .constantFloat RX9 54 (2143289344), .methodLink RX9 55 ⟨"java/lang/Float", "intBitsToFloat", "(I)F"⟩, .native ⟨"java/lang/Float", "intBitsToFloat", "(I)F"⟩, .static ⟨"java/lang/Float", "intBitsToFloat", "(I)F"⟩, .initialized "java/lang/Float"])
def wsX9_real_r1 : List Cond := [Cond.constantDouble RX9 44 (9221120237041090560), Cond.constantLong RX9 94 (9221120237041090560), Cond.constantLong RX9 38 (9223372036854775807), Cond.constantLong RX9 168 (-9223372036854775808), Cond.methodLink RX9 76 yX9_begin, Cond.instanceMethod yX9_begin, Cond.selects RX9 yX9_begin yX9_begin, Cond.initialized RX9, Cond.code yX9_begin cX9_begin 1 none, Cond.fieldLink RX9 34 "ThrowModelsModel" "latest" "I", Cond.methodLink RX9 59 yX9_in, Cond.static yX9_in, Cond.code yX9_in cX9_in 3 (some .boolean), Cond.methodLink RX9 83 yX9_fails, Cond.instanceMethod yX9_fails, Cond.selects RX9 yX9_fails yX9_fails, Cond.code yX9_fails cX9_fails 2 (some .int), Cond.fieldLink RX9 31 "ThrowModelsModel" "counts" "[I", Cond.methodLink RX9 113 yX9_realBits, Cond.static yX9_realBits, Cond.code yX9_realBits cX9_realBits 2 (some .double), Cond.constantLong RX9 40 (9218868437227405312), Cond.methodLink RX9 46 ⟨"java/lang/Double", "longBitsToDouble", "(J)D"⟩, Cond.native ⟨"java/lang/Double", "longBitsToDouble", "(J)D"⟩]
def wsX9_real_r2 : List Cond := [Cond.static ⟨"java/lang/Double", "longBitsToDouble", "(J)D"⟩, Cond.initialized "java/lang/Double", Cond.methodLink RX9 155 yX9_sumOf, Cond.static yX9_sumOf, Cond.code yX9_sumOf cX9_sumOf 4 (some .double), Cond.methodLink RX9 151 yX9_isEndless, Cond.static yX9_isEndless, Cond.code yX9_isEndless cX9_isEndless 2 (some .boolean), Cond.constantDouble RX9 147 (9218868437227405311), Cond.constantDouble RX9 149 (18442240474082181119), Cond.methodLink RX9 116 yX9_doubleBits, Cond.static yX9_doubleBits, Cond.code yX9_doubleBits cX9_doubleBits 2 (some .long), Cond.methodLink RX9 96 yJxe99ae_doubleToLongBits_ccdee, Cond.static yJxe99ae_doubleToLongBits_ccdee, Cond.initialized RJxe99ae, Cond.code yJxe99ae_doubleToLongBits_ccdee cJxe99ae_doubleToLongBits_ccdee 2 (some .long), Cond.methodLink RJxe99ae 134 ⟨"java/lang/Double", "doubleToRawLongBits", "(D)J"⟩, Cond.native ⟨"java/lang/Double", "doubleToRawLongBits", "(D)J"⟩, Cond.static ⟨"java/lang/Double", "doubleToRawLongBits", "(D)J"⟩, Cond.constantLong RJxe99ae 137 (9221120237041090560), Cond.methodLink RJxe99ae 122 yJxe99ae_isNaN_b9ae7, Cond.static yJxe99ae_isNaN_b9ae7, Cond.code yJxe99ae_isNaN_b9ae7 cJxe99ae_isNaN_b9ae7 2 (some .boolean)]
def wsX9_real_r3 : List Cond := [Cond.methodLink RX9 159 yX9_lessOf, Cond.static yX9_lessOf, Cond.code yX9_lessOf cX9_lessOf 4 (some .double), Cond.methodLink RX9 162 yX9_timesOf, Cond.static yX9_timesOf, Cond.code yX9_timesOf cX9_timesOf 4 (some .double), Cond.methodLink RX9 165 yX9_overOf, Cond.static yX9_overOf, Cond.code yX9_overOf cX9_overOf 4 (some .double)]
def wsX9_real : List Cond := .code yX9_real cX9_real 10 (some .long) :: ((wsX9_real_r1 ++ (wsX9_real_r2 ++ wsX9_real_r3)) ++ wsX90)
def wsX9_isWhole : List Cond := .code yX9_isWhole cX9_isWhole 2 (some .boolean) :: ([.constantDouble RX9 170 (4841369599423283200), .constantDouble RX9 172 (14064741636278059008)])
def wsX9_signed : List Cond := .code yX9_signed cX9_signed 4 (some .long) :: ([.constantLong RX9 38 (9223372036854775807), .constantLong RX9 168 (-9223372036854775808), .methodLink RX9 96 yJxe99ae_doubleToLongBits_ccdee, .static yJxe99ae_doubleToLongBits_ccdee, .initialized RJxe99ae, .code yJxe99ae_doubleToLongBits_ccdee cJxe99ae_doubleToLongBits_ccdee 2 (some .long), .methodLink RJxe99ae 134 ⟨"java/lang/Double", "doubleToRawLongBits", "(D)J"⟩, .native ⟨"java/lang/Double", "doubleToRawLongBits", "(D)J"⟩, .static ⟨"java/lang/Double", "doubleToRawLongBits", "(D)J"⟩, .initialized "java/lang/Double", .constantLong RJxe99ae 137 (9221120237041090560), .methodLink RJxe99ae 122 yJxe99ae_isNaN_b9ae7, .static yJxe99ae_isNaN_b9ae7, .code yJxe99ae_isNaN_b9ae7 cJxe99ae_isNaN_b9ae7 2 (some .boolean)])
def wsX9_rounded : List Cond := .code yX9_rounded cX9_rounded 9 (some .double) :: ([.constantDouble RX9 170 (4841369599423283200)])
def wsX9_math_r1 : List Cond := [Cond.constantLong RX9 174 (2047), Cond.constantLong RX9 176 (1024), Cond.constantLong RX9 38 (9223372036854775807), Cond.constantLong RX9 40 (9218868437227405312), Cond.constantDouble RX9 189 (4620693217682128896), Cond.constantDouble RX9 191 (4593671619917905920), Cond.methodLink RX9 76 yX9_begin, Cond.instanceMethod yX9_begin, Cond.selects RX9 yX9_begin yX9_begin, Cond.initialized RX9, Cond.code yX9_begin cX9_begin 1 none, Cond.fieldLink RX9 34 "ThrowModelsModel" "latest" "I", Cond.methodLink RX9 59 yX9_in, Cond.static yX9_in, Cond.code yX9_in cX9_in 3 (some .boolean), Cond.methodLink RX9 83 yX9_fails, Cond.instanceMethod yX9_fails, Cond.selects RX9 yX9_fails yX9_fails, Cond.code yX9_fails cX9_fails 2 (some .int), Cond.fieldLink RX9 31 "ThrowModelsModel" "counts" "[I", Cond.methodLink RX9 113 yX9_realBits, Cond.static yX9_realBits, Cond.code yX9_realBits cX9_realBits 2 (some .double), Cond.constantDouble RX9 44 (9221120237041090560)]
def wsX9_math_r2 : List Cond := [Cond.methodLink RX9 46 ⟨"java/lang/Double", "longBitsToDouble", "(J)D"⟩, Cond.native ⟨"java/lang/Double", "longBitsToDouble", "(J)D"⟩, Cond.static ⟨"java/lang/Double", "longBitsToDouble", "(J)D"⟩, Cond.initialized "java/lang/Double", Cond.methodLink RX9 116 yX9_doubleBits, Cond.static yX9_doubleBits, Cond.code yX9_doubleBits cX9_doubleBits 2 (some .long), Cond.constantLong RX9 94 (9221120237041090560), Cond.methodLink RX9 96 yJxe99ae_doubleToLongBits_ccdee, Cond.static yJxe99ae_doubleToLongBits_ccdee, Cond.initialized RJxe99ae, Cond.code yJxe99ae_doubleToLongBits_ccdee cJxe99ae_doubleToLongBits_ccdee 2 (some .long), Cond.methodLink RJxe99ae 134 ⟨"java/lang/Double", "doubleToRawLongBits", "(D)J"⟩, Cond.native ⟨"java/lang/Double", "doubleToRawLongBits", "(D)J"⟩, Cond.static ⟨"java/lang/Double", "doubleToRawLongBits", "(D)J"⟩, Cond.constantLong RJxe99ae 137 (9221120237041090560), Cond.methodLink RJxe99ae 122 yJxe99ae_isNaN_b9ae7, Cond.static yJxe99ae_isNaN_b9ae7, Cond.code yJxe99ae_isNaN_b9ae7 cJxe99ae_isNaN_b9ae7 2 (some .boolean), Cond.methodLink RX9 178 yX9_isWhole, Cond.static yX9_isWhole, Cond.code yX9_isWhole cX9_isWhole 2 (some .boolean), Cond.constantDouble RX9 170 (4841369599423283200), Cond.constantDouble RX9 172 (14064741636278059008)]
def wsX9_math_r3 : List Cond := [Cond.methodLink RX9 181 yX9_rounded, Cond.static yX9_rounded, Cond.code yX9_rounded cX9_rounded 9 (some .double), Cond.methodLink RX9 185 yX9_signed, Cond.static yX9_signed, Cond.code yX9_signed cX9_signed 4 (some .long), Cond.constantLong RX9 168 (-9223372036854775808)]
def wsX9_math : List Cond := .code yX9_math cX9_math 7 (some .long) :: ((wsX9_math_r1 ++ (wsX9_math_r2 ++ wsX9_math_r3)) ++ wsX90)
def wsX9_narrow_r1 : List Cond := [Cond.constantLong RX9 100 (2143289344), Cond.methodLink RX9 76 yX9_begin, Cond.instanceMethod yX9_begin, Cond.selects RX9 yX9_begin yX9_begin, Cond.initialized RX9, Cond.code yX9_begin cX9_begin 1 none, Cond.fieldLink RX9 34 "ThrowModelsModel" "latest" "I", Cond.methodLink RX9 59 yX9_in, Cond.static yX9_in, Cond.code yX9_in cX9_in 3 (some .boolean), Cond.methodLink RX9 83 yX9_fails, Cond.instanceMethod yX9_fails, Cond.selects RX9 yX9_fails yX9_fails, Cond.code yX9_fails cX9_fails 2 (some .int), Cond.fieldLink RX9 31 "ThrowModelsModel" "counts" "[I", Cond.methodLink RX9 113 yX9_realBits, Cond.static yX9_realBits, Cond.code yX9_realBits cX9_realBits 2 (some .double), Cond.constantLong RX9 38 (9223372036854775807), Cond.constantLong RX9 40 (9218868437227405312), Cond.constantDouble RX9 44 (9221120237041090560), Cond.methodLink RX9 46 ⟨"java/lang/Double", "longBitsToDouble", "(J)D"⟩, Cond.native ⟨"java/lang/Double", "longBitsToDouble", "(J)D"⟩, Cond.static ⟨"java/lang/Double", "longBitsToDouble", "(J)D"⟩]
def wsX9_narrow_r2 : List Cond := [Cond.initialized "java/lang/Double", Cond.methodLink RX9 109 yX9_floatBits, Cond.static yX9_floatBits, Cond.code yX9_floatBits cX9_floatBits 1 (some .long), Cond.methodLink RX9 102 yJxf58ca_floatToIntBits_5c35a, Cond.static yJxf58ca_floatToIntBits_5c35a, Cond.initialized RJxf58ca, Cond.code yJxf58ca_floatToIntBits_5c35a cJxf58ca_floatToIntBits_5c35a 1 (some .int), Cond.methodLink RJxf58ca 74 ⟨"java/lang/Float", "floatToRawIntBits", "(F)I"⟩, Cond.native ⟨"java/lang/Float", "floatToRawIntBits", "(F)I"⟩, Cond.static ⟨"java/lang/Float", "floatToRawIntBits", "(F)I"⟩, Cond.initialized "java/lang/Float", Cond.constant RJxf58ca 77 (2143289344), Cond.methodLink RJxf58ca 59 yJxf58ca_isNaN_12338, Cond.static yJxf58ca_isNaN_12338, Cond.code yJxf58ca_isNaN_12338 cJxf58ca_isNaN_12338 1 (some .boolean)]
def wsX9_narrow : List Cond := .code yX9_narrow cX9_narrow 6 (some .long) :: ((wsX9_narrow_r1 ++ wsX9_narrow_r2) ++ wsX90)
def wsX9_widen_r1 : List Cond := [Cond.methodLink RX9 76 yX9_begin, Cond.instanceMethod yX9_begin, Cond.selects RX9 yX9_begin yX9_begin, Cond.initialized RX9, Cond.code yX9_begin cX9_begin 1 none, Cond.fieldLink RX9 34 "ThrowModelsModel" "latest" "I", Cond.methodLink RX9 59 yX9_in, Cond.static yX9_in, Cond.code yX9_in cX9_in 3 (some .boolean), Cond.methodLink RX9 83 yX9_fails, Cond.instanceMethod yX9_fails, Cond.selects RX9 yX9_fails yX9_fails, Cond.code yX9_fails cX9_fails 2 (some .int), Cond.fieldLink RX9 31 "ThrowModelsModel" "counts" "[I", Cond.methodLink RX9 116 yX9_doubleBits, Cond.static yX9_doubleBits, Cond.code yX9_doubleBits cX9_doubleBits 2 (some .long), Cond.constantLong RX9 94 (9221120237041090560), Cond.methodLink RX9 96 yJxe99ae_doubleToLongBits_ccdee, Cond.static yJxe99ae_doubleToLongBits_ccdee, Cond.initialized RJxe99ae, Cond.code yJxe99ae_doubleToLongBits_ccdee cJxe99ae_doubleToLongBits_ccdee 2 (some .long), Cond.methodLink RJxe99ae 134 ⟨"java/lang/Double", "doubleToRawLongBits", "(D)J"⟩, Cond.native ⟨"java/lang/Double", "doubleToRawLongBits", "(D)J"⟩]
def wsX9_widen_r2 : List Cond := [Cond.static ⟨"java/lang/Double", "doubleToRawLongBits", "(D)J"⟩, Cond.initialized "java/lang/Double", Cond.constantLong RJxe99ae 137 (9221120237041090560), Cond.methodLink RJxe99ae 122 yJxe99ae_isNaN_b9ae7, Cond.static yJxe99ae_isNaN_b9ae7, Cond.code yJxe99ae_isNaN_b9ae7 cJxe99ae_isNaN_b9ae7 2 (some .boolean), Cond.methodLink RX9 109 yX9_floatBits, Cond.static yX9_floatBits, Cond.code yX9_floatBits cX9_floatBits 1 (some .long), Cond.constantLong RX9 100 (2143289344), Cond.methodLink RX9 102 yJxf58ca_floatToIntBits_5c35a, Cond.static yJxf58ca_floatToIntBits_5c35a, Cond.initialized RJxf58ca, Cond.code yJxf58ca_floatToIntBits_5c35a cJxf58ca_floatToIntBits_5c35a 1 (some .int), Cond.methodLink RJxf58ca 74 ⟨"java/lang/Float", "floatToRawIntBits", "(F)I"⟩, Cond.native ⟨"java/lang/Float", "floatToRawIntBits", "(F)I"⟩, Cond.static ⟨"java/lang/Float", "floatToRawIntBits", "(F)I"⟩, Cond.initialized "java/lang/Float", Cond.constant RJxf58ca 77 (2143289344), Cond.methodLink RJxf58ca 59 yJxf58ca_isNaN_12338, Cond.static yJxf58ca_isNaN_12338, Cond.code yJxf58ca_isNaN_12338 cJxf58ca_isNaN_12338 1 (some .boolean), Cond.methodLink RX9 193 yX9_wide, Cond.static yX9_wide]
def wsX9_widen_r3 : List Cond := [Cond.code yX9_wide cX9_wide 2 (some .double), Cond.constantDouble RX9 44 (9221120237041090560), Cond.methodLink RX9 106 yX9_singleBits, Cond.static yX9_singleBits, Cond.code yX9_singleBits cX9_singleBits 1 (some .float), Cond.constant RX9 50 (2147483647), Cond.constant RX9 51 (2139095040), Cond.constantFloat RX9 54 (2143289344), Cond.methodLink RX9 55 ⟨"java/lang/Float", "intBitsToFloat", "(I)F"⟩, Cond.native ⟨"java/lang/Float", "intBitsToFloat", "(I)F"⟩, Cond.static ⟨"java/lang/Float", "intBitsToFloat", "(I)F"⟩]
def wsX9_widen : List Cond := .code yX9_widen cX9_widen 4 (some .long) :: ((wsX9_widen_r1 ++ (wsX9_widen_r2 ++ wsX9_widen_r3)) ++ wsX90)
def wsX9_holds : List Cond := .code yX9_holds cX9_holds 5 (some .boolean) :: ([])
def wsX9_compare_r1 : List Cond := [Cond.methodLink RX9 76 yX9_begin, Cond.instanceMethod yX9_begin, Cond.selects RX9 yX9_begin yX9_begin, Cond.initialized RX9, Cond.code yX9_begin cX9_begin 1 none, Cond.fieldLink RX9 34 "ThrowModelsModel" "latest" "I", Cond.methodLink RX9 59 yX9_in, Cond.static yX9_in, Cond.code yX9_in cX9_in 3 (some .boolean), Cond.methodLink RX9 83 yX9_fails, Cond.instanceMethod yX9_fails, Cond.selects RX9 yX9_fails yX9_fails, Cond.code yX9_fails cX9_fails 2 (some .int), Cond.fieldLink RX9 31 "ThrowModelsModel" "counts" "[I", Cond.methodLink RX9 113 yX9_realBits, Cond.static yX9_realBits, Cond.code yX9_realBits cX9_realBits 2 (some .double), Cond.constantLong RX9 38 (9223372036854775807), Cond.constantLong RX9 40 (9218868437227405312), Cond.constantDouble RX9 44 (9221120237041090560), Cond.methodLink RX9 46 ⟨"java/lang/Double", "longBitsToDouble", "(J)D"⟩, Cond.native ⟨"java/lang/Double", "longBitsToDouble", "(J)D"⟩, Cond.static ⟨"java/lang/Double", "longBitsToDouble", "(J)D"⟩, Cond.initialized "java/lang/Double"]
def wsX9_compare_r2 : List Cond := [Cond.methodLink RX9 193 yX9_wide, Cond.static yX9_wide, Cond.code yX9_wide cX9_wide 2 (some .double), Cond.methodLink RX9 106 yX9_singleBits, Cond.static yX9_singleBits, Cond.code yX9_singleBits cX9_singleBits 1 (some .float), Cond.constant RX9 50 (2147483647), Cond.constant RX9 51 (2139095040), Cond.constantFloat RX9 54 (2143289344), Cond.methodLink RX9 55 ⟨"java/lang/Float", "intBitsToFloat", "(I)F"⟩, Cond.native ⟨"java/lang/Float", "intBitsToFloat", "(I)F"⟩, Cond.static ⟨"java/lang/Float", "intBitsToFloat", "(I)F"⟩, Cond.initialized "java/lang/Float", Cond.methodLink RX9 197 yX9_holds, Cond.static yX9_holds, Cond.code yX9_holds cX9_holds 5 (some .boolean)]
def wsX9_compare : List Cond := .code yX9_compare cX9_compare 10 (some .int) :: ((wsX9_compare_r1 ++ wsX9_compare_r2) ++ wsX90)
def wsX9_pass_r1 : List Cond := [Cond.fieldLink RX9 28 "ThrowModelsModel" "cells" "[I", Cond.fieldLink RX9 201 "ThrowModelsModel" "trace" "I", Cond.constantLong RX9 204 (-104), Cond.constantLong RX9 206 (-102), Cond.methodLink RX9 76 yX9_begin, Cond.instanceMethod yX9_begin, Cond.selects RX9 yX9_begin yX9_begin, Cond.initialized RX9, Cond.code yX9_begin cX9_begin 1 none, Cond.fieldLink RX9 34 "ThrowModelsModel" "latest" "I", Cond.methodLink RX9 59 yX9_in, Cond.static yX9_in, Cond.code yX9_in cX9_in 3 (some .boolean), Cond.methodLink RX9 79 yX9_isCell, Cond.static yX9_isCell, Cond.code yX9_isCell cX9_isCell 1 (some .boolean), Cond.methodLink RX9 83 yX9_fails, Cond.instanceMethod yX9_fails, Cond.selects RX9 yX9_fails yX9_fails, Cond.code yX9_fails cX9_fails 2 (some .int), Cond.fieldLink RX9 31 "ThrowModelsModel" "counts" "[I", Cond.methodLink RX9 119 yX9_against, Cond.instanceMethod yX9_against, Cond.selects RX9 yX9_against yX9_against]
def wsX9_pass_r2 : List Cond := [Cond.code yX9_against cX9_against 4 (some .int), Cond.fieldLink RX9 14 "ThrowModelsModel" "length" "[I", Cond.methodLink RX9 91 yX9_passes, Cond.instanceMethod yX9_passes, Cond.selects RX9 yX9_passes yX9_passes, Cond.code yX9_passes cX9_passes 3 (some .boolean), Cond.fieldLink RX9 8 "ThrowModelsModel" "kind" "[I", Cond.methodLink RX9 63 yX9_isKindOf, Cond.static yX9_isKindOf, Cond.code yX9_isKindOf cX9_isKindOf 2 (some .boolean), Cond.methodLink RX9 123 yX9_element, Cond.instanceMethod yX9_element, Cond.selects RX9 yX9_element yX9_element, Cond.code yX9_element cX9_element 3 (some .long), Cond.fieldLink RX9 21 "ThrowModelsModel" "ints" "[I", Cond.fieldLink RX9 17 "ThrowModelsModel" "base" "[I", Cond.fieldLink RX9 24 "ThrowModelsModel" "others" "[J"]
def wsX9_pass : List Cond := .code yX9_pass cX9_pass 5 (some .long) :: ((wsX9_pass_r1 ++ wsX9_pass_r2) ++ wsX90)
def wsX9_trace : List Cond := .code yX9_trace cX9_trace 1 (some .int) :: ([.fieldLink RX9 201 "ThrowModelsModel" "trace" "I"] ++ wsX90)
def wsX9_latest : List Cond := .code yX9_latest cX9_latest 1 (some .int) :: ([.fieldLink RX9 34 "ThrowModelsModel" "latest" "I"] ++ wsX90)
def wsX9_thrown : List Cond := .code yX9_thrown cX9_thrown 2 (some .int) :: ([.fieldLink RX9 31 "ThrowModelsModel" "counts" "[I", .methodLink RX9 59 yX9_in, .static yX9_in, .initialized RX9, .code yX9_in cX9_in 3 (some .boolean)] ++ wsX90)
def wsJ9_abs_067f4 : List Cond := .code yJ9_abs_067f4 cJ9_abs_067f4 2 (some .long) :: ([])
def wsJ9_max_7cf53 : List Cond := .code yJ9_max_7cf53 cJ9_max_7cf53 2 (some .int) :: ([])
def wsJ9_max_f86c9 : List Cond := .code yJ9_max_f86c9 cJ9_max_f86c9 4 (some .long) :: ([])
def wsJ9_min_7cf53 : List Cond := .code yJ9_min_7cf53 cJ9_min_7cf53 2 (some .int) :: ([])
def wsJ9_min_f86c9 : List Cond := .code yJ9_min_f86c9 cJ9_min_f86c9 4 (some .long) :: ([])
def wsL_law_r1 : List Cond := [Cond.classLink RL 7 RX8, Cond.instantiable RX8 4, Cond.initialized RX8, Cond.classLink RL 10 RX9, Cond.instantiable RX9 12, Cond.initialized RX9, Cond.constantLong RL 44 (4294967295), Cond.methodLink RL 9 yX8_init, Cond.instanceMethod yX8_init, Cond.code yX8_init cX8_init 1 none, Cond.methodLink RX8 1 objectInit, Cond.instanceMethod objectInit, Cond.code objectInit ⟨#[0xb1]⟩ 1 none, Cond.classLink RX8 9 RX6, Cond.fieldLink RX8 11 "ThrowModels" "cells" "[LThrowModels$Thing;", Cond.arrayClass .int, Cond.fieldLink RX8 15 "ThrowModels" "throwCounts" "[I", Cond.fieldLink RX8 19 "ThrowModels" "latestThrow" "I", Cond.fieldLink RX8 23 "ThrowModels" "latestTrace" "I", Cond.methodLink RL 12 yX9_init, Cond.instanceMethod yX9_init, Cond.code yX9_init cX9_init 1 none, Cond.methodLink RX9 1 objectInit, Cond.constant RX9 7 (33400)]
def wsL_law_r2 : List Cond := [Cond.fieldLink RX9 8 "ThrowModelsModel" "kind" "[I", Cond.fieldLink RX9 14 "ThrowModelsModel" "length" "[I", Cond.fieldLink RX9 17 "ThrowModelsModel" "base" "[I", Cond.constant RX9 20 (2130000), Cond.fieldLink RX9 21 "ThrowModelsModel" "ints" "[I", Cond.arrayClass .long, Cond.fieldLink RX9 24 "ThrowModelsModel" "others" "[J", Cond.fieldLink RX9 28 "ThrowModelsModel" "cells" "[I", Cond.fieldLink RX9 31 "ThrowModelsModel" "counts" "[I", Cond.methodLink RL 13 yX8_make, Cond.instanceMethod yX8_make, Cond.selects RX8 yX8_make yX8_make, Cond.code yX8_make cX8_make 5 (some .int), Cond.methodLink RX8 26 yX8_makeCause, Cond.static yX8_makeCause, Cond.code yX8_makeCause cX8_makeCause 5 (some .int), Cond.methodLink RX8 38 yX8_isCell, Cond.static yX8_isCell, Cond.code yX8_isCell cX8_isCell 1 (some .boolean), Cond.methodLink RX8 30 yX8_stops, Cond.instanceMethod yX8_stops, Cond.selects RX8 yX8_stops yX8_stops, Cond.code yX8_stops cX8_stops 2 (some .boolean), Cond.methodLink RX8 34 yX8_newThing]
def wsL_law_r3 : List Cond := [Cond.static yX8_newThing, Cond.code yX8_newThing cX8_newThing 3 (some (.object "ThrowModels$Thing")), Cond.classLink RX8 122 RX2, Cond.instantiable RX2 3, Cond.initialized RX2, Cond.classLink RX8 234 RX4, Cond.instantiable RX4 3, Cond.initialized RX4, Cond.classLink RX8 237 RX5, Cond.instantiable RX5 3, Cond.initialized RX5, Cond.classLink RX8 102 RX7, Cond.instantiable RX7 3, Cond.initialized RX7, Cond.classLink RX8 45 RX1, Cond.instantiable RX1 3, Cond.initialized RX1, Cond.methodLink RX8 233 yX2_init, Cond.instanceMethod yX2_init, Cond.code yX2_init cX2_init 3 none, Cond.fieldLink RX2 7 "ThrowModels$Plain" "value" "I", Cond.methodLink RX2 1 yX6_init, Cond.instanceMethod yX6_init, Cond.initialized RX6]
def wsL_law_r4 : List Cond := [Cond.code yX6_init cX6_init 3 none, Cond.methodLink RX6 3 objectInit, Cond.fieldLink RX6 9 "ThrowModels$Thing" "kind" "I", Cond.fieldLink RX6 15 "ThrowModels$Thing" "length" "I", Cond.methodLink RX8 236 yX4_init, Cond.instanceMethod yX4_init, Cond.code yX4_init cX4_init 3 none, Cond.methodLink RX4 1 yX2_init, Cond.methodLink RX8 239 yX5_init, Cond.instanceMethod yX5_init, Cond.code yX5_init cX5_init 2 none, Cond.methodLink RX5 3 yX4_init, Cond.methodLink RX8 242 yX7_init, Cond.instanceMethod yX7_init, Cond.code yX7_init cX7_init 3 none, Cond.classLink RX7 2 RX6, Cond.fieldLink RX7 7 "ThrowModels$ThingArray" "elements" "[LThrowModels$Thing;", Cond.methodLink RX7 1 yX6_init, Cond.methodLink RX8 243 yX8_newRows, Cond.static yX8_newRows, Cond.code yX8_newRows cX8_newRows 4 (some (.object "ThrowModels$ThingArray")), Cond.fieldLink RX8 247 "ThrowModels$ThingArray" "length" "I", Cond.sameField "ThrowModels$ThingArray" "ThrowModels$Thing" "length" "I", Cond.fieldLink RX8 105 "ThrowModels$ThingArray" "elements" "[LThrowModels$Thing;"]
def wsL_law_r5 : List Cond := [Cond.methodLink RX8 50 yX1_init, Cond.instanceMethod yX1_init, Cond.code yX1_init cX1_init 3 none, Cond.fieldLink RX1 7 "ThrowModels$NumberArray" "numbers" "[J", Cond.methodLink RX1 1 yX6_init, Cond.methodLink RL 17 yX9_make, Cond.instanceMethod yX9_make, Cond.selects RX9 yX9_make yX9_make, Cond.code yX9_make cX9_make 7 (some .int), Cond.methodLink RX9 76 yX9_begin, Cond.instanceMethod yX9_begin, Cond.selects RX9 yX9_begin yX9_begin, Cond.code yX9_begin cX9_begin 1 none, Cond.fieldLink RX9 34 "ThrowModelsModel" "latest" "I", Cond.methodLink RX9 59 yX9_in, Cond.static yX9_in, Cond.code yX9_in cX9_in 3 (some .boolean), Cond.methodLink RX9 79 yX9_isCell, Cond.static yX9_isCell, Cond.code yX9_isCell cX9_isCell 1 (some .boolean), Cond.methodLink RX9 83 yX9_fails, Cond.instanceMethod yX9_fails, Cond.selects RX9 yX9_fails yX9_fails, Cond.code yX9_fails cX9_fails 2 (some .int)]
def wsL_law_r6 : List Cond := [Cond.methodLink RX9 87 yX9_thing, Cond.instanceMethod yX9_thing, Cond.selects RX9 yX9_thing yX9_thing, Cond.code yX9_thing cX9_thing 3 (some .int), Cond.fieldLink RX9 67 "ThrowModelsModel" "things" "I", Cond.fieldLink RX9 70 "ThrowModelsModel" "usedInts" "I", Cond.fieldLink RX9 73 "ThrowModelsModel" "usedOthers" "I", Cond.methodLink RL 18 yX8_move, Cond.instanceMethod yX8_move, Cond.selects RX8 yX8_move yX8_move, Cond.code yX8_move cX8_move 4 (some .int), Cond.methodLink RL 22 yX9_move, Cond.instanceMethod yX9_move, Cond.selects RX9 yX9_move yX9_move, Cond.code yX9_move cX9_move 3 (some .int), Cond.methodLink RL 23 yX8_twin, Cond.instanceMethod yX8_twin, Cond.selects RX8 yX8_twin yX8_twin, Cond.code yX8_twin cX8_twin 6 (some .int), Cond.classLink RX8 45 "ThrowModels$NumberArray", Cond.fieldLink RX8 47 "ThrowModels$NumberArray" "length" "I", Cond.sameField "ThrowModels$NumberArray" "ThrowModels$Thing" "length" "I", Cond.fieldLink RX8 53 "ThrowModels$NumberArray" "numbers" "[J", Cond.methodLink RX8 57 arraycopyName]
def wsL_law_r7 : List Cond := [Cond.native arraycopyName, Cond.static arraycopyName, Cond.initialized "java/lang/System", Cond.methodLink RX8 41 yX8_castCause, Cond.static yX8_castCause, Cond.code yX8_castCause cX8_castCause 2 (some .int), Cond.methodLink RX8 217 yX8_passesCast, Cond.static yX8_passesCast, Cond.code yX8_passesCast cX8_passesCast 2 (some .boolean), Cond.methodLink RX8 63 ⟨"ThrowModels$Thing", "isOf", "(I)Z"⟩, Cond.sameMethod "ThrowModels$Thing" "ThrowModels$Thing" "isOf" "(I)Z", Cond.selects RX1 ⟨"ThrowModels$Thing", "isOf", "(I)Z"⟩ yX6_isOf, Cond.instanceMethod yX6_isOf, Cond.code yX6_isOf cX6_isOf 2 (some .boolean), Cond.selects RX2 ⟨"ThrowModels$Thing", "isOf", "(I)Z"⟩ yX6_isOf, Cond.selects RX4 ⟨"ThrowModels$Thing", "isOf", "(I)Z"⟩ yX6_isOf, Cond.selects RX5 ⟨"ThrowModels$Thing", "isOf", "(I)Z"⟩ yX6_isOf, Cond.selects RX7 ⟨"ThrowModels$Thing", "isOf", "(I)Z"⟩ yX6_isOf, Cond.methodLink RL 26 yX9_twin, Cond.instanceMethod yX9_twin, Cond.selects RX9 yX9_twin yX9_twin, Cond.code yX9_twin cX9_twin 6 (some .int), Cond.methodLink RX9 91 yX9_passes, Cond.instanceMethod yX9_passes]
def wsL_law_r8 : List Cond := [Cond.selects RX9 yX9_passes yX9_passes, Cond.code yX9_passes cX9_passes 3 (some .boolean), Cond.methodLink RX9 63 yX9_isKindOf, Cond.static yX9_isKindOf, Cond.code yX9_isKindOf cX9_isKindOf 2 (some .boolean), Cond.methodLink RL 27 yX8_is, Cond.instanceMethod yX8_is, Cond.selects RX8 yX8_is yX8_is, Cond.code yX8_is cX8_is 4 (some .int), Cond.methodLink RL 30 yX9_is, Cond.instanceMethod yX9_is, Cond.selects RX9 yX9_is yX9_is, Cond.code yX9_is cX9_is 3 (some .int), Cond.methodLink RL 31 yX8_same, Cond.instanceMethod yX8_same, Cond.selects RX8 yX8_same yX8_same, Cond.code yX8_same cX8_same 3 (some .int), Cond.methodLink RL 34 yX9_same, Cond.instanceMethod yX9_same, Cond.selects RX9 yX9_same yX9_same, Cond.code yX9_same cX9_same 3 (some .int), Cond.methodLink RL 35 yX8_length, Cond.instanceMethod yX8_length, Cond.selects RX8 yX8_length yX8_length]
def wsL_law_r9 : List Cond := [Cond.code yX8_length cX8_length 5 (some .int), Cond.fieldLink RX8 69 "ThrowModels$Thing" "length" "I", Cond.methodLink RX8 66 yX8_isArrayType, Cond.static yX8_isArrayType, Cond.code yX8_isArrayType cX8_isArrayType 1 (some .boolean), Cond.methodLink RX8 70 yX8_isNumberType, Cond.static yX8_isNumberType, Cond.code yX8_isNumberType cX8_isNumberType 1 (some .boolean), Cond.methodLink RX8 91 yX8_isThingArrayType, Cond.static yX8_isThingArrayType, Cond.code yX8_isThingArrayType cX8_isThingArrayType 1 (some .boolean), Cond.methodLink RL 38 yX9_length, Cond.instanceMethod yX9_length, Cond.selects RX9 yX9_length yX9_length, Cond.code yX9_length cX9_length 4 (some .int), Cond.methodLink RL 39 yX8_load, Cond.instanceMethod yX8_load, Cond.selects RX8 yX8_load yX8_load, Cond.code yX8_load cX8_load 5 (some .long), Cond.methodLink RX8 73 yX8_elementCause, Cond.static yX8_elementCause, Cond.code yX8_elementCause cX8_elementCause 4 (some .int), Cond.methodLink RX8 221 ⟨"ThrowModels$Thing", "holds", "(I)Z"⟩, Cond.sameMethod "ThrowModels$Thing" "ThrowModels$Thing" "holds" "(I)Z"]
def wsL_law_r10 : List Cond := [Cond.selects RX1 ⟨"ThrowModels$Thing", "holds", "(I)Z"⟩ yX6_holds, Cond.instanceMethod yX6_holds, Cond.code yX6_holds cX6_holds 2 (some .boolean), Cond.selects RX2 ⟨"ThrowModels$Thing", "holds", "(I)Z"⟩ yX6_holds, Cond.selects RX4 ⟨"ThrowModels$Thing", "holds", "(I)Z"⟩ yX6_holds, Cond.selects RX5 ⟨"ThrowModels$Thing", "holds", "(I)Z"⟩ yX6_holds, Cond.selects RX7 ⟨"ThrowModels$Thing", "holds", "(I)Z"⟩ yX6_holds, Cond.methodLink RX8 77 yX8_numberAt, Cond.static yX8_numberAt, Cond.code yX8_numberAt cX8_numberAt 3 (some .long), Cond.methodLink RX8 81 ⟨"ThrowModels$NumberArray", "holds", "(I)Z"⟩, Cond.sameMethod "ThrowModels$NumberArray" "ThrowModels$Thing" "holds" "(I)Z", Cond.selects RX1 ⟨"ThrowModels$NumberArray", "holds", "(I)Z"⟩ yX6_holds, Cond.methodLink RL 43 yX9_load, Cond.instanceMethod yX9_load, Cond.selects RX9 yX9_load yX9_load, Cond.code yX9_load cX9_load 5 (some .long), Cond.methodLink RX9 119 yX9_against, Cond.instanceMethod yX9_against, Cond.selects RX9 yX9_against yX9_against, Cond.code yX9_against cX9_against 4 (some .int), Cond.methodLink RX9 123 yX9_element, Cond.instanceMethod yX9_element, Cond.selects RX9 yX9_element yX9_element]
def wsL_law_r11 : List Cond := [Cond.code yX9_element cX9_element 3 (some .long), Cond.methodLink RL 46 yX8_store, Cond.instanceMethod yX8_store, Cond.selects RX8 yX8_store yX8_store, Cond.code yX8_store cX8_store 9 (some .int), Cond.fieldLink RX8 84 "ThrowModels$NumberArray" "kind" "I", Cond.sameField "ThrowModels$NumberArray" "ThrowModels$Thing" "kind" "I", Cond.methodLink RX8 87 yX8_cutToWidth, Cond.static yX8_cutToWidth, Cond.code yX8_cutToWidth cX8_cutToWidth 3 (some .long), Cond.fieldLink RX8 194 "ThrowModels$Format" "FLOAT" "LThrowModels$Format;", Cond.fieldLink RX8 170 "ThrowModels$Format" "DOUBLE" "LThrowModels$Format;", Cond.methodLink RX8 176 yX0_isNaN, Cond.instanceMethod yX0_isNaN, Cond.selects RX0 yX0_isNaN yX0_isNaN, Cond.initialized RX0, Cond.code yX0_isNaN cX0_isNaN 3 (some .boolean), Cond.fieldLink RX0 36 "ThrowModels$Format" "infinity" "J", Cond.methodLink RX0 43 yX0_magnitude, Cond.instanceMethod yX0_magnitude, Cond.selects RX0 yX0_magnitude yX0_magnitude, Cond.code yX0_magnitude cX0_magnitude 3 (some .long), Cond.fieldLink RX0 40 "ThrowModels$Format" "signBit" "J", Cond.methodLink RX8 180 yX0_plainNaN]
def wsL_law_r12 : List Cond := [Cond.instanceMethod yX0_plainNaN, Cond.selects RX0 yX0_plainNaN yX0_plainNaN, Cond.code yX0_plainNaN cX0_plainNaN 1 (some .long), Cond.fieldLink RX0 29 "ThrowModels$Format" "fractionBits" "I", Cond.methodLink RL 50 yX9_store, Cond.instanceMethod yX9_store, Cond.selects RX9 yX9_store yX9_store, Cond.code yX9_store cX9_store 7 (some .int), Cond.methodLink RX9 127 yX9_cut, Cond.static yX9_cut, Cond.code yX9_cut cX9_cut 3 (some .long), Cond.methodLink RX9 106 yX9_singleBits, Cond.static yX9_singleBits, Cond.code yX9_singleBits cX9_singleBits 1 (some .float), Cond.constant RX9 50 (2147483647), Cond.constant RX9 51 (2139095040), Cond.constantFloat RX9 54 (2143289344), Cond.methodLink RX9 55 ⟨"java/lang/Float", "intBitsToFloat", "(I)F"⟩, Cond.native ⟨"java/lang/Float", "intBitsToFloat", "(I)F"⟩, Cond.static ⟨"java/lang/Float", "intBitsToFloat", "(I)F"⟩, Cond.initialized "java/lang/Float", Cond.methodLink RX9 109 yX9_floatBits, Cond.static yX9_floatBits, Cond.code yX9_floatBits cX9_floatBits 1 (some .long)]
def wsL_law_r13 : List Cond := [Cond.constantLong RX9 100 (2143289344), Cond.methodLink RX9 102 yJxf58ca_floatToIntBits_5c35a, Cond.static yJxf58ca_floatToIntBits_5c35a, Cond.initialized RJxf58ca, Cond.code yJxf58ca_floatToIntBits_5c35a cJxf58ca_floatToIntBits_5c35a 1 (some .int), Cond.methodLink RJxf58ca 74 ⟨"java/lang/Float", "floatToRawIntBits", "(F)I"⟩, Cond.native ⟨"java/lang/Float", "floatToRawIntBits", "(F)I"⟩, Cond.static ⟨"java/lang/Float", "floatToRawIntBits", "(F)I"⟩, Cond.constant RJxf58ca 77 (2143289344), Cond.methodLink RJxf58ca 59 yJxf58ca_isNaN_12338, Cond.static yJxf58ca_isNaN_12338, Cond.code yJxf58ca_isNaN_12338 cJxf58ca_isNaN_12338 1 (some .boolean), Cond.methodLink RX9 113 yX9_realBits, Cond.static yX9_realBits, Cond.code yX9_realBits cX9_realBits 2 (some .double), Cond.constantLong RX9 38 (9223372036854775807), Cond.constantLong RX9 40 (9218868437227405312), Cond.constantDouble RX9 44 (9221120237041090560), Cond.methodLink RX9 46 ⟨"java/lang/Double", "longBitsToDouble", "(J)D"⟩, Cond.native ⟨"java/lang/Double", "longBitsToDouble", "(J)D"⟩, Cond.static ⟨"java/lang/Double", "longBitsToDouble", "(J)D"⟩, Cond.initialized "java/lang/Double", Cond.methodLink RX9 116 yX9_doubleBits, Cond.static yX9_doubleBits]
def wsL_law_r14 : List Cond := [Cond.code yX9_doubleBits cX9_doubleBits 2 (some .long), Cond.constantLong RX9 94 (9221120237041090560), Cond.methodLink RX9 96 yJxe99ae_doubleToLongBits_ccdee, Cond.static yJxe99ae_doubleToLongBits_ccdee, Cond.initialized RJxe99ae, Cond.code yJxe99ae_doubleToLongBits_ccdee cJxe99ae_doubleToLongBits_ccdee 2 (some .long), Cond.methodLink RJxe99ae 134 ⟨"java/lang/Double", "doubleToRawLongBits", "(D)J"⟩, Cond.native ⟨"java/lang/Double", "doubleToRawLongBits", "(D)J"⟩, Cond.static ⟨"java/lang/Double", "doubleToRawLongBits", "(D)J"⟩, Cond.constantLong RJxe99ae 137 (9221120237041090560), Cond.methodLink RJxe99ae 122 yJxe99ae_isNaN_b9ae7, Cond.static yJxe99ae_isNaN_b9ae7, Cond.code yJxe99ae_isNaN_b9ae7 cJxe99ae_isNaN_b9ae7 2 (some .boolean), Cond.methodLink RX9 131 yX9_set, Cond.instanceMethod yX9_set, Cond.selects RX9 yX9_set yX9_set, Cond.code yX9_set cX9_set 5 none, Cond.methodLink RL 51 yX8_take, Cond.instanceMethod yX8_take, Cond.selects RX8 yX8_take yX8_take, Cond.code yX8_take cX8_take 6 (some .int), Cond.methodLink RX8 94 yX8_elementAt, Cond.static yX8_elementAt, Cond.code yX8_elementAt cX8_elementAt 3 (some (.object "ThrowModels$Thing"))]
def wsL_law_r15 : List Cond := [Cond.classLink RX8 102 "ThrowModels$ThingArray", Cond.methodLink RX8 104 ⟨"ThrowModels$ThingArray", "holds", "(I)Z"⟩, Cond.sameMethod "ThrowModels$ThingArray" "ThrowModels$Thing" "holds" "(I)Z", Cond.selects RX7 ⟨"ThrowModels$ThingArray", "holds", "(I)Z"⟩ yX6_holds, Cond.methodLink RL 54 yX9_take, Cond.instanceMethod yX9_take, Cond.selects RX9 yX9_take yX9_take, Cond.code yX9_take cX9_take 6 (some .int), Cond.methodLink RX9 135 yX9_isHolder, Cond.static yX9_isHolder, Cond.code yX9_isHolder cX9_isHolder 1 (some .boolean), Cond.methodLink RL 55 yX8_put, Cond.instanceMethod yX8_put, Cond.selects RX8 yX8_put yX8_put, Cond.code yX8_put cX8_put 8 (some .int), Cond.methodLink RX8 98 yX8_putCause, Cond.static yX8_putCause, Cond.code yX8_putCause cX8_putCause 4 (some .int), Cond.fieldLink RX8 225 "ThrowModels$Thing" "kind" "I", Cond.methodLink RX8 222 yX8_elementTypeOfType, Cond.static yX8_elementTypeOfType, Cond.code yX8_elementTypeOfType cX8_elementTypeOfType 1 (some .int), Cond.methodLink RX8 226 yX8_elementTypeOfKind, Cond.static yX8_elementTypeOfKind]
def wsL_law_r16 : List Cond := [Cond.code yX8_elementTypeOfKind cX8_elementTypeOfKind 1 (some .int), Cond.methodLink RL 58 yX9_put, Cond.instanceMethod yX9_put, Cond.selects RX9 yX9_put yX9_put, Cond.code yX9_put cX9_put 8 (some .int), Cond.methodLink RX9 138 yX9_elementType, Cond.static yX9_elementType, Cond.code yX9_elementType cX9_elementType 1 (some .int), Cond.methodLink RL 59 yX8_cross, Cond.instanceMethod yX8_cross, Cond.selects RX8 yX8_cross yX8_cross, Cond.code yX8_cross cX8_cross 4 (some .int), Cond.methodLink RX8 108 yX8_crossCause, Cond.static yX8_crossCause, Cond.code yX8_crossCause cX8_crossCause 4 (some .int), Cond.methodLink RL 63 yX9_cross, Cond.instanceMethod yX9_cross, Cond.selects RX9 yX9_cross yX9_cross, Cond.code yX9_cross cX9_cross 6 (some .int), Cond.methodLink RL 64 yX8_copy, Cond.instanceMethod yX8_copy, Cond.selects RX8 yX8_copy yX8_copy, Cond.code yX8_copy cX8_copy 8 (some .int), Cond.methodLink RX8 112 yX8_copyCause]
def wsL_law_r17 : List Cond := [Cond.static yX8_copyCause, Cond.code yX8_copyCause cX8_copyCause 8 (some .int), Cond.methodLink RX8 116 yX8_copyElements, Cond.static yX8_copyElements, Cond.code yX8_copyElements cX8_copyElements 7 (some .int), Cond.methodLink RX8 248 yX8_copyThings, Cond.static yX8_copyThings, Cond.code yX8_copyThings cX8_copyThings 8 (some .int), Cond.fieldLink RX8 256 "ThrowModels$ThingArray" "kind" "I", Cond.sameField "ThrowModels$ThingArray" "ThrowModels$Thing" "kind" "I", Cond.methodLink RX8 252 yX8_shiftThings, Cond.static yX8_shiftThings, Cond.code yX8_shiftThings cX8_shiftThings 6 none, Cond.methodLink RL 68 yX9_copy, Cond.instanceMethod yX9_copy, Cond.selects RX9 yX9_copy yX9_copy, Cond.code yX9_copy cX9_copy 11 (some .int), Cond.methodLink RX9 141 yX9_isFamily, Cond.static yX9_isFamily, Cond.code yX9_isFamily cX9_isFamily 1 (some .boolean), Cond.methodLink RX9 144 yX9_isBeyond, Cond.instanceMethod yX9_isBeyond, Cond.selects RX9 yX9_isBeyond yX9_isBeyond, Cond.code yX9_isBeyond cX9_isBeyond 4 (some .boolean)]
def wsL_law_r18 : List Cond := [Cond.methodLink RL 69 yX8_field, Cond.instanceMethod yX8_field, Cond.selects RX8 yX8_field yX8_field, Cond.code yX8_field cX8_field 6 (some .int), Cond.classLink RX8 122 "ThrowModels$Plain", Cond.fieldLink RX8 124 "ThrowModels$Plain" "value" "I", Cond.methodLink RX8 119 yX8_isOwnType, Cond.static yX8_isOwnType, Cond.code yX8_isOwnType cX8_isOwnType 1 (some .boolean), Cond.methodLink RL 72 yX9_field, Cond.instanceMethod yX9_field, Cond.selects RX9 yX9_field yX9_field, Cond.code yX9_field cX9_field 4 (some .int), Cond.methodLink RL 73 yX8_write, Cond.instanceMethod yX8_write, Cond.selects RX8 yX8_write yX8_write, Cond.code yX8_write cX8_write 7 (some .int), Cond.methodLink RL 76 yX9_write, Cond.instanceMethod yX9_write, Cond.selects RX9 yX9_write yX9_write, Cond.code yX9_write cX9_write 5 (some .int), Cond.methodLink RL 77 yX8_call, Cond.instanceMethod yX8_call, Cond.selects RX8 yX8_call yX8_call]
def wsL_law_r19 : List Cond := [Cond.code yX8_call cX8_call 6 (some .int), Cond.methodLink RX8 127 yX8_callCause, Cond.static yX8_callCause, Cond.code yX8_callCause cX8_callCause 4 (some .int), Cond.methodLink RX8 229 yX2_size, Cond.instanceMethod yX2_size, Cond.selects RX2 yX2_size yX2_size, Cond.code yX2_size cX2_size 1 (some .int), Cond.methodLink RX8 229 ⟨"ThrowModels$Plain", "size", "()I"⟩, Cond.sameMethod "ThrowModels$Plain" "ThrowModels$Plain" "size" "()I", Cond.instanceMethod ⟨"ThrowModels$Plain", "size", "()I"⟩, Cond.selects RX4 ⟨"ThrowModels$Plain", "size", "()I"⟩ yX4_size, Cond.instanceMethod yX4_size, Cond.code yX4_size cX4_size 1 (some .int), Cond.fieldLink RX4 7 "ThrowModels$Round" "value" "I", Cond.sameField "ThrowModels$Round" "ThrowModels$Plain" "value" "I", Cond.selects RX5 ⟨"ThrowModels$Plain", "size", "()I"⟩ yX5_size, Cond.instanceMethod yX5_size, Cond.code yX5_size cX5_size 1 (some .int), Cond.fieldLink RX5 9 "ThrowModels$Square" "value" "I", Cond.sameField "ThrowModels$Square" "ThrowModels$Plain" "value" "I", Cond.methodLink RX8 131 yX8_callAnswer, Cond.static yX8_callAnswer, Cond.code yX8_callAnswer cX8_callAnswer 2 (some .int)]
def wsL_law_r20 : List Cond := [Cond.methodLink RX8 257 yX2_twice, Cond.instanceMethod yX2_twice, Cond.selects RX2 yX2_twice yX2_twice, Cond.code yX2_twice cX2_twice 1 (some .int), Cond.methodLink RX2 13 yX2_size, Cond.methodLink RX2 13 ⟨"ThrowModels$Plain", "size", "()I"⟩, Cond.methodLink RX8 257 ⟨"ThrowModels$Plain", "twice", "()I"⟩, Cond.sameMethod "ThrowModels$Plain" "ThrowModels$Plain" "twice" "()I", Cond.instanceMethod ⟨"ThrowModels$Plain", "twice", "()I"⟩, Cond.selects RX4 ⟨"ThrowModels$Plain", "twice", "()I"⟩ yX4_twice, Cond.instanceMethod yX4_twice, Cond.code yX4_twice cX4_twice 1 (some .int), Cond.methodLink RX4 13 yX4_size, Cond.selects RX4 yX4_size yX4_size, Cond.methodLink RX4 13 ⟨"ThrowModels$Round", "size", "()I"⟩, Cond.sameMethod "ThrowModels$Round" "ThrowModels$Round" "size" "()I", Cond.instanceMethod ⟨"ThrowModels$Round", "size", "()I"⟩, Cond.selects RX5 ⟨"ThrowModels$Round", "size", "()I"⟩ yX5_size, Cond.selects RX5 ⟨"ThrowModels$Plain", "twice", "()I"⟩ yX4_twice, Cond.methodLink RX8 260 yX2_mark, Cond.instanceMethod yX2_mark, Cond.selects RX2 yX2_mark yX2_mark, Cond.code yX2_mark cX2_mark 1 (some .int), Cond.methodLink RX8 260 ⟨"ThrowModels$Plain", "mark", "()I"⟩]
def wsL_law_r21 : List Cond := [Cond.sameMethod "ThrowModels$Plain" "ThrowModels$Plain" "mark" "()I", Cond.selects RX4 ⟨"ThrowModels$Plain", "mark", "()I"⟩ yX2_mark, Cond.instanceMethod ⟨"ThrowModels$Plain", "mark", "()I"⟩, Cond.selects RX5 ⟨"ThrowModels$Plain", "mark", "()I"⟩ yX5_mark, Cond.instanceMethod yX5_mark, Cond.code yX5_mark cX5_mark 1 (some .int), Cond.methodLink RX8 263 yX2_step, Cond.instanceMethod yX2_step, Cond.selects RX2 yX2_step yX2_step, Cond.code yX2_step cX2_step 1 (some .int), Cond.methodLink RX8 263 ⟨"ThrowModels$Plain", "step", "()I"⟩, Cond.sameMethod "ThrowModels$Plain" "ThrowModels$Plain" "step" "()I", Cond.instanceMethod ⟨"ThrowModels$Plain", "step", "()I"⟩, Cond.selects RX4 ⟨"ThrowModels$Plain", "step", "()I"⟩ yX4_step, Cond.instanceMethod yX4_step, Cond.code yX4_step cX4_step 1 (some .int), Cond.methodLink RX4 17 yX2_step, Cond.superclass RX4 RX2, Cond.selects RX5 ⟨"ThrowModels$Plain", "step", "()I"⟩ yX5_step, Cond.instanceMethod yX5_step, Cond.code yX5_step cX5_step 1 (some .int), Cond.methodLink RX5 19 yX4_step, Cond.sameMethod "ThrowModels$Round" "ThrowModels$Round" "step" "()I", Cond.superclass RX5 RX4]
def wsL_law_r22 : List Cond := [Cond.methodLink RL 80 yX9_call, Cond.instanceMethod yX9_call, Cond.selects RX9 yX9_call yX9_call, Cond.code yX9_call cX9_call 7 (some .int), Cond.methodLink RL 81 yX8_divide, Cond.instanceMethod yX8_divide, Cond.selects RX8 yX8_divide yX8_divide, Cond.code yX8_divide cX8_divide 6 (some .long), Cond.methodLink RX8 135 yX8_divideCause, Cond.static yX8_divideCause, Cond.code yX8_divideCause cX8_divideCause 4 (some .int), Cond.methodLink RL 85 yX9_divide, Cond.instanceMethod yX9_divide, Cond.selects RX9 yX9_divide yX9_divide, Cond.code yX9_divide cX9_divide 8 (some .long), Cond.methodLink RL 86 yX8_real, Cond.instanceMethod yX8_real, Cond.selects RX8 yX8_real yX8_real, Cond.code yX8_real cX8_real 6 (some .long), Cond.methodLink RX8 139 yX3_sum, Cond.static yX3_sum, Cond.initialized RX3, Cond.code yX3_sum cX3_sum 9 (some .long), Cond.fieldLink RX3 11 "ThrowModels$Format" "DOUBLE" "LThrowModels$Format;"]
def wsL_law_r23 : List Cond := [Cond.methodLink RX3 17 yX0_isNaN, Cond.methodLink RX3 21 yX0_plainNaN, Cond.methodLink RX3 25 yX0_isInfinite, Cond.instanceMethod yX0_isInfinite, Cond.selects RX0 yX0_isInfinite yX0_isInfinite, Cond.code yX0_isInfinite cX0_isInfinite 3 (some .boolean), Cond.methodLink RX3 28 yX0_magnitude, Cond.methodLink RX3 32 yX0_isZero, Cond.instanceMethod yX0_isZero, Cond.selects RX0 yX0_isZero yX0_isZero, Cond.code yX0_isZero cX0_isZero 3 (some .boolean), Cond.methodLink RX3 35 yX3_sumOfFinite, Cond.static yX3_sumOfFinite, Cond.code yX3_sumOfFinite cX3_sumOfFinite 13 (some .long), Cond.methodLink RX3 39 yX0_exponent, Cond.instanceMethod yX0_exponent, Cond.selects RX0 yX0_exponent yX0_exponent, Cond.code yX0_exponent cX0_exponent 4 (some .int), Cond.fieldLink RX0 33 "ThrowModels$Format" "lowestExponent" "I", Cond.methodLink RX0 54 Lib.Math.max.name, Cond.static Lib.Math.max.name, Cond.initialized "java/lang/Math", Cond.code Lib.Math.max.name Lib.Math.max.code 2 (some .int), Cond.methodLink RX0 51 yX0_missingPlaces]
def wsL_law_r24 : List Cond := [Cond.instanceMethod yX0_missingPlaces, Cond.selects RX0 yX0_missingPlaces yX0_missingPlaces, Cond.code yX0_missingPlaces cX0_missingPlaces 5 (some .int), Cond.methodLink RX0 47 yX0_highestBit, Cond.static yX0_highestBit, Cond.code yX0_highestBit cX0_highestBit 4 (some .int), Cond.methodLink RX3 43 yX0_significand, Cond.instanceMethod yX0_significand, Cond.selects RX0 yX0_significand yX0_significand, Cond.code yX0_significand cX0_significand 7 (some .long), Cond.methodLink RX3 46 yX3_movedDown, Cond.static yX3_movedDown, Cond.code yX3_movedDown cX3_movedDown 5 (some .long), Cond.methodLink RX3 50 yX0_pack, Cond.instanceMethod yX0_pack, Cond.selects RX0 yX0_pack yX0_pack, Cond.code yX0_pack cX0_pack 10 (some .long), Cond.methodLink RX0 60 yX0_rounded, Cond.static yX0_rounded, Cond.code yX0_rounded cX0_rounded 10 (some .long), Cond.methodLink RX8 145 yX3_difference, Cond.static yX3_difference, Cond.code yX3_difference cX3_difference 4 (some .long), Cond.constantLong RX3 54 (-9223372036854775808)]
def wsL_law_r25 : List Cond := [Cond.methodLink RX3 56 yX3_sum, Cond.methodLink RX8 148 yX3_product, Cond.static yX3_product, Cond.code yX3_product cX3_product 7 (some .long), Cond.fieldLink RX3 59 "ThrowModels$Format" "infinity" "J", Cond.methodLink RX3 63 yX3_productOfFinite, Cond.static yX3_productOfFinite, Cond.code yX3_productOfFinite cX3_productOfFinite 25 (some .long), Cond.constantLong RX3 66 (134217727), Cond.methodLink RX8 151 yX3_quotient, Cond.static yX3_quotient, Cond.code yX3_quotient cX3_quotient 6 (some .long), Cond.methodLink RX3 68 yX3_quotientOfFinite, Cond.static yX3_quotientOfFinite, Cond.code yX3_quotientOfFinite cX3_quotientOfFinite 12 (some .long), Cond.methodLink RX8 154 yX3_remainder, Cond.static yX3_remainder, Cond.code yX3_remainder cX3_remainder 6 (some .long), Cond.methodLink RX3 71 yX3_remainderOfFinite, Cond.static yX3_remainderOfFinite, Cond.code yX3_remainderOfFinite cX3_remainderOfFinite 10 (some .long), Cond.methodLink RX3 74 Lib.Math.min.name, Cond.static Lib.Math.min.name, Cond.code Lib.Math.min.name Lib.Math.min.code 2 (some .int)]
def wsL_law_r26 : List Cond := [Cond.methodLink RX8 157 yX3_greater, Cond.static yX3_greater, Cond.code yX3_greater cX3_greater 4 (some .long), Cond.methodLink RX3 80 yX3_rankWithSignOfZero, Cond.static yX3_rankWithSignOfZero, Cond.code yX3_rankWithSignOfZero cX3_rankWithSignOfZero 2 (some .long), Cond.constantLong RX3 83 (-1), Cond.methodLink RX8 160 yX3_lesser, Cond.static yX3_lesser, Cond.code yX3_lesser cX3_lesser 4 (some .long), Cond.methodLink RX8 163 yX3_withSignOf, Cond.static yX3_withSignOf, Cond.code yX3_withSignOf cX3_withSignOf 6 (some .long), Cond.methodLink RL 89 yX9_real, Cond.instanceMethod yX9_real, Cond.selects RX9 yX9_real yX9_real, Cond.code yX9_real cX9_real 10 (some .long), Cond.constantLong RX9 168 (-9223372036854775808), Cond.methodLink RX9 155 yX9_sumOf, Cond.static yX9_sumOf, Cond.code yX9_sumOf cX9_sumOf 4 (some .double), Cond.methodLink RX9 151 yX9_isEndless, Cond.static yX9_isEndless, Cond.code yX9_isEndless cX9_isEndless 2 (some .boolean)]
def wsL_law_r27 : List Cond := [Cond.constantDouble RX9 147 (9218868437227405311), Cond.constantDouble RX9 149 (18442240474082181119), Cond.methodLink RX9 159 yX9_lessOf, Cond.static yX9_lessOf, Cond.code yX9_lessOf cX9_lessOf 4 (some .double), Cond.methodLink RX9 162 yX9_timesOf, Cond.static yX9_timesOf, Cond.code yX9_timesOf cX9_timesOf 4 (some .double), Cond.methodLink RX9 165 yX9_overOf, Cond.static yX9_overOf, Cond.code yX9_overOf cX9_overOf 4 (some .double), Cond.methodLink RL 90 yX8_math, Cond.instanceMethod yX8_math, Cond.selects RX8 yX8_math yX8_math, Cond.code yX8_math cX8_math 4 (some .long), Cond.methodLink RX8 166 yX3_power, Cond.static yX3_power, Cond.code yX3_power cX3_power 2 (some .int), Cond.fieldLink RX3 105 "ThrowModels$Format" "fractionBits" "I", Cond.methodLink RX8 184 yX3_mathOfNumber, Cond.static yX3_mathOfNumber, Cond.code yX3_mathOfNumber cX3_mathOfNumber 3 (some .long), Cond.constantLong RX3 94 (4607182418800017408), Cond.methodLink RX3 88 yX3_floor]
def wsL_law_r28 : List Cond := [Cond.static yX3_floor, Cond.code yX3_floor cX3_floor 7 (some .long), Cond.constantLong RX3 112 (-4616189618054758400), Cond.methodLink RX3 109 yX3_power, Cond.methodLink RX3 91 yX3_nearestWhole, Cond.static yX3_nearestWhole, Cond.code yX3_nearestWhole cX3_nearestWhole 4 (some .long), Cond.methodLink RX3 114 yX0_rounded, Cond.methodLink RX3 96 yX3_distanceToNext, Cond.static yX3_distanceToNext, Cond.code yX3_distanceToNext cX3_distanceToNext 3 (some .long), Cond.fieldLink RX3 117 "ThrowModels$Format" "lowestExponent" "I", Cond.methodLink RX3 120 Lib.Math.max.name, Cond.methodLink RX3 99 yX3_nextUp, Cond.static yX3_nextUp, Cond.code yX3_nextUp cX3_nextUp 2 (some .long), Cond.methodLink RX3 102 yX3_scaled, Cond.static yX3_scaled, Cond.code yX3_scaled cX3_scaled 3 (some .long), Cond.methodLink RL 94 yX9_math, Cond.instanceMethod yX9_math, Cond.selects RX9 yX9_math yX9_math, Cond.code yX9_math cX9_math 7 (some .long), Cond.constantLong RX9 174 (2047)]
def wsL_law_r29 : List Cond := [Cond.constantLong RX9 176 (1024), Cond.constantDouble RX9 189 (4620693217682128896), Cond.constantDouble RX9 191 (4593671619917905920), Cond.methodLink RX9 178 yX9_isWhole, Cond.static yX9_isWhole, Cond.code yX9_isWhole cX9_isWhole 2 (some .boolean), Cond.constantDouble RX9 170 (4841369599423283200), Cond.constantDouble RX9 172 (14064741636278059008), Cond.methodLink RX9 181 yX9_rounded, Cond.static yX9_rounded, Cond.code yX9_rounded cX9_rounded 9 (some .double), Cond.methodLink RX9 185 yX9_signed, Cond.static yX9_signed, Cond.code yX9_signed cX9_signed 4 (some .long), Cond.methodLink RL 95 yX8_narrow, Cond.instanceMethod yX8_narrow, Cond.selects RX8 yX8_narrow yX8_narrow, Cond.code yX8_narrow cX8_narrow 4 (some .long), Cond.methodLink RX8 187 yX3_toInt, Cond.static yX3_toInt, Cond.code yX3_toInt cX3_toInt 2 (some .int), Cond.constantLong RX3 139 (2147483647), Cond.methodLink RX3 141 Lib.MathLoose.min_long.x, Cond.static Lib.MathLoose.min_long.x]
def wsL_law_r30 : List Cond := [Cond.code Lib.MathLoose.min_long.x Lib.MathLoose.min_long.code 4 (some .long), Cond.constantLong RX3 143 (-2147483648), Cond.methodLink RX3 145 Lib.MathLoose.max_long.x, Cond.static Lib.MathLoose.max_long.x, Cond.code Lib.MathLoose.max_long.x Lib.MathLoose.max_long.code 4 (some .long), Cond.methodLink RX3 136 yX3_toLong, Cond.static yX3_toLong, Cond.code yX3_toLong cX3_toLong 7 (some .long), Cond.constantLong RX3 134 (9223372036854775807), Cond.methodLink RX8 190 yX3_toLong, Cond.methodLink RX8 197 yX3_converted, Cond.static yX3_converted, Cond.code yX3_converted cX3_converted 5 (some .long), Cond.fieldLink RX3 126 "ThrowModels$Format" "signBit" "J", Cond.methodLink RX3 123 yX0_isNegative, Cond.instanceMethod yX0_isNegative, Cond.selects RX0 yX0_isNegative yX0_isNegative, Cond.code yX0_isNegative cX0_isNegative 3 (some .boolean), Cond.methodLink RL 98 yX9_narrow, Cond.instanceMethod yX9_narrow, Cond.selects RX9 yX9_narrow yX9_narrow, Cond.code yX9_narrow cX9_narrow 6 (some .long), Cond.methodLink RL 99 yX8_widen, Cond.instanceMethod yX8_widen]
def wsL_law_r31 : List Cond := [Cond.selects RX8 yX8_widen yX8_widen, Cond.code yX8_widen cX8_widen 4 (some .long), Cond.methodLink RX8 201 yX3_fromLong, Cond.static yX3_fromLong, Cond.code yX3_fromLong cX3_fromLong 3 (some .long), Cond.constantLong RX3 129 (4611686018427387904), Cond.methodLink RX3 131 Lib.MathLoose.abs_long.x, Cond.static Lib.MathLoose.abs_long.x, Cond.code Lib.MathLoose.abs_long.x Lib.MathLoose.abs_long.code 2 (some .long), Cond.methodLink RL 102 yX9_widen, Cond.instanceMethod yX9_widen, Cond.selects RX9 yX9_widen yX9_widen, Cond.code yX9_widen cX9_widen 4 (some .long), Cond.methodLink RX9 193 yX9_wide, Cond.static yX9_wide, Cond.code yX9_wide cX9_wide 2 (some .double), Cond.methodLink RL 103 yX8_compare, Cond.instanceMethod yX8_compare, Cond.selects RX8 yX8_compare yX8_compare, Cond.code yX8_compare cX8_compare 10 (some .int), Cond.methodLink RX8 205 yX3_isTrue, Cond.static yX3_isTrue, Cond.code yX3_isTrue cX3_isTrue 9 (some .boolean), Cond.methodLink RX3 85 yX3_rank]
def wsL_law_r32 : List Cond := [Cond.static yX3_rank, Cond.code yX3_rank cX3_rank 2 (some .long), Cond.methodLink RL 107 yX9_compare, Cond.instanceMethod yX9_compare, Cond.selects RX9 yX9_compare yX9_compare, Cond.code yX9_compare cX9_compare 10 (some .int), Cond.methodLink RX9 197 yX9_holds, Cond.static yX9_holds, Cond.code yX9_holds cX9_holds 5 (some .boolean), Cond.methodLink RL 108 yX8_pass, Cond.instanceMethod yX8_pass, Cond.selects RX8 yX8_pass yX8_pass, Cond.code yX8_pass cX8_pass 6 (some .long), Cond.constantLong RX8 213 (-104), Cond.constantLong RX8 215 (-102), Cond.methodLink RX8 209 yX8_traceOf, Cond.static yX8_traceOf, Cond.code yX8_traceOf cX8_traceOf 1 (some .int), Cond.methodLink RL 111 yX9_pass, Cond.instanceMethod yX9_pass, Cond.selects RX9 yX9_pass yX9_pass, Cond.code yX9_pass cX9_pass 5 (some .long), Cond.fieldLink RX9 201 "ThrowModelsModel" "trace" "I", Cond.constantLong RX9 204 (-104)]
def wsL_law_r33 : List Cond := [Cond.constantLong RX9 206 (-102), Cond.methodLink RL 112 yX8_trace, Cond.instanceMethod yX8_trace, Cond.selects RX8 yX8_trace yX8_trace, Cond.code yX8_trace cX8_trace 1 (some .int), Cond.methodLink RL 116 yX9_trace, Cond.instanceMethod yX9_trace, Cond.selects RX9 yX9_trace yX9_trace, Cond.code yX9_trace cX9_trace 1 (some .int), Cond.methodLink RL 117 yX8_latest, Cond.instanceMethod yX8_latest, Cond.selects RX8 yX8_latest yX8_latest, Cond.code yX8_latest cX8_latest 1 (some .int), Cond.methodLink RL 120 yX9_latest, Cond.instanceMethod yX9_latest, Cond.selects RX9 yX9_latest yX9_latest, Cond.code yX9_latest cX9_latest 1 (some .int), Cond.methodLink RL 121 yX8_thrown, Cond.instanceMethod yX8_thrown, Cond.selects RX8 yX8_thrown yX8_thrown, Cond.code yX8_thrown cX8_thrown 2 (some .int), Cond.methodLink RL 125 yX9_thrown, Cond.instanceMethod yX9_thrown, Cond.selects RX9 yX9_thrown yX9_thrown]
def wsL_law_r34 : List Cond := [Cond.code yX9_thrown cX9_thrown 2 (some .int)]
def wsL_law : List Cond := (wsL_law_r1 ++ (wsL_law_r2 ++ (wsL_law_r3 ++ (wsL_law_r4 ++ (wsL_law_r5 ++ (wsL_law_r6 ++ (wsL_law_r7 ++ (wsL_law_r8 ++ (wsL_law_r9 ++ (wsL_law_r10 ++ (wsL_law_r11 ++ (wsL_law_r12 ++ (wsL_law_r13 ++ (wsL_law_r14 ++ (wsL_law_r15 ++ (wsL_law_r16 ++ (wsL_law_r17 ++ (wsL_law_r18 ++ (wsL_law_r19 ++ (wsL_law_r20 ++ (wsL_law_r21 ++ (wsL_law_r22 ++ (wsL_law_r23 ++ (wsL_law_r24 ++ (wsL_law_r25 ++ (wsL_law_r26 ++ (wsL_law_r27 ++ (wsL_law_r28 ++ (wsL_law_r29 ++ (wsL_law_r30 ++ (wsL_law_r31 ++ (wsL_law_r32 ++ (wsL_law_r33 ++ wsL_law_r34))))))))))))))))))))))))))))))))) ++ wsX80 ++ wsX90 ++ wsX20 ++ wsX40 ++ wsX50 ++ wsX70 ++ wsX10 ++ ([] : List Cond)
set_option maxRecDepth 20000 in
abbrev vwCl : List vw_C := [(RX0, TX0, 0), (RX1, TX1, 3), (RX2, TX2, 3), (RX4, TX4, 3), (RX5, TX5, 3), (RX7, TX7, 3), (RX8, TX8, 4), (RX9, TX9, 12)]
end
section
theorem dX0_plainNaN_0 : decode cX0_plainNaN 0 = .ok (.aload_n 0, 1) := by decide +kernel
theorem dX0_plainNaN_1 : decode cX0_plainNaN 1 = .ok (.getfield 36, 3) := by decide +kernel
theorem dX0_plainNaN_4 : decode cX0_plainNaN 4 = .ok (.lconst 1, 1) := by decide +kernel
theorem dX0_plainNaN_5 : decode cX0_plainNaN 5 = .ok (.aload_n 0, 1) := by decide +kernel
theorem dX0_plainNaN_6 : decode cX0_plainNaN 6 = .ok (.getfield 29, 3) := by decide +kernel
theorem dX0_plainNaN_9 : decode cX0_plainNaN 9 = .ok (.iconst 1, 1) := by decide +kernel
theorem dX0_plainNaN_10 : decode cX0_plainNaN 10 = .ok (.isub, 1) := by decide +kernel
theorem dX0_plainNaN_11 : decode cX0_plainNaN 11 = .ok (.lshl, 1) := by decide +kernel
theorem dX0_plainNaN_12 : decode cX0_plainNaN 12 = .ok (.ladd, 1) := by decide +kernel
theorem dX0_plainNaN_13 : decode cX0_plainNaN 13 = .ok (.lreturn, 1) := by decide +kernel
theorem dX0_magnitude_0 : decode cX0_magnitude 0 = .ok (.lload_n 1, 1) := by decide +kernel
theorem dX0_magnitude_1 : decode cX0_magnitude 1 = .ok (.aload_n 0, 1) := by decide +kernel
theorem dX0_magnitude_2 : decode cX0_magnitude 2 = .ok (.getfield 40, 3) := by decide +kernel
theorem dX0_magnitude_5 : decode cX0_magnitude 5 = .ok (.lconst 1, 1) := by decide +kernel
theorem dX0_magnitude_6 : decode cX0_magnitude 6 = .ok (.lsub, 1) := by decide +kernel
theorem dX0_magnitude_7 : decode cX0_magnitude 7 = .ok (.land, 1) := by decide +kernel
theorem dX0_magnitude_8 : decode cX0_magnitude 8 = .ok (.lreturn, 1) := by decide +kernel
theorem dX0_isNegative_0 : decode cX0_isNegative 0 = .ok (.lload_n 1, 1) := by decide +kernel
theorem dX0_isNegative_1 : decode cX0_isNegative 1 = .ok (.aload_n 0, 1) := by decide +kernel
theorem dX0_isNegative_2 : decode cX0_isNegative 2 = .ok (.getfield 40, 3) := by decide +kernel
theorem dX0_isNegative_5 : decode cX0_isNegative 5 = .ok (.land, 1) := by decide +kernel
theorem dX0_isNegative_6 : decode cX0_isNegative 6 = .ok (.lconst 0, 1) := by decide +kernel
theorem dX0_isNegative_7 : decode cX0_isNegative 7 = .ok (.lcmp, 1) := by decide +kernel
theorem dX0_isNegative_8 : decode cX0_isNegative 8 = .ok (.ifCond .eq 7, 3) := by decide +kernel
theorem dX0_isNegative_11 : decode cX0_isNegative 11 = .ok (.iconst 1, 1) := by decide +kernel
theorem dX0_isNegative_12 : decode cX0_isNegative 12 = .ok (.goto 4, 3) := by decide +kernel
theorem dX0_isNegative_15 : decode cX0_isNegative 15 = .ok (.iconst 0, 1) := by decide +kernel
theorem dX0_isNegative_16 : decode cX0_isNegative 16 = .ok (.ireturn, 1) := by decide +kernel
set_option maxRecDepth 20000 in
theorem ggX0_isNaN_X0_magnitude : GoodIn wsX0_isNaN wsX0_magnitude := goodIn_r _ [6, 7] rfl (by decide +kernel)
set_option maxRecDepth 20000 in
theorem gX0_isNaN_X0_magnitude : GoodIn wsX0_isNaN (wsV RX0 43 RX0 yX0_magnitude wsX0_magnitude) := goodIn_app (goodIn_of _ (by decide +kernel)) ggX0_isNaN_X0_magnitude
theorem dX0_isNaN_0 : decode cX0_isNaN 0 = .ok (.aload_n 0, 1) := by decide +kernel
theorem dX0_isNaN_1 : decode cX0_isNaN 1 = .ok (.lload_n 1, 1) := by decide +kernel
theorem dX0_isNaN_2 : decode cX0_isNaN 2 = .ok (.invokevirtual 43, 3) := by decide +kernel
theorem dX0_isNaN_5 : decode cX0_isNaN 5 = .ok (.aload_n 0, 1) := by decide +kernel
theorem dX0_isNaN_6 : decode cX0_isNaN 6 = .ok (.getfield 36, 3) := by decide +kernel
theorem dX0_isNaN_9 : decode cX0_isNaN 9 = .ok (.lcmp, 1) := by decide +kernel
theorem dX0_isNaN_10 : decode cX0_isNaN 10 = .ok (.ifCond .le 7, 3) := by decide +kernel
theorem dX0_isNaN_13 : decode cX0_isNaN 13 = .ok (.iconst 1, 1) := by decide +kernel
theorem dX0_isNaN_14 : decode cX0_isNaN 14 = .ok (.goto 4, 3) := by decide +kernel
theorem dX0_isNaN_17 : decode cX0_isNaN 17 = .ok (.iconst 0, 1) := by decide +kernel
theorem dX0_isNaN_18 : decode cX0_isNaN 18 = .ok (.ireturn, 1) := by decide +kernel
set_option maxRecDepth 20000 in
theorem ggX0_isInfinite_X0_magnitude : GoodIn wsX0_isInfinite wsX0_magnitude := goodIn_r _ [6, 7] rfl (by decide +kernel)
set_option maxRecDepth 20000 in
theorem gX0_isInfinite_X0_magnitude : GoodIn wsX0_isInfinite (wsV RX0 43 RX0 yX0_magnitude wsX0_magnitude) := goodIn_app (goodIn_of _ (by decide +kernel)) ggX0_isInfinite_X0_magnitude
theorem dX0_isInfinite_0 : decode cX0_isInfinite 0 = .ok (.aload_n 0, 1) := by decide +kernel
theorem dX0_isInfinite_1 : decode cX0_isInfinite 1 = .ok (.lload_n 1, 1) := by decide +kernel
theorem dX0_isInfinite_2 : decode cX0_isInfinite 2 = .ok (.invokevirtual 43, 3) := by decide +kernel
theorem dX0_isInfinite_5 : decode cX0_isInfinite 5 = .ok (.aload_n 0, 1) := by decide +kernel
theorem dX0_isInfinite_6 : decode cX0_isInfinite 6 = .ok (.getfield 36, 3) := by decide +kernel
theorem dX0_isInfinite_9 : decode cX0_isInfinite 9 = .ok (.lcmp, 1) := by decide +kernel
theorem dX0_isInfinite_10 : decode cX0_isInfinite 10 = .ok (.ifCond .ne 7, 3) := by decide +kernel
theorem dX0_isInfinite_13 : decode cX0_isInfinite 13 = .ok (.iconst 1, 1) := by decide +kernel
theorem dX0_isInfinite_14 : decode cX0_isInfinite 14 = .ok (.goto 4, 3) := by decide +kernel
theorem dX0_isInfinite_17 : decode cX0_isInfinite 17 = .ok (.iconst 0, 1) := by decide +kernel
theorem dX0_isInfinite_18 : decode cX0_isInfinite 18 = .ok (.ireturn, 1) := by decide +kernel
set_option maxRecDepth 20000 in
theorem ggX0_isZero_X0_magnitude : GoodIn wsX0_isZero wsX0_magnitude := goodIn_r _ [5, 6] rfl (by decide +kernel)
set_option maxRecDepth 20000 in
theorem gX0_isZero_X0_magnitude : GoodIn wsX0_isZero (wsV RX0 43 RX0 yX0_magnitude wsX0_magnitude) := goodIn_app (goodIn_of _ (by decide +kernel)) ggX0_isZero_X0_magnitude
theorem dX0_isZero_0 : decode cX0_isZero 0 = .ok (.aload_n 0, 1) := by decide +kernel
theorem dX0_isZero_1 : decode cX0_isZero 1 = .ok (.lload_n 1, 1) := by decide +kernel
theorem dX0_isZero_2 : decode cX0_isZero 2 = .ok (.invokevirtual 43, 3) := by decide +kernel
theorem dX0_isZero_5 : decode cX0_isZero 5 = .ok (.lconst 0, 1) := by decide +kernel
theorem dX0_isZero_6 : decode cX0_isZero 6 = .ok (.lcmp, 1) := by decide +kernel
theorem dX0_isZero_7 : decode cX0_isZero 7 = .ok (.ifCond .ne 7, 3) := by decide +kernel
theorem dX0_isZero_10 : decode cX0_isZero 10 = .ok (.iconst 1, 1) := by decide +kernel
theorem dX0_isZero_11 : decode cX0_isZero 11 = .ok (.goto 4, 3) := by decide +kernel
theorem dX0_isZero_14 : decode cX0_isZero 14 = .ok (.iconst 0, 1) := by decide +kernel
theorem dX0_isZero_15 : decode cX0_isZero 15 = .ok (.ireturn, 1) := by decide +kernel
set_option maxRecDepth 20000 in
theorem ggX0_missingPlaces_X0_magnitude : GoodIn wsX0_missingPlaces wsX0_magnitude := goodIn_r _ [6, 7] rfl (by decide +kernel)
set_option maxRecDepth 20000 in
theorem gX0_missingPlaces_X0_magnitude : GoodIn wsX0_missingPlaces (wsV RX0 43 RX0 yX0_magnitude wsX0_magnitude) := goodIn_app (goodIn_of _ (by decide +kernel)) ggX0_missingPlaces_X0_magnitude
set_option maxRecDepth 20000 in
theorem ggX0_missingPlaces_X0_highestBit : GoodIn wsX0_missingPlaces wsX0_highestBit := goodIn_r _ [10] rfl (by decide +kernel)
set_option maxRecDepth 20000 in
theorem gX0_missingPlaces_X0_highestBit : GoodIn wsX0_missingPlaces (va_wsS RX0 47 yX0_highestBit wsX0_highestBit) := goodIn_app (goodIn_of _ (by decide +kernel)) ggX0_missingPlaces_X0_highestBit
theorem dX0_missingPlaces_0 : decode cX0_missingPlaces 0 = .ok (.aload_n 0, 1) := by decide +kernel
theorem dX0_missingPlaces_1 : decode cX0_missingPlaces 1 = .ok (.lload_n 1, 1) := by decide +kernel
theorem dX0_missingPlaces_2 : decode cX0_missingPlaces 2 = .ok (.invokevirtual 43, 3) := by decide +kernel
theorem dX0_missingPlaces_5 : decode cX0_missingPlaces 5 = .ok (.lstore_n 3, 1) := by decide +kernel
theorem dX0_missingPlaces_6 : decode cX0_missingPlaces 6 = .ok (.lload_n 3, 1) := by decide +kernel
theorem dX0_missingPlaces_7 : decode cX0_missingPlaces 7 = .ok (.lconst 1, 1) := by decide +kernel
theorem dX0_missingPlaces_8 : decode cX0_missingPlaces 8 = .ok (.aload_n 0, 1) := by decide +kernel
theorem dX0_missingPlaces_9 : decode cX0_missingPlaces 9 = .ok (.getfield 29, 3) := by decide +kernel
theorem dX0_missingPlaces_12 : decode cX0_missingPlaces 12 = .ok (.lshl, 1) := by decide +kernel
theorem dX0_missingPlaces_13 : decode cX0_missingPlaces 13 = .ok (.lcmp, 1) := by decide +kernel
theorem dX0_missingPlaces_14 : decode cX0_missingPlaces 14 = .ok (.ifCond .ge 15, 3) := by decide +kernel
theorem dX0_missingPlaces_17 : decode cX0_missingPlaces 17 = .ok (.aload_n 0, 1) := by decide +kernel
theorem dX0_missingPlaces_18 : decode cX0_missingPlaces 18 = .ok (.getfield 29, 3) := by decide +kernel
theorem dX0_missingPlaces_21 : decode cX0_missingPlaces 21 = .ok (.lload_n 3, 1) := by decide +kernel
theorem dX0_missingPlaces_22 : decode cX0_missingPlaces 22 = .ok (.invokestatic 47, 3) := by decide +kernel
theorem dX0_missingPlaces_25 : decode cX0_missingPlaces 25 = .ok (.isub, 1) := by decide +kernel
theorem dX0_missingPlaces_26 : decode cX0_missingPlaces 26 = .ok (.goto 4, 3) := by decide +kernel
theorem dX0_missingPlaces_29 : decode cX0_missingPlaces 29 = .ok (.iconst 0, 1) := by decide +kernel
theorem dX0_missingPlaces_30 : decode cX0_missingPlaces 30 = .ok (.ireturn, 1) := by decide +kernel
set_option maxRecDepth 20000 in
theorem ggX0_significand_X0_magnitude : GoodIn wsX0_significand wsX0_magnitude := goodIn_r _ [6, 7] rfl (by decide +kernel)
set_option maxRecDepth 20000 in
theorem gX0_significand_X0_magnitude : GoodIn wsX0_significand (wsV RX0 43 RX0 yX0_magnitude wsX0_magnitude) := goodIn_app (goodIn_of _ (by decide +kernel)) ggX0_significand_X0_magnitude
set_option maxRecDepth 20000 in
theorem ggX0_significand_X0_missingPlaces : GoodIn wsX0_significand wsX0_missingPlaces := goodIn_r _ [11, 1, 2, 3, 4, 5, 6, 7, 12, 13, 14] rfl (by decide +kernel)
set_option maxRecDepth 20000 in
theorem gX0_significand_X0_missingPlaces : GoodIn wsX0_significand (wsV RX0 51 RX0 yX0_missingPlaces wsX0_missingPlaces) := goodIn_app (goodIn_of _ (by decide +kernel)) ggX0_significand_X0_missingPlaces
theorem dX0_significand_0 : decode cX0_significand 0 = .ok (.lconst 1, 1) := by decide +kernel
theorem dX0_significand_1 : decode cX0_significand 1 = .ok (.aload_n 0, 1) := by decide +kernel
theorem dX0_significand_2 : decode cX0_significand 2 = .ok (.getfield 29, 3) := by decide +kernel
theorem dX0_significand_5 : decode cX0_significand 5 = .ok (.lshl, 1) := by decide +kernel
theorem dX0_significand_6 : decode cX0_significand 6 = .ok (.lstore_n 3, 1) := by decide +kernel
theorem dX0_significand_7 : decode cX0_significand 7 = .ok (.aload_n 0, 1) := by decide +kernel
theorem dX0_significand_8 : decode cX0_significand 8 = .ok (.lload_n 1, 1) := by decide +kernel
theorem dX0_significand_9 : decode cX0_significand 9 = .ok (.invokevirtual 43, 3) := by decide +kernel
theorem dX0_significand_12 : decode cX0_significand 12 = .ok (.lstore 5, 2) := by decide +kernel
theorem dX0_significand_14 : decode cX0_significand 14 = .ok (.lload 5, 2) := by decide +kernel
theorem dX0_significand_16 : decode cX0_significand 16 = .ok (.lload_n 3, 1) := by decide +kernel
theorem dX0_significand_17 : decode cX0_significand 17 = .ok (.lcmp, 1) := by decide +kernel
theorem dX0_significand_18 : decode cX0_significand 18 = .ok (.ifCond .ge 12, 3) := by decide +kernel
theorem dX0_significand_21 : decode cX0_significand 21 = .ok (.lload 5, 2) := by decide +kernel
theorem dX0_significand_23 : decode cX0_significand 23 = .ok (.aload_n 0, 1) := by decide +kernel
theorem dX0_significand_24 : decode cX0_significand 24 = .ok (.lload_n 1, 1) := by decide +kernel
theorem dX0_significand_25 : decode cX0_significand 25 = .ok (.invokevirtual 51, 3) := by decide +kernel
theorem dX0_significand_28 : decode cX0_significand 28 = .ok (.lshl, 1) := by decide +kernel
theorem dX0_significand_29 : decode cX0_significand 29 = .ok (.lreturn, 1) := by decide +kernel
theorem dX0_significand_30 : decode cX0_significand 30 = .ok (.lload 5, 2) := by decide +kernel
theorem dX0_significand_32 : decode cX0_significand 32 = .ok (.lload_n 3, 1) := by decide +kernel
theorem dX0_significand_33 : decode cX0_significand 33 = .ok (.lconst 1, 1) := by decide +kernel
theorem dX0_significand_34 : decode cX0_significand 34 = .ok (.lsub, 1) := by decide +kernel
theorem dX0_significand_35 : decode cX0_significand 35 = .ok (.land, 1) := by decide +kernel
theorem dX0_significand_36 : decode cX0_significand 36 = .ok (.lload_n 3, 1) := by decide +kernel
theorem dX0_significand_37 : decode cX0_significand 37 = .ok (.lor, 1) := by decide +kernel
theorem dX0_significand_38 : decode cX0_significand 38 = .ok (.lreturn, 1) := by decide +kernel
set_option maxRecDepth 20000 in
theorem ggX0_exponent_X0_magnitude : GoodIn wsX0_exponent wsX0_magnitude := goodIn_r _ [11, 12] rfl (by decide +kernel)
set_option maxRecDepth 20000 in
theorem gX0_exponent_X0_magnitude : GoodIn wsX0_exponent (wsV RX0 43 RX0 yX0_magnitude wsX0_magnitude) := goodIn_app (goodIn_of _ (by decide +kernel)) ggX0_exponent_X0_magnitude
set_option maxRecDepth 20000 in
theorem ggX0_exponent_X0_missingPlaces : GoodIn wsX0_exponent wsX0_missingPlaces := goodIn_r _ [16, 1, 7, 8, 9, 10, 11, 12, 17, 18, 19] rfl (by decide +kernel)
set_option maxRecDepth 20000 in
theorem gX0_exponent_X0_missingPlaces : GoodIn wsX0_exponent (wsV RX0 51 RX0 yX0_missingPlaces wsX0_missingPlaces) := goodIn_app (goodIn_of _ (by decide +kernel)) ggX0_exponent_X0_missingPlaces
theorem dX0_exponent_0 : decode cX0_exponent 0 = .ok (.aload_n 0, 1) := by decide +kernel
theorem dX0_exponent_1 : decode cX0_exponent 1 = .ok (.lload_n 1, 1) := by decide +kernel
theorem dX0_exponent_2 : decode cX0_exponent 2 = .ok (.invokevirtual 43, 3) := by decide +kernel
theorem dX0_exponent_5 : decode cX0_exponent 5 = .ok (.aload_n 0, 1) := by decide +kernel
theorem dX0_exponent_6 : decode cX0_exponent 6 = .ok (.getfield 29, 3) := by decide +kernel
theorem dX0_exponent_9 : decode cX0_exponent 9 = .ok (.lushr, 1) := by decide +kernel
theorem dX0_exponent_10 : decode cX0_exponent 10 = .ok (.l2i, 1) := by decide +kernel
theorem dX0_exponent_11 : decode cX0_exponent 11 = .ok (.istore_n 3, 1) := by decide +kernel
theorem dX0_exponent_12 : decode cX0_exponent 12 = .ok (.aload_n 0, 1) := by decide +kernel
theorem dX0_exponent_13 : decode cX0_exponent 13 = .ok (.getfield 33, 3) := by decide +kernel
theorem dX0_exponent_16 : decode cX0_exponent 16 = .ok (.iload_n 3, 1) := by decide +kernel
theorem dX0_exponent_17 : decode cX0_exponent 17 = .ok (.iconst 1, 1) := by decide +kernel
theorem dX0_exponent_18 : decode cX0_exponent 18 = .ok (.isub, 1) := by decide +kernel
theorem dX0_exponent_19 : decode cX0_exponent 19 = .ok (.iconst 0, 1) := by decide +kernel
theorem dX0_exponent_20 : decode cX0_exponent 20 = .ok (.invokestatic 54, 3) := by decide +kernel
theorem dX0_exponent_23 : decode cX0_exponent 23 = .ok (.iadd, 1) := by decide +kernel
theorem dX0_exponent_24 : decode cX0_exponent 24 = .ok (.aload_n 0, 1) := by decide +kernel
theorem dX0_exponent_25 : decode cX0_exponent 25 = .ok (.lload_n 1, 1) := by decide +kernel
theorem dX0_exponent_26 : decode cX0_exponent 26 = .ok (.invokevirtual 51, 3) := by decide +kernel
theorem dX0_exponent_29 : decode cX0_exponent 29 = .ok (.isub, 1) := by decide +kernel
theorem dX0_exponent_30 : decode cX0_exponent 30 = .ok (.ireturn, 1) := by decide +kernel
set_option maxRecDepth 20000 in
theorem ggX0_pack_X0_highestBit : GoodIn wsX0_pack wsX0_highestBit := goodIn_r _ [12] rfl (by decide +kernel)
set_option maxRecDepth 20000 in
theorem gX0_pack_X0_highestBit : GoodIn wsX0_pack (va_wsS RX0 47 yX0_highestBit wsX0_highestBit) := goodIn_app (goodIn_of _ (by decide +kernel)) ggX0_pack_X0_highestBit
set_option maxRecDepth 20000 in
theorem ggX0_pack_X0_rounded : GoodIn wsX0_pack wsX0_rounded := goodIn_r _ [15] rfl (by decide +kernel)
set_option maxRecDepth 20000 in
theorem gX0_pack_X0_rounded : GoodIn wsX0_pack (va_wsS RX0 60 yX0_rounded wsX0_rounded) := goodIn_app (goodIn_of _ (by decide +kernel)) ggX0_pack_X0_rounded
theorem dX0_pack_0 : decode cX0_pack 0 = .ok (.iload_n 1, 1) := by decide +kernel
theorem dX0_pack_1 : decode cX0_pack 1 = .ok (.ifCond .eq 10, 3) := by decide +kernel
theorem dX0_pack_4 : decode cX0_pack 4 = .ok (.aload_n 0, 1) := by decide +kernel
theorem dX0_pack_5 : decode cX0_pack 5 = .ok (.getfield 40, 3) := by decide +kernel
theorem dX0_pack_8 : decode cX0_pack 8 = .ok (.goto 4, 3) := by decide +kernel
theorem dX0_pack_11 : decode cX0_pack 11 = .ok (.lconst 0, 1) := by decide +kernel
theorem dX0_pack_12 : decode cX0_pack 12 = .ok (.lstore 5, 2) := by decide +kernel
theorem dX0_pack_14 : decode cX0_pack 14 = .ok (.lload_n 3, 1) := by decide +kernel
theorem dX0_pack_15 : decode cX0_pack 15 = .ok (.lconst 0, 1) := by decide +kernel
theorem dX0_pack_16 : decode cX0_pack 16 = .ok (.lcmp, 1) := by decide +kernel
theorem dX0_pack_17 : decode cX0_pack 17 = .ok (.ifCond .ne 6, 3) := by decide +kernel
theorem dX0_pack_20 : decode cX0_pack 20 = .ok (.lload 5, 2) := by decide +kernel
theorem dX0_pack_22 : decode cX0_pack 22 = .ok (.lreturn, 1) := by decide +kernel
theorem dX0_pack_23 : decode cX0_pack 23 = .ok (.iload_n 2, 1) := by decide +kernel
theorem dX0_pack_24 : decode cX0_pack 24 = .ok (.lload_n 3, 1) := by decide +kernel
theorem dX0_pack_25 : decode cX0_pack 25 = .ok (.invokestatic 47, 3) := by decide +kernel
theorem dX0_pack_28 : decode cX0_pack 28 = .ok (.iadd, 1) := by decide +kernel
theorem dX0_pack_29 : decode cX0_pack 29 = .ok (.aload_n 0, 1) := by decide +kernel
theorem dX0_pack_30 : decode cX0_pack 30 = .ok (.getfield 29, 3) := by decide +kernel
theorem dX0_pack_33 : decode cX0_pack 33 = .ok (.isub, 1) := by decide +kernel
theorem dX0_pack_34 : decode cX0_pack 34 = .ok (.aload_n 0, 1) := by decide +kernel
theorem dX0_pack_35 : decode cX0_pack 35 = .ok (.getfield 33, 3) := by decide +kernel
theorem dX0_pack_38 : decode cX0_pack 38 = .ok (.invokestatic 54, 3) := by decide +kernel
theorem dX0_pack_41 : decode cX0_pack 41 = .ok (.istore 7, 2) := by decide +kernel
theorem dX0_pack_43 : decode cX0_pack 43 = .ok (.iload 7, 2) := by decide +kernel
theorem dX0_pack_45 : decode cX0_pack 45 = .ok (.aload_n 0, 1) := by decide +kernel
theorem dX0_pack_46 : decode cX0_pack 46 = .ok (.getfield 33, 3) := by decide +kernel
theorem dX0_pack_49 : decode cX0_pack 49 = .ok (.isub, 1) := by decide +kernel
theorem dX0_pack_50 : decode cX0_pack 50 = .ok (.i2l, 1) := by decide +kernel
theorem dX0_pack_51 : decode cX0_pack 51 = .ok (.lstore 8, 2) := by decide +kernel
theorem dX0_pack_53 : decode cX0_pack 53 = .ok (.lload 8, 2) := by decide +kernel
theorem dX0_pack_55 : decode cX0_pack 55 = .ok (.aload_n 0, 1) := by decide +kernel
theorem dX0_pack_56 : decode cX0_pack 56 = .ok (.getfield 36, 3) := by decide +kernel
theorem dX0_pack_59 : decode cX0_pack 59 = .ok (.aload_n 0, 1) := by decide +kernel
theorem dX0_pack_60 : decode cX0_pack 60 = .ok (.getfield 29, 3) := by decide +kernel
theorem dX0_pack_63 : decode cX0_pack 63 = .ok (.lushr, 1) := by decide +kernel
theorem dX0_pack_64 : decode cX0_pack 64 = .ok (.lconst 1, 1) := by decide +kernel
theorem dX0_pack_65 : decode cX0_pack 65 = .ok (.lsub, 1) := by decide +kernel
theorem dX0_pack_66 : decode cX0_pack 66 = .ok (.lcmp, 1) := by decide +kernel
theorem dX0_pack_67 : decode cX0_pack 67 = .ok (.ifCond .lt 11, 3) := by decide +kernel
theorem dX0_pack_70 : decode cX0_pack 70 = .ok (.lload 5, 2) := by decide +kernel
theorem dX0_pack_72 : decode cX0_pack 72 = .ok (.aload_n 0, 1) := by decide +kernel
theorem dX0_pack_73 : decode cX0_pack 73 = .ok (.getfield 36, 3) := by decide +kernel
theorem dX0_pack_76 : decode cX0_pack 76 = .ok (.lor, 1) := by decide +kernel
theorem dX0_pack_77 : decode cX0_pack 77 = .ok (.lreturn, 1) := by decide +kernel
theorem dX0_pack_78 : decode cX0_pack 78 = .ok (.lload 5, 2) := by decide +kernel
theorem dX0_pack_80 : decode cX0_pack 80 = .ok (.lload 8, 2) := by decide +kernel
theorem dX0_pack_82 : decode cX0_pack 82 = .ok (.aload_n 0, 1) := by decide +kernel
theorem dX0_pack_83 : decode cX0_pack 83 = .ok (.getfield 29, 3) := by decide +kernel
theorem dX0_pack_86 : decode cX0_pack 86 = .ok (.lshl, 1) := by decide +kernel
theorem dX0_pack_87 : decode cX0_pack 87 = .ok (.lload_n 3, 1) := by decide +kernel
theorem dX0_pack_88 : decode cX0_pack 88 = .ok (.iload 7, 2) := by decide +kernel
theorem dX0_pack_90 : decode cX0_pack 90 = .ok (.iload_n 2, 1) := by decide +kernel
theorem dX0_pack_91 : decode cX0_pack 91 = .ok (.isub, 1) := by decide +kernel
theorem dX0_pack_92 : decode cX0_pack 92 = .ok (.invokestatic 60, 3) := by decide +kernel
theorem dX0_pack_95 : decode cX0_pack 95 = .ok (.ladd, 1) := by decide +kernel
theorem dX0_pack_96 : decode cX0_pack 96 = .ok (.lor, 1) := by decide +kernel
theorem dX0_pack_97 : decode cX0_pack 97 = .ok (.lreturn, 1) := by decide +kernel
theorem dX0_rounded_0 : decode cX0_rounded 0 = .ok (.iload_n 2, 1) := by decide +kernel
theorem dX0_rounded_1 : decode cX0_rounded 1 = .ok (.ifCond .gt 8, 3) := by decide +kernel
theorem dX0_rounded_4 : decode cX0_rounded 4 = .ok (.lload_n 0, 1) := by decide +kernel
theorem dX0_rounded_5 : decode cX0_rounded 5 = .ok (.iload_n 2, 1) := by decide +kernel
theorem dX0_rounded_6 : decode cX0_rounded 6 = .ok (.ineg, 1) := by decide +kernel
theorem dX0_rounded_7 : decode cX0_rounded 7 = .ok (.lshl, 1) := by decide +kernel
theorem dX0_rounded_8 : decode cX0_rounded 8 = .ok (.lreturn, 1) := by decide +kernel
theorem dX0_rounded_9 : decode cX0_rounded 9 = .ok (.iload_n 2, 1) := by decide +kernel
theorem dX0_rounded_10 : decode cX0_rounded 10 = .ok (.bipush 63, 2) := by decide +kernel
theorem dX0_rounded_12 : decode cX0_rounded 12 = .ok (.if_icmp .le 5, 3) := by decide +kernel
theorem dX0_rounded_15 : decode cX0_rounded 15 = .ok (.lconst 0, 1) := by decide +kernel
theorem dX0_rounded_16 : decode cX0_rounded 16 = .ok (.lreturn, 1) := by decide +kernel
theorem dX0_rounded_17 : decode cX0_rounded 17 = .ok (.lload_n 0, 1) := by decide +kernel
theorem dX0_rounded_18 : decode cX0_rounded 18 = .ok (.iload_n 2, 1) := by decide +kernel
theorem dX0_rounded_19 : decode cX0_rounded 19 = .ok (.lushr, 1) := by decide +kernel
theorem dX0_rounded_20 : decode cX0_rounded 20 = .ok (.lstore_n 3, 1) := by decide +kernel
theorem dX0_rounded_21 : decode cX0_rounded 21 = .ok (.lload_n 0, 1) := by decide +kernel
theorem dX0_rounded_22 : decode cX0_rounded 22 = .ok (.lload_n 3, 1) := by decide +kernel
theorem dX0_rounded_23 : decode cX0_rounded 23 = .ok (.iload_n 2, 1) := by decide +kernel
theorem dX0_rounded_24 : decode cX0_rounded 24 = .ok (.lshl, 1) := by decide +kernel
theorem dX0_rounded_25 : decode cX0_rounded 25 = .ok (.lsub, 1) := by decide +kernel
theorem dX0_rounded_26 : decode cX0_rounded 26 = .ok (.lstore 5, 2) := by decide +kernel
theorem dX0_rounded_28 : decode cX0_rounded 28 = .ok (.lconst 1, 1) := by decide +kernel
theorem dX0_rounded_29 : decode cX0_rounded 29 = .ok (.iload_n 2, 1) := by decide +kernel
theorem dX0_rounded_30 : decode cX0_rounded 30 = .ok (.iconst 1, 1) := by decide +kernel
theorem dX0_rounded_31 : decode cX0_rounded 31 = .ok (.isub, 1) := by decide +kernel
theorem dX0_rounded_32 : decode cX0_rounded 32 = .ok (.lshl, 1) := by decide +kernel
theorem dX0_rounded_33 : decode cX0_rounded 33 = .ok (.lstore 7, 2) := by decide +kernel
theorem dX0_rounded_35 : decode cX0_rounded 35 = .ok (.lload 5, 2) := by decide +kernel
theorem dX0_rounded_37 : decode cX0_rounded 37 = .ok (.lload 7, 2) := by decide +kernel
theorem dX0_rounded_39 : decode cX0_rounded 39 = .ok (.lcmp, 1) := by decide +kernel
theorem dX0_rounded_40 : decode cX0_rounded 40 = .ok (.ifCond .gt 19, 3) := by decide +kernel
theorem dX0_rounded_43 : decode cX0_rounded 43 = .ok (.lload 5, 2) := by decide +kernel
theorem dX0_rounded_45 : decode cX0_rounded 45 = .ok (.lload 7, 2) := by decide +kernel
theorem dX0_rounded_47 : decode cX0_rounded 47 = .ok (.lcmp, 1) := by decide +kernel
theorem dX0_rounded_48 : decode cX0_rounded 48 = .ok (.ifCond .ne 15, 3) := by decide +kernel
theorem dX0_rounded_51 : decode cX0_rounded 51 = .ok (.lload_n 3, 1) := by decide +kernel
theorem dX0_rounded_52 : decode cX0_rounded 52 = .ok (.lconst 1, 1) := by decide +kernel
theorem dX0_rounded_53 : decode cX0_rounded 53 = .ok (.land, 1) := by decide +kernel
theorem dX0_rounded_54 : decode cX0_rounded 54 = .ok (.lconst 1, 1) := by decide +kernel
theorem dX0_rounded_55 : decode cX0_rounded 55 = .ok (.lcmp, 1) := by decide +kernel
theorem dX0_rounded_56 : decode cX0_rounded 56 = .ok (.ifCond .ne 7, 3) := by decide +kernel
theorem dX0_rounded_59 : decode cX0_rounded 59 = .ok (.iconst 1, 1) := by decide +kernel
theorem dX0_rounded_60 : decode cX0_rounded 60 = .ok (.goto 4, 3) := by decide +kernel
theorem dX0_rounded_63 : decode cX0_rounded 63 = .ok (.iconst 0, 1) := by decide +kernel
theorem dX0_rounded_64 : decode cX0_rounded 64 = .ok (.istore 9, 2) := by decide +kernel
theorem dX0_rounded_66 : decode cX0_rounded 66 = .ok (.iload 9, 2) := by decide +kernel
theorem dX0_rounded_68 : decode cX0_rounded 68 = .ok (.ifCond .eq 9, 3) := by decide +kernel
theorem dX0_rounded_71 : decode cX0_rounded 71 = .ok (.lload_n 3, 1) := by decide +kernel
theorem dX0_rounded_72 : decode cX0_rounded 72 = .ok (.lconst 1, 1) := by decide +kernel
theorem dX0_rounded_73 : decode cX0_rounded 73 = .ok (.ladd, 1) := by decide +kernel
theorem dX0_rounded_74 : decode cX0_rounded 74 = .ok (.goto 4, 3) := by decide +kernel
theorem dX0_rounded_77 : decode cX0_rounded 77 = .ok (.lload_n 3, 1) := by decide +kernel
theorem dX0_rounded_78 : decode cX0_rounded 78 = .ok (.lreturn, 1) := by decide +kernel
theorem dX0_highestBit_0 : decode cX0_highestBit 0 = .ok (.iconst 0, 1) := by decide +kernel
theorem dX0_highestBit_1 : decode cX0_highestBit 1 = .ok (.istore_n 2, 1) := by decide +kernel
theorem dX0_highestBit_2 : decode cX0_highestBit 2 = .ok (.bipush 32, 2) := by decide +kernel
theorem dX0_highestBit_4 : decode cX0_highestBit 4 = .ok (.istore_n 3, 1) := by decide +kernel
theorem dX0_highestBit_5 : decode cX0_highestBit 5 = .ok (.iload_n 3, 1) := by decide +kernel
theorem dX0_highestBit_6 : decode cX0_highestBit 6 = .ok (.ifCond .le 24, 3) := by decide +kernel
theorem dX0_highestBit_9 : decode cX0_highestBit 9 = .ok (.lload_n 0, 1) := by decide +kernel
theorem dX0_highestBit_10 : decode cX0_highestBit 10 = .ok (.iload_n 2, 1) := by decide +kernel
theorem dX0_highestBit_11 : decode cX0_highestBit 11 = .ok (.iload_n 3, 1) := by decide +kernel
theorem dX0_highestBit_12 : decode cX0_highestBit 12 = .ok (.iadd, 1) := by decide +kernel
theorem dX0_highestBit_13 : decode cX0_highestBit 13 = .ok (.lushr, 1) := by decide +kernel
theorem dX0_highestBit_14 : decode cX0_highestBit 14 = .ok (.lconst 0, 1) := by decide +kernel
theorem dX0_highestBit_15 : decode cX0_highestBit 15 = .ok (.lcmp, 1) := by decide +kernel
theorem dX0_highestBit_16 : decode cX0_highestBit 16 = .ok (.ifCond .eq 7, 3) := by decide +kernel
theorem dX0_highestBit_19 : decode cX0_highestBit 19 = .ok (.iload_n 2, 1) := by decide +kernel
theorem dX0_highestBit_20 : decode cX0_highestBit 20 = .ok (.iload_n 3, 1) := by decide +kernel
theorem dX0_highestBit_21 : decode cX0_highestBit 21 = .ok (.iadd, 1) := by decide +kernel
theorem dX0_highestBit_22 : decode cX0_highestBit 22 = .ok (.istore_n 2, 1) := by decide +kernel
theorem dX0_highestBit_23 : decode cX0_highestBit 23 = .ok (.iload_n 3, 1) := by decide +kernel
theorem dX0_highestBit_24 : decode cX0_highestBit 24 = .ok (.iconst 2, 1) := by decide +kernel
theorem dX0_highestBit_25 : decode cX0_highestBit 25 = .ok (.idiv, 1) := by decide +kernel
theorem dX0_highestBit_26 : decode cX0_highestBit 26 = .ok (.istore_n 3, 1) := by decide +kernel
theorem dX0_highestBit_27 : decode cX0_highestBit 27 = .ok (.goto (-22), 3) := by decide +kernel
theorem dX0_highestBit_30 : decode cX0_highestBit 30 = .ok (.iload_n 2, 1) := by decide +kernel
theorem dX0_highestBit_31 : decode cX0_highestBit 31 = .ok (.ireturn, 1) := by decide +kernel
set_option maxRecDepth 20000 in
theorem ggX3_sum_X0_isNaN : GoodIn wsX3_sum wsX0_isNaN := goodIn_r _ [6, 7, 8, 9, 10, 5, 11, 12] rfl (by decide +kernel)
set_option maxRecDepth 20000 in
theorem gX3_sum_X0_isNaN : GoodIn wsX3_sum (wsV RX3 17 RX0 yX0_isNaN wsX0_isNaN) := goodIn_app (goodIn_of _ (by decide +kernel)) ggX3_sum_X0_isNaN
set_option maxRecDepth 20000 in
theorem ggX3_sum_X0_plainNaN : GoodIn wsX3_sum wsX0_plainNaN := goodIn_r _ [16, 7, 17] rfl (by decide +kernel)
set_option maxRecDepth 20000 in
theorem gX3_sum_X0_plainNaN : GoodIn wsX3_sum (wsV RX3 21 RX0 yX0_plainNaN wsX0_plainNaN) := goodIn_app (goodIn_of _ (by decide +kernel)) ggX3_sum_X0_plainNaN
set_option maxRecDepth 20000 in
theorem ggX3_sum_X0_isInfinite : GoodIn wsX3_sum wsX0_isInfinite := goodIn_r _ [21, 7, 8, 9, 10, 5, 11, 12] rfl (by decide +kernel)
set_option maxRecDepth 20000 in
theorem gX3_sum_X0_isInfinite : GoodIn wsX3_sum (wsV RX3 25 RX0 yX0_isInfinite wsX0_isInfinite) := goodIn_app (goodIn_of _ (by decide +kernel)) ggX3_sum_X0_isInfinite
set_option maxRecDepth 20000 in
theorem ggX3_sum_X0_magnitude : GoodIn wsX3_sum wsX0_magnitude := goodIn_r _ [11, 12] rfl (by decide +kernel)
set_option maxRecDepth 20000 in
theorem gX3_sum_X0_magnitude : GoodIn wsX3_sum (wsV RX3 28 RX0 yX0_magnitude wsX0_magnitude) := goodIn_app (goodIn_of _ (by decide +kernel)) ggX3_sum_X0_magnitude
set_option maxRecDepth 20000 in
theorem ggX3_sum_X0_isZero : GoodIn wsX3_sum wsX0_isZero := goodIn_r _ [26, 8, 9, 10, 5, 11, 12] rfl (by decide +kernel)
set_option maxRecDepth 20000 in
theorem gX3_sum_X0_isZero : GoodIn wsX3_sum (wsV RX3 32 RX0 yX0_isZero wsX0_isZero) := goodIn_app (goodIn_of _ (by decide +kernel)) ggX3_sum_X0_isZero
set_option maxRecDepth 20000 in
theorem ggX3_sum_X3_sumOfFinite : GoodIn wsX3_sum wsX3_sumOfFinite := goodIn_r _ [30, 1, 31, 32, 33, 5, 34, 17, 35, 36, 37, 38, 39, 8, 9, 10, 11, 12, 40, 41, 42, 43, 44, 45, 46, 47, 48, 49, 50, 51, 52, 29, 53, 54, 55, 56, 57, 7, 58, 59, 60] rfl (by decide +kernel)
set_option maxRecDepth 20000 in
theorem gX3_sum_X3_sumOfFinite : GoodIn wsX3_sum (va_wsS RX3 35 yX3_sumOfFinite wsX3_sumOfFinite) := goodIn_app (goodIn_of _ (by decide +kernel)) ggX3_sum_X3_sumOfFinite
theorem dX3_sum_0 : decode cX3_sum 0 = .ok (.getstatic 11, 3) := by decide +kernel
theorem dX3_sum_3 : decode cX3_sum 3 = .ok (.lload_n 0, 1) := by decide +kernel
theorem dX3_sum_4 : decode cX3_sum 4 = .ok (.invokevirtual 17, 3) := by decide +kernel
theorem dX3_sum_7 : decode cX3_sum 7 = .ok (.ifCond .ne 13, 3) := by decide +kernel
theorem dX3_sum_10 : decode cX3_sum 10 = .ok (.getstatic 11, 3) := by decide +kernel
theorem dX3_sum_13 : decode cX3_sum 13 = .ok (.lload_n 2, 1) := by decide +kernel
theorem dX3_sum_14 : decode cX3_sum 14 = .ok (.invokevirtual 17, 3) := by decide +kernel
theorem dX3_sum_17 : decode cX3_sum 17 = .ok (.ifCond .eq 10, 3) := by decide +kernel
theorem dX3_sum_20 : decode cX3_sum 20 = .ok (.getstatic 11, 3) := by decide +kernel
theorem dX3_sum_23 : decode cX3_sum 23 = .ok (.invokevirtual 21, 3) := by decide +kernel
theorem dX3_sum_26 : decode cX3_sum 26 = .ok (.lreturn, 1) := by decide +kernel
theorem dX3_sum_27 : decode cX3_sum 27 = .ok (.getstatic 11, 3) := by decide +kernel
theorem dX3_sum_30 : decode cX3_sum 30 = .ok (.lload_n 0, 1) := by decide +kernel
theorem dX3_sum_31 : decode cX3_sum 31 = .ok (.invokevirtual 25, 3) := by decide +kernel
theorem dX3_sum_34 : decode cX3_sum 34 = .ok (.ifCond .eq 30, 3) := by decide +kernel
theorem dX3_sum_37 : decode cX3_sum 37 = .ok (.getstatic 11, 3) := by decide +kernel
theorem dX3_sum_40 : decode cX3_sum 40 = .ok (.lload_n 2, 1) := by decide +kernel
theorem dX3_sum_41 : decode cX3_sum 41 = .ok (.invokevirtual 25, 3) := by decide +kernel
theorem dX3_sum_44 : decode cX3_sum 44 = .ok (.ifCond .eq 18, 3) := by decide +kernel
theorem dX3_sum_47 : decode cX3_sum 47 = .ok (.lload_n 0, 1) := by decide +kernel
theorem dX3_sum_48 : decode cX3_sum 48 = .ok (.lload_n 2, 1) := by decide +kernel
theorem dX3_sum_49 : decode cX3_sum 49 = .ok (.lcmp, 1) := by decide +kernel
theorem dX3_sum_50 : decode cX3_sum 50 = .ok (.ifCond .eq 12, 3) := by decide +kernel
theorem dX3_sum_53 : decode cX3_sum 53 = .ok (.getstatic 11, 3) := by decide +kernel
theorem dX3_sum_56 : decode cX3_sum 56 = .ok (.invokevirtual 21, 3) := by decide +kernel
theorem dX3_sum_59 : decode cX3_sum 59 = .ok (.goto 4, 3) := by decide +kernel
theorem dX3_sum_62 : decode cX3_sum 62 = .ok (.lload_n 0, 1) := by decide +kernel
theorem dX3_sum_63 : decode cX3_sum 63 = .ok (.lreturn, 1) := by decide +kernel
theorem dX3_sum_64 : decode cX3_sum 64 = .ok (.getstatic 11, 3) := by decide +kernel
theorem dX3_sum_67 : decode cX3_sum 67 = .ok (.lload_n 0, 1) := by decide +kernel
theorem dX3_sum_68 : decode cX3_sum 68 = .ok (.invokevirtual 28, 3) := by decide +kernel
theorem dX3_sum_71 : decode cX3_sum 71 = .ok (.getstatic 11, 3) := by decide +kernel
theorem dX3_sum_74 : decode cX3_sum 74 = .ok (.lload_n 2, 1) := by decide +kernel
theorem dX3_sum_75 : decode cX3_sum 75 = .ok (.invokevirtual 28, 3) := by decide +kernel
theorem dX3_sum_78 : decode cX3_sum 78 = .ok (.lcmp, 1) := by decide +kernel
theorem dX3_sum_79 : decode cX3_sum 79 = .ok (.ifCond .lt 7, 3) := by decide +kernel
theorem dX3_sum_82 : decode cX3_sum 82 = .ok (.iconst 1, 1) := by decide +kernel
theorem dX3_sum_83 : decode cX3_sum 83 = .ok (.goto 4, 3) := by decide +kernel
theorem dX3_sum_86 : decode cX3_sum 86 = .ok (.iconst 0, 1) := by decide +kernel
theorem dX3_sum_87 : decode cX3_sum 87 = .ok (.istore 4, 2) := by decide +kernel
theorem dX3_sum_89 : decode cX3_sum 89 = .ok (.iload 4, 2) := by decide +kernel
theorem dX3_sum_91 : decode cX3_sum 91 = .ok (.ifCond .eq 7, 3) := by decide +kernel
theorem dX3_sum_94 : decode cX3_sum 94 = .ok (.lload_n 0, 1) := by decide +kernel
theorem dX3_sum_95 : decode cX3_sum 95 = .ok (.goto 4, 3) := by decide +kernel
theorem dX3_sum_98 : decode cX3_sum 98 = .ok (.lload_n 2, 1) := by decide +kernel
theorem dX3_sum_99 : decode cX3_sum 99 = .ok (.lstore 5, 2) := by decide +kernel
theorem dX3_sum_101 : decode cX3_sum 101 = .ok (.iload 4, 2) := by decide +kernel
theorem dX3_sum_103 : decode cX3_sum 103 = .ok (.ifCond .eq 7, 3) := by decide +kernel
theorem dX3_sum_106 : decode cX3_sum 106 = .ok (.lload_n 2, 1) := by decide +kernel
theorem dX3_sum_107 : decode cX3_sum 107 = .ok (.goto 4, 3) := by decide +kernel
theorem dX3_sum_110 : decode cX3_sum 110 = .ok (.lload_n 0, 1) := by decide +kernel
theorem dX3_sum_111 : decode cX3_sum 111 = .ok (.lstore 7, 2) := by decide +kernel
theorem dX3_sum_113 : decode cX3_sum 113 = .ok (.getstatic 11, 3) := by decide +kernel
theorem dX3_sum_116 : decode cX3_sum 116 = .ok (.lload 5, 2) := by decide +kernel
theorem dX3_sum_118 : decode cX3_sum 118 = .ok (.invokevirtual 32, 3) := by decide +kernel
theorem dX3_sum_121 : decode cX3_sum 121 = .ok (.ifCond .eq 7, 3) := by decide +kernel
theorem dX3_sum_124 : decode cX3_sum 124 = .ok (.lload_n 0, 1) := by decide +kernel
theorem dX3_sum_125 : decode cX3_sum 125 = .ok (.lload_n 2, 1) := by decide +kernel
theorem dX3_sum_126 : decode cX3_sum 126 = .ok (.land, 1) := by decide +kernel
theorem dX3_sum_127 : decode cX3_sum 127 = .ok (.lreturn, 1) := by decide +kernel
theorem dX3_sum_128 : decode cX3_sum 128 = .ok (.getstatic 11, 3) := by decide +kernel
theorem dX3_sum_131 : decode cX3_sum 131 = .ok (.lload 5, 2) := by decide +kernel
theorem dX3_sum_133 : decode cX3_sum 133 = .ok (.invokevirtual 25, 3) := by decide +kernel
theorem dX3_sum_136 : decode cX3_sum 136 = .ok (.ifCond .ne 14, 3) := by decide +kernel
theorem dX3_sum_139 : decode cX3_sum 139 = .ok (.getstatic 11, 3) := by decide +kernel
theorem dX3_sum_142 : decode cX3_sum 142 = .ok (.lload 7, 2) := by decide +kernel
theorem dX3_sum_144 : decode cX3_sum 144 = .ok (.invokevirtual 32, 3) := by decide +kernel
theorem dX3_sum_147 : decode cX3_sum 147 = .ok (.ifCond .eq 6, 3) := by decide +kernel
theorem dX3_sum_150 : decode cX3_sum 150 = .ok (.lload 5, 2) := by decide +kernel
theorem dX3_sum_152 : decode cX3_sum 152 = .ok (.lreturn, 1) := by decide +kernel
theorem dX3_sum_153 : decode cX3_sum 153 = .ok (.lload 5, 2) := by decide +kernel
theorem dX3_sum_155 : decode cX3_sum 155 = .ok (.lload 7, 2) := by decide +kernel
theorem dX3_sum_157 : decode cX3_sum 157 = .ok (.invokestatic 35, 3) := by decide +kernel
theorem dX3_sum_160 : decode cX3_sum 160 = .ok (.lreturn, 1) := by decide +kernel
set_option maxRecDepth 20000 in
theorem ggX3_sumOfFinite_X0_exponent : GoodIn wsX3_sumOfFinite wsX0_exponent := goodIn_r _ [6, 7, 8, 9, 10, 11, 12, 13, 14, 15, 5, 16, 17, 18, 19, 20, 21, 22, 23, 24] rfl (by decide +kernel)
set_option maxRecDepth 20000 in
theorem gX3_sumOfFinite_X0_exponent : GoodIn wsX3_sumOfFinite (wsV RX3 39 RX0 yX0_exponent wsX0_exponent) := goodIn_app (goodIn_of _ (by decide +kernel)) ggX3_sumOfFinite_X0_exponent
set_option maxRecDepth 20000 in
theorem ggX3_sumOfFinite_X0_significand : GoodIn wsX3_sumOfFinite wsX0_significand := goodIn_r _ [28, 7, 13, 14, 15, 5, 16, 17, 18, 19, 20, 21, 22, 23, 24] rfl (by decide +kernel)
set_option maxRecDepth 20000 in
theorem gX3_sumOfFinite_X0_significand : GoodIn wsX3_sumOfFinite (wsV RX3 43 RX0 yX0_significand wsX0_significand) := goodIn_app (goodIn_of _ (by decide +kernel)) ggX3_sumOfFinite_X0_significand
set_option maxRecDepth 20000 in
theorem ggX3_sumOfFinite_X3_movedDown : GoodIn wsX3_sumOfFinite wsX3_movedDown := goodIn_r _ [32] rfl (by decide +kernel)
set_option maxRecDepth 20000 in
theorem gX3_sumOfFinite_X3_movedDown : GoodIn wsX3_sumOfFinite (va_wsS RX3 46 yX3_movedDown wsX3_movedDown) := goodIn_app (goodIn_of _ (by decide +kernel)) ggX3_sumOfFinite_X3_movedDown
set_option maxRecDepth 20000 in
theorem ggX3_sumOfFinite_X0_pack : GoodIn wsX3_sumOfFinite wsX0_pack := goodIn_r _ [36, 17, 7, 8, 9, 10, 11, 12, 37, 22, 23, 5, 24, 38, 39, 40] rfl (by decide +kernel)
set_option maxRecDepth 20000 in
theorem gX3_sumOfFinite_X0_pack : GoodIn wsX3_sumOfFinite (wsV RX3 50 RX0 yX0_pack wsX0_pack) := goodIn_app (goodIn_of _ (by decide +kernel)) ggX3_sumOfFinite_X0_pack
theorem dX3_sumOfFinite_0 : decode cX3_sumOfFinite 0 = .ok (.getstatic 11, 3) := by decide +kernel
theorem dX3_sumOfFinite_3 : decode cX3_sumOfFinite 3 = .ok (.lload_n 0, 1) := by decide +kernel
theorem dX3_sumOfFinite_4 : decode cX3_sumOfFinite 4 = .ok (.invokevirtual 39, 3) := by decide +kernel
theorem dX3_sumOfFinite_7 : decode cX3_sumOfFinite 7 = .ok (.istore 4, 2) := by decide +kernel
theorem dX3_sumOfFinite_9 : decode cX3_sumOfFinite 9 = .ok (.iload 4, 2) := by decide +kernel
theorem dX3_sumOfFinite_11 : decode cX3_sumOfFinite 11 = .ok (.getstatic 11, 3) := by decide +kernel
theorem dX3_sumOfFinite_14 : decode cX3_sumOfFinite 14 = .ok (.lload_n 2, 1) := by decide +kernel
theorem dX3_sumOfFinite_15 : decode cX3_sumOfFinite 15 = .ok (.invokevirtual 39, 3) := by decide +kernel
theorem dX3_sumOfFinite_18 : decode cX3_sumOfFinite 18 = .ok (.isub, 1) := by decide +kernel
theorem dX3_sumOfFinite_19 : decode cX3_sumOfFinite 19 = .ok (.istore 5, 2) := by decide +kernel
theorem dX3_sumOfFinite_21 : decode cX3_sumOfFinite 21 = .ok (.getstatic 11, 3) := by decide +kernel
theorem dX3_sumOfFinite_24 : decode cX3_sumOfFinite 24 = .ok (.lload_n 0, 1) := by decide +kernel
theorem dX3_sumOfFinite_25 : decode cX3_sumOfFinite 25 = .ok (.invokevirtual 43, 3) := by decide +kernel
theorem dX3_sumOfFinite_28 : decode cX3_sumOfFinite 28 = .ok (.bipush 9, 2) := by decide +kernel
theorem dX3_sumOfFinite_30 : decode cX3_sumOfFinite 30 = .ok (.lshl, 1) := by decide +kernel
theorem dX3_sumOfFinite_31 : decode cX3_sumOfFinite 31 = .ok (.lstore 6, 2) := by decide +kernel
theorem dX3_sumOfFinite_33 : decode cX3_sumOfFinite 33 = .ok (.getstatic 11, 3) := by decide +kernel
theorem dX3_sumOfFinite_36 : decode cX3_sumOfFinite 36 = .ok (.lload_n 2, 1) := by decide +kernel
theorem dX3_sumOfFinite_37 : decode cX3_sumOfFinite 37 = .ok (.invokevirtual 43, 3) := by decide +kernel
theorem dX3_sumOfFinite_40 : decode cX3_sumOfFinite 40 = .ok (.bipush 9, 2) := by decide +kernel
theorem dX3_sumOfFinite_42 : decode cX3_sumOfFinite 42 = .ok (.lshl, 1) := by decide +kernel
theorem dX3_sumOfFinite_43 : decode cX3_sumOfFinite 43 = .ok (.iload 5, 2) := by decide +kernel
theorem dX3_sumOfFinite_45 : decode cX3_sumOfFinite 45 = .ok (.invokestatic 46, 3) := by decide +kernel
theorem dX3_sumOfFinite_48 : decode cX3_sumOfFinite 48 = .ok (.lstore 8, 2) := by decide +kernel
theorem dX3_sumOfFinite_50 : decode cX3_sumOfFinite 50 = .ok (.lload_n 0, 1) := by decide +kernel
theorem dX3_sumOfFinite_51 : decode cX3_sumOfFinite 51 = .ok (.lconst 0, 1) := by decide +kernel
theorem dX3_sumOfFinite_52 : decode cX3_sumOfFinite 52 = .ok (.lcmp, 1) := by decide +kernel
theorem dX3_sumOfFinite_53 : decode cX3_sumOfFinite 53 = .ok (.ifCond .ge 7, 3) := by decide +kernel
theorem dX3_sumOfFinite_56 : decode cX3_sumOfFinite 56 = .ok (.iconst 1, 1) := by decide +kernel
theorem dX3_sumOfFinite_57 : decode cX3_sumOfFinite 57 = .ok (.goto 4, 3) := by decide +kernel
theorem dX3_sumOfFinite_60 : decode cX3_sumOfFinite 60 = .ok (.iconst 0, 1) := by decide +kernel
theorem dX3_sumOfFinite_61 : decode cX3_sumOfFinite 61 = .ok (.lload_n 2, 1) := by decide +kernel
theorem dX3_sumOfFinite_62 : decode cX3_sumOfFinite 62 = .ok (.lconst 0, 1) := by decide +kernel
theorem dX3_sumOfFinite_63 : decode cX3_sumOfFinite 63 = .ok (.lcmp, 1) := by decide +kernel
theorem dX3_sumOfFinite_64 : decode cX3_sumOfFinite 64 = .ok (.ifCond .ge 7, 3) := by decide +kernel
theorem dX3_sumOfFinite_67 : decode cX3_sumOfFinite 67 = .ok (.iconst 1, 1) := by decide +kernel
theorem dX3_sumOfFinite_68 : decode cX3_sumOfFinite 68 = .ok (.goto 4, 3) := by decide +kernel
theorem dX3_sumOfFinite_71 : decode cX3_sumOfFinite 71 = .ok (.iconst 0, 1) := by decide +kernel
theorem dX3_sumOfFinite_72 : decode cX3_sumOfFinite 72 = .ok (.if_icmp .ne 7, 3) := by decide +kernel
theorem dX3_sumOfFinite_75 : decode cX3_sumOfFinite 75 = .ok (.iconst 1, 1) := by decide +kernel
theorem dX3_sumOfFinite_76 : decode cX3_sumOfFinite 76 = .ok (.goto 4, 3) := by decide +kernel
theorem dX3_sumOfFinite_79 : decode cX3_sumOfFinite 79 = .ok (.iconst 0, 1) := by decide +kernel
theorem dX3_sumOfFinite_80 : decode cX3_sumOfFinite 80 = .ok (.istore 10, 2) := by decide +kernel
theorem dX3_sumOfFinite_82 : decode cX3_sumOfFinite 82 = .ok (.iload 10, 2) := by decide +kernel
theorem dX3_sumOfFinite_84 : decode cX3_sumOfFinite 84 = .ok (.ifCond .eq 11, 3) := by decide +kernel
theorem dX3_sumOfFinite_87 : decode cX3_sumOfFinite 87 = .ok (.lload 6, 2) := by decide +kernel
theorem dX3_sumOfFinite_89 : decode cX3_sumOfFinite 89 = .ok (.lload 8, 2) := by decide +kernel
theorem dX3_sumOfFinite_91 : decode cX3_sumOfFinite 91 = .ok (.ladd, 1) := by decide +kernel
theorem dX3_sumOfFinite_92 : decode cX3_sumOfFinite 92 = .ok (.goto 8, 3) := by decide +kernel
theorem dX3_sumOfFinite_95 : decode cX3_sumOfFinite 95 = .ok (.lload 6, 2) := by decide +kernel
theorem dX3_sumOfFinite_97 : decode cX3_sumOfFinite 97 = .ok (.lload 8, 2) := by decide +kernel
theorem dX3_sumOfFinite_99 : decode cX3_sumOfFinite 99 = .ok (.lsub, 1) := by decide +kernel
theorem dX3_sumOfFinite_100 : decode cX3_sumOfFinite 100 = .ok (.lstore 11, 2) := by decide +kernel
theorem dX3_sumOfFinite_102 : decode cX3_sumOfFinite 102 = .ok (.getstatic 11, 3) := by decide +kernel
theorem dX3_sumOfFinite_105 : decode cX3_sumOfFinite 105 = .ok (.lload_n 0, 1) := by decide +kernel
theorem dX3_sumOfFinite_106 : decode cX3_sumOfFinite 106 = .ok (.lconst 0, 1) := by decide +kernel
theorem dX3_sumOfFinite_107 : decode cX3_sumOfFinite 107 = .ok (.lcmp, 1) := by decide +kernel
theorem dX3_sumOfFinite_108 : decode cX3_sumOfFinite 108 = .ok (.ifCond .ge 14, 3) := by decide +kernel
theorem dX3_sumOfFinite_111 : decode cX3_sumOfFinite 111 = .ok (.lload 11, 2) := by decide +kernel
theorem dX3_sumOfFinite_113 : decode cX3_sumOfFinite 113 = .ok (.lconst 0, 1) := by decide +kernel
theorem dX3_sumOfFinite_114 : decode cX3_sumOfFinite 114 = .ok (.lcmp, 1) := by decide +kernel
theorem dX3_sumOfFinite_115 : decode cX3_sumOfFinite 115 = .ok (.ifCond .eq 7, 3) := by decide +kernel
theorem dX3_sumOfFinite_118 : decode cX3_sumOfFinite 118 = .ok (.iconst 1, 1) := by decide +kernel
theorem dX3_sumOfFinite_119 : decode cX3_sumOfFinite 119 = .ok (.goto 4, 3) := by decide +kernel
theorem dX3_sumOfFinite_122 : decode cX3_sumOfFinite 122 = .ok (.iconst 0, 1) := by decide +kernel
theorem dX3_sumOfFinite_123 : decode cX3_sumOfFinite 123 = .ok (.iload 4, 2) := by decide +kernel
theorem dX3_sumOfFinite_125 : decode cX3_sumOfFinite 125 = .ok (.bipush 9, 2) := by decide +kernel
theorem dX3_sumOfFinite_127 : decode cX3_sumOfFinite 127 = .ok (.isub, 1) := by decide +kernel
theorem dX3_sumOfFinite_128 : decode cX3_sumOfFinite 128 = .ok (.lload 11, 2) := by decide +kernel
theorem dX3_sumOfFinite_130 : decode cX3_sumOfFinite 130 = .ok (.invokevirtual 50, 3) := by decide +kernel
theorem dX3_sumOfFinite_133 : decode cX3_sumOfFinite 133 = .ok (.lreturn, 1) := by decide +kernel
theorem dX3_movedDown_0 : decode cX3_movedDown 0 = .ok (.iload_n 2, 1) := by decide +kernel
theorem dX3_movedDown_1 : decode cX3_movedDown 1 = .ok (.bipush 62, 2) := by decide +kernel
theorem dX3_movedDown_3 : decode cX3_movedDown 3 = .ok (.if_icmp .le 5, 3) := by decide +kernel
theorem dX3_movedDown_6 : decode cX3_movedDown 6 = .ok (.lconst 1, 1) := by decide +kernel
theorem dX3_movedDown_7 : decode cX3_movedDown 7 = .ok (.lreturn, 1) := by decide +kernel
theorem dX3_movedDown_8 : decode cX3_movedDown 8 = .ok (.lload_n 0, 1) := by decide +kernel
theorem dX3_movedDown_9 : decode cX3_movedDown 9 = .ok (.iload_n 2, 1) := by decide +kernel
theorem dX3_movedDown_10 : decode cX3_movedDown 10 = .ok (.lushr, 1) := by decide +kernel
theorem dX3_movedDown_11 : decode cX3_movedDown 11 = .ok (.lstore_n 3, 1) := by decide +kernel
theorem dX3_movedDown_12 : decode cX3_movedDown 12 = .ok (.lload_n 3, 1) := by decide +kernel
theorem dX3_movedDown_13 : decode cX3_movedDown 13 = .ok (.iload_n 2, 1) := by decide +kernel
theorem dX3_movedDown_14 : decode cX3_movedDown 14 = .ok (.lshl, 1) := by decide +kernel
theorem dX3_movedDown_15 : decode cX3_movedDown 15 = .ok (.lload_n 0, 1) := by decide +kernel
theorem dX3_movedDown_16 : decode cX3_movedDown 16 = .ok (.lcmp, 1) := by decide +kernel
theorem dX3_movedDown_17 : decode cX3_movedDown 17 = .ok (.ifCond .ne 7, 3) := by decide +kernel
theorem dX3_movedDown_20 : decode cX3_movedDown 20 = .ok (.lload_n 3, 1) := by decide +kernel
theorem dX3_movedDown_21 : decode cX3_movedDown 21 = .ok (.goto 6, 3) := by decide +kernel
theorem dX3_movedDown_24 : decode cX3_movedDown 24 = .ok (.lload_n 3, 1) := by decide +kernel
theorem dX3_movedDown_25 : decode cX3_movedDown 25 = .ok (.lconst 1, 1) := by decide +kernel
theorem dX3_movedDown_26 : decode cX3_movedDown 26 = .ok (.lor, 1) := by decide +kernel
theorem dX3_movedDown_27 : decode cX3_movedDown 27 = .ok (.lreturn, 1) := by decide +kernel
set_option maxRecDepth 20000 in
theorem ggX3_difference_X3_sum : GoodIn wsX3_difference wsX3_sum := goodIn_r _ [5, 6, 7, 8, 9, 10, 11, 12, 13, 14, 15, 16, 17, 18, 19, 20, 21, 22, 23, 24, 25, 26, 27, 28, 29, 30, 31, 32, 33, 4, 34, 35, 36, 37, 38, 39, 40, 41, 42, 43, 44, 45, 46, 47, 48, 49, 50, 51, 52, 53, 54, 55, 56, 57, 58, 59, 60, 61, 62, 63, 64] rfl (by decide +kernel)
set_option maxRecDepth 20000 in
theorem gX3_difference_X3_sum : GoodIn wsX3_difference (va_wsS RX3 56 yX3_sum wsX3_sum) := goodIn_app (goodIn_of _ (by decide +kernel)) ggX3_difference_X3_sum
theorem dX3_difference_0 : decode cX3_difference 0 = .ok (.lload_n 0, 1) := by decide +kernel
theorem dX3_difference_1 : decode cX3_difference 1 = .ok (.lload_n 2, 1) := by decide +kernel
theorem dX3_difference_2 : decode cX3_difference 2 = .ok (.ldc2_w 54, 3) := by decide +kernel
theorem dX3_difference_5 : decode cX3_difference 5 = .ok (.lxor, 1) := by decide +kernel
theorem dX3_difference_6 : decode cX3_difference 6 = .ok (.invokestatic 56, 3) := by decide +kernel
theorem dX3_difference_9 : decode cX3_difference 9 = .ok (.lreturn, 1) := by decide +kernel
set_option maxRecDepth 20000 in
theorem ggX3_product_X0_isNaN : GoodIn wsX3_product wsX0_isNaN := goodIn_r _ [8, 9, 10, 11, 12, 7, 13, 14] rfl (by decide +kernel)
set_option maxRecDepth 20000 in
theorem gX3_product_X0_isNaN : GoodIn wsX3_product (wsV RX3 17 RX0 yX0_isNaN wsX0_isNaN) := goodIn_app (goodIn_of _ (by decide +kernel)) ggX3_product_X0_isNaN
set_option maxRecDepth 20000 in
theorem ggX3_product_X0_plainNaN : GoodIn wsX3_product wsX0_plainNaN := goodIn_r _ [18, 9, 19] rfl (by decide +kernel)
set_option maxRecDepth 20000 in
theorem gX3_product_X0_plainNaN : GoodIn wsX3_product (wsV RX3 21 RX0 yX0_plainNaN wsX0_plainNaN) := goodIn_app (goodIn_of _ (by decide +kernel)) ggX3_product_X0_plainNaN
set_option maxRecDepth 20000 in
theorem ggX3_product_X0_isZero : GoodIn wsX3_product wsX0_isZero := goodIn_r _ [23, 10, 11, 12, 7, 13, 14] rfl (by decide +kernel)
set_option maxRecDepth 20000 in
theorem gX3_product_X0_isZero : GoodIn wsX3_product (wsV RX3 32 RX0 yX0_isZero wsX0_isZero) := goodIn_app (goodIn_of _ (by decide +kernel)) ggX3_product_X0_isZero
set_option maxRecDepth 20000 in
theorem ggX3_product_X0_isInfinite : GoodIn wsX3_product wsX0_isInfinite := goodIn_r _ [27, 9, 10, 11, 12, 7, 13, 14] rfl (by decide +kernel)
set_option maxRecDepth 20000 in
theorem gX3_product_X0_isInfinite : GoodIn wsX3_product (wsV RX3 25 RX0 yX0_isInfinite wsX0_isInfinite) := goodIn_app (goodIn_of _ (by decide +kernel)) ggX3_product_X0_isInfinite
set_option maxRecDepth 20000 in
theorem ggX3_product_X3_productOfFinite : GoodIn wsX3_product wsX3_productOfFinite := goodIn_r _ [31, 1, 32, 33, 34, 35, 7, 36, 19, 10, 11, 12, 13, 14, 37, 38, 39, 40, 41, 42, 43, 44, 45, 30, 46, 47, 48, 49, 50, 51, 52, 53, 54, 55, 56, 57, 58, 59, 9, 60, 61, 62] rfl (by decide +kernel)
set_option maxRecDepth 20000 in
theorem gX3_product_X3_productOfFinite : GoodIn wsX3_product (va_wsS RX3 63 yX3_productOfFinite wsX3_productOfFinite) := goodIn_app (goodIn_of _ (by decide +kernel)) ggX3_product_X3_productOfFinite
theorem dX3_product_0 : decode cX3_product 0 = .ok (.getstatic 11, 3) := by decide +kernel
theorem dX3_product_3 : decode cX3_product 3 = .ok (.lload_n 0, 1) := by decide +kernel
theorem dX3_product_4 : decode cX3_product 4 = .ok (.invokevirtual 17, 3) := by decide +kernel
theorem dX3_product_7 : decode cX3_product 7 = .ok (.ifCond .ne 13, 3) := by decide +kernel
theorem dX3_product_10 : decode cX3_product 10 = .ok (.getstatic 11, 3) := by decide +kernel
theorem dX3_product_13 : decode cX3_product 13 = .ok (.lload_n 2, 1) := by decide +kernel
theorem dX3_product_14 : decode cX3_product 14 = .ok (.invokevirtual 17, 3) := by decide +kernel
theorem dX3_product_17 : decode cX3_product 17 = .ok (.ifCond .eq 10, 3) := by decide +kernel
theorem dX3_product_20 : decode cX3_product 20 = .ok (.getstatic 11, 3) := by decide +kernel
theorem dX3_product_23 : decode cX3_product 23 = .ok (.invokevirtual 21, 3) := by decide +kernel
theorem dX3_product_26 : decode cX3_product 26 = .ok (.lreturn, 1) := by decide +kernel
theorem dX3_product_27 : decode cX3_product 27 = .ok (.lload_n 0, 1) := by decide +kernel
theorem dX3_product_28 : decode cX3_product 28 = .ok (.lload_n 2, 1) := by decide +kernel
theorem dX3_product_29 : decode cX3_product 29 = .ok (.lxor, 1) := by decide +kernel
theorem dX3_product_30 : decode cX3_product 30 = .ok (.ldc2_w 54, 3) := by decide +kernel
theorem dX3_product_33 : decode cX3_product 33 = .ok (.land, 1) := by decide +kernel
theorem dX3_product_34 : decode cX3_product 34 = .ok (.lstore 4, 2) := by decide +kernel
theorem dX3_product_36 : decode cX3_product 36 = .ok (.getstatic 11, 3) := by decide +kernel
theorem dX3_product_39 : decode cX3_product 39 = .ok (.lload_n 0, 1) := by decide +kernel
theorem dX3_product_40 : decode cX3_product 40 = .ok (.invokevirtual 32, 3) := by decide +kernel
theorem dX3_product_43 : decode cX3_product 43 = .ok (.ifCond .ne 13, 3) := by decide +kernel
theorem dX3_product_46 : decode cX3_product 46 = .ok (.getstatic 11, 3) := by decide +kernel
theorem dX3_product_49 : decode cX3_product 49 = .ok (.lload_n 2, 1) := by decide +kernel
theorem dX3_product_50 : decode cX3_product 50 = .ok (.invokevirtual 32, 3) := by decide +kernel
theorem dX3_product_53 : decode cX3_product 53 = .ok (.ifCond .eq 7, 3) := by decide +kernel
theorem dX3_product_56 : decode cX3_product 56 = .ok (.iconst 1, 1) := by decide +kernel
theorem dX3_product_57 : decode cX3_product 57 = .ok (.goto 4, 3) := by decide +kernel
theorem dX3_product_60 : decode cX3_product 60 = .ok (.iconst 0, 1) := by decide +kernel
theorem dX3_product_61 : decode cX3_product 61 = .ok (.istore 6, 2) := by decide +kernel
theorem dX3_product_63 : decode cX3_product 63 = .ok (.getstatic 11, 3) := by decide +kernel
theorem dX3_product_66 : decode cX3_product 66 = .ok (.lload_n 0, 1) := by decide +kernel
theorem dX3_product_67 : decode cX3_product 67 = .ok (.invokevirtual 25, 3) := by decide +kernel
theorem dX3_product_70 : decode cX3_product 70 = .ok (.ifCond .ne 13, 3) := by decide +kernel
theorem dX3_product_73 : decode cX3_product 73 = .ok (.getstatic 11, 3) := by decide +kernel
theorem dX3_product_76 : decode cX3_product 76 = .ok (.lload_n 2, 1) := by decide +kernel
theorem dX3_product_77 : decode cX3_product 77 = .ok (.invokevirtual 25, 3) := by decide +kernel
theorem dX3_product_80 : decode cX3_product 80 = .ok (.ifCond .eq 27, 3) := by decide +kernel
theorem dX3_product_83 : decode cX3_product 83 = .ok (.iload 6, 2) := by decide +kernel
theorem dX3_product_85 : decode cX3_product 85 = .ok (.ifCond .eq 12, 3) := by decide +kernel
theorem dX3_product_88 : decode cX3_product 88 = .ok (.getstatic 11, 3) := by decide +kernel
theorem dX3_product_91 : decode cX3_product 91 = .ok (.invokevirtual 21, 3) := by decide +kernel
theorem dX3_product_94 : decode cX3_product 94 = .ok (.goto 12, 3) := by decide +kernel
theorem dX3_product_97 : decode cX3_product 97 = .ok (.lload 4, 2) := by decide +kernel
theorem dX3_product_99 : decode cX3_product 99 = .ok (.getstatic 11, 3) := by decide +kernel
theorem dX3_product_102 : decode cX3_product 102 = .ok (.getfield 59, 3) := by decide +kernel
theorem dX3_product_105 : decode cX3_product 105 = .ok (.lor, 1) := by decide +kernel
theorem dX3_product_106 : decode cX3_product 106 = .ok (.lreturn, 1) := by decide +kernel
theorem dX3_product_107 : decode cX3_product 107 = .ok (.iload 6, 2) := by decide +kernel
theorem dX3_product_109 : decode cX3_product 109 = .ok (.ifCond .eq 8, 3) := by decide +kernel
theorem dX3_product_112 : decode cX3_product 112 = .ok (.lload 4, 2) := by decide +kernel
theorem dX3_product_114 : decode cX3_product 114 = .ok (.goto 8, 3) := by decide +kernel
theorem dX3_product_117 : decode cX3_product 117 = .ok (.lload_n 0, 1) := by decide +kernel
theorem dX3_product_118 : decode cX3_product 118 = .ok (.lload_n 2, 1) := by decide +kernel
theorem dX3_product_119 : decode cX3_product 119 = .ok (.invokestatic 63, 3) := by decide +kernel
theorem dX3_product_122 : decode cX3_product 122 = .ok (.lreturn, 1) := by decide +kernel
set_option maxRecDepth 20000 in
theorem ggX3_productOfFinite_X0_significand : GoodIn wsX3_productOfFinite wsX0_significand := goodIn_r _ [7, 8, 9, 10, 11, 6, 12, 13, 14, 15, 16, 17, 18, 19, 20] rfl (by decide +kernel)
set_option maxRecDepth 20000 in
theorem gX3_productOfFinite_X0_significand : GoodIn wsX3_productOfFinite (wsV RX3 43 RX0 yX0_significand wsX0_significand) := goodIn_app (goodIn_of _ (by decide +kernel)) ggX3_productOfFinite_X0_significand
set_option maxRecDepth 20000 in
theorem ggX3_productOfFinite_X3_movedDown : GoodIn wsX3_productOfFinite wsX3_movedDown := goodIn_r _ [24] rfl (by decide +kernel)
set_option maxRecDepth 20000 in
theorem gX3_productOfFinite_X3_movedDown : GoodIn wsX3_productOfFinite (va_wsS RX3 46 yX3_movedDown wsX3_movedDown) := goodIn_app (goodIn_of _ (by decide +kernel)) ggX3_productOfFinite_X3_movedDown
set_option maxRecDepth 20000 in
theorem ggX3_productOfFinite_X0_exponent : GoodIn wsX3_productOfFinite wsX0_exponent := goodIn_r _ [28, 8, 29, 30, 31, 32, 33, 9, 10, 11, 6, 12, 13, 14, 15, 16, 17, 18, 19, 20] rfl (by decide +kernel)
set_option maxRecDepth 20000 in
theorem gX3_productOfFinite_X0_exponent : GoodIn wsX3_productOfFinite (wsV RX3 39 RX0 yX0_exponent wsX0_exponent) := goodIn_app (goodIn_of _ (by decide +kernel)) ggX3_productOfFinite_X0_exponent
set_option maxRecDepth 20000 in
theorem ggX3_productOfFinite_X0_pack : GoodIn wsX3_productOfFinite wsX0_pack := goodIn_r _ [37, 13, 8, 29, 30, 31, 32, 33, 38, 18, 19, 6, 20, 39, 40, 41] rfl (by decide +kernel)
set_option maxRecDepth 20000 in
theorem gX3_productOfFinite_X0_pack : GoodIn wsX3_productOfFinite (wsV RX3 50 RX0 yX0_pack wsX0_pack) := goodIn_app (goodIn_of _ (by decide +kernel)) ggX3_productOfFinite_X0_pack
theorem dX3_productOfFinite_0 : decode cX3_productOfFinite 0 = .ok (.getstatic 11, 3) := by decide +kernel
theorem dX3_productOfFinite_3 : decode cX3_productOfFinite 3 = .ok (.lload_n 0, 1) := by decide +kernel
theorem dX3_productOfFinite_4 : decode cX3_productOfFinite 4 = .ok (.invokevirtual 43, 3) := by decide +kernel
theorem dX3_productOfFinite_7 : decode cX3_productOfFinite 7 = .ok (.lstore 4, 2) := by decide +kernel
theorem dX3_productOfFinite_9 : decode cX3_productOfFinite 9 = .ok (.getstatic 11, 3) := by decide +kernel
theorem dX3_productOfFinite_12 : decode cX3_productOfFinite 12 = .ok (.lload_n 2, 1) := by decide +kernel
theorem dX3_productOfFinite_13 : decode cX3_productOfFinite 13 = .ok (.invokevirtual 43, 3) := by decide +kernel
theorem dX3_productOfFinite_16 : decode cX3_productOfFinite 16 = .ok (.lstore 6, 2) := by decide +kernel
theorem dX3_productOfFinite_18 : decode cX3_productOfFinite 18 = .ok (.lload 4, 2) := by decide +kernel
theorem dX3_productOfFinite_20 : decode cX3_productOfFinite 20 = .ok (.bipush 27, 2) := by decide +kernel
theorem dX3_productOfFinite_22 : decode cX3_productOfFinite 22 = .ok (.lushr, 1) := by decide +kernel
theorem dX3_productOfFinite_23 : decode cX3_productOfFinite 23 = .ok (.lstore 8, 2) := by decide +kernel
theorem dX3_productOfFinite_25 : decode cX3_productOfFinite 25 = .ok (.lload 4, 2) := by decide +kernel
theorem dX3_productOfFinite_27 : decode cX3_productOfFinite 27 = .ok (.ldc2_w 66, 3) := by decide +kernel
theorem dX3_productOfFinite_30 : decode cX3_productOfFinite 30 = .ok (.land, 1) := by decide +kernel
theorem dX3_productOfFinite_31 : decode cX3_productOfFinite 31 = .ok (.lstore 10, 2) := by decide +kernel
theorem dX3_productOfFinite_33 : decode cX3_productOfFinite 33 = .ok (.lload 6, 2) := by decide +kernel
theorem dX3_productOfFinite_35 : decode cX3_productOfFinite 35 = .ok (.bipush 27, 2) := by decide +kernel
theorem dX3_productOfFinite_37 : decode cX3_productOfFinite 37 = .ok (.lushr, 1) := by decide +kernel
theorem dX3_productOfFinite_38 : decode cX3_productOfFinite 38 = .ok (.lstore 12, 2) := by decide +kernel
theorem dX3_productOfFinite_40 : decode cX3_productOfFinite 40 = .ok (.lload 6, 2) := by decide +kernel
theorem dX3_productOfFinite_42 : decode cX3_productOfFinite 42 = .ok (.ldc2_w 66, 3) := by decide +kernel
theorem dX3_productOfFinite_45 : decode cX3_productOfFinite 45 = .ok (.land, 1) := by decide +kernel
theorem dX3_productOfFinite_46 : decode cX3_productOfFinite 46 = .ok (.lstore 14, 2) := by decide +kernel
theorem dX3_productOfFinite_48 : decode cX3_productOfFinite 48 = .ok (.lload 8, 2) := by decide +kernel
theorem dX3_productOfFinite_50 : decode cX3_productOfFinite 50 = .ok (.lload 14, 2) := by decide +kernel
theorem dX3_productOfFinite_52 : decode cX3_productOfFinite 52 = .ok (.lmul, 1) := by decide +kernel
theorem dX3_productOfFinite_53 : decode cX3_productOfFinite 53 = .ok (.lload 10, 2) := by decide +kernel
theorem dX3_productOfFinite_55 : decode cX3_productOfFinite 55 = .ok (.lload 12, 2) := by decide +kernel
theorem dX3_productOfFinite_57 : decode cX3_productOfFinite 57 = .ok (.lmul, 1) := by decide +kernel
theorem dX3_productOfFinite_58 : decode cX3_productOfFinite 58 = .ok (.ladd, 1) := by decide +kernel
theorem dX3_productOfFinite_59 : decode cX3_productOfFinite 59 = .ok (.lstore 16, 2) := by decide +kernel
theorem dX3_productOfFinite_61 : decode cX3_productOfFinite 61 = .ok (.lload 8, 2) := by decide +kernel
theorem dX3_productOfFinite_63 : decode cX3_productOfFinite 63 = .ok (.lload 12, 2) := by decide +kernel
theorem dX3_productOfFinite_65 : decode cX3_productOfFinite 65 = .ok (.lmul, 1) := by decide +kernel
theorem dX3_productOfFinite_66 : decode cX3_productOfFinite 66 = .ok (.lload 16, 2) := by decide +kernel
theorem dX3_productOfFinite_68 : decode cX3_productOfFinite 68 = .ok (.bipush 27, 2) := by decide +kernel
theorem dX3_productOfFinite_70 : decode cX3_productOfFinite 70 = .ok (.lushr, 1) := by decide +kernel
theorem dX3_productOfFinite_71 : decode cX3_productOfFinite 71 = .ok (.ladd, 1) := by decide +kernel
theorem dX3_productOfFinite_72 : decode cX3_productOfFinite 72 = .ok (.lstore 18, 2) := by decide +kernel
theorem dX3_productOfFinite_74 : decode cX3_productOfFinite 74 = .ok (.lload 10, 2) := by decide +kernel
theorem dX3_productOfFinite_76 : decode cX3_productOfFinite 76 = .ok (.lload 14, 2) := by decide +kernel
theorem dX3_productOfFinite_78 : decode cX3_productOfFinite 78 = .ok (.lmul, 1) := by decide +kernel
theorem dX3_productOfFinite_79 : decode cX3_productOfFinite 79 = .ok (.lload 16, 2) := by decide +kernel
theorem dX3_productOfFinite_81 : decode cX3_productOfFinite 81 = .ok (.ldc2_w 66, 3) := by decide +kernel
theorem dX3_productOfFinite_84 : decode cX3_productOfFinite 84 = .ok (.land, 1) := by decide +kernel
theorem dX3_productOfFinite_85 : decode cX3_productOfFinite 85 = .ok (.bipush 27, 2) := by decide +kernel
theorem dX3_productOfFinite_87 : decode cX3_productOfFinite 87 = .ok (.lshl, 1) := by decide +kernel
theorem dX3_productOfFinite_88 : decode cX3_productOfFinite 88 = .ok (.ladd, 1) := by decide +kernel
theorem dX3_productOfFinite_89 : decode cX3_productOfFinite 89 = .ok (.lstore 20, 2) := by decide +kernel
theorem dX3_productOfFinite_91 : decode cX3_productOfFinite 91 = .ok (.lload 18, 2) := by decide +kernel
theorem dX3_productOfFinite_93 : decode cX3_productOfFinite 93 = .ok (.bipush 10, 2) := by decide +kernel
theorem dX3_productOfFinite_95 : decode cX3_productOfFinite 95 = .ok (.lshl, 1) := by decide +kernel
theorem dX3_productOfFinite_96 : decode cX3_productOfFinite 96 = .ok (.lload 20, 2) := by decide +kernel
theorem dX3_productOfFinite_98 : decode cX3_productOfFinite 98 = .ok (.bipush 44, 2) := by decide +kernel
theorem dX3_productOfFinite_100 : decode cX3_productOfFinite 100 = .ok (.invokestatic 46, 3) := by decide +kernel
theorem dX3_productOfFinite_103 : decode cX3_productOfFinite 103 = .ok (.ladd, 1) := by decide +kernel
theorem dX3_productOfFinite_104 : decode cX3_productOfFinite 104 = .ok (.lstore 22, 2) := by decide +kernel
theorem dX3_productOfFinite_106 : decode cX3_productOfFinite 106 = .ok (.getstatic 11, 3) := by decide +kernel
theorem dX3_productOfFinite_109 : decode cX3_productOfFinite 109 = .ok (.lload_n 0, 1) := by decide +kernel
theorem dX3_productOfFinite_110 : decode cX3_productOfFinite 110 = .ok (.invokevirtual 39, 3) := by decide +kernel
theorem dX3_productOfFinite_113 : decode cX3_productOfFinite 113 = .ok (.getstatic 11, 3) := by decide +kernel
theorem dX3_productOfFinite_116 : decode cX3_productOfFinite 116 = .ok (.lload_n 2, 1) := by decide +kernel
theorem dX3_productOfFinite_117 : decode cX3_productOfFinite 117 = .ok (.invokevirtual 39, 3) := by decide +kernel
theorem dX3_productOfFinite_120 : decode cX3_productOfFinite 120 = .ok (.iadd, 1) := by decide +kernel
theorem dX3_productOfFinite_121 : decode cX3_productOfFinite 121 = .ok (.istore 24, 2) := by decide +kernel
theorem dX3_productOfFinite_123 : decode cX3_productOfFinite 123 = .ok (.getstatic 11, 3) := by decide +kernel
theorem dX3_productOfFinite_126 : decode cX3_productOfFinite 126 = .ok (.lload_n 0, 1) := by decide +kernel
theorem dX3_productOfFinite_127 : decode cX3_productOfFinite 127 = .ok (.lconst 0, 1) := by decide +kernel
theorem dX3_productOfFinite_128 : decode cX3_productOfFinite 128 = .ok (.lcmp, 1) := by decide +kernel
theorem dX3_productOfFinite_129 : decode cX3_productOfFinite 129 = .ok (.ifCond .ge 7, 3) := by decide +kernel
theorem dX3_productOfFinite_132 : decode cX3_productOfFinite 132 = .ok (.iconst 1, 1) := by decide +kernel
theorem dX3_productOfFinite_133 : decode cX3_productOfFinite 133 = .ok (.goto 4, 3) := by decide +kernel
theorem dX3_productOfFinite_136 : decode cX3_productOfFinite 136 = .ok (.iconst 0, 1) := by decide +kernel
theorem dX3_productOfFinite_137 : decode cX3_productOfFinite 137 = .ok (.lload_n 2, 1) := by decide +kernel
theorem dX3_productOfFinite_138 : decode cX3_productOfFinite 138 = .ok (.lconst 0, 1) := by decide +kernel
theorem dX3_productOfFinite_139 : decode cX3_productOfFinite 139 = .ok (.lcmp, 1) := by decide +kernel
theorem dX3_productOfFinite_140 : decode cX3_productOfFinite 140 = .ok (.ifCond .ge 7, 3) := by decide +kernel
theorem dX3_productOfFinite_143 : decode cX3_productOfFinite 143 = .ok (.iconst 1, 1) := by decide +kernel
theorem dX3_productOfFinite_144 : decode cX3_productOfFinite 144 = .ok (.goto 4, 3) := by decide +kernel
theorem dX3_productOfFinite_147 : decode cX3_productOfFinite 147 = .ok (.iconst 0, 1) := by decide +kernel
theorem dX3_productOfFinite_148 : decode cX3_productOfFinite 148 = .ok (.if_icmp .eq 7, 3) := by decide +kernel
theorem dX3_productOfFinite_151 : decode cX3_productOfFinite 151 = .ok (.iconst 1, 1) := by decide +kernel
theorem dX3_productOfFinite_152 : decode cX3_productOfFinite 152 = .ok (.goto 4, 3) := by decide +kernel
theorem dX3_productOfFinite_155 : decode cX3_productOfFinite 155 = .ok (.iconst 0, 1) := by decide +kernel
theorem dX3_productOfFinite_156 : decode cX3_productOfFinite 156 = .ok (.iload 24, 2) := by decide +kernel
theorem dX3_productOfFinite_158 : decode cX3_productOfFinite 158 = .ok (.bipush 54, 2) := by decide +kernel
theorem dX3_productOfFinite_160 : decode cX3_productOfFinite 160 = .ok (.iadd, 1) := by decide +kernel
theorem dX3_productOfFinite_161 : decode cX3_productOfFinite 161 = .ok (.bipush 10, 2) := by decide +kernel
theorem dX3_productOfFinite_163 : decode cX3_productOfFinite 163 = .ok (.isub, 1) := by decide +kernel
theorem dX3_productOfFinite_164 : decode cX3_productOfFinite 164 = .ok (.lload 22, 2) := by decide +kernel
theorem dX3_productOfFinite_166 : decode cX3_productOfFinite 166 = .ok (.invokevirtual 50, 3) := by decide +kernel
theorem dX3_productOfFinite_169 : decode cX3_productOfFinite 169 = .ok (.lreturn, 1) := by decide +kernel
set_option maxRecDepth 20000 in
theorem ggX3_quotient_X0_isNaN : GoodIn wsX3_quotient wsX0_isNaN := goodIn_r _ [8, 9, 10, 11, 12, 7, 13, 14] rfl (by decide +kernel)
set_option maxRecDepth 20000 in
theorem gX3_quotient_X0_isNaN : GoodIn wsX3_quotient (wsV RX3 17 RX0 yX0_isNaN wsX0_isNaN) := goodIn_app (goodIn_of _ (by decide +kernel)) ggX3_quotient_X0_isNaN
set_option maxRecDepth 20000 in
theorem ggX3_quotient_X0_plainNaN : GoodIn wsX3_quotient wsX0_plainNaN := goodIn_r _ [18, 9, 19] rfl (by decide +kernel)
set_option maxRecDepth 20000 in
theorem gX3_quotient_X0_plainNaN : GoodIn wsX3_quotient (wsV RX3 21 RX0 yX0_plainNaN wsX0_plainNaN) := goodIn_app (goodIn_of _ (by decide +kernel)) ggX3_quotient_X0_plainNaN
set_option maxRecDepth 20000 in
theorem ggX3_quotient_X0_isInfinite : GoodIn wsX3_quotient wsX0_isInfinite := goodIn_r _ [23, 9, 10, 11, 12, 7, 13, 14] rfl (by decide +kernel)
set_option maxRecDepth 20000 in
theorem gX3_quotient_X0_isInfinite : GoodIn wsX3_quotient (wsV RX3 25 RX0 yX0_isInfinite wsX0_isInfinite) := goodIn_app (goodIn_of _ (by decide +kernel)) ggX3_quotient_X0_isInfinite
set_option maxRecDepth 20000 in
theorem ggX3_quotient_X0_isZero : GoodIn wsX3_quotient wsX0_isZero := goodIn_r _ [27, 10, 11, 12, 7, 13, 14] rfl (by decide +kernel)
set_option maxRecDepth 20000 in
theorem gX3_quotient_X0_isZero : GoodIn wsX3_quotient (wsV RX3 32 RX0 yX0_isZero wsX0_isZero) := goodIn_app (goodIn_of _ (by decide +kernel)) ggX3_quotient_X0_isZero
set_option maxRecDepth 20000 in
theorem ggX3_quotient_X3_quotientOfFinite : GoodIn wsX3_quotient wsX3_quotientOfFinite := goodIn_r _ [31, 1, 32, 33, 34, 7, 35, 19, 10, 11, 12, 13, 14, 36, 37, 38, 39, 40, 41, 42, 15, 16, 17, 18, 9, 43, 44, 45, 46, 47, 48, 49, 50, 51, 52, 53, 54, 55, 56, 57, 58] rfl (by decide +kernel)
set_option maxRecDepth 20000 in
theorem gX3_quotient_X3_quotientOfFinite : GoodIn wsX3_quotient (va_wsS RX3 68 yX3_quotientOfFinite wsX3_quotientOfFinite) := goodIn_app (goodIn_of _ (by decide +kernel)) ggX3_quotient_X3_quotientOfFinite
theorem dX3_quotient_0 : decode cX3_quotient 0 = .ok (.getstatic 11, 3) := by decide +kernel
theorem dX3_quotient_3 : decode cX3_quotient 3 = .ok (.lload_n 0, 1) := by decide +kernel
theorem dX3_quotient_4 : decode cX3_quotient 4 = .ok (.invokevirtual 17, 3) := by decide +kernel
theorem dX3_quotient_7 : decode cX3_quotient 7 = .ok (.ifCond .ne 13, 3) := by decide +kernel
theorem dX3_quotient_10 : decode cX3_quotient 10 = .ok (.getstatic 11, 3) := by decide +kernel
theorem dX3_quotient_13 : decode cX3_quotient 13 = .ok (.lload_n 2, 1) := by decide +kernel
theorem dX3_quotient_14 : decode cX3_quotient 14 = .ok (.invokevirtual 17, 3) := by decide +kernel
theorem dX3_quotient_17 : decode cX3_quotient 17 = .ok (.ifCond .eq 10, 3) := by decide +kernel
theorem dX3_quotient_20 : decode cX3_quotient 20 = .ok (.getstatic 11, 3) := by decide +kernel
theorem dX3_quotient_23 : decode cX3_quotient 23 = .ok (.invokevirtual 21, 3) := by decide +kernel
theorem dX3_quotient_26 : decode cX3_quotient 26 = .ok (.lreturn, 1) := by decide +kernel
theorem dX3_quotient_27 : decode cX3_quotient 27 = .ok (.lload_n 0, 1) := by decide +kernel
theorem dX3_quotient_28 : decode cX3_quotient 28 = .ok (.lload_n 2, 1) := by decide +kernel
theorem dX3_quotient_29 : decode cX3_quotient 29 = .ok (.lxor, 1) := by decide +kernel
theorem dX3_quotient_30 : decode cX3_quotient 30 = .ok (.ldc2_w 54, 3) := by decide +kernel
theorem dX3_quotient_33 : decode cX3_quotient 33 = .ok (.land, 1) := by decide +kernel
theorem dX3_quotient_34 : decode cX3_quotient 34 = .ok (.lstore 4, 2) := by decide +kernel
theorem dX3_quotient_36 : decode cX3_quotient 36 = .ok (.getstatic 11, 3) := by decide +kernel
theorem dX3_quotient_39 : decode cX3_quotient 39 = .ok (.lload_n 0, 1) := by decide +kernel
theorem dX3_quotient_40 : decode cX3_quotient 40 = .ok (.invokevirtual 25, 3) := by decide +kernel
theorem dX3_quotient_43 : decode cX3_quotient 43 = .ok (.ifCond .eq 32, 3) := by decide +kernel
theorem dX3_quotient_46 : decode cX3_quotient 46 = .ok (.getstatic 11, 3) := by decide +kernel
theorem dX3_quotient_49 : decode cX3_quotient 49 = .ok (.lload_n 2, 1) := by decide +kernel
theorem dX3_quotient_50 : decode cX3_quotient 50 = .ok (.invokevirtual 25, 3) := by decide +kernel
theorem dX3_quotient_53 : decode cX3_quotient 53 = .ok (.ifCond .eq 12, 3) := by decide +kernel
theorem dX3_quotient_56 : decode cX3_quotient 56 = .ok (.getstatic 11, 3) := by decide +kernel
theorem dX3_quotient_59 : decode cX3_quotient 59 = .ok (.invokevirtual 21, 3) := by decide +kernel
theorem dX3_quotient_62 : decode cX3_quotient 62 = .ok (.goto 12, 3) := by decide +kernel
theorem dX3_quotient_65 : decode cX3_quotient 65 = .ok (.lload 4, 2) := by decide +kernel
theorem dX3_quotient_67 : decode cX3_quotient 67 = .ok (.getstatic 11, 3) := by decide +kernel
theorem dX3_quotient_70 : decode cX3_quotient 70 = .ok (.getfield 59, 3) := by decide +kernel
theorem dX3_quotient_73 : decode cX3_quotient 73 = .ok (.lor, 1) := by decide +kernel
theorem dX3_quotient_74 : decode cX3_quotient 74 = .ok (.lreturn, 1) := by decide +kernel
theorem dX3_quotient_75 : decode cX3_quotient 75 = .ok (.getstatic 11, 3) := by decide +kernel
theorem dX3_quotient_78 : decode cX3_quotient 78 = .ok (.lload_n 2, 1) := by decide +kernel
theorem dX3_quotient_79 : decode cX3_quotient 79 = .ok (.invokevirtual 32, 3) := by decide +kernel
theorem dX3_quotient_82 : decode cX3_quotient 82 = .ok (.ifCond .eq 32, 3) := by decide +kernel
theorem dX3_quotient_85 : decode cX3_quotient 85 = .ok (.getstatic 11, 3) := by decide +kernel
theorem dX3_quotient_88 : decode cX3_quotient 88 = .ok (.lload_n 0, 1) := by decide +kernel
theorem dX3_quotient_89 : decode cX3_quotient 89 = .ok (.invokevirtual 32, 3) := by decide +kernel
theorem dX3_quotient_92 : decode cX3_quotient 92 = .ok (.ifCond .eq 12, 3) := by decide +kernel
theorem dX3_quotient_95 : decode cX3_quotient 95 = .ok (.getstatic 11, 3) := by decide +kernel
theorem dX3_quotient_98 : decode cX3_quotient 98 = .ok (.invokevirtual 21, 3) := by decide +kernel
theorem dX3_quotient_101 : decode cX3_quotient 101 = .ok (.goto 12, 3) := by decide +kernel
theorem dX3_quotient_104 : decode cX3_quotient 104 = .ok (.lload 4, 2) := by decide +kernel
theorem dX3_quotient_106 : decode cX3_quotient 106 = .ok (.getstatic 11, 3) := by decide +kernel
theorem dX3_quotient_109 : decode cX3_quotient 109 = .ok (.getfield 59, 3) := by decide +kernel
theorem dX3_quotient_112 : decode cX3_quotient 112 = .ok (.lor, 1) := by decide +kernel
theorem dX3_quotient_113 : decode cX3_quotient 113 = .ok (.lreturn, 1) := by decide +kernel
theorem dX3_quotient_114 : decode cX3_quotient 114 = .ok (.getstatic 11, 3) := by decide +kernel
theorem dX3_quotient_117 : decode cX3_quotient 117 = .ok (.lload_n 0, 1) := by decide +kernel
theorem dX3_quotient_118 : decode cX3_quotient 118 = .ok (.invokevirtual 32, 3) := by decide +kernel
theorem dX3_quotient_121 : decode cX3_quotient 121 = .ok (.ifCond .ne 13, 3) := by decide +kernel
theorem dX3_quotient_124 : decode cX3_quotient 124 = .ok (.getstatic 11, 3) := by decide +kernel
theorem dX3_quotient_127 : decode cX3_quotient 127 = .ok (.lload_n 2, 1) := by decide +kernel
theorem dX3_quotient_128 : decode cX3_quotient 128 = .ok (.invokevirtual 25, 3) := by decide +kernel
theorem dX3_quotient_131 : decode cX3_quotient 131 = .ok (.ifCond .eq 8, 3) := by decide +kernel
theorem dX3_quotient_134 : decode cX3_quotient 134 = .ok (.lload 4, 2) := by decide +kernel
theorem dX3_quotient_136 : decode cX3_quotient 136 = .ok (.goto 8, 3) := by decide +kernel
theorem dX3_quotient_139 : decode cX3_quotient 139 = .ok (.lload_n 0, 1) := by decide +kernel
theorem dX3_quotient_140 : decode cX3_quotient 140 = .ok (.lload_n 2, 1) := by decide +kernel
theorem dX3_quotient_141 : decode cX3_quotient 141 = .ok (.invokestatic 68, 3) := by decide +kernel
theorem dX3_quotient_144 : decode cX3_quotient 144 = .ok (.lreturn, 1) := by decide +kernel
set_option maxRecDepth 20000 in
theorem ggX3_quotientOfFinite_X0_significand : GoodIn wsX3_quotientOfFinite wsX0_significand := goodIn_r _ [6, 7, 8, 9, 10, 5, 11, 12, 13, 14, 15, 16, 17, 18, 19] rfl (by decide +kernel)
set_option maxRecDepth 20000 in
theorem gX3_quotientOfFinite_X0_significand : GoodIn wsX3_quotientOfFinite (wsV RX3 43 RX0 yX0_significand wsX0_significand) := goodIn_app (goodIn_of _ (by decide +kernel)) ggX3_quotientOfFinite_X0_significand
set_option maxRecDepth 20000 in
theorem ggX3_quotientOfFinite_X0_plainNaN : GoodIn wsX3_quotientOfFinite wsX0_plainNaN := goodIn_r _ [23, 24, 7] rfl (by decide +kernel)
set_option maxRecDepth 20000 in
theorem gX3_quotientOfFinite_X0_plainNaN : GoodIn wsX3_quotientOfFinite (wsV RX3 21 RX0 yX0_plainNaN wsX0_plainNaN) := goodIn_app (goodIn_of _ (by decide +kernel)) ggX3_quotientOfFinite_X0_plainNaN
set_option maxRecDepth 20000 in
theorem ggX3_quotientOfFinite_X0_exponent : GoodIn wsX3_quotientOfFinite wsX0_exponent := goodIn_r _ [28, 7, 29, 30, 31, 32, 33, 8, 9, 10, 5, 11, 12, 13, 14, 15, 16, 17, 18, 19] rfl (by decide +kernel)
set_option maxRecDepth 20000 in
theorem gX3_quotientOfFinite_X0_exponent : GoodIn wsX3_quotientOfFinite (wsV RX3 39 RX0 yX0_exponent wsX0_exponent) := goodIn_app (goodIn_of _ (by decide +kernel)) ggX3_quotientOfFinite_X0_exponent
set_option maxRecDepth 20000 in
theorem ggX3_quotientOfFinite_X0_pack : GoodIn wsX3_quotientOfFinite wsX0_pack := goodIn_r _ [37, 12, 7, 29, 30, 31, 32, 33, 24, 17, 18, 5, 19, 38, 39, 40] rfl (by decide +kernel)
set_option maxRecDepth 20000 in
theorem gX3_quotientOfFinite_X0_pack : GoodIn wsX3_quotientOfFinite (wsV RX3 50 RX0 yX0_pack wsX0_pack) := goodIn_app (goodIn_of _ (by decide +kernel)) ggX3_quotientOfFinite_X0_pack
theorem dX3_quotientOfFinite_0 : decode cX3_quotientOfFinite 0 = .ok (.getstatic 11, 3) := by decide +kernel
theorem dX3_quotientOfFinite_3 : decode cX3_quotientOfFinite 3 = .ok (.lload_n 2, 1) := by decide +kernel
theorem dX3_quotientOfFinite_4 : decode cX3_quotientOfFinite 4 = .ok (.invokevirtual 43, 3) := by decide +kernel
theorem dX3_quotientOfFinite_7 : decode cX3_quotientOfFinite 7 = .ok (.lstore 4, 2) := by decide +kernel
theorem dX3_quotientOfFinite_9 : decode cX3_quotientOfFinite 9 = .ok (.lload 4, 2) := by decide +kernel
theorem dX3_quotientOfFinite_11 : decode cX3_quotientOfFinite 11 = .ok (.lconst 0, 1) := by decide +kernel
theorem dX3_quotientOfFinite_12 : decode cX3_quotientOfFinite 12 = .ok (.lcmp, 1) := by decide +kernel
theorem dX3_quotientOfFinite_13 : decode cX3_quotientOfFinite 13 = .ok (.ifCond .ne 10, 3) := by decide +kernel
theorem dX3_quotientOfFinite_16 : decode cX3_quotientOfFinite 16 = .ok (.getstatic 11, 3) := by decide +kernel
theorem dX3_quotientOfFinite_19 : decode cX3_quotientOfFinite 19 = .ok (.invokevirtual 21, 3) := by decide +kernel
theorem dX3_quotientOfFinite_22 : decode cX3_quotientOfFinite 22 = .ok (.lreturn, 1) := by decide +kernel
theorem dX3_quotientOfFinite_23 : decode cX3_quotientOfFinite 23 = .ok (.getstatic 11, 3) := by decide +kernel
theorem dX3_quotientOfFinite_26 : decode cX3_quotientOfFinite 26 = .ok (.lload_n 0, 1) := by decide +kernel
theorem dX3_quotientOfFinite_27 : decode cX3_quotientOfFinite 27 = .ok (.invokevirtual 43, 3) := by decide +kernel
theorem dX3_quotientOfFinite_30 : decode cX3_quotientOfFinite 30 = .ok (.lstore 6, 2) := by decide +kernel
theorem dX3_quotientOfFinite_32 : decode cX3_quotientOfFinite 32 = .ok (.lload 6, 2) := by decide +kernel
theorem dX3_quotientOfFinite_34 : decode cX3_quotientOfFinite 34 = .ok (.lload 4, 2) := by decide +kernel
theorem dX3_quotientOfFinite_36 : decode cX3_quotientOfFinite 36 = .ok (.ldiv, 1) := by decide +kernel
theorem dX3_quotientOfFinite_37 : decode cX3_quotientOfFinite 37 = .ok (.lstore 8, 2) := by decide +kernel
theorem dX3_quotientOfFinite_39 : decode cX3_quotientOfFinite 39 = .ok (.lload 6, 2) := by decide +kernel
theorem dX3_quotientOfFinite_41 : decode cX3_quotientOfFinite 41 = .ok (.lload 4, 2) := by decide +kernel
theorem dX3_quotientOfFinite_43 : decode cX3_quotientOfFinite 43 = .ok (.lrem, 1) := by decide +kernel
theorem dX3_quotientOfFinite_44 : decode cX3_quotientOfFinite 44 = .ok (.lstore 6, 2) := by decide +kernel
theorem dX3_quotientOfFinite_46 : decode cX3_quotientOfFinite 46 = .ok (.iconst 0, 1) := by decide +kernel
theorem dX3_quotientOfFinite_47 : decode cX3_quotientOfFinite 47 = .ok (.istore 10, 2) := by decide +kernel
theorem dX3_quotientOfFinite_49 : decode cX3_quotientOfFinite 49 = .ok (.iconst 0, 1) := by decide +kernel
theorem dX3_quotientOfFinite_50 : decode cX3_quotientOfFinite 50 = .ok (.istore 11, 2) := by decide +kernel
theorem dX3_quotientOfFinite_52 : decode cX3_quotientOfFinite 52 = .ok (.iload 11, 2) := by decide +kernel
theorem dX3_quotientOfFinite_54 : decode cX3_quotientOfFinite 54 = .ok (.bipush 6, 2) := by decide +kernel
theorem dX3_quotientOfFinite_56 : decode cX3_quotientOfFinite 56 = .ok (.if_icmp .ge 39, 3) := by decide +kernel
theorem dX3_quotientOfFinite_59 : decode cX3_quotientOfFinite 59 = .ok (.lload 6, 2) := by decide +kernel
theorem dX3_quotientOfFinite_61 : decode cX3_quotientOfFinite 61 = .ok (.bipush 10, 2) := by decide +kernel
theorem dX3_quotientOfFinite_63 : decode cX3_quotientOfFinite 63 = .ok (.lshl, 1) := by decide +kernel
theorem dX3_quotientOfFinite_64 : decode cX3_quotientOfFinite 64 = .ok (.lstore 6, 2) := by decide +kernel
theorem dX3_quotientOfFinite_66 : decode cX3_quotientOfFinite 66 = .ok (.lload 8, 2) := by decide +kernel
theorem dX3_quotientOfFinite_68 : decode cX3_quotientOfFinite 68 = .ok (.bipush 10, 2) := by decide +kernel
theorem dX3_quotientOfFinite_70 : decode cX3_quotientOfFinite 70 = .ok (.lshl, 1) := by decide +kernel
theorem dX3_quotientOfFinite_71 : decode cX3_quotientOfFinite 71 = .ok (.lload 6, 2) := by decide +kernel
theorem dX3_quotientOfFinite_73 : decode cX3_quotientOfFinite 73 = .ok (.lload 4, 2) := by decide +kernel
theorem dX3_quotientOfFinite_75 : decode cX3_quotientOfFinite 75 = .ok (.ldiv, 1) := by decide +kernel
theorem dX3_quotientOfFinite_76 : decode cX3_quotientOfFinite 76 = .ok (.ladd, 1) := by decide +kernel
theorem dX3_quotientOfFinite_77 : decode cX3_quotientOfFinite 77 = .ok (.lstore 8, 2) := by decide +kernel
theorem dX3_quotientOfFinite_79 : decode cX3_quotientOfFinite 79 = .ok (.lload 6, 2) := by decide +kernel
theorem dX3_quotientOfFinite_81 : decode cX3_quotientOfFinite 81 = .ok (.lload 4, 2) := by decide +kernel
theorem dX3_quotientOfFinite_83 : decode cX3_quotientOfFinite 83 = .ok (.lrem, 1) := by decide +kernel
theorem dX3_quotientOfFinite_84 : decode cX3_quotientOfFinite 84 = .ok (.lstore 6, 2) := by decide +kernel
theorem dX3_quotientOfFinite_86 : decode cX3_quotientOfFinite 86 = .ok (.iinc 10 10, 3) := by decide +kernel
theorem dX3_quotientOfFinite_89 : decode cX3_quotientOfFinite 89 = .ok (.iinc 11 1, 3) := by decide +kernel
theorem dX3_quotientOfFinite_92 : decode cX3_quotientOfFinite 92 = .ok (.goto (-40), 3) := by decide +kernel
theorem dX3_quotientOfFinite_95 : decode cX3_quotientOfFinite 95 = .ok (.getstatic 11, 3) := by decide +kernel
theorem dX3_quotientOfFinite_98 : decode cX3_quotientOfFinite 98 = .ok (.lload_n 0, 1) := by decide +kernel
theorem dX3_quotientOfFinite_99 : decode cX3_quotientOfFinite 99 = .ok (.invokevirtual 39, 3) := by decide +kernel
theorem dX3_quotientOfFinite_102 : decode cX3_quotientOfFinite 102 = .ok (.getstatic 11, 3) := by decide +kernel
theorem dX3_quotientOfFinite_105 : decode cX3_quotientOfFinite 105 = .ok (.lload_n 2, 1) := by decide +kernel
theorem dX3_quotientOfFinite_106 : decode cX3_quotientOfFinite 106 = .ok (.invokevirtual 39, 3) := by decide +kernel
theorem dX3_quotientOfFinite_109 : decode cX3_quotientOfFinite 109 = .ok (.isub, 1) := by decide +kernel
theorem dX3_quotientOfFinite_110 : decode cX3_quotientOfFinite 110 = .ok (.iload 10, 2) := by decide +kernel
theorem dX3_quotientOfFinite_112 : decode cX3_quotientOfFinite 112 = .ok (.isub, 1) := by decide +kernel
theorem dX3_quotientOfFinite_113 : decode cX3_quotientOfFinite 113 = .ok (.istore 11, 2) := by decide +kernel
theorem dX3_quotientOfFinite_115 : decode cX3_quotientOfFinite 115 = .ok (.getstatic 11, 3) := by decide +kernel
theorem dX3_quotientOfFinite_118 : decode cX3_quotientOfFinite 118 = .ok (.lload_n 0, 1) := by decide +kernel
theorem dX3_quotientOfFinite_119 : decode cX3_quotientOfFinite 119 = .ok (.lconst 0, 1) := by decide +kernel
theorem dX3_quotientOfFinite_120 : decode cX3_quotientOfFinite 120 = .ok (.lcmp, 1) := by decide +kernel
theorem dX3_quotientOfFinite_121 : decode cX3_quotientOfFinite 121 = .ok (.ifCond .ge 7, 3) := by decide +kernel
theorem dX3_quotientOfFinite_124 : decode cX3_quotientOfFinite 124 = .ok (.iconst 1, 1) := by decide +kernel
theorem dX3_quotientOfFinite_125 : decode cX3_quotientOfFinite 125 = .ok (.goto 4, 3) := by decide +kernel
theorem dX3_quotientOfFinite_128 : decode cX3_quotientOfFinite 128 = .ok (.iconst 0, 1) := by decide +kernel
theorem dX3_quotientOfFinite_129 : decode cX3_quotientOfFinite 129 = .ok (.lload_n 2, 1) := by decide +kernel
theorem dX3_quotientOfFinite_130 : decode cX3_quotientOfFinite 130 = .ok (.lconst 0, 1) := by decide +kernel
theorem dX3_quotientOfFinite_131 : decode cX3_quotientOfFinite 131 = .ok (.lcmp, 1) := by decide +kernel
theorem dX3_quotientOfFinite_132 : decode cX3_quotientOfFinite 132 = .ok (.ifCond .ge 7, 3) := by decide +kernel
theorem dX3_quotientOfFinite_135 : decode cX3_quotientOfFinite 135 = .ok (.iconst 1, 1) := by decide +kernel
theorem dX3_quotientOfFinite_136 : decode cX3_quotientOfFinite 136 = .ok (.goto 4, 3) := by decide +kernel
theorem dX3_quotientOfFinite_139 : decode cX3_quotientOfFinite 139 = .ok (.iconst 0, 1) := by decide +kernel
theorem dX3_quotientOfFinite_140 : decode cX3_quotientOfFinite 140 = .ok (.if_icmp .eq 7, 3) := by decide +kernel
theorem dX3_quotientOfFinite_143 : decode cX3_quotientOfFinite 143 = .ok (.iconst 1, 1) := by decide +kernel
theorem dX3_quotientOfFinite_144 : decode cX3_quotientOfFinite 144 = .ok (.goto 4, 3) := by decide +kernel
theorem dX3_quotientOfFinite_147 : decode cX3_quotientOfFinite 147 = .ok (.iconst 0, 1) := by decide +kernel
theorem dX3_quotientOfFinite_148 : decode cX3_quotientOfFinite 148 = .ok (.iload 11, 2) := by decide +kernel
theorem dX3_quotientOfFinite_150 : decode cX3_quotientOfFinite 150 = .ok (.lload 6, 2) := by decide +kernel
theorem dX3_quotientOfFinite_152 : decode cX3_quotientOfFinite 152 = .ok (.lconst 0, 1) := by decide +kernel
theorem dX3_quotientOfFinite_153 : decode cX3_quotientOfFinite 153 = .ok (.lcmp, 1) := by decide +kernel
theorem dX3_quotientOfFinite_154 : decode cX3_quotientOfFinite 154 = .ok (.ifCond .ne 8, 3) := by decide +kernel
theorem dX3_quotientOfFinite_157 : decode cX3_quotientOfFinite 157 = .ok (.lload 8, 2) := by decide +kernel
theorem dX3_quotientOfFinite_159 : decode cX3_quotientOfFinite 159 = .ok (.goto 7, 3) := by decide +kernel
theorem dX3_quotientOfFinite_162 : decode cX3_quotientOfFinite 162 = .ok (.lload 8, 2) := by decide +kernel
theorem dX3_quotientOfFinite_164 : decode cX3_quotientOfFinite 164 = .ok (.lconst 1, 1) := by decide +kernel
theorem dX3_quotientOfFinite_165 : decode cX3_quotientOfFinite 165 = .ok (.lor, 1) := by decide +kernel
theorem dX3_quotientOfFinite_166 : decode cX3_quotientOfFinite 166 = .ok (.invokevirtual 50, 3) := by decide +kernel
theorem dX3_quotientOfFinite_169 : decode cX3_quotientOfFinite 169 = .ok (.lreturn, 1) := by decide +kernel
set_option maxRecDepth 20000 in
theorem ggX3_remainder_X0_isNaN : GoodIn wsX3_remainder wsX0_isNaN := goodIn_r _ [6, 7, 8, 9, 10, 5, 11, 12] rfl (by decide +kernel)
set_option maxRecDepth 20000 in
theorem gX3_remainder_X0_isNaN : GoodIn wsX3_remainder (wsV RX3 17 RX0 yX0_isNaN wsX0_isNaN) := goodIn_app (goodIn_of _ (by decide +kernel)) ggX3_remainder_X0_isNaN
set_option maxRecDepth 20000 in
theorem ggX3_remainder_X0_isInfinite : GoodIn wsX3_remainder wsX0_isInfinite := goodIn_r _ [16, 7, 8, 9, 10, 5, 11, 12] rfl (by decide +kernel)
set_option maxRecDepth 20000 in
theorem gX3_remainder_X0_isInfinite : GoodIn wsX3_remainder (wsV RX3 25 RX0 yX0_isInfinite wsX0_isInfinite) := goodIn_app (goodIn_of _ (by decide +kernel)) ggX3_remainder_X0_isInfinite
set_option maxRecDepth 20000 in
theorem ggX3_remainder_X0_isZero : GoodIn wsX3_remainder wsX0_isZero := goodIn_r _ [20, 8, 9, 10, 5, 11, 12] rfl (by decide +kernel)
set_option maxRecDepth 20000 in
theorem gX3_remainder_X0_isZero : GoodIn wsX3_remainder (wsV RX3 32 RX0 yX0_isZero wsX0_isZero) := goodIn_app (goodIn_of _ (by decide +kernel)) ggX3_remainder_X0_isZero
set_option maxRecDepth 20000 in
theorem ggX3_remainder_X0_plainNaN : GoodIn wsX3_remainder wsX0_plainNaN := goodIn_r _ [24, 7, 25] rfl (by decide +kernel)
set_option maxRecDepth 20000 in
theorem gX3_remainder_X0_plainNaN : GoodIn wsX3_remainder (wsV RX3 21 RX0 yX0_plainNaN wsX0_plainNaN) := goodIn_app (goodIn_of _ (by decide +kernel)) ggX3_remainder_X0_plainNaN
set_option maxRecDepth 20000 in
theorem ggX3_remainder_X0_magnitude : GoodIn wsX3_remainder wsX0_magnitude := goodIn_r _ [11, 12] rfl (by decide +kernel)
set_option maxRecDepth 20000 in
theorem gX3_remainder_X0_magnitude : GoodIn wsX3_remainder (wsV RX3 28 RX0 yX0_magnitude wsX0_magnitude) := goodIn_app (goodIn_of _ (by decide +kernel)) ggX3_remainder_X0_magnitude
set_option maxRecDepth 20000 in
theorem ggX3_remainder_X3_remainderOfFinite : GoodIn wsX3_remainder wsX3_remainderOfFinite := goodIn_r _ [30, 1, 31, 32, 33, 34, 35, 36, 37, 5, 38, 25, 8, 9, 10, 11, 12, 39, 40, 41, 42, 43, 44, 45, 21, 22, 23, 24, 7, 46, 47, 48, 49, 50, 51, 52, 53, 54, 55, 56, 57, 58, 59, 60] rfl (by decide +kernel)
set_option maxRecDepth 20000 in
theorem gX3_remainder_X3_remainderOfFinite : GoodIn wsX3_remainder (va_wsS RX3 71 yX3_remainderOfFinite wsX3_remainderOfFinite) := goodIn_app (goodIn_of _ (by decide +kernel)) ggX3_remainder_X3_remainderOfFinite
theorem dX3_remainder_0 : decode cX3_remainder 0 = .ok (.getstatic 11, 3) := by decide +kernel
theorem dX3_remainder_3 : decode cX3_remainder 3 = .ok (.lload_n 0, 1) := by decide +kernel
theorem dX3_remainder_4 : decode cX3_remainder 4 = .ok (.invokevirtual 17, 3) := by decide +kernel
theorem dX3_remainder_7 : decode cX3_remainder 7 = .ok (.ifCond .ne 13, 3) := by decide +kernel
theorem dX3_remainder_10 : decode cX3_remainder 10 = .ok (.getstatic 11, 3) := by decide +kernel
theorem dX3_remainder_13 : decode cX3_remainder 13 = .ok (.lload_n 2, 1) := by decide +kernel
theorem dX3_remainder_14 : decode cX3_remainder 14 = .ok (.invokevirtual 17, 3) := by decide +kernel
theorem dX3_remainder_17 : decode cX3_remainder 17 = .ok (.ifCond .eq 7, 3) := by decide +kernel
theorem dX3_remainder_20 : decode cX3_remainder 20 = .ok (.iconst 1, 1) := by decide +kernel
theorem dX3_remainder_21 : decode cX3_remainder 21 = .ok (.goto 4, 3) := by decide +kernel
theorem dX3_remainder_24 : decode cX3_remainder 24 = .ok (.iconst 0, 1) := by decide +kernel
theorem dX3_remainder_25 : decode cX3_remainder 25 = .ok (.istore 4, 2) := by decide +kernel
theorem dX3_remainder_27 : decode cX3_remainder 27 = .ok (.iload 4, 2) := by decide +kernel
theorem dX3_remainder_29 : decode cX3_remainder 29 = .ok (.ifCond .ne 23, 3) := by decide +kernel
theorem dX3_remainder_32 : decode cX3_remainder 32 = .ok (.getstatic 11, 3) := by decide +kernel
theorem dX3_remainder_35 : decode cX3_remainder 35 = .ok (.lload_n 0, 1) := by decide +kernel
theorem dX3_remainder_36 : decode cX3_remainder 36 = .ok (.invokevirtual 25, 3) := by decide +kernel
theorem dX3_remainder_39 : decode cX3_remainder 39 = .ok (.ifCond .ne 13, 3) := by decide +kernel
theorem dX3_remainder_42 : decode cX3_remainder 42 = .ok (.getstatic 11, 3) := by decide +kernel
theorem dX3_remainder_45 : decode cX3_remainder 45 = .ok (.lload_n 2, 1) := by decide +kernel
theorem dX3_remainder_46 : decode cX3_remainder 46 = .ok (.invokevirtual 32, 3) := by decide +kernel
theorem dX3_remainder_49 : decode cX3_remainder 49 = .ok (.ifCond .eq 10, 3) := by decide +kernel
theorem dX3_remainder_52 : decode cX3_remainder 52 = .ok (.getstatic 11, 3) := by decide +kernel
theorem dX3_remainder_55 : decode cX3_remainder 55 = .ok (.invokevirtual 21, 3) := by decide +kernel
theorem dX3_remainder_58 : decode cX3_remainder 58 = .ok (.lreturn, 1) := by decide +kernel
theorem dX3_remainder_59 : decode cX3_remainder 59 = .ok (.getstatic 11, 3) := by decide +kernel
theorem dX3_remainder_62 : decode cX3_remainder 62 = .ok (.lload_n 0, 1) := by decide +kernel
theorem dX3_remainder_63 : decode cX3_remainder 63 = .ok (.invokevirtual 28, 3) := by decide +kernel
theorem dX3_remainder_66 : decode cX3_remainder 66 = .ok (.getstatic 11, 3) := by decide +kernel
theorem dX3_remainder_69 : decode cX3_remainder 69 = .ok (.lload_n 2, 1) := by decide +kernel
theorem dX3_remainder_70 : decode cX3_remainder 70 = .ok (.invokevirtual 28, 3) := by decide +kernel
theorem dX3_remainder_73 : decode cX3_remainder 73 = .ok (.lcmp, 1) := by decide +kernel
theorem dX3_remainder_74 : decode cX3_remainder 74 = .ok (.ifCond .ge 7, 3) := by decide +kernel
theorem dX3_remainder_77 : decode cX3_remainder 77 = .ok (.iconst 1, 1) := by decide +kernel
theorem dX3_remainder_78 : decode cX3_remainder 78 = .ok (.goto 4, 3) := by decide +kernel
theorem dX3_remainder_81 : decode cX3_remainder 81 = .ok (.iconst 0, 1) := by decide +kernel
theorem dX3_remainder_82 : decode cX3_remainder 82 = .ok (.istore 5, 2) := by decide +kernel
theorem dX3_remainder_84 : decode cX3_remainder 84 = .ok (.iload 5, 2) := by decide +kernel
theorem dX3_remainder_86 : decode cX3_remainder 86 = .ok (.ifCond .eq 7, 3) := by decide +kernel
theorem dX3_remainder_89 : decode cX3_remainder 89 = .ok (.lload_n 0, 1) := by decide +kernel
theorem dX3_remainder_90 : decode cX3_remainder 90 = .ok (.goto 8, 3) := by decide +kernel
theorem dX3_remainder_93 : decode cX3_remainder 93 = .ok (.lload_n 0, 1) := by decide +kernel
theorem dX3_remainder_94 : decode cX3_remainder 94 = .ok (.lload_n 2, 1) := by decide +kernel
theorem dX3_remainder_95 : decode cX3_remainder 95 = .ok (.invokestatic 71, 3) := by decide +kernel
theorem dX3_remainder_98 : decode cX3_remainder 98 = .ok (.lreturn, 1) := by decide +kernel
set_option maxRecDepth 20000 in
theorem ggX3_remainderOfFinite_X0_significand : GoodIn wsX3_remainderOfFinite wsX0_significand := goodIn_r _ [10, 11, 12, 13, 14, 9, 15, 16, 17, 18, 19, 20, 21, 22, 23] rfl (by decide +kernel)
set_option maxRecDepth 20000 in
theorem gX3_remainderOfFinite_X0_significand : GoodIn wsX3_remainderOfFinite (wsV RX3 43 RX0 yX0_significand wsX0_significand) := goodIn_app (goodIn_of _ (by decide +kernel)) ggX3_remainderOfFinite_X0_significand
set_option maxRecDepth 20000 in
theorem ggX3_remainderOfFinite_X0_plainNaN : GoodIn wsX3_remainderOfFinite wsX0_plainNaN := goodIn_r _ [27, 28, 11] rfl (by decide +kernel)
set_option maxRecDepth 20000 in
theorem gX3_remainderOfFinite_X0_plainNaN : GoodIn wsX3_remainderOfFinite (wsV RX3 21 RX0 yX0_plainNaN wsX0_plainNaN) := goodIn_app (goodIn_of _ (by decide +kernel)) ggX3_remainderOfFinite_X0_plainNaN
set_option maxRecDepth 20000 in
theorem ggX3_remainderOfFinite_X0_exponent : GoodIn wsX3_remainderOfFinite wsX0_exponent := goodIn_r _ [32, 11, 33, 34, 35, 4, 36, 12, 13, 14, 9, 15, 16, 17, 18, 19, 20, 21, 22, 23] rfl (by decide +kernel)
set_option maxRecDepth 20000 in
theorem gX3_remainderOfFinite_X0_exponent : GoodIn wsX3_remainderOfFinite (wsV RX3 39 RX0 yX0_exponent wsX0_exponent) := goodIn_app (goodIn_of _ (by decide +kernel)) ggX3_remainderOfFinite_X0_exponent
set_option maxRecDepth 20000 in
theorem ggX3_remainderOfFinite_X0_pack : GoodIn wsX3_remainderOfFinite wsX0_pack := goodIn_r _ [40, 16, 11, 33, 34, 35, 4, 36, 28, 21, 22, 9, 23, 41, 42, 43] rfl (by decide +kernel)
set_option maxRecDepth 20000 in
theorem gX3_remainderOfFinite_X0_pack : GoodIn wsX3_remainderOfFinite (wsV RX3 50 RX0 yX0_pack wsX0_pack) := goodIn_app (goodIn_of _ (by decide +kernel)) ggX3_remainderOfFinite_X0_pack
theorem dX3_remainderOfFinite_0 : decode cX3_remainderOfFinite 0 = .ok (.getstatic 11, 3) := by decide +kernel
theorem dX3_remainderOfFinite_3 : decode cX3_remainderOfFinite 3 = .ok (.lload_n 2, 1) := by decide +kernel
theorem dX3_remainderOfFinite_4 : decode cX3_remainderOfFinite 4 = .ok (.invokevirtual 43, 3) := by decide +kernel
theorem dX3_remainderOfFinite_7 : decode cX3_remainderOfFinite 7 = .ok (.lstore 4, 2) := by decide +kernel
theorem dX3_remainderOfFinite_9 : decode cX3_remainderOfFinite 9 = .ok (.lload 4, 2) := by decide +kernel
theorem dX3_remainderOfFinite_11 : decode cX3_remainderOfFinite 11 = .ok (.lconst 0, 1) := by decide +kernel
theorem dX3_remainderOfFinite_12 : decode cX3_remainderOfFinite 12 = .ok (.lcmp, 1) := by decide +kernel
theorem dX3_remainderOfFinite_13 : decode cX3_remainderOfFinite 13 = .ok (.ifCond .ne 10, 3) := by decide +kernel
theorem dX3_remainderOfFinite_16 : decode cX3_remainderOfFinite 16 = .ok (.getstatic 11, 3) := by decide +kernel
theorem dX3_remainderOfFinite_19 : decode cX3_remainderOfFinite 19 = .ok (.invokevirtual 21, 3) := by decide +kernel
theorem dX3_remainderOfFinite_22 : decode cX3_remainderOfFinite 22 = .ok (.lreturn, 1) := by decide +kernel
theorem dX3_remainderOfFinite_23 : decode cX3_remainderOfFinite 23 = .ok (.getstatic 11, 3) := by decide +kernel
theorem dX3_remainderOfFinite_26 : decode cX3_remainderOfFinite 26 = .ok (.lload_n 2, 1) := by decide +kernel
theorem dX3_remainderOfFinite_27 : decode cX3_remainderOfFinite 27 = .ok (.invokevirtual 39, 3) := by decide +kernel
theorem dX3_remainderOfFinite_30 : decode cX3_remainderOfFinite 30 = .ok (.istore 6, 2) := by decide +kernel
theorem dX3_remainderOfFinite_32 : decode cX3_remainderOfFinite 32 = .ok (.getstatic 11, 3) := by decide +kernel
theorem dX3_remainderOfFinite_35 : decode cX3_remainderOfFinite 35 = .ok (.lload_n 0, 1) := by decide +kernel
theorem dX3_remainderOfFinite_36 : decode cX3_remainderOfFinite 36 = .ok (.invokevirtual 43, 3) := by decide +kernel
theorem dX3_remainderOfFinite_39 : decode cX3_remainderOfFinite 39 = .ok (.lload 4, 2) := by decide +kernel
theorem dX3_remainderOfFinite_41 : decode cX3_remainderOfFinite 41 = .ok (.lrem, 1) := by decide +kernel
theorem dX3_remainderOfFinite_42 : decode cX3_remainderOfFinite 42 = .ok (.lstore 7, 2) := by decide +kernel
theorem dX3_remainderOfFinite_44 : decode cX3_remainderOfFinite 44 = .ok (.getstatic 11, 3) := by decide +kernel
theorem dX3_remainderOfFinite_47 : decode cX3_remainderOfFinite 47 = .ok (.lload_n 0, 1) := by decide +kernel
theorem dX3_remainderOfFinite_48 : decode cX3_remainderOfFinite 48 = .ok (.invokevirtual 39, 3) := by decide +kernel
theorem dX3_remainderOfFinite_51 : decode cX3_remainderOfFinite 51 = .ok (.iload 6, 2) := by decide +kernel
theorem dX3_remainderOfFinite_53 : decode cX3_remainderOfFinite 53 = .ok (.isub, 1) := by decide +kernel
theorem dX3_remainderOfFinite_54 : decode cX3_remainderOfFinite 54 = .ok (.istore 9, 2) := by decide +kernel
theorem dX3_remainderOfFinite_56 : decode cX3_remainderOfFinite 56 = .ok (.iload 9, 2) := by decide +kernel
theorem dX3_remainderOfFinite_58 : decode cX3_remainderOfFinite 58 = .ok (.ifCond .le 24, 3) := by decide +kernel
theorem dX3_remainderOfFinite_61 : decode cX3_remainderOfFinite 61 = .ok (.lload 7, 2) := by decide +kernel
theorem dX3_remainderOfFinite_63 : decode cX3_remainderOfFinite 63 = .ok (.iload 9, 2) := by decide +kernel
theorem dX3_remainderOfFinite_65 : decode cX3_remainderOfFinite 65 = .ok (.bipush 10, 2) := by decide +kernel
theorem dX3_remainderOfFinite_67 : decode cX3_remainderOfFinite 67 = .ok (.invokestatic 74, 3) := by decide +kernel
theorem dX3_remainderOfFinite_70 : decode cX3_remainderOfFinite 70 = .ok (.lshl, 1) := by decide +kernel
theorem dX3_remainderOfFinite_71 : decode cX3_remainderOfFinite 71 = .ok (.lload 4, 2) := by decide +kernel
theorem dX3_remainderOfFinite_73 : decode cX3_remainderOfFinite 73 = .ok (.lrem, 1) := by decide +kernel
theorem dX3_remainderOfFinite_74 : decode cX3_remainderOfFinite 74 = .ok (.lstore 7, 2) := by decide +kernel
theorem dX3_remainderOfFinite_76 : decode cX3_remainderOfFinite 76 = .ok (.iinc 9 (-10), 3) := by decide +kernel
theorem dX3_remainderOfFinite_79 : decode cX3_remainderOfFinite 79 = .ok (.goto (-23), 3) := by decide +kernel
theorem dX3_remainderOfFinite_82 : decode cX3_remainderOfFinite 82 = .ok (.getstatic 11, 3) := by decide +kernel
theorem dX3_remainderOfFinite_85 : decode cX3_remainderOfFinite 85 = .ok (.lload_n 0, 1) := by decide +kernel
theorem dX3_remainderOfFinite_86 : decode cX3_remainderOfFinite 86 = .ok (.lconst 0, 1) := by decide +kernel
theorem dX3_remainderOfFinite_87 : decode cX3_remainderOfFinite 87 = .ok (.lcmp, 1) := by decide +kernel
theorem dX3_remainderOfFinite_88 : decode cX3_remainderOfFinite 88 = .ok (.ifCond .ge 7, 3) := by decide +kernel
theorem dX3_remainderOfFinite_91 : decode cX3_remainderOfFinite 91 = .ok (.iconst 1, 1) := by decide +kernel
theorem dX3_remainderOfFinite_92 : decode cX3_remainderOfFinite 92 = .ok (.goto 4, 3) := by decide +kernel
theorem dX3_remainderOfFinite_95 : decode cX3_remainderOfFinite 95 = .ok (.iconst 0, 1) := by decide +kernel
theorem dX3_remainderOfFinite_96 : decode cX3_remainderOfFinite 96 = .ok (.iload 6, 2) := by decide +kernel
theorem dX3_remainderOfFinite_98 : decode cX3_remainderOfFinite 98 = .ok (.lload 7, 2) := by decide +kernel
theorem dX3_remainderOfFinite_100 : decode cX3_remainderOfFinite 100 = .ok (.invokevirtual 50, 3) := by decide +kernel
theorem dX3_remainderOfFinite_103 : decode cX3_remainderOfFinite 103 = .ok (.lreturn, 1) := by decide +kernel
set_option maxRecDepth 20000 in
theorem ggX3_greater_X0_isNaN : GoodIn wsX3_greater wsX0_isNaN := goodIn_r _ [6, 7, 8, 9, 10, 5, 11, 12] rfl (by decide +kernel)
set_option maxRecDepth 20000 in
theorem gX3_greater_X0_isNaN : GoodIn wsX3_greater (wsV RX3 17 RX0 yX0_isNaN wsX0_isNaN) := goodIn_app (goodIn_of _ (by decide +kernel)) ggX3_greater_X0_isNaN
set_option maxRecDepth 20000 in
theorem ggX3_greater_X0_plainNaN : GoodIn wsX3_greater wsX0_plainNaN := goodIn_r _ [16, 7, 17] rfl (by decide +kernel)
set_option maxRecDepth 20000 in
theorem gX3_greater_X0_plainNaN : GoodIn wsX3_greater (wsV RX3 21 RX0 yX0_plainNaN wsX0_plainNaN) := goodIn_app (goodIn_of _ (by decide +kernel)) ggX3_greater_X0_plainNaN
set_option maxRecDepth 20000 in
theorem ggX3_greater_X3_rankWithSignOfZero : GoodIn wsX3_greater wsX3_rankWithSignOfZero := goodIn_r _ [21, 1, 22, 23, 9, 10, 5, 11, 12] rfl (by decide +kernel)
set_option maxRecDepth 20000 in
theorem gX3_greater_X3_rankWithSignOfZero : GoodIn wsX3_greater (va_wsS RX3 80 yX3_rankWithSignOfZero wsX3_rankWithSignOfZero) := goodIn_app (goodIn_of _ (by decide +kernel)) ggX3_greater_X3_rankWithSignOfZero
theorem dX3_greater_0 : decode cX3_greater 0 = .ok (.getstatic 11, 3) := by decide +kernel
theorem dX3_greater_3 : decode cX3_greater 3 = .ok (.lload_n 0, 1) := by decide +kernel
theorem dX3_greater_4 : decode cX3_greater 4 = .ok (.invokevirtual 17, 3) := by decide +kernel
theorem dX3_greater_7 : decode cX3_greater 7 = .ok (.ifCond .ne 13, 3) := by decide +kernel
theorem dX3_greater_10 : decode cX3_greater 10 = .ok (.getstatic 11, 3) := by decide +kernel
theorem dX3_greater_13 : decode cX3_greater 13 = .ok (.lload_n 2, 1) := by decide +kernel
theorem dX3_greater_14 : decode cX3_greater 14 = .ok (.invokevirtual 17, 3) := by decide +kernel
theorem dX3_greater_17 : decode cX3_greater 17 = .ok (.ifCond .eq 10, 3) := by decide +kernel
theorem dX3_greater_20 : decode cX3_greater 20 = .ok (.getstatic 11, 3) := by decide +kernel
theorem dX3_greater_23 : decode cX3_greater 23 = .ok (.invokevirtual 21, 3) := by decide +kernel
theorem dX3_greater_26 : decode cX3_greater 26 = .ok (.lreturn, 1) := by decide +kernel
theorem dX3_greater_27 : decode cX3_greater 27 = .ok (.lload_n 0, 1) := by decide +kernel
theorem dX3_greater_28 : decode cX3_greater 28 = .ok (.invokestatic 80, 3) := by decide +kernel
theorem dX3_greater_31 : decode cX3_greater 31 = .ok (.lload_n 2, 1) := by decide +kernel
theorem dX3_greater_32 : decode cX3_greater 32 = .ok (.invokestatic 80, 3) := by decide +kernel
theorem dX3_greater_35 : decode cX3_greater 35 = .ok (.lcmp, 1) := by decide +kernel
theorem dX3_greater_36 : decode cX3_greater 36 = .ok (.ifCond .lt 7, 3) := by decide +kernel
theorem dX3_greater_39 : decode cX3_greater 39 = .ok (.lload_n 0, 1) := by decide +kernel
theorem dX3_greater_40 : decode cX3_greater 40 = .ok (.goto 4, 3) := by decide +kernel
theorem dX3_greater_43 : decode cX3_greater 43 = .ok (.lload_n 2, 1) := by decide +kernel
theorem dX3_greater_44 : decode cX3_greater 44 = .ok (.lreturn, 1) := by decide +kernel
set_option maxRecDepth 20000 in
theorem ggX3_lesser_X0_isNaN : GoodIn wsX3_lesser wsX0_isNaN := goodIn_r _ [6, 7, 8, 9, 10, 5, 11, 12] rfl (by decide +kernel)
set_option maxRecDepth 20000 in
theorem gX3_lesser_X0_isNaN : GoodIn wsX3_lesser (wsV RX3 17 RX0 yX0_isNaN wsX0_isNaN) := goodIn_app (goodIn_of _ (by decide +kernel)) ggX3_lesser_X0_isNaN
set_option maxRecDepth 20000 in
theorem ggX3_lesser_X0_plainNaN : GoodIn wsX3_lesser wsX0_plainNaN := goodIn_r _ [16, 7, 17] rfl (by decide +kernel)
set_option maxRecDepth 20000 in
theorem gX3_lesser_X0_plainNaN : GoodIn wsX3_lesser (wsV RX3 21 RX0 yX0_plainNaN wsX0_plainNaN) := goodIn_app (goodIn_of _ (by decide +kernel)) ggX3_lesser_X0_plainNaN
set_option maxRecDepth 20000 in
theorem ggX3_lesser_X3_rankWithSignOfZero : GoodIn wsX3_lesser wsX3_rankWithSignOfZero := goodIn_r _ [21, 1, 22, 23, 9, 10, 5, 11, 12] rfl (by decide +kernel)
set_option maxRecDepth 20000 in
theorem gX3_lesser_X3_rankWithSignOfZero : GoodIn wsX3_lesser (va_wsS RX3 80 yX3_rankWithSignOfZero wsX3_rankWithSignOfZero) := goodIn_app (goodIn_of _ (by decide +kernel)) ggX3_lesser_X3_rankWithSignOfZero
theorem dX3_lesser_0 : decode cX3_lesser 0 = .ok (.getstatic 11, 3) := by decide +kernel
theorem dX3_lesser_3 : decode cX3_lesser 3 = .ok (.lload_n 0, 1) := by decide +kernel
theorem dX3_lesser_4 : decode cX3_lesser 4 = .ok (.invokevirtual 17, 3) := by decide +kernel
theorem dX3_lesser_7 : decode cX3_lesser 7 = .ok (.ifCond .ne 13, 3) := by decide +kernel
theorem dX3_lesser_10 : decode cX3_lesser 10 = .ok (.getstatic 11, 3) := by decide +kernel
theorem dX3_lesser_13 : decode cX3_lesser 13 = .ok (.lload_n 2, 1) := by decide +kernel
theorem dX3_lesser_14 : decode cX3_lesser 14 = .ok (.invokevirtual 17, 3) := by decide +kernel
theorem dX3_lesser_17 : decode cX3_lesser 17 = .ok (.ifCond .eq 10, 3) := by decide +kernel
theorem dX3_lesser_20 : decode cX3_lesser 20 = .ok (.getstatic 11, 3) := by decide +kernel
theorem dX3_lesser_23 : decode cX3_lesser 23 = .ok (.invokevirtual 21, 3) := by decide +kernel
theorem dX3_lesser_26 : decode cX3_lesser 26 = .ok (.lreturn, 1) := by decide +kernel
theorem dX3_lesser_27 : decode cX3_lesser 27 = .ok (.lload_n 0, 1) := by decide +kernel
theorem dX3_lesser_28 : decode cX3_lesser 28 = .ok (.invokestatic 80, 3) := by decide +kernel
theorem dX3_lesser_31 : decode cX3_lesser 31 = .ok (.lload_n 2, 1) := by decide +kernel
theorem dX3_lesser_32 : decode cX3_lesser 32 = .ok (.invokestatic 80, 3) := by decide +kernel
theorem dX3_lesser_35 : decode cX3_lesser 35 = .ok (.lcmp, 1) := by decide +kernel
theorem dX3_lesser_36 : decode cX3_lesser 36 = .ok (.ifCond .gt 7, 3) := by decide +kernel
theorem dX3_lesser_39 : decode cX3_lesser 39 = .ok (.lload_n 0, 1) := by decide +kernel
theorem dX3_lesser_40 : decode cX3_lesser 40 = .ok (.goto 4, 3) := by decide +kernel
theorem dX3_lesser_43 : decode cX3_lesser 43 = .ok (.lload_n 2, 1) := by decide +kernel
theorem dX3_lesser_44 : decode cX3_lesser 44 = .ok (.lreturn, 1) := by decide +kernel
set_option maxRecDepth 20000 in
theorem ggX3_rankWithSignOfZero_X0_magnitude : GoodIn wsX3_rankWithSignOfZero wsX0_magnitude := goodIn_r _ [7, 8] rfl (by decide +kernel)
set_option maxRecDepth 20000 in
theorem gX3_rankWithSignOfZero_X0_magnitude : GoodIn wsX3_rankWithSignOfZero (wsV RX3 28 RX0 yX0_magnitude wsX0_magnitude) := goodIn_app (goodIn_of _ (by decide +kernel)) ggX3_rankWithSignOfZero_X0_magnitude
theorem dX3_rankWithSignOfZero_0 : decode cX3_rankWithSignOfZero 0 = .ok (.lload_n 0, 1) := by decide +kernel
theorem dX3_rankWithSignOfZero_1 : decode cX3_rankWithSignOfZero 1 = .ok (.lconst 0, 1) := by decide +kernel
theorem dX3_rankWithSignOfZero_2 : decode cX3_rankWithSignOfZero 2 = .ok (.lcmp, 1) := by decide +kernel
theorem dX3_rankWithSignOfZero_3 : decode cX3_rankWithSignOfZero 3 = .ok (.ifCond .ge 17, 3) := by decide +kernel
theorem dX3_rankWithSignOfZero_6 : decode cX3_rankWithSignOfZero 6 = .ok (.getstatic 11, 3) := by decide +kernel
theorem dX3_rankWithSignOfZero_9 : decode cX3_rankWithSignOfZero 9 = .ok (.lload_n 0, 1) := by decide +kernel
theorem dX3_rankWithSignOfZero_10 : decode cX3_rankWithSignOfZero 10 = .ok (.invokevirtual 28, 3) := by decide +kernel
theorem dX3_rankWithSignOfZero_13 : decode cX3_rankWithSignOfZero 13 = .ok (.ldc2_w 83, 3) := by decide +kernel
theorem dX3_rankWithSignOfZero_16 : decode cX3_rankWithSignOfZero 16 = .ok (.lxor, 1) := by decide +kernel
theorem dX3_rankWithSignOfZero_17 : decode cX3_rankWithSignOfZero 17 = .ok (.goto 4, 3) := by decide +kernel
theorem dX3_rankWithSignOfZero_20 : decode cX3_rankWithSignOfZero 20 = .ok (.lload_n 0, 1) := by decide +kernel
theorem dX3_rankWithSignOfZero_21 : decode cX3_rankWithSignOfZero 21 = .ok (.lreturn, 1) := by decide +kernel
set_option maxRecDepth 20000 in
theorem ggX3_rank_X0_magnitude : GoodIn wsX3_rank wsX0_magnitude := goodIn_r _ [6, 7] rfl (by decide +kernel)
set_option maxRecDepth 20000 in
theorem gX3_rank_X0_magnitude : GoodIn wsX3_rank (wsV RX3 28 RX0 yX0_magnitude wsX0_magnitude) := goodIn_app (goodIn_of _ (by decide +kernel)) ggX3_rank_X0_magnitude
theorem dX3_rank_0 : decode cX3_rank 0 = .ok (.lload_n 0, 1) := by decide +kernel
theorem dX3_rank_1 : decode cX3_rank 1 = .ok (.lconst 0, 1) := by decide +kernel
theorem dX3_rank_2 : decode cX3_rank 2 = .ok (.lcmp, 1) := by decide +kernel
theorem dX3_rank_3 : decode cX3_rank 3 = .ok (.ifCond .ge 14, 3) := by decide +kernel
theorem dX3_rank_6 : decode cX3_rank 6 = .ok (.getstatic 11, 3) := by decide +kernel
theorem dX3_rank_9 : decode cX3_rank 9 = .ok (.lload_n 0, 1) := by decide +kernel
theorem dX3_rank_10 : decode cX3_rank 10 = .ok (.invokevirtual 28, 3) := by decide +kernel
theorem dX3_rank_13 : decode cX3_rank 13 = .ok (.lneg, 1) := by decide +kernel
theorem dX3_rank_14 : decode cX3_rank 14 = .ok (.goto 4, 3) := by decide +kernel
theorem dX3_rank_17 : decode cX3_rank 17 = .ok (.lload_n 0, 1) := by decide +kernel
theorem dX3_rank_18 : decode cX3_rank 18 = .ok (.lreturn, 1) := by decide +kernel
set_option maxRecDepth 20000 in
theorem ggX3_withSignOf_X0_isNaN : GoodIn wsX3_withSignOf wsX0_isNaN := goodIn_r _ [7, 8, 9, 10, 11, 6, 12, 13] rfl (by decide +kernel)
set_option maxRecDepth 20000 in
theorem gX3_withSignOf_X0_isNaN : GoodIn wsX3_withSignOf (wsV RX3 17 RX0 yX0_isNaN wsX0_isNaN) := goodIn_app (goodIn_of _ (by decide +kernel)) ggX3_withSignOf_X0_isNaN
set_option maxRecDepth 20000 in
theorem ggX3_withSignOf_X0_plainNaN : GoodIn wsX3_withSignOf wsX0_plainNaN := goodIn_r _ [17, 8, 18] rfl (by decide +kernel)
set_option maxRecDepth 20000 in
theorem gX3_withSignOf_X0_plainNaN : GoodIn wsX3_withSignOf (wsV RX3 21 RX0 yX0_plainNaN wsX0_plainNaN) := goodIn_app (goodIn_of _ (by decide +kernel)) ggX3_withSignOf_X0_plainNaN
set_option maxRecDepth 20000 in
theorem ggX3_withSignOf_X0_magnitude : GoodIn wsX3_withSignOf wsX0_magnitude := goodIn_r _ [12, 13] rfl (by decide +kernel)
set_option maxRecDepth 20000 in
theorem gX3_withSignOf_X0_magnitude : GoodIn wsX3_withSignOf (wsV RX3 28 RX0 yX0_magnitude wsX0_magnitude) := goodIn_app (goodIn_of _ (by decide +kernel)) ggX3_withSignOf_X0_magnitude
theorem dX3_withSignOf_0 : decode cX3_withSignOf 0 = .ok (.getstatic 11, 3) := by decide +kernel
theorem dX3_withSignOf_3 : decode cX3_withSignOf 3 = .ok (.lload_n 0, 1) := by decide +kernel
theorem dX3_withSignOf_4 : decode cX3_withSignOf 4 = .ok (.invokevirtual 17, 3) := by decide +kernel
theorem dX3_withSignOf_7 : decode cX3_withSignOf 7 = .ok (.ifCond .eq 10, 3) := by decide +kernel
theorem dX3_withSignOf_10 : decode cX3_withSignOf 10 = .ok (.getstatic 11, 3) := by decide +kernel
theorem dX3_withSignOf_13 : decode cX3_withSignOf 13 = .ok (.invokevirtual 21, 3) := by decide +kernel
theorem dX3_withSignOf_16 : decode cX3_withSignOf 16 = .ok (.lreturn, 1) := by decide +kernel
theorem dX3_withSignOf_17 : decode cX3_withSignOf 17 = .ok (.getstatic 11, 3) := by decide +kernel
theorem dX3_withSignOf_20 : decode cX3_withSignOf 20 = .ok (.lload_n 2, 1) := by decide +kernel
theorem dX3_withSignOf_21 : decode cX3_withSignOf 21 = .ok (.invokevirtual 17, 3) := by decide +kernel
theorem dX3_withSignOf_24 : decode cX3_withSignOf 24 = .ok (.ifCond .eq 7, 3) := by decide +kernel
theorem dX3_withSignOf_27 : decode cX3_withSignOf 27 = .ok (.lconst 0, 1) := by decide +kernel
theorem dX3_withSignOf_28 : decode cX3_withSignOf 28 = .ok (.goto 8, 3) := by decide +kernel
theorem dX3_withSignOf_31 : decode cX3_withSignOf 31 = .ok (.lload_n 2, 1) := by decide +kernel
theorem dX3_withSignOf_32 : decode cX3_withSignOf 32 = .ok (.ldc2_w 54, 3) := by decide +kernel
theorem dX3_withSignOf_35 : decode cX3_withSignOf 35 = .ok (.land, 1) := by decide +kernel
theorem dX3_withSignOf_36 : decode cX3_withSignOf 36 = .ok (.lstore 4, 2) := by decide +kernel
theorem dX3_withSignOf_38 : decode cX3_withSignOf 38 = .ok (.lload 4, 2) := by decide +kernel
theorem dX3_withSignOf_40 : decode cX3_withSignOf 40 = .ok (.getstatic 11, 3) := by decide +kernel
theorem dX3_withSignOf_43 : decode cX3_withSignOf 43 = .ok (.lload_n 0, 1) := by decide +kernel
theorem dX3_withSignOf_44 : decode cX3_withSignOf 44 = .ok (.invokevirtual 28, 3) := by decide +kernel
theorem dX3_withSignOf_47 : decode cX3_withSignOf 47 = .ok (.lor, 1) := by decide +kernel
theorem dX3_withSignOf_48 : decode cX3_withSignOf 48 = .ok (.lreturn, 1) := by decide +kernel
set_option maxRecDepth 20000 in
theorem ggX3_isTrue_X0_isNaN : GoodIn wsX3_isTrue wsX0_isNaN := goodIn_r _ [6, 7, 8, 9, 10, 5, 11, 12] rfl (by decide +kernel)
set_option maxRecDepth 20000 in
theorem gX3_isTrue_X0_isNaN : GoodIn wsX3_isTrue (wsV RX3 17 RX0 yX0_isNaN wsX0_isNaN) := goodIn_app (goodIn_of _ (by decide +kernel)) ggX3_isTrue_X0_isNaN
set_option maxRecDepth 20000 in
theorem ggX3_isTrue_X3_rank : GoodIn wsX3_isTrue wsX3_rank := goodIn_r _ [16, 1, 17, 9, 10, 5, 11, 12] rfl (by decide +kernel)
set_option maxRecDepth 20000 in
theorem gX3_isTrue_X3_rank : GoodIn wsX3_isTrue (va_wsS RX3 85 yX3_rank wsX3_rank) := goodIn_app (goodIn_of _ (by decide +kernel)) ggX3_isTrue_X3_rank
theorem dX3_isTrue_0 : decode cX3_isTrue 0 = .ok (.getstatic 11, 3) := by decide +kernel
theorem dX3_isTrue_3 : decode cX3_isTrue 3 = .ok (.lload_n 1, 1) := by decide +kernel
theorem dX3_isTrue_4 : decode cX3_isTrue 4 = .ok (.invokevirtual 17, 3) := by decide +kernel
theorem dX3_isTrue_7 : decode cX3_isTrue 7 = .ok (.ifCond .ne 13, 3) := by decide +kernel
theorem dX3_isTrue_10 : decode cX3_isTrue 10 = .ok (.getstatic 11, 3) := by decide +kernel
theorem dX3_isTrue_13 : decode cX3_isTrue 13 = .ok (.lload_n 3, 1) := by decide +kernel
theorem dX3_isTrue_14 : decode cX3_isTrue 14 = .ok (.invokevirtual 17, 3) := by decide +kernel
theorem dX3_isTrue_17 : decode cX3_isTrue 17 = .ok (.ifCond .eq 14, 3) := by decide +kernel
theorem dX3_isTrue_20 : decode cX3_isTrue 20 = .ok (.iload_n 0, 1) := by decide +kernel
theorem dX3_isTrue_21 : decode cX3_isTrue 21 = .ok (.iconst 5, 1) := by decide +kernel
theorem dX3_isTrue_22 : decode cX3_isTrue 22 = .ok (.if_icmp .ne 7, 3) := by decide +kernel
theorem dX3_isTrue_25 : decode cX3_isTrue 25 = .ok (.iconst 1, 1) := by decide +kernel
theorem dX3_isTrue_26 : decode cX3_isTrue 26 = .ok (.goto 4, 3) := by decide +kernel
theorem dX3_isTrue_29 : decode cX3_isTrue 29 = .ok (.iconst 0, 1) := by decide +kernel
theorem dX3_isTrue_30 : decode cX3_isTrue 30 = .ok (.ireturn, 1) := by decide +kernel
theorem dX3_isTrue_31 : decode cX3_isTrue 31 = .ok (.lload_n 1, 1) := by decide +kernel
theorem dX3_isTrue_32 : decode cX3_isTrue 32 = .ok (.invokestatic 85, 3) := by decide +kernel
theorem dX3_isTrue_35 : decode cX3_isTrue 35 = .ok (.lstore 5, 2) := by decide +kernel
theorem dX3_isTrue_37 : decode cX3_isTrue 37 = .ok (.lload_n 3, 1) := by decide +kernel
theorem dX3_isTrue_38 : decode cX3_isTrue 38 = .ok (.invokestatic 85, 3) := by decide +kernel
theorem dX3_isTrue_41 : decode cX3_isTrue 41 = .ok (.lstore 7, 2) := by decide +kernel
theorem dX3_isTrue_43 : decode cX3_isTrue 43 = .ok (.iload_n 0, 1) := by decide +kernel
theorem dX3_isTrue_44 : decode cX3_isTrue 44 = .ok (.tableswitch 106 0 4 #[36, 50, 64, 78, 92], 36) := by decide +kernel
theorem dX3_isTrue_80 : decode cX3_isTrue 80 = .ok (.lload 5, 2) := by decide +kernel
theorem dX3_isTrue_82 : decode cX3_isTrue 82 = .ok (.lload 7, 2) := by decide +kernel
theorem dX3_isTrue_84 : decode cX3_isTrue 84 = .ok (.lcmp, 1) := by decide +kernel
theorem dX3_isTrue_85 : decode cX3_isTrue 85 = .ok (.ifCond .ge 7, 3) := by decide +kernel
theorem dX3_isTrue_88 : decode cX3_isTrue 88 = .ok (.iconst 1, 1) := by decide +kernel
theorem dX3_isTrue_89 : decode cX3_isTrue 89 = .ok (.goto 4, 3) := by decide +kernel
theorem dX3_isTrue_92 : decode cX3_isTrue 92 = .ok (.iconst 0, 1) := by decide +kernel
theorem dX3_isTrue_93 : decode cX3_isTrue 93 = .ok (.ireturn, 1) := by decide +kernel
theorem dX3_isTrue_94 : decode cX3_isTrue 94 = .ok (.lload 5, 2) := by decide +kernel
theorem dX3_isTrue_96 : decode cX3_isTrue 96 = .ok (.lload 7, 2) := by decide +kernel
theorem dX3_isTrue_98 : decode cX3_isTrue 98 = .ok (.lcmp, 1) := by decide +kernel
theorem dX3_isTrue_99 : decode cX3_isTrue 99 = .ok (.ifCond .gt 7, 3) := by decide +kernel
theorem dX3_isTrue_102 : decode cX3_isTrue 102 = .ok (.iconst 1, 1) := by decide +kernel
theorem dX3_isTrue_103 : decode cX3_isTrue 103 = .ok (.goto 4, 3) := by decide +kernel
theorem dX3_isTrue_106 : decode cX3_isTrue 106 = .ok (.iconst 0, 1) := by decide +kernel
theorem dX3_isTrue_107 : decode cX3_isTrue 107 = .ok (.ireturn, 1) := by decide +kernel
theorem dX3_isTrue_108 : decode cX3_isTrue 108 = .ok (.lload 5, 2) := by decide +kernel
theorem dX3_isTrue_110 : decode cX3_isTrue 110 = .ok (.lload 7, 2) := by decide +kernel
theorem dX3_isTrue_112 : decode cX3_isTrue 112 = .ok (.lcmp, 1) := by decide +kernel
theorem dX3_isTrue_113 : decode cX3_isTrue 113 = .ok (.ifCond .le 7, 3) := by decide +kernel
theorem dX3_isTrue_116 : decode cX3_isTrue 116 = .ok (.iconst 1, 1) := by decide +kernel
theorem dX3_isTrue_117 : decode cX3_isTrue 117 = .ok (.goto 4, 3) := by decide +kernel
theorem dX3_isTrue_120 : decode cX3_isTrue 120 = .ok (.iconst 0, 1) := by decide +kernel
theorem dX3_isTrue_121 : decode cX3_isTrue 121 = .ok (.ireturn, 1) := by decide +kernel
theorem dX3_isTrue_122 : decode cX3_isTrue 122 = .ok (.lload 5, 2) := by decide +kernel
theorem dX3_isTrue_124 : decode cX3_isTrue 124 = .ok (.lload 7, 2) := by decide +kernel
theorem dX3_isTrue_126 : decode cX3_isTrue 126 = .ok (.lcmp, 1) := by decide +kernel
theorem dX3_isTrue_127 : decode cX3_isTrue 127 = .ok (.ifCond .lt 7, 3) := by decide +kernel
theorem dX3_isTrue_130 : decode cX3_isTrue 130 = .ok (.iconst 1, 1) := by decide +kernel
theorem dX3_isTrue_131 : decode cX3_isTrue 131 = .ok (.goto 4, 3) := by decide +kernel
theorem dX3_isTrue_134 : decode cX3_isTrue 134 = .ok (.iconst 0, 1) := by decide +kernel
theorem dX3_isTrue_135 : decode cX3_isTrue 135 = .ok (.ireturn, 1) := by decide +kernel
theorem dX3_isTrue_136 : decode cX3_isTrue 136 = .ok (.lload 5, 2) := by decide +kernel
theorem dX3_isTrue_138 : decode cX3_isTrue 138 = .ok (.lload 7, 2) := by decide +kernel
theorem dX3_isTrue_140 : decode cX3_isTrue 140 = .ok (.lcmp, 1) := by decide +kernel
theorem dX3_isTrue_141 : decode cX3_isTrue 141 = .ok (.ifCond .ne 7, 3) := by decide +kernel
theorem dX3_isTrue_144 : decode cX3_isTrue 144 = .ok (.iconst 1, 1) := by decide +kernel
theorem dX3_isTrue_145 : decode cX3_isTrue 145 = .ok (.goto 4, 3) := by decide +kernel
theorem dX3_isTrue_148 : decode cX3_isTrue 148 = .ok (.iconst 0, 1) := by decide +kernel
theorem dX3_isTrue_149 : decode cX3_isTrue 149 = .ok (.ireturn, 1) := by decide +kernel
theorem dX3_isTrue_150 : decode cX3_isTrue 150 = .ok (.lload 5, 2) := by decide +kernel
theorem dX3_isTrue_152 : decode cX3_isTrue 152 = .ok (.lload 7, 2) := by decide +kernel
theorem dX3_isTrue_154 : decode cX3_isTrue 154 = .ok (.lcmp, 1) := by decide +kernel
theorem dX3_isTrue_155 : decode cX3_isTrue 155 = .ok (.ifCond .eq 7, 3) := by decide +kernel
theorem dX3_isTrue_158 : decode cX3_isTrue 158 = .ok (.iconst 1, 1) := by decide +kernel
theorem dX3_isTrue_159 : decode cX3_isTrue 159 = .ok (.goto 4, 3) := by decide +kernel
theorem dX3_isTrue_162 : decode cX3_isTrue 162 = .ok (.iconst 0, 1) := by decide +kernel
theorem dX3_isTrue_163 : decode cX3_isTrue 163 = .ok (.ireturn, 1) := by decide +kernel
set_option maxRecDepth 20000 in
theorem ggX3_mathOfNumber_X3_floor : GoodIn wsX3_mathOfNumber wsX3_floor := goodIn_r _ [7, 2, 8, 9, 10, 11, 12, 6, 13, 14, 15, 16, 17, 18, 19, 20, 21, 22, 23, 24] rfl (by decide +kernel)
set_option maxRecDepth 20000 in
theorem gX3_mathOfNumber_X3_floor : GoodIn wsX3_mathOfNumber (va_wsS RX3 88 yX3_floor wsX3_floor) := goodIn_app (goodIn_of _ (by decide +kernel)) ggX3_mathOfNumber_X3_floor
set_option maxRecDepth 20000 in
theorem ggX3_mathOfNumber_X3_nearestWhole : GoodIn wsX3_mathOfNumber wsX3_nearestWhole := goodIn_r _ [27, 2, 8, 11, 12, 6, 13, 14, 15, 16, 17, 18, 19, 28, 29, 30, 31, 32, 24, 33, 34, 35, 36, 37, 38, 39, 40, 41, 42, 43, 44, 45, 46, 47, 48, 49, 50, 51, 52, 53, 54, 55, 56, 57] rfl (by decide +kernel)
set_option maxRecDepth 20000 in
theorem gX3_mathOfNumber_X3_nearestWhole : GoodIn wsX3_mathOfNumber (va_wsS RX3 91 yX3_nearestWhole wsX3_nearestWhole) := goodIn_app (goodIn_of _ (by decide +kernel)) ggX3_mathOfNumber_X3_nearestWhole
set_option maxRecDepth 20000 in
theorem ggX3_mathOfNumber_X0_isZero : GoodIn wsX3_mathOfNumber wsX0_isZero := goodIn_r _ [23, 24, 15, 16, 17, 18, 19] rfl (by decide +kernel)
set_option maxRecDepth 20000 in
theorem gX3_mathOfNumber_X0_isZero : GoodIn wsX3_mathOfNumber (wsV RX3 32 RX0 yX0_isZero wsX0_isZero) := goodIn_app (goodIn_of _ (by decide +kernel)) ggX3_mathOfNumber_X0_isZero
set_option maxRecDepth 20000 in
theorem ggX3_mathOfNumber_X0_magnitude : GoodIn wsX3_mathOfNumber wsX0_magnitude := goodIn_r _ [18, 19] rfl (by decide +kernel)
set_option maxRecDepth 20000 in
theorem gX3_mathOfNumber_X0_magnitude : GoodIn wsX3_mathOfNumber (wsV RX3 28 RX0 yX0_magnitude wsX0_magnitude) := goodIn_app (goodIn_of _ (by decide +kernel)) ggX3_mathOfNumber_X0_magnitude
set_option maxRecDepth 20000 in
theorem ggX3_mathOfNumber_X3_distanceToNext : GoodIn wsX3_mathOfNumber wsX3_distanceToNext := goodIn_r _ [60, 2, 61, 62, 63, 46, 47, 48, 64, 65, 66, 17, 67, 56, 24, 15, 16, 18, 19, 40, 41, 42, 43, 32, 44, 45, 33, 34, 35, 36, 37, 38, 39, 52, 53, 54, 55, 57, 50, 51] rfl (by decide +kernel)
set_option maxRecDepth 20000 in
theorem gX3_mathOfNumber_X3_distanceToNext : GoodIn wsX3_mathOfNumber (va_wsS RX3 96 yX3_distanceToNext wsX3_distanceToNext) := goodIn_app (goodIn_of _ (by decide +kernel)) ggX3_mathOfNumber_X3_distanceToNext
set_option maxRecDepth 20000 in
theorem ggX3_mathOfNumber_X3_nextUp : GoodIn wsX3_mathOfNumber wsX3_nextUp := goodIn_r _ [70, 2, 20, 21, 22, 17, 23, 24, 15, 16, 18, 19, 64, 65, 66, 67, 56] rfl (by decide +kernel)
set_option maxRecDepth 20000 in
theorem gX3_mathOfNumber_X3_nextUp : GoodIn wsX3_mathOfNumber (va_wsS RX3 99 yX3_nextUp wsX3_nextUp) := goodIn_app (goodIn_of _ (by decide +kernel)) ggX3_mathOfNumber_X3_nextUp
set_option maxRecDepth 20000 in
theorem ggX3_mathOfNumber_X3_scaled : GoodIn wsX3_mathOfNumber wsX3_scaled := goodIn_r _ [73, 2, 64, 65, 66, 17, 67, 56, 24, 15, 16, 18, 19, 40, 41, 42, 43, 32, 44, 45, 46, 47, 48, 33, 34, 35, 36, 37, 38, 39, 28, 29, 30, 31, 52, 53, 54, 55, 57, 50, 51] rfl (by decide +kernel)
set_option maxRecDepth 20000 in
theorem gX3_mathOfNumber_X3_scaled : GoodIn wsX3_mathOfNumber (va_wsS RX3 102 yX3_scaled wsX3_scaled) := goodIn_app (goodIn_of _ (by decide +kernel)) ggX3_mathOfNumber_X3_scaled
theorem dX3_mathOfNumber_0 : decode cX3_mathOfNumber 0 = .ok (.iload_n 0, 1) := by decide +kernel
theorem dX3_mathOfNumber_1 : decode cX3_mathOfNumber 1 = .ok (.tableswitch 118 0 7 #[47, 52, 65, 70, 94, 102, 107, 112], 47) := by decide +kernel
theorem dX3_mathOfNumber_48 : decode cX3_mathOfNumber 48 = .ok (.lload_n 1, 1) := by decide +kernel
theorem dX3_mathOfNumber_49 : decode cX3_mathOfNumber 49 = .ok (.invokestatic 88, 3) := by decide +kernel
theorem dX3_mathOfNumber_52 : decode cX3_mathOfNumber 52 = .ok (.lreturn, 1) := by decide +kernel
theorem dX3_mathOfNumber_53 : decode cX3_mathOfNumber 53 = .ok (.lload_n 1, 1) := by decide +kernel
theorem dX3_mathOfNumber_54 : decode cX3_mathOfNumber 54 = .ok (.ldc2_w 54, 3) := by decide +kernel
theorem dX3_mathOfNumber_57 : decode cX3_mathOfNumber 57 = .ok (.lxor, 1) := by decide +kernel
theorem dX3_mathOfNumber_58 : decode cX3_mathOfNumber 58 = .ok (.invokestatic 88, 3) := by decide +kernel
theorem dX3_mathOfNumber_61 : decode cX3_mathOfNumber 61 = .ok (.ldc2_w 54, 3) := by decide +kernel
theorem dX3_mathOfNumber_64 : decode cX3_mathOfNumber 64 = .ok (.lxor, 1) := by decide +kernel
theorem dX3_mathOfNumber_65 : decode cX3_mathOfNumber 65 = .ok (.lreturn, 1) := by decide +kernel
theorem dX3_mathOfNumber_66 : decode cX3_mathOfNumber 66 = .ok (.lload_n 1, 1) := by decide +kernel
theorem dX3_mathOfNumber_67 : decode cX3_mathOfNumber 67 = .ok (.invokestatic 91, 3) := by decide +kernel
theorem dX3_mathOfNumber_70 : decode cX3_mathOfNumber 70 = .ok (.lreturn, 1) := by decide +kernel
theorem dX3_mathOfNumber_71 : decode cX3_mathOfNumber 71 = .ok (.getstatic 11, 3) := by decide +kernel
theorem dX3_mathOfNumber_74 : decode cX3_mathOfNumber 74 = .ok (.lload_n 1, 1) := by decide +kernel
theorem dX3_mathOfNumber_75 : decode cX3_mathOfNumber 75 = .ok (.invokevirtual 32, 3) := by decide +kernel
theorem dX3_mathOfNumber_78 : decode cX3_mathOfNumber 78 = .ok (.ifCond .eq 7, 3) := by decide +kernel
theorem dX3_mathOfNumber_81 : decode cX3_mathOfNumber 81 = .ok (.lload_n 1, 1) := by decide +kernel
theorem dX3_mathOfNumber_82 : decode cX3_mathOfNumber 82 = .ok (.goto 12, 3) := by decide +kernel
theorem dX3_mathOfNumber_85 : decode cX3_mathOfNumber 85 = .ok (.lload_n 1, 1) := by decide +kernel
theorem dX3_mathOfNumber_86 : decode cX3_mathOfNumber 86 = .ok (.ldc2_w 54, 3) := by decide +kernel
theorem dX3_mathOfNumber_89 : decode cX3_mathOfNumber 89 = .ok (.land, 1) := by decide +kernel
theorem dX3_mathOfNumber_90 : decode cX3_mathOfNumber 90 = .ok (.ldc2_w 94, 3) := by decide +kernel
theorem dX3_mathOfNumber_93 : decode cX3_mathOfNumber 93 = .ok (.lor, 1) := by decide +kernel
theorem dX3_mathOfNumber_94 : decode cX3_mathOfNumber 94 = .ok (.lreturn, 1) := by decide +kernel
theorem dX3_mathOfNumber_95 : decode cX3_mathOfNumber 95 = .ok (.getstatic 11, 3) := by decide +kernel
theorem dX3_mathOfNumber_98 : decode cX3_mathOfNumber 98 = .ok (.lload_n 1, 1) := by decide +kernel
theorem dX3_mathOfNumber_99 : decode cX3_mathOfNumber 99 = .ok (.invokevirtual 28, 3) := by decide +kernel
theorem dX3_mathOfNumber_102 : decode cX3_mathOfNumber 102 = .ok (.lreturn, 1) := by decide +kernel
theorem dX3_mathOfNumber_103 : decode cX3_mathOfNumber 103 = .ok (.lload_n 1, 1) := by decide +kernel
theorem dX3_mathOfNumber_104 : decode cX3_mathOfNumber 104 = .ok (.invokestatic 96, 3) := by decide +kernel
theorem dX3_mathOfNumber_107 : decode cX3_mathOfNumber 107 = .ok (.lreturn, 1) := by decide +kernel
theorem dX3_mathOfNumber_108 : decode cX3_mathOfNumber 108 = .ok (.lload_n 1, 1) := by decide +kernel
theorem dX3_mathOfNumber_109 : decode cX3_mathOfNumber 109 = .ok (.invokestatic 99, 3) := by decide +kernel
theorem dX3_mathOfNumber_112 : decode cX3_mathOfNumber 112 = .ok (.lreturn, 1) := by decide +kernel
theorem dX3_mathOfNumber_113 : decode cX3_mathOfNumber 113 = .ok (.lload_n 1, 1) := by decide +kernel
theorem dX3_mathOfNumber_114 : decode cX3_mathOfNumber 114 = .ok (.iconst 3, 1) := by decide +kernel
theorem dX3_mathOfNumber_115 : decode cX3_mathOfNumber 115 = .ok (.invokestatic 102, 3) := by decide +kernel
theorem dX3_mathOfNumber_118 : decode cX3_mathOfNumber 118 = .ok (.lreturn, 1) := by decide +kernel
theorem dX3_mathOfNumber_119 : decode cX3_mathOfNumber 119 = .ok (.lload_n 1, 1) := by decide +kernel
theorem dX3_mathOfNumber_120 : decode cX3_mathOfNumber 120 = .ok (.bipush (-3), 2) := by decide +kernel
theorem dX3_mathOfNumber_122 : decode cX3_mathOfNumber 122 = .ok (.invokestatic 102, 3) := by decide +kernel
theorem dX3_mathOfNumber_125 : decode cX3_mathOfNumber 125 = .ok (.lreturn, 1) := by decide +kernel
set_option maxRecDepth 20000 in
theorem ggX3_power_X0_magnitude : GoodIn wsX3_power wsX0_magnitude := goodIn_r _ [7, 8] rfl (by decide +kernel)
set_option maxRecDepth 20000 in
theorem gX3_power_X0_magnitude : GoodIn wsX3_power (wsV RX3 28 RX0 yX0_magnitude wsX0_magnitude) := goodIn_app (goodIn_of _ (by decide +kernel)) ggX3_power_X0_magnitude
theorem dX3_power_0 : decode cX3_power 0 = .ok (.getstatic 11, 3) := by decide +kernel
theorem dX3_power_3 : decode cX3_power 3 = .ok (.lload_n 0, 1) := by decide +kernel
theorem dX3_power_4 : decode cX3_power 4 = .ok (.invokevirtual 28, 3) := by decide +kernel
theorem dX3_power_7 : decode cX3_power 7 = .ok (.getstatic 11, 3) := by decide +kernel
theorem dX3_power_10 : decode cX3_power 10 = .ok (.getfield 105, 3) := by decide +kernel
theorem dX3_power_13 : decode cX3_power 13 = .ok (.lushr, 1) := by decide +kernel
theorem dX3_power_14 : decode cX3_power 14 = .ok (.l2i, 1) := by decide +kernel
theorem dX3_power_15 : decode cX3_power 15 = .ok (.sipush 1023, 3) := by decide +kernel
theorem dX3_power_18 : decode cX3_power 18 = .ok (.isub, 1) := by decide +kernel
theorem dX3_power_19 : decode cX3_power 19 = .ok (.ireturn, 1) := by decide +kernel
set_option maxRecDepth 20000 in
theorem ggX3_floor_X3_power : GoodIn wsX3_floor wsX3_power := goodIn_r _ [8, 1, 2, 9, 10, 11, 12, 13, 14] rfl (by decide +kernel)
set_option maxRecDepth 20000 in
theorem gX3_floor_X3_power : GoodIn wsX3_floor (va_wsS RX3 109 yX3_power wsX3_power) := goodIn_app (goodIn_of _ (by decide +kernel)) ggX3_floor_X3_power
set_option maxRecDepth 20000 in
theorem ggX3_floor_X0_isZero : GoodIn wsX3_floor wsX0_isZero := goodIn_r _ [18, 19, 10, 11, 12, 13, 14] rfl (by decide +kernel)
set_option maxRecDepth 20000 in
theorem gX3_floor_X0_isZero : GoodIn wsX3_floor (wsV RX3 32 RX0 yX0_isZero wsX0_isZero) := goodIn_app (goodIn_of _ (by decide +kernel)) ggX3_floor_X0_isZero
theorem dX3_floor_0 : decode cX3_floor 0 = .ok (.lload_n 0, 1) := by decide +kernel
theorem dX3_floor_1 : decode cX3_floor 1 = .ok (.invokestatic 109, 3) := by decide +kernel
theorem dX3_floor_4 : decode cX3_floor 4 = .ok (.istore_n 2, 1) := by decide +kernel
theorem dX3_floor_5 : decode cX3_floor 5 = .ok (.iload_n 2, 1) := by decide +kernel
theorem dX3_floor_6 : decode cX3_floor 6 = .ok (.getstatic 11, 3) := by decide +kernel
theorem dX3_floor_9 : decode cX3_floor 9 = .ok (.getfield 105, 3) := by decide +kernel
theorem dX3_floor_12 : decode cX3_floor 12 = .ok (.if_icmp .ge 13, 3) := by decide +kernel
theorem dX3_floor_15 : decode cX3_floor 15 = .ok (.getstatic 11, 3) := by decide +kernel
theorem dX3_floor_18 : decode cX3_floor 18 = .ok (.lload_n 0, 1) := by decide +kernel
theorem dX3_floor_19 : decode cX3_floor 19 = .ok (.invokevirtual 32, 3) := by decide +kernel
theorem dX3_floor_22 : decode cX3_floor 22 = .ok (.ifCond .eq 5, 3) := by decide +kernel
theorem dX3_floor_25 : decode cX3_floor 25 = .ok (.lload_n 0, 1) := by decide +kernel
theorem dX3_floor_26 : decode cX3_floor 26 = .ok (.lreturn, 1) := by decide +kernel
theorem dX3_floor_27 : decode cX3_floor 27 = .ok (.iload_n 2, 1) := by decide +kernel
theorem dX3_floor_28 : decode cX3_floor 28 = .ok (.ifCond .ge 17, 3) := by decide +kernel
theorem dX3_floor_31 : decode cX3_floor 31 = .ok (.lload_n 0, 1) := by decide +kernel
theorem dX3_floor_32 : decode cX3_floor 32 = .ok (.lconst 0, 1) := by decide +kernel
theorem dX3_floor_33 : decode cX3_floor 33 = .ok (.lcmp, 1) := by decide +kernel
theorem dX3_floor_34 : decode cX3_floor 34 = .ok (.ifCond .ge 9, 3) := by decide +kernel
theorem dX3_floor_37 : decode cX3_floor 37 = .ok (.ldc2_w 112, 3) := by decide +kernel
theorem dX3_floor_40 : decode cX3_floor 40 = .ok (.goto 4, 3) := by decide +kernel
theorem dX3_floor_43 : decode cX3_floor 43 = .ok (.lconst 0, 1) := by decide +kernel
theorem dX3_floor_44 : decode cX3_floor 44 = .ok (.lreturn, 1) := by decide +kernel
theorem dX3_floor_45 : decode cX3_floor 45 = .ok (.lconst 1, 1) := by decide +kernel
theorem dX3_floor_46 : decode cX3_floor 46 = .ok (.getstatic 11, 3) := by decide +kernel
theorem dX3_floor_49 : decode cX3_floor 49 = .ok (.getfield 105, 3) := by decide +kernel
theorem dX3_floor_52 : decode cX3_floor 52 = .ok (.lshl, 1) := by decide +kernel
theorem dX3_floor_53 : decode cX3_floor 53 = .ok (.lconst 1, 1) := by decide +kernel
theorem dX3_floor_54 : decode cX3_floor 54 = .ok (.lsub, 1) := by decide +kernel
theorem dX3_floor_55 : decode cX3_floor 55 = .ok (.iload_n 2, 1) := by decide +kernel
theorem dX3_floor_56 : decode cX3_floor 56 = .ok (.lushr, 1) := by decide +kernel
theorem dX3_floor_57 : decode cX3_floor 57 = .ok (.lstore_n 3, 1) := by decide +kernel
theorem dX3_floor_58 : decode cX3_floor 58 = .ok (.lload_n 0, 1) := by decide +kernel
theorem dX3_floor_59 : decode cX3_floor 59 = .ok (.lconst 0, 1) := by decide +kernel
theorem dX3_floor_60 : decode cX3_floor 60 = .ok (.lcmp, 1) := by decide +kernel
theorem dX3_floor_61 : decode cX3_floor 61 = .ok (.ifCond .ge 9, 3) := by decide +kernel
theorem dX3_floor_64 : decode cX3_floor 64 = .ok (.lload_n 0, 1) := by decide +kernel
theorem dX3_floor_65 : decode cX3_floor 65 = .ok (.lload_n 3, 1) := by decide +kernel
theorem dX3_floor_66 : decode cX3_floor 66 = .ok (.ladd, 1) := by decide +kernel
theorem dX3_floor_67 : decode cX3_floor 67 = .ok (.goto 4, 3) := by decide +kernel
theorem dX3_floor_70 : decode cX3_floor 70 = .ok (.lload_n 0, 1) := by decide +kernel
theorem dX3_floor_71 : decode cX3_floor 71 = .ok (.lstore 5, 2) := by decide +kernel
theorem dX3_floor_73 : decode cX3_floor 73 = .ok (.lload 5, 2) := by decide +kernel
theorem dX3_floor_75 : decode cX3_floor 75 = .ok (.lload_n 3, 1) := by decide +kernel
theorem dX3_floor_76 : decode cX3_floor 76 = .ok (.ldc2_w 83, 3) := by decide +kernel
theorem dX3_floor_79 : decode cX3_floor 79 = .ok (.lxor, 1) := by decide +kernel
theorem dX3_floor_80 : decode cX3_floor 80 = .ok (.land, 1) := by decide +kernel
theorem dX3_floor_81 : decode cX3_floor 81 = .ok (.lreturn, 1) := by decide +kernel
set_option maxRecDepth 20000 in
theorem ggX3_nearestWhole_X3_power : GoodIn wsX3_nearestWhole wsX3_power := goodIn_r _ [6, 1, 2, 7, 8, 9, 10, 11, 12] rfl (by decide +kernel)
set_option maxRecDepth 20000 in
theorem gX3_nearestWhole_X3_power : GoodIn wsX3_nearestWhole (va_wsS RX3 109 yX3_power wsX3_power) := goodIn_app (goodIn_of _ (by decide +kernel)) ggX3_nearestWhole_X3_power
set_option maxRecDepth 20000 in
theorem ggX3_nearestWhole_X0_significand : GoodIn wsX3_nearestWhole wsX0_significand := goodIn_r _ [16, 17, 18, 8, 9, 10, 11, 12, 19, 20, 21, 22, 23, 24, 25] rfl (by decide +kernel)
set_option maxRecDepth 20000 in
theorem gX3_nearestWhole_X0_significand : GoodIn wsX3_nearestWhole (wsV RX3 43 RX0 yX0_significand wsX0_significand) := goodIn_app (goodIn_of _ (by decide +kernel)) ggX3_nearestWhole_X0_significand
set_option maxRecDepth 20000 in
theorem ggX3_nearestWhole_X0_exponent : GoodIn wsX3_nearestWhole wsX0_exponent := goodIn_r _ [29, 17, 30, 31, 32, 33, 34, 18, 8, 9, 10, 11, 12, 19, 20, 21, 22, 23, 24, 25] rfl (by decide +kernel)
set_option maxRecDepth 20000 in
theorem gX3_nearestWhole_X0_exponent : GoodIn wsX3_nearestWhole (wsV RX3 39 RX0 yX0_exponent wsX0_exponent) := goodIn_app (goodIn_of _ (by decide +kernel)) ggX3_nearestWhole_X0_exponent
set_option maxRecDepth 20000 in
theorem ggX3_nearestWhole_X0_rounded : GoodIn wsX3_nearestWhole wsX0_rounded := goodIn_r _ [37] rfl (by decide +kernel)
set_option maxRecDepth 20000 in
theorem gX3_nearestWhole_X0_rounded : GoodIn wsX3_nearestWhole (va_wsS RX3 114 yX0_rounded wsX0_rounded) := goodIn_app (goodIn_of _ (by decide +kernel)) ggX3_nearestWhole_X0_rounded
set_option maxRecDepth 20000 in
theorem ggX3_nearestWhole_X0_pack : GoodIn wsX3_nearestWhole wsX0_pack := goodIn_r _ [41, 12, 17, 30, 31, 32, 33, 34, 42, 23, 24, 10, 25, 43, 36, 37] rfl (by decide +kernel)
set_option maxRecDepth 20000 in
theorem gX3_nearestWhole_X0_pack : GoodIn wsX3_nearestWhole (wsV RX3 50 RX0 yX0_pack wsX0_pack) := goodIn_app (goodIn_of _ (by decide +kernel)) ggX3_nearestWhole_X0_pack
theorem dX3_nearestWhole_0 : decode cX3_nearestWhole 0 = .ok (.lload_n 0, 1) := by decide +kernel
theorem dX3_nearestWhole_1 : decode cX3_nearestWhole 1 = .ok (.invokestatic 109, 3) := by decide +kernel
theorem dX3_nearestWhole_4 : decode cX3_nearestWhole 4 = .ok (.getstatic 11, 3) := by decide +kernel
theorem dX3_nearestWhole_7 : decode cX3_nearestWhole 7 = .ok (.getfield 105, 3) := by decide +kernel
theorem dX3_nearestWhole_10 : decode cX3_nearestWhole 10 = .ok (.if_icmp .lt 5, 3) := by decide +kernel
theorem dX3_nearestWhole_13 : decode cX3_nearestWhole 13 = .ok (.lload_n 0, 1) := by decide +kernel
theorem dX3_nearestWhole_14 : decode cX3_nearestWhole 14 = .ok (.lreturn, 1) := by decide +kernel
theorem dX3_nearestWhole_15 : decode cX3_nearestWhole 15 = .ok (.getstatic 11, 3) := by decide +kernel
theorem dX3_nearestWhole_18 : decode cX3_nearestWhole 18 = .ok (.lload_n 0, 1) := by decide +kernel
theorem dX3_nearestWhole_19 : decode cX3_nearestWhole 19 = .ok (.invokevirtual 43, 3) := by decide +kernel
theorem dX3_nearestWhole_22 : decode cX3_nearestWhole 22 = .ok (.getstatic 11, 3) := by decide +kernel
theorem dX3_nearestWhole_25 : decode cX3_nearestWhole 25 = .ok (.lload_n 0, 1) := by decide +kernel
theorem dX3_nearestWhole_26 : decode cX3_nearestWhole 26 = .ok (.invokevirtual 39, 3) := by decide +kernel
theorem dX3_nearestWhole_29 : decode cX3_nearestWhole 29 = .ok (.ineg, 1) := by decide +kernel
theorem dX3_nearestWhole_30 : decode cX3_nearestWhole 30 = .ok (.invokestatic 114, 3) := by decide +kernel
theorem dX3_nearestWhole_33 : decode cX3_nearestWhole 33 = .ok (.lstore_n 2, 1) := by decide +kernel
theorem dX3_nearestWhole_34 : decode cX3_nearestWhole 34 = .ok (.getstatic 11, 3) := by decide +kernel
theorem dX3_nearestWhole_37 : decode cX3_nearestWhole 37 = .ok (.lload_n 0, 1) := by decide +kernel
theorem dX3_nearestWhole_38 : decode cX3_nearestWhole 38 = .ok (.lconst 0, 1) := by decide +kernel
theorem dX3_nearestWhole_39 : decode cX3_nearestWhole 39 = .ok (.lcmp, 1) := by decide +kernel
theorem dX3_nearestWhole_40 : decode cX3_nearestWhole 40 = .ok (.ifCond .ge 7, 3) := by decide +kernel
theorem dX3_nearestWhole_43 : decode cX3_nearestWhole 43 = .ok (.iconst 1, 1) := by decide +kernel
theorem dX3_nearestWhole_44 : decode cX3_nearestWhole 44 = .ok (.goto 4, 3) := by decide +kernel
theorem dX3_nearestWhole_47 : decode cX3_nearestWhole 47 = .ok (.iconst 0, 1) := by decide +kernel
theorem dX3_nearestWhole_48 : decode cX3_nearestWhole 48 = .ok (.iconst 0, 1) := by decide +kernel
theorem dX3_nearestWhole_49 : decode cX3_nearestWhole 49 = .ok (.lload_n 2, 1) := by decide +kernel
theorem dX3_nearestWhole_50 : decode cX3_nearestWhole 50 = .ok (.invokevirtual 50, 3) := by decide +kernel
theorem dX3_nearestWhole_53 : decode cX3_nearestWhole 53 = .ok (.lreturn, 1) := by decide +kernel
set_option maxRecDepth 20000 in
theorem ggX3_distanceToNext_X0_isInfinite : GoodIn wsX3_distanceToNext wsX0_isInfinite := goodIn_r _ [12, 13, 14, 15, 16, 11, 17, 18] rfl (by decide +kernel)
set_option maxRecDepth 20000 in
theorem gX3_distanceToNext_X0_isInfinite : GoodIn wsX3_distanceToNext (wsV RX3 25 RX0 yX0_isInfinite wsX0_isInfinite) := goodIn_app (goodIn_of _ (by decide +kernel)) ggX3_distanceToNext_X0_isInfinite
set_option maxRecDepth 20000 in
theorem ggX3_distanceToNext_X0_exponent : GoodIn wsX3_distanceToNext wsX0_exponent := goodIn_r _ [22, 23, 24, 25, 5, 6, 7, 14, 15, 16, 11, 17, 18, 26, 27, 28, 29, 30, 31, 32] rfl (by decide +kernel)
set_option maxRecDepth 20000 in
theorem gX3_distanceToNext_X0_exponent : GoodIn wsX3_distanceToNext (wsV RX3 39 RX0 yX0_exponent wsX0_exponent) := goodIn_app (goodIn_of _ (by decide +kernel)) ggX3_distanceToNext_X0_exponent
set_option maxRecDepth 20000 in
theorem ggX3_distanceToNext_X0_pack : GoodIn wsX3_distanceToNext wsX0_pack := goodIn_r _ [36, 18, 23, 24, 25, 5, 6, 7, 13, 30, 31, 11, 32, 37, 38, 39] rfl (by decide +kernel)
set_option maxRecDepth 20000 in
theorem gX3_distanceToNext_X0_pack : GoodIn wsX3_distanceToNext (wsV RX3 50 RX0 yX0_pack wsX0_pack) := goodIn_app (goodIn_of _ (by decide +kernel)) ggX3_distanceToNext_X0_pack
theorem dX3_distanceToNext_0 : decode cX3_distanceToNext 0 = .ok (.getstatic 11, 3) := by decide +kernel
theorem dX3_distanceToNext_3 : decode cX3_distanceToNext 3 = .ok (.lload_n 0, 1) := by decide +kernel
theorem dX3_distanceToNext_4 : decode cX3_distanceToNext 4 = .ok (.invokevirtual 25, 3) := by decide +kernel
theorem dX3_distanceToNext_7 : decode cX3_distanceToNext 7 = .ok (.ifCond .eq 10, 3) := by decide +kernel
theorem dX3_distanceToNext_10 : decode cX3_distanceToNext 10 = .ok (.getstatic 11, 3) := by decide +kernel
theorem dX3_distanceToNext_13 : decode cX3_distanceToNext 13 = .ok (.getfield 59, 3) := by decide +kernel
theorem dX3_distanceToNext_16 : decode cX3_distanceToNext 16 = .ok (.lreturn, 1) := by decide +kernel
theorem dX3_distanceToNext_17 : decode cX3_distanceToNext 17 = .ok (.getstatic 11, 3) := by decide +kernel
theorem dX3_distanceToNext_20 : decode cX3_distanceToNext 20 = .ok (.lload_n 0, 1) := by decide +kernel
theorem dX3_distanceToNext_21 : decode cX3_distanceToNext 21 = .ok (.invokevirtual 39, 3) := by decide +kernel
theorem dX3_distanceToNext_24 : decode cX3_distanceToNext 24 = .ok (.getstatic 11, 3) := by decide +kernel
theorem dX3_distanceToNext_27 : decode cX3_distanceToNext 27 = .ok (.getfield 117, 3) := by decide +kernel
theorem dX3_distanceToNext_30 : decode cX3_distanceToNext 30 = .ok (.invokestatic 120, 3) := by decide +kernel
theorem dX3_distanceToNext_33 : decode cX3_distanceToNext 33 = .ok (.istore_n 2, 1) := by decide +kernel
theorem dX3_distanceToNext_34 : decode cX3_distanceToNext 34 = .ok (.getstatic 11, 3) := by decide +kernel
theorem dX3_distanceToNext_37 : decode cX3_distanceToNext 37 = .ok (.iconst 0, 1) := by decide +kernel
theorem dX3_distanceToNext_38 : decode cX3_distanceToNext 38 = .ok (.iload_n 2, 1) := by decide +kernel
theorem dX3_distanceToNext_39 : decode cX3_distanceToNext 39 = .ok (.lconst 1, 1) := by decide +kernel
theorem dX3_distanceToNext_40 : decode cX3_distanceToNext 40 = .ok (.invokevirtual 50, 3) := by decide +kernel
theorem dX3_distanceToNext_43 : decode cX3_distanceToNext 43 = .ok (.lreturn, 1) := by decide +kernel
set_option maxRecDepth 20000 in
theorem ggX3_nextUp_X0_isZero : GoodIn wsX3_nextUp wsX0_isZero := goodIn_r _ [6, 7, 8, 9, 5, 10, 11] rfl (by decide +kernel)
set_option maxRecDepth 20000 in
theorem gX3_nextUp_X0_isZero : GoodIn wsX3_nextUp (wsV RX3 32 RX0 yX0_isZero wsX0_isZero) := goodIn_app (goodIn_of _ (by decide +kernel)) ggX3_nextUp_X0_isZero
set_option maxRecDepth 20000 in
theorem ggX3_nextUp_X0_isInfinite : GoodIn wsX3_nextUp wsX0_isInfinite := goodIn_r _ [15, 16, 7, 8, 9, 5, 10, 11] rfl (by decide +kernel)
set_option maxRecDepth 20000 in
theorem gX3_nextUp_X0_isInfinite : GoodIn wsX3_nextUp (wsV RX3 25 RX0 yX0_isInfinite wsX0_isInfinite) := goodIn_app (goodIn_of _ (by decide +kernel)) ggX3_nextUp_X0_isInfinite
theorem dX3_nextUp_0 : decode cX3_nextUp 0 = .ok (.getstatic 11, 3) := by decide +kernel
theorem dX3_nextUp_3 : decode cX3_nextUp 3 = .ok (.lload_n 0, 1) := by decide +kernel
theorem dX3_nextUp_4 : decode cX3_nextUp 4 = .ok (.invokevirtual 32, 3) := by decide +kernel
theorem dX3_nextUp_7 : decode cX3_nextUp 7 = .ok (.ifCond .eq 5, 3) := by decide +kernel
theorem dX3_nextUp_10 : decode cX3_nextUp 10 = .ok (.lconst 1, 1) := by decide +kernel
theorem dX3_nextUp_11 : decode cX3_nextUp 11 = .ok (.lreturn, 1) := by decide +kernel
theorem dX3_nextUp_12 : decode cX3_nextUp 12 = .ok (.lload_n 0, 1) := by decide +kernel
theorem dX3_nextUp_13 : decode cX3_nextUp 13 = .ok (.lconst 0, 1) := by decide +kernel
theorem dX3_nextUp_14 : decode cX3_nextUp 14 = .ok (.lcmp, 1) := by decide +kernel
theorem dX3_nextUp_15 : decode cX3_nextUp 15 = .ok (.ifCond .ge 7, 3) := by decide +kernel
theorem dX3_nextUp_18 : decode cX3_nextUp 18 = .ok (.lload_n 0, 1) := by decide +kernel
theorem dX3_nextUp_19 : decode cX3_nextUp 19 = .ok (.lconst 1, 1) := by decide +kernel
theorem dX3_nextUp_20 : decode cX3_nextUp 20 = .ok (.lsub, 1) := by decide +kernel
theorem dX3_nextUp_21 : decode cX3_nextUp 21 = .ok (.lreturn, 1) := by decide +kernel
theorem dX3_nextUp_22 : decode cX3_nextUp 22 = .ok (.getstatic 11, 3) := by decide +kernel
theorem dX3_nextUp_25 : decode cX3_nextUp 25 = .ok (.lload_n 0, 1) := by decide +kernel
theorem dX3_nextUp_26 : decode cX3_nextUp 26 = .ok (.invokevirtual 25, 3) := by decide +kernel
theorem dX3_nextUp_29 : decode cX3_nextUp 29 = .ok (.ifCond .eq 7, 3) := by decide +kernel
theorem dX3_nextUp_32 : decode cX3_nextUp 32 = .ok (.lload_n 0, 1) := by decide +kernel
theorem dX3_nextUp_33 : decode cX3_nextUp 33 = .ok (.goto 6, 3) := by decide +kernel
theorem dX3_nextUp_36 : decode cX3_nextUp 36 = .ok (.lload_n 0, 1) := by decide +kernel
theorem dX3_nextUp_37 : decode cX3_nextUp 37 = .ok (.lconst 1, 1) := by decide +kernel
theorem dX3_nextUp_38 : decode cX3_nextUp 38 = .ok (.ladd, 1) := by decide +kernel
theorem dX3_nextUp_39 : decode cX3_nextUp 39 = .ok (.lreturn, 1) := by decide +kernel
set_option maxRecDepth 20000 in
theorem ggX3_scaled_X0_isInfinite : GoodIn wsX3_scaled wsX0_isInfinite := goodIn_r _ [6, 7, 8, 9, 10, 5, 11, 12] rfl (by decide +kernel)
set_option maxRecDepth 20000 in
theorem gX3_scaled_X0_isInfinite : GoodIn wsX3_scaled (wsV RX3 25 RX0 yX0_isInfinite wsX0_isInfinite) := goodIn_app (goodIn_of _ (by decide +kernel)) ggX3_scaled_X0_isInfinite
set_option maxRecDepth 20000 in
theorem ggX3_scaled_X0_exponent : GoodIn wsX3_scaled wsX0_exponent := goodIn_r _ [16, 17, 18, 19, 20, 21, 22, 8, 9, 10, 5, 11, 12, 23, 24, 25, 26, 27, 28, 29] rfl (by decide +kernel)
set_option maxRecDepth 20000 in
theorem gX3_scaled_X0_exponent : GoodIn wsX3_scaled (wsV RX3 39 RX0 yX0_exponent wsX0_exponent) := goodIn_app (goodIn_of _ (by decide +kernel)) ggX3_scaled_X0_exponent
set_option maxRecDepth 20000 in
theorem ggX3_scaled_X0_significand : GoodIn wsX3_scaled wsX0_significand := goodIn_r _ [33, 17, 8, 9, 10, 5, 11, 12, 23, 24, 25, 26, 27, 28, 29] rfl (by decide +kernel)
set_option maxRecDepth 20000 in
theorem gX3_scaled_X0_significand : GoodIn wsX3_scaled (wsV RX3 43 RX0 yX0_significand wsX0_significand) := goodIn_app (goodIn_of _ (by decide +kernel)) ggX3_scaled_X0_significand
set_option maxRecDepth 20000 in
theorem ggX3_scaled_X0_pack : GoodIn wsX3_scaled wsX0_pack := goodIn_r _ [37, 12, 17, 18, 19, 20, 21, 22, 7, 27, 28, 5, 29, 38, 39, 40] rfl (by decide +kernel)
set_option maxRecDepth 20000 in
theorem gX3_scaled_X0_pack : GoodIn wsX3_scaled (wsV RX3 50 RX0 yX0_pack wsX0_pack) := goodIn_app (goodIn_of _ (by decide +kernel)) ggX3_scaled_X0_pack
theorem dX3_scaled_0 : decode cX3_scaled 0 = .ok (.getstatic 11, 3) := by decide +kernel
theorem dX3_scaled_3 : decode cX3_scaled 3 = .ok (.lload_n 0, 1) := by decide +kernel
theorem dX3_scaled_4 : decode cX3_scaled 4 = .ok (.invokevirtual 25, 3) := by decide +kernel
theorem dX3_scaled_7 : decode cX3_scaled 7 = .ok (.ifCond .eq 5, 3) := by decide +kernel
theorem dX3_scaled_10 : decode cX3_scaled 10 = .ok (.lload_n 0, 1) := by decide +kernel
theorem dX3_scaled_11 : decode cX3_scaled 11 = .ok (.lreturn, 1) := by decide +kernel
theorem dX3_scaled_12 : decode cX3_scaled 12 = .ok (.getstatic 11, 3) := by decide +kernel
theorem dX3_scaled_15 : decode cX3_scaled 15 = .ok (.lload_n 0, 1) := by decide +kernel
theorem dX3_scaled_16 : decode cX3_scaled 16 = .ok (.lconst 0, 1) := by decide +kernel
theorem dX3_scaled_17 : decode cX3_scaled 17 = .ok (.lcmp, 1) := by decide +kernel
theorem dX3_scaled_18 : decode cX3_scaled 18 = .ok (.ifCond .ge 7, 3) := by decide +kernel
theorem dX3_scaled_21 : decode cX3_scaled 21 = .ok (.iconst 1, 1) := by decide +kernel
theorem dX3_scaled_22 : decode cX3_scaled 22 = .ok (.goto 4, 3) := by decide +kernel
theorem dX3_scaled_25 : decode cX3_scaled 25 = .ok (.iconst 0, 1) := by decide +kernel
theorem dX3_scaled_26 : decode cX3_scaled 26 = .ok (.getstatic 11, 3) := by decide +kernel
theorem dX3_scaled_29 : decode cX3_scaled 29 = .ok (.lload_n 0, 1) := by decide +kernel
theorem dX3_scaled_30 : decode cX3_scaled 30 = .ok (.invokevirtual 39, 3) := by decide +kernel
theorem dX3_scaled_33 : decode cX3_scaled 33 = .ok (.iload_n 2, 1) := by decide +kernel
theorem dX3_scaled_34 : decode cX3_scaled 34 = .ok (.iadd, 1) := by decide +kernel
theorem dX3_scaled_35 : decode cX3_scaled 35 = .ok (.getstatic 11, 3) := by decide +kernel
theorem dX3_scaled_38 : decode cX3_scaled 38 = .ok (.lload_n 0, 1) := by decide +kernel
theorem dX3_scaled_39 : decode cX3_scaled 39 = .ok (.invokevirtual 43, 3) := by decide +kernel
theorem dX3_scaled_42 : decode cX3_scaled 42 = .ok (.invokevirtual 50, 3) := by decide +kernel
theorem dX3_scaled_45 : decode cX3_scaled 45 = .ok (.lreturn, 1) := by decide +kernel
set_option maxRecDepth 20000 in
theorem ggX3_converted_X0_isNaN : GoodIn wsX3_converted wsX0_isNaN := goodIn_r _ [7, 8, 9, 10, 11, 6, 12, 13] rfl (by decide +kernel)
set_option maxRecDepth 20000 in
theorem gX3_converted_X0_isNaN : GoodIn wsX3_converted (wsV RX3 17 RX0 yX0_isNaN wsX0_isNaN) := goodIn_app (goodIn_of _ (by decide +kernel)) ggX3_converted_X0_isNaN
set_option maxRecDepth 20000 in
theorem ggX3_converted_X0_plainNaN : GoodIn wsX3_converted wsX0_plainNaN := goodIn_r _ [17, 8, 18] rfl (by decide +kernel)
set_option maxRecDepth 20000 in
theorem gX3_converted_X0_plainNaN : GoodIn wsX3_converted (wsV RX3 21 RX0 yX0_plainNaN wsX0_plainNaN) := goodIn_app (goodIn_of _ (by decide +kernel)) ggX3_converted_X0_plainNaN
set_option maxRecDepth 20000 in
theorem ggX3_converted_X0_isNegative : GoodIn wsX3_converted wsX0_isNegative := goodIn_r _ [22, 13] rfl (by decide +kernel)
set_option maxRecDepth 20000 in
theorem gX3_converted_X0_isNegative : GoodIn wsX3_converted (wsV RX3 123 RX0 yX0_isNegative wsX0_isNegative) := goodIn_app (goodIn_of _ (by decide +kernel)) ggX3_converted_X0_isNegative
set_option maxRecDepth 20000 in
theorem ggX3_converted_X0_isInfinite : GoodIn wsX3_converted wsX0_isInfinite := goodIn_r _ [26, 8, 9, 10, 11, 6, 12, 13] rfl (by decide +kernel)
set_option maxRecDepth 20000 in
theorem gX3_converted_X0_isInfinite : GoodIn wsX3_converted (wsV RX3 25 RX0 yX0_isInfinite wsX0_isInfinite) := goodIn_app (goodIn_of _ (by decide +kernel)) ggX3_converted_X0_isInfinite
set_option maxRecDepth 20000 in
theorem ggX3_converted_X0_exponent : GoodIn wsX3_converted wsX0_exponent := goodIn_r _ [30, 18, 31, 32, 33, 34, 35, 9, 10, 11, 6, 12, 13, 36, 37, 38, 39, 40, 41, 42] rfl (by decide +kernel)
set_option maxRecDepth 20000 in
theorem gX3_converted_X0_exponent : GoodIn wsX3_converted (wsV RX3 39 RX0 yX0_exponent wsX0_exponent) := goodIn_app (goodIn_of _ (by decide +kernel)) ggX3_converted_X0_exponent
set_option maxRecDepth 20000 in
theorem ggX3_converted_X0_significand : GoodIn wsX3_converted wsX0_significand := goodIn_r _ [46, 18, 9, 10, 11, 6, 12, 13, 36, 37, 38, 39, 40, 41, 42] rfl (by decide +kernel)
set_option maxRecDepth 20000 in
theorem gX3_converted_X0_significand : GoodIn wsX3_converted (wsV RX3 43 RX0 yX0_significand wsX0_significand) := goodIn_app (goodIn_of _ (by decide +kernel)) ggX3_converted_X0_significand
set_option maxRecDepth 20000 in
theorem ggX3_converted_X0_pack : GoodIn wsX3_converted wsX0_pack := goodIn_r _ [50, 13, 18, 31, 32, 33, 34, 35, 8, 40, 41, 6, 42, 51, 52, 53] rfl (by decide +kernel)
set_option maxRecDepth 20000 in
theorem gX3_converted_X0_pack : GoodIn wsX3_converted (wsV RX3 50 RX0 yX0_pack wsX0_pack) := goodIn_app (goodIn_of _ (by decide +kernel)) ggX3_converted_X0_pack
theorem dX3_converted_0 : decode cX3_converted 0 = .ok (.aload_n 0, 1) := by decide +kernel
theorem dX3_converted_1 : decode cX3_converted 1 = .ok (.lload_n 2, 1) := by decide +kernel
theorem dX3_converted_2 : decode cX3_converted 2 = .ok (.invokevirtual 17, 3) := by decide +kernel
theorem dX3_converted_5 : decode cX3_converted 5 = .ok (.ifCond .eq 8, 3) := by decide +kernel
theorem dX3_converted_8 : decode cX3_converted 8 = .ok (.aload_n 1, 1) := by decide +kernel
theorem dX3_converted_9 : decode cX3_converted 9 = .ok (.invokevirtual 21, 3) := by decide +kernel
theorem dX3_converted_12 : decode cX3_converted 12 = .ok (.lreturn, 1) := by decide +kernel
theorem dX3_converted_13 : decode cX3_converted 13 = .ok (.aload_n 0, 1) := by decide +kernel
theorem dX3_converted_14 : decode cX3_converted 14 = .ok (.lload_n 2, 1) := by decide +kernel
theorem dX3_converted_15 : decode cX3_converted 15 = .ok (.invokevirtual 123, 3) := by decide +kernel
theorem dX3_converted_18 : decode cX3_converted 18 = .ok (.istore 4, 2) := by decide +kernel
theorem dX3_converted_20 : decode cX3_converted 20 = .ok (.aload_n 0, 1) := by decide +kernel
theorem dX3_converted_21 : decode cX3_converted 21 = .ok (.lload_n 2, 1) := by decide +kernel
theorem dX3_converted_22 : decode cX3_converted 22 = .ok (.invokevirtual 25, 3) := by decide +kernel
theorem dX3_converted_25 : decode cX3_converted 25 = .ok (.ifCond .eq 25, 3) := by decide +kernel
theorem dX3_converted_28 : decode cX3_converted 28 = .ok (.iload 4, 2) := by decide +kernel
theorem dX3_converted_30 : decode cX3_converted 30 = .ok (.ifCond .eq 15, 3) := by decide +kernel
theorem dX3_converted_33 : decode cX3_converted 33 = .ok (.aload_n 1, 1) := by decide +kernel
theorem dX3_converted_34 : decode cX3_converted 34 = .ok (.getfield 126, 3) := by decide +kernel
theorem dX3_converted_37 : decode cX3_converted 37 = .ok (.aload_n 1, 1) := by decide +kernel
theorem dX3_converted_38 : decode cX3_converted 38 = .ok (.getfield 59, 3) := by decide +kernel
theorem dX3_converted_41 : decode cX3_converted 41 = .ok (.lor, 1) := by decide +kernel
theorem dX3_converted_42 : decode cX3_converted 42 = .ok (.goto 7, 3) := by decide +kernel
theorem dX3_converted_45 : decode cX3_converted 45 = .ok (.aload_n 1, 1) := by decide +kernel
theorem dX3_converted_46 : decode cX3_converted 46 = .ok (.getfield 59, 3) := by decide +kernel
theorem dX3_converted_49 : decode cX3_converted 49 = .ok (.lreturn, 1) := by decide +kernel
theorem dX3_converted_50 : decode cX3_converted 50 = .ok (.aload_n 1, 1) := by decide +kernel
theorem dX3_converted_51 : decode cX3_converted 51 = .ok (.iload 4, 2) := by decide +kernel
theorem dX3_converted_53 : decode cX3_converted 53 = .ok (.aload_n 0, 1) := by decide +kernel
theorem dX3_converted_54 : decode cX3_converted 54 = .ok (.lload_n 2, 1) := by decide +kernel
theorem dX3_converted_55 : decode cX3_converted 55 = .ok (.invokevirtual 39, 3) := by decide +kernel
theorem dX3_converted_58 : decode cX3_converted 58 = .ok (.aload_n 0, 1) := by decide +kernel
theorem dX3_converted_59 : decode cX3_converted 59 = .ok (.lload_n 2, 1) := by decide +kernel
theorem dX3_converted_60 : decode cX3_converted 60 = .ok (.invokevirtual 43, 3) := by decide +kernel
theorem dX3_converted_63 : decode cX3_converted 63 = .ok (.invokevirtual 50, 3) := by decide +kernel
theorem dX3_converted_66 : decode cX3_converted 66 = .ok (.lreturn, 1) := by decide +kernel
set_option maxRecDepth 20000 in
theorem ggX3_fromLong_X0_pack : GoodIn wsX3_fromLong wsX0_pack := goodIn_r _ [11, 12, 13, 14, 15, 16, 5, 17, 18, 19, 20, 10, 21, 22, 23, 24] rfl (by decide +kernel)
set_option maxRecDepth 20000 in
theorem gX3_fromLong_X0_pack : GoodIn wsX3_fromLong (wsV RX3 50 RX0 yX0_pack wsX0_pack) := goodIn_app (goodIn_of _ (by decide +kernel)) ggX3_fromLong_X0_pack
theorem dX3_fromLong_0 : decode cX3_fromLong 0 = .ok (.lload_n 1, 1) := by decide +kernel
theorem dX3_fromLong_1 : decode cX3_fromLong 1 = .ok (.ldc2_w 54, 3) := by decide +kernel
theorem dX3_fromLong_4 : decode cX3_fromLong 4 = .ok (.lcmp, 1) := by decide +kernel
theorem dX3_fromLong_5 : decode cX3_fromLong 5 = .ok (.ifCond .ne 13, 3) := by decide +kernel
theorem dX3_fromLong_8 : decode cX3_fromLong 8 = .ok (.aload_n 0, 1) := by decide +kernel
theorem dX3_fromLong_9 : decode cX3_fromLong 9 = .ok (.iconst 1, 1) := by decide +kernel
theorem dX3_fromLong_10 : decode cX3_fromLong 10 = .ok (.iconst 1, 1) := by decide +kernel
theorem dX3_fromLong_11 : decode cX3_fromLong 11 = .ok (.ldc2_w 129, 3) := by decide +kernel
theorem dX3_fromLong_14 : decode cX3_fromLong 14 = .ok (.invokevirtual 50, 3) := by decide +kernel
theorem dX3_fromLong_17 : decode cX3_fromLong 17 = .ok (.lreturn, 1) := by decide +kernel
theorem dX3_fromLong_18 : decode cX3_fromLong 18 = .ok (.aload_n 0, 1) := by decide +kernel
theorem dX3_fromLong_19 : decode cX3_fromLong 19 = .ok (.lload_n 1, 1) := by decide +kernel
theorem dX3_fromLong_20 : decode cX3_fromLong 20 = .ok (.lconst 0, 1) := by decide +kernel
theorem dX3_fromLong_21 : decode cX3_fromLong 21 = .ok (.lcmp, 1) := by decide +kernel
theorem dX3_fromLong_22 : decode cX3_fromLong 22 = .ok (.ifCond .ge 7, 3) := by decide +kernel
theorem dX3_fromLong_25 : decode cX3_fromLong 25 = .ok (.iconst 1, 1) := by decide +kernel
theorem dX3_fromLong_26 : decode cX3_fromLong 26 = .ok (.goto 4, 3) := by decide +kernel
theorem dX3_fromLong_29 : decode cX3_fromLong 29 = .ok (.iconst 0, 1) := by decide +kernel
theorem dX3_fromLong_30 : decode cX3_fromLong 30 = .ok (.iconst 0, 1) := by decide +kernel
theorem dX3_fromLong_31 : decode cX3_fromLong 31 = .ok (.lload_n 1, 1) := by decide +kernel
theorem dX3_fromLong_32 : decode cX3_fromLong 32 = .ok (.invokestatic 131, 3) := by decide +kernel
theorem dX3_fromLong_35 : decode cX3_fromLong 35 = .ok (.invokevirtual 50, 3) := by decide +kernel
theorem dX3_fromLong_38 : decode cX3_fromLong 38 = .ok (.lreturn, 1) := by decide +kernel
set_option maxRecDepth 20000 in
theorem ggX3_toLong_X0_isNaN : GoodIn wsX3_toLong wsX0_isNaN := goodIn_r _ [12, 13, 14, 15, 16, 11, 17, 18] rfl (by decide +kernel)
set_option maxRecDepth 20000 in
theorem gX3_toLong_X0_isNaN : GoodIn wsX3_toLong (wsV RX3 17 RX0 yX0_isNaN wsX0_isNaN) := goodIn_app (goodIn_of _ (by decide +kernel)) ggX3_toLong_X0_isNaN
set_option maxRecDepth 20000 in
theorem ggX3_toLong_X3_power : GoodIn wsX3_toLong wsX3_power := goodIn_r _ [22, 1, 23, 24, 15, 16, 11, 17, 18] rfl (by decide +kernel)
set_option maxRecDepth 20000 in
theorem gX3_toLong_X3_power : GoodIn wsX3_toLong (va_wsS RX3 109 yX3_power wsX3_power) := goodIn_app (goodIn_of _ (by decide +kernel)) ggX3_toLong_X3_power
set_option maxRecDepth 20000 in
theorem ggX3_toLong_X0_exponent : GoodIn wsX3_toLong wsX0_exponent := goodIn_r _ [28, 29, 30, 31, 32, 6, 33, 14, 15, 16, 11, 17, 18, 34, 35, 36, 37, 38, 39, 40] rfl (by decide +kernel)
set_option maxRecDepth 20000 in
theorem gX3_toLong_X0_exponent : GoodIn wsX3_toLong (wsV RX3 39 RX0 yX0_exponent wsX0_exponent) := goodIn_app (goodIn_of _ (by decide +kernel)) ggX3_toLong_X0_exponent
set_option maxRecDepth 20000 in
theorem ggX3_toLong_X0_significand : GoodIn wsX3_toLong wsX0_significand := goodIn_r _ [44, 29, 14, 15, 16, 11, 17, 18, 34, 35, 36, 37, 38, 39, 40] rfl (by decide +kernel)
set_option maxRecDepth 20000 in
theorem gX3_toLong_X0_significand : GoodIn wsX3_toLong (wsV RX3 43 RX0 yX0_significand wsX0_significand) := goodIn_app (goodIn_of _ (by decide +kernel)) ggX3_toLong_X0_significand
theorem dX3_toLong_0 : decode cX3_toLong 0 = .ok (.getstatic 11, 3) := by decide +kernel
theorem dX3_toLong_3 : decode cX3_toLong 3 = .ok (.lload_n 0, 1) := by decide +kernel
theorem dX3_toLong_4 : decode cX3_toLong 4 = .ok (.invokevirtual 17, 3) := by decide +kernel
theorem dX3_toLong_7 : decode cX3_toLong 7 = .ok (.ifCond .eq 5, 3) := by decide +kernel
theorem dX3_toLong_10 : decode cX3_toLong 10 = .ok (.lconst 0, 1) := by decide +kernel
theorem dX3_toLong_11 : decode cX3_toLong 11 = .ok (.lreturn, 1) := by decide +kernel
theorem dX3_toLong_12 : decode cX3_toLong 12 = .ok (.lload_n 0, 1) := by decide +kernel
theorem dX3_toLong_13 : decode cX3_toLong 13 = .ok (.invokestatic 109, 3) := by decide +kernel
theorem dX3_toLong_16 : decode cX3_toLong 16 = .ok (.bipush 63, 2) := by decide +kernel
theorem dX3_toLong_18 : decode cX3_toLong 18 = .ok (.if_icmp .lt 19, 3) := by decide +kernel
theorem dX3_toLong_21 : decode cX3_toLong 21 = .ok (.lload_n 0, 1) := by decide +kernel
theorem dX3_toLong_22 : decode cX3_toLong 22 = .ok (.lconst 0, 1) := by decide +kernel
theorem dX3_toLong_23 : decode cX3_toLong 23 = .ok (.lcmp, 1) := by decide +kernel
theorem dX3_toLong_24 : decode cX3_toLong 24 = .ok (.ifCond .ge 9, 3) := by decide +kernel
theorem dX3_toLong_27 : decode cX3_toLong 27 = .ok (.ldc2_w 54, 3) := by decide +kernel
theorem dX3_toLong_30 : decode cX3_toLong 30 = .ok (.goto 6, 3) := by decide +kernel
theorem dX3_toLong_33 : decode cX3_toLong 33 = .ok (.ldc2_w 134, 3) := by decide +kernel
theorem dX3_toLong_36 : decode cX3_toLong 36 = .ok (.lreturn, 1) := by decide +kernel
theorem dX3_toLong_37 : decode cX3_toLong 37 = .ok (.getstatic 11, 3) := by decide +kernel
theorem dX3_toLong_40 : decode cX3_toLong 40 = .ok (.lload_n 0, 1) := by decide +kernel
theorem dX3_toLong_41 : decode cX3_toLong 41 = .ok (.invokevirtual 39, 3) := by decide +kernel
theorem dX3_toLong_44 : decode cX3_toLong 44 = .ok (.istore_n 2, 1) := by decide +kernel
theorem dX3_toLong_45 : decode cX3_toLong 45 = .ok (.getstatic 11, 3) := by decide +kernel
theorem dX3_toLong_48 : decode cX3_toLong 48 = .ok (.lload_n 0, 1) := by decide +kernel
theorem dX3_toLong_49 : decode cX3_toLong 49 = .ok (.invokevirtual 43, 3) := by decide +kernel
theorem dX3_toLong_52 : decode cX3_toLong 52 = .ok (.lstore_n 3, 1) := by decide +kernel
theorem dX3_toLong_53 : decode cX3_toLong 53 = .ok (.iload_n 2, 1) := by decide +kernel
theorem dX3_toLong_54 : decode cX3_toLong 54 = .ok (.ifCond .lt 9, 3) := by decide +kernel
theorem dX3_toLong_57 : decode cX3_toLong 57 = .ok (.lload_n 3, 1) := by decide +kernel
theorem dX3_toLong_58 : decode cX3_toLong 58 = .ok (.iload_n 2, 1) := by decide +kernel
theorem dX3_toLong_59 : decode cX3_toLong 59 = .ok (.lshl, 1) := by decide +kernel
theorem dX3_toLong_60 : decode cX3_toLong 60 = .ok (.goto 12, 3) := by decide +kernel
theorem dX3_toLong_63 : decode cX3_toLong 63 = .ok (.lload_n 3, 1) := by decide +kernel
theorem dX3_toLong_64 : decode cX3_toLong 64 = .ok (.iload_n 2, 1) := by decide +kernel
theorem dX3_toLong_65 : decode cX3_toLong 65 = .ok (.ineg, 1) := by decide +kernel
theorem dX3_toLong_66 : decode cX3_toLong 66 = .ok (.bipush 63, 2) := by decide +kernel
theorem dX3_toLong_68 : decode cX3_toLong 68 = .ok (.invokestatic 74, 3) := by decide +kernel
theorem dX3_toLong_71 : decode cX3_toLong 71 = .ok (.lushr, 1) := by decide +kernel
theorem dX3_toLong_72 : decode cX3_toLong 72 = .ok (.lstore 5, 2) := by decide +kernel
theorem dX3_toLong_74 : decode cX3_toLong 74 = .ok (.lload_n 0, 1) := by decide +kernel
theorem dX3_toLong_75 : decode cX3_toLong 75 = .ok (.lconst 0, 1) := by decide +kernel
theorem dX3_toLong_76 : decode cX3_toLong 76 = .ok (.lcmp, 1) := by decide +kernel
theorem dX3_toLong_77 : decode cX3_toLong 77 = .ok (.ifCond .ge 9, 3) := by decide +kernel
theorem dX3_toLong_80 : decode cX3_toLong 80 = .ok (.lload 5, 2) := by decide +kernel
theorem dX3_toLong_82 : decode cX3_toLong 82 = .ok (.lneg, 1) := by decide +kernel
theorem dX3_toLong_83 : decode cX3_toLong 83 = .ok (.goto 5, 3) := by decide +kernel
theorem dX3_toLong_86 : decode cX3_toLong 86 = .ok (.lload 5, 2) := by decide +kernel
theorem dX3_toLong_88 : decode cX3_toLong 88 = .ok (.lreturn, 1) := by decide +kernel
set_option maxRecDepth 20000 in
theorem ggX3_toInt_X3_toLong : GoodIn wsX3_toInt wsX3_toLong := goodIn_r _ [13, 14, 15, 16, 17, 18, 4, 19, 20, 21, 22, 23, 24, 25, 26, 27, 28, 29, 30, 31, 32, 12, 33, 34, 35, 36, 37, 38, 39, 40, 41, 42, 43, 44, 45, 46, 47, 48, 49, 50, 51, 52, 53, 54, 55] rfl (by decide +kernel)
set_option maxRecDepth 20000 in
theorem gX3_toInt_X3_toLong : GoodIn wsX3_toInt (va_wsS RX3 136 yX3_toLong wsX3_toLong) := goodIn_app (goodIn_of _ (by decide +kernel)) ggX3_toInt_X3_toLong
theorem dX3_toInt_0 : decode cX3_toInt 0 = .ok (.lload_n 0, 1) := by decide +kernel
theorem dX3_toInt_1 : decode cX3_toInt 1 = .ok (.invokestatic 136, 3) := by decide +kernel
theorem dX3_toInt_4 : decode cX3_toInt 4 = .ok (.ldc2_w 139, 3) := by decide +kernel
theorem dX3_toInt_7 : decode cX3_toInt 7 = .ok (.invokestatic 141, 3) := by decide +kernel
theorem dX3_toInt_10 : decode cX3_toInt 10 = .ok (.ldc2_w 143, 3) := by decide +kernel
theorem dX3_toInt_13 : decode cX3_toInt 13 = .ok (.invokestatic 145, 3) := by decide +kernel
theorem dX3_toInt_16 : decode cX3_toInt 16 = .ok (.l2i, 1) := by decide +kernel
theorem dX3_toInt_17 : decode cX3_toInt 17 = .ok (.ireturn, 1) := by decide +kernel
end
section
/-! ===== base: contracts of methods that change nothing and answer one number; the two constants of Format; compares with their branches ===== -/
def pv_N : Nat → Prop := fun _ => False
abbrev pm_R (fr lo : Nat) : Room := { frames := fr, cells := 0, slots := 0, locals := lo }
abbrev pm_QI (v : Int32) : Array Value → State → Outcome → State → Prop := va_Qi (fun (r : Int32) (_ : Unit) => r = v) (fun _ _ => True) pv_N
abbrev pm_QL (v : Int64) : Array Value → State → Outcome → State → Prop := va_Ql (fun (r : Int64) (_ : Unit) => r = v) (fun _ _ => True) pv_N
abbrev pm_QD (v : UInt64) : Array Value → State → Outcome → State → Prop := va_Qd (fun (r : UInt64) (_ : Unit) => r = v) (fun _ _ => True) pv_N
abbrev pm_QF (v : UInt32) : Array Value → State → Outcome → State → Prop := va_Qf (fun (r : UInt32) (_ : Unit) => r = v) (fun _ _ => True) pv_N
def PmI (l : Launch) (y : MethodName) (ws : List Cond) (fr lo : Nat) (as : List Value) (B : State → Prop) (v : Int32) : Prop := Met l y ws (pm_R fr lo) (va_Pc as B) (pm_QI v) 0 0 pv_N
def PmL (l : Launch) (y : MethodName) (ws : List Cond) (fr lo : Nat) (as : List Value) (B : State → Prop) (v : Int64) : Prop := Met l y ws (pm_R fr lo) (va_Pc as B) (pm_QL v) 0 0 pv_N
def PmD (l : Launch) (y : MethodName) (ws : List Cond) (fr lo : Nat) (as : List Value) (B : State → Prop) (v : UInt64) : Prop := Met l y ws (pm_R fr lo) (va_Pc as B) (pm_QD v) 0 0 pv_N
def PmF (l : Launch) (y : MethodName) (ws : List Cond) (fr lo : Nat) (as : List Value) (B : State → Prop) (v : UInt32) : Prop := Met l y ws (pm_R fr lo) (va_Pc as B) (pm_QF v) 0 0 pv_N
theorem pm_fb {as : List Value} {B : State → Prop} (h : ∀ (U : State) (g : JFrame) (mk : MethodId) (a : Array Value), B U → B (U.calling g mk a)) : FrameBlind (va_Pc as B) := fun a U g mk q => ⟨q.1, h U g mk a q.2⟩
theorem pm_fbT {as : List Value} : FrameBlind (va_Pc as (fun _ => True)) := fun _ _ _ _ q => ⟨q.1, trivial⟩
section PMC
variable {p : Program} {l : Launch} {e : Env} {R : Room} {s : State} {m : MethodId} {args : Array Value} {below : List Frame} {meth : Method} {c : Code} {H : Heap} {locs : List Loc} {cells slots : Nat} {Q : State → Prop}
variable {pc : Nat} {ls : Array Slot} {rest st0 : List Value} {a : Array Value} {A0 : Nat → Prop} {H0 : Heap}
theorem pm_callI {v : Int32} (hr : va_Run p l e R s m args below meth c H locs cells slots 0 0 (F0 m pc ls st0) rest (pm_QI v a) pv_N) (hS : va_S A0 H0 H locs)
    (kk : ∀ (H1 : Heap) (locs1 : List Loc), H.size ≤ H1.size → (∀ q : Nat, q < H.size → H1[q]? = H[q]?) → va_S A0 H0 H1 locs1 → W p l e R s m args below meth c H1 locs1 cells slots Q (F0 m (pc + 3) ls (.int v :: rest))) : W p l e R s m args below meth c H locs cells slots Q (F0 m pc ls st0) :=
  va_calli hr hS (fun _ _ h => h.elim) (fun _ h => h.elim) (fun _ _ _ H1 locs1 _ _ hw _ hz hk hS => by subst hw; exact kk H1 locs1 hz (fun q h => hk q h (fun z => z)) hS)
theorem pm_callL {v : Int64} (hr : va_Run p l e R s m args below meth c H locs cells slots 0 0 (F0 m pc ls st0) rest (pm_QL v a) pv_N) (hS : va_S A0 H0 H locs)
    (kk : ∀ (H1 : Heap) (locs1 : List Loc), H.size ≤ H1.size → (∀ q : Nat, q < H.size → H1[q]? = H[q]?) → va_S A0 H0 H1 locs1 → W p l e R s m args below meth c H1 locs1 cells slots Q (F0 m (pc + 3) ls (.long v :: rest))) : W p l e R s m args below meth c H locs cells slots Q (F0 m pc ls st0) :=
  va_calll hr hS (fun _ _ h => h.elim) (fun _ h => h.elim) (fun _ _ _ H1 locs1 _ _ hw _ hz hk hS => by subst hw; exact kk H1 locs1 hz (fun q h => hk q h (fun z => z)) hS)
theorem pm_callD {v : UInt64} (hr : va_Run p l e R s m args below meth c H locs cells slots 0 0 (F0 m pc ls st0) rest (pm_QD v a) pv_N) (hS : va_S A0 H0 H locs)
    (kk : ∀ (H1 : Heap) (locs1 : List Loc), H.size ≤ H1.size → (∀ q : Nat, q < H.size → H1[q]? = H[q]?) → va_S A0 H0 H1 locs1 → W p l e R s m args below meth c H1 locs1 cells slots Q (F0 m (pc + 3) ls (.double v :: rest))) : W p l e R s m args below meth c H locs cells slots Q (F0 m pc ls st0) :=
  va_calld hr hS (fun _ _ h => h.elim) (fun _ h => h.elim) (fun _ _ _ H1 locs1 _ _ hw _ hz hk hS => by subst hw; exact kk H1 locs1 hz (fun q h => hk q h (fun z => z)) hS)
theorem pm_callF {v : UInt32} (hr : va_Run p l e R s m args below meth c H locs cells slots 0 0 (F0 m pc ls st0) rest (pm_QF v a) pv_N) (hS : va_S A0 H0 H locs)
    (kk : ∀ (H1 : Heap) (locs1 : List Loc), H.size ≤ H1.size → (∀ q : Nat, q < H.size → H1[q]? = H[q]?) → va_S A0 H0 H1 locs1 → W p l e R s m args below meth c H1 locs1 cells slots Q (F0 m (pc + 3) ls (.float v :: rest))) : W p l e R s m args below meth c H locs cells slots Q (F0 m pc ls st0) :=
  va_callf hr hS (fun _ _ h => h.elim) (fun _ h => h.elim) (fun _ _ _ H1 locs1 _ _ hw _ hz hk hS => by subst hw; exact kk H1 locs1 hz (fun q h => hk q h (fun z => z)) hS)
-- the ends of such methods
theorem pm_iret {cc : ByteArray} {v w : Int32} (hx : p.tables.exec = Jvm.exec) (hb : c.code = cc) (hr : meth.sig.returnType = some .int) (hlocks : meth.locks = false) (hS : va_S pv_N s.heap H locs) (hv : v = w)
    (hdg : decode cc pc = .ok (.ireturn, 1)) : W p l e R s m args below meth c H locs cells slots (MQ below (pm_QI w) args s cells slots pv_N) (F0 m pc ls [.int v]) :=
  W.iret (v := v) hx hb hr (fun _ ht _ => ⟨⟨v, (), rfl, hv, trivial⟩, hS.F ht⟩) hS.2.2 hdg
theorem pm_zret {cc : ByteArray} {v w : Int32} {ty : FieldType} (hx : p.tables.exec = Jvm.exec) (hb : c.code = cc) (hr : meth.sig.returnType = some ty) (hlocks : meth.locks = false) (hS : va_S pv_N s.heap H locs) (hn : narrow ty (.int v) = .int v) (hv : v = w)
    (hdg : decode cc pc = .ok (.ireturn, 1)) : W p l e R s m args below meth c H locs cells slots (MQ below (pm_QI w) args s cells slots pv_N) (F0 m pc ls [.int v]) :=
  W.zret (v := v) hx hb hr hn (fun _ ht _ => ⟨⟨v, (), rfl, hv, trivial⟩, hS.F ht⟩) hS.2.2 hdg
theorem pm_lret {cc : ByteArray} {v w : Int64} (hx : p.tables.exec = Jvm.exec) (hb : c.code = cc) (hr : meth.sig.returnType = some .long) (hlocks : meth.locks = false) (hS : va_S pv_N s.heap H locs) (hv : v = w)
    (hdg : decode cc pc = .ok (.lreturn, 1)) : W p l e R s m args below meth c H locs cells slots (MQ below (pm_QL w) args s cells slots pv_N) (F0 m pc ls [.long v]) :=
  W.lret (v := v) hx hb hr (fun _ ht _ => ⟨⟨v, (), rfl, hv, trivial⟩, hS.F ht⟩) hS.2.2 hdg
theorem pm_dret {cc : ByteArray} {v w : UInt64} (hx : p.tables.exec = Jvm.exec) (hb : c.code = cc) (hr : meth.sig.returnType = some .double) (hlocks : meth.locks = false) (hS : va_S pv_N s.heap H locs) (hv : v = w)
    (hdg : decode cc pc = .ok (.dreturn, 1)) : W p l e R s m args below meth c H locs cells slots (MQ below (pm_QD w) args s cells slots pv_N) (F0 m pc ls [.double v]) :=
  W.dret hx hb hr (fun _ ht _ => ⟨⟨v, (), rfl, hv, trivial⟩, hS.F ht⟩) hS.2.2 hdg
theorem pm_fret {cc : ByteArray} {v w : UInt32} (hx : p.tables.exec = Jvm.exec) (hb : c.code = cc) (hr : meth.sig.returnType = some .float) (hlocks : meth.locks = false) (hS : va_S pv_N s.heap H locs) (hv : v = w)
    (hdg : decode cc pc = .ok (.freturn, 1)) : W p l e R s m args below meth c H locs cells slots (MQ below (pm_QF w) args s cells slots pv_N) (F0 m pc ls [.float v]) :=
  W.fret hx hb hr (fun _ ht _ => ⟨⟨v, (), rfl, hv, trivial⟩, hS.F ht⟩) hS.2.2 hdg
-- longs compared and branched
theorem lp_lt {cc : ByteArray} (hx : p.tables.exec = Jvm.exec) (hb : c.code = cc) {x y : Int64} {off : Int} {tgt : Nat} (d1 : decode cc pc = .ok (.lcmp, 1)) (d2 : decode cc (pc + 1) = .ok (.ifCond .lt off, 3)) (ht : ((pc + 1 : Nat) : Int) + off = (tgt : Int))
    (kt : x < y → W p l e R s m args below meth c H locs cells slots Q (F0 m tgt ls rest)) (kf : ¬ x < y → W p l e R s m args below meth c H locs cells slots Q (F0 m (pc + 1 + 3) ls rest)) : W p l e R s m args below meth c H locs cells slots Q (F0 m pc ls (.long y :: .long x :: rest)) :=
  W.lcmp hx hb d1 (lv_if_lt hx hb d2 ht (fun h => kt ((lg_cmp_lt x y).mp h)) (fun h => kf (fun z => h ((lg_cmp_lt x y).mpr z))))
theorem lp_le {cc : ByteArray} (hx : p.tables.exec = Jvm.exec) (hb : c.code = cc) {x y : Int64} {off : Int} {tgt : Nat} (d1 : decode cc pc = .ok (.lcmp, 1)) (d2 : decode cc (pc + 1) = .ok (.ifCond .le off, 3)) (ht : ((pc + 1 : Nat) : Int) + off = (tgt : Int))
    (kt : x ≤ y → W p l e R s m args below meth c H locs cells slots Q (F0 m tgt ls rest)) (kf : ¬ x ≤ y → W p l e R s m args below meth c H locs cells slots Q (F0 m (pc + 1 + 3) ls rest)) : W p l e R s m args below meth c H locs cells slots Q (F0 m pc ls (.long y :: .long x :: rest)) :=
  W.lcmp hx hb d1 (lv_if_le hx hb d2 ht (fun h => kt ((lg_cmp_le x y).mp h)) (fun h => kf (fun z => h ((lg_cmp_le x y).mpr z))))
theorem lp_gt {cc : ByteArray} (hx : p.tables.exec = Jvm.exec) (hb : c.code = cc) {x y : Int64} {off : Int} {tgt : Nat} (d1 : decode cc pc = .ok (.lcmp, 1)) (d2 : decode cc (pc + 1) = .ok (.ifCond .gt off, 3)) (ht : ((pc + 1 : Nat) : Int) + off = (tgt : Int))
    (kt : y < x → W p l e R s m args below meth c H locs cells slots Q (F0 m tgt ls rest)) (kf : ¬ y < x → W p l e R s m args below meth c H locs cells slots Q (F0 m (pc + 1 + 3) ls rest)) : W p l e R s m args below meth c H locs cells slots Q (F0 m pc ls (.long y :: .long x :: rest)) :=
  W.lcmp hx hb d1 (lv_if_gt hx hb d2 ht (fun h => kt ((lg_cmp_gt x y).mp h)) (fun h => kf (fun z => h ((lg_cmp_gt x y).mpr z))))
theorem lp_ge {cc : ByteArray} (hx : p.tables.exec = Jvm.exec) (hb : c.code = cc) {x y : Int64} {off : Int} {tgt : Nat} (d1 : decode cc pc = .ok (.lcmp, 1)) (d2 : decode cc (pc + 1) = .ok (.ifCond .ge off, 3)) (ht : ((pc + 1 : Nat) : Int) + off = (tgt : Int))
    (kt : y ≤ x → W p l e R s m args below meth c H locs cells slots Q (F0 m tgt ls rest)) (kf : ¬ y ≤ x → W p l e R s m args below meth c H locs cells slots Q (F0 m (pc + 1 + 3) ls rest)) : W p l e R s m args below meth c H locs cells slots Q (F0 m pc ls (.long y :: .long x :: rest)) :=
  W.lcmp hx hb d1 (lv_if_ge hx hb d2 ht (fun h => kt ((lg_cmp_ge x y).mp h)) (fun h => kf (fun z => h ((lg_cmp_ge x y).mpr z))))
theorem lp_eq {cc : ByteArray} (hx : p.tables.exec = Jvm.exec) (hb : c.code = cc) {x y : Int64} {off : Int} {tgt : Nat} (d1 : decode cc pc = .ok (.lcmp, 1)) (d2 : decode cc (pc + 1) = .ok (.ifCond .eq off, 3)) (ht : ((pc + 1 : Nat) : Int) + off = (tgt : Int))
    (kt : x = y → W p l e R s m args below meth c H locs cells slots Q (F0 m tgt ls rest)) (kf : ¬ x = y → W p l e R s m args below meth c H locs cells slots Q (F0 m (pc + 1 + 3) ls rest)) : W p l e R s m args below meth c H locs cells slots Q (F0 m pc ls (.long y :: .long x :: rest)) :=
  W.lcmp hx hb d1 (lv_if_eq hx hb d2 ht (fun h => kt ((lg_cmp_eq x y).mp h)) (fun h => kf (fun z => h ((lg_cmp_eq x y).mpr z))))
theorem lp_ne {cc : ByteArray} (hx : p.tables.exec = Jvm.exec) (hb : c.code = cc) {x y : Int64} {off : Int} {tgt : Nat} (d1 : decode cc pc = .ok (.lcmp, 1)) (d2 : decode cc (pc + 1) = .ok (.ifCond .ne off, 3)) (ht : ((pc + 1 : Nat) : Int) + off = (tgt : Int))
    (kt : ¬ x = y → W p l e R s m args below meth c H locs cells slots Q (F0 m tgt ls rest)) (kf : x = y → W p l e R s m args below meth c H locs cells slots Q (F0 m (pc + 1 + 3) ls rest)) : W p l e R s m args below meth c H locs cells slots Q (F0 m pc ls (.long y :: .long x :: rest)) :=
  W.lcmp hx hb d1 (lv_if_ne hx hb d2 ht (fun h => kt (fun z => h ((lg_cmp_eq x y).mpr z))) (fun h => kf ((lg_cmp_eq x y).mp h)))
end PMC
-- the two constants of Format
def KQ (fb le : Int32) (inf sb : Int64) (q : Nat) (A : Nat → Prop) (U : State) (H : Heap) : Prop := va_O RX0 q A U H ∧ va_OF "ThrowModels$Format" "fractionBits" "I" (.int fb) q A U H ∧ va_OF "ThrowModels$Format" "lowestExponent" "I" (.int le) q A U H ∧ va_OF "ThrowModels$Format" "infinity" "J" (.long inf) q A U H ∧ va_OF "ThrowModels$Format" "signBit" "J" (.long sb) q A U H
theorem KQ.all {fb le : Int32} {inf sb : Int64} {q : Nat} {A B : Nat → Prop} {s U : State} {H H1 : Heap} (h : KQ fb le inf sb q A s H) (hv : s.vm.Alike U.vm) (hk : ∀ a : Nat, a < H.size → ¬ A a → H1[a]? = H[a]?) (hAB : ∀ q, B q → A q) : KQ fb le inf sb q B U H1 :=
  ⟨((h.1.moved hv).kept hk).narrow hAB, ((h.2.1.moved hv).kept hk).narrow hAB, ((h.2.2.1.moved hv).kept hk).narrow hAB, ((h.2.2.2.1.moved hv).kept hk).narrow hAB, ((h.2.2.2.2.moved hv).kept hk).narrow hAB⟩
def KF (dD dF : Nat) (A : Nat → Prop) (U : State) (H : Heap) : Prop := va_Z "ThrowModels$Format" "DOUBLE" "LThrowModels$Format;" (.ref dD) A U H ∧ va_Z "ThrowModels$Format" "FLOAT" "LThrowModels$Format;" (.ref dF) A U H ∧ KQ 52 (-1074) 9218868437227405312 (-9223372036854775808) dD A U H ∧ KQ 23 (-149) 2139095040 2147483648 dF A U H
theorem KF.all {dD dF : Nat} {A B : Nat → Prop} {s U : State} {H H1 : Heap} (h : KF dD dF A s H) (hv : s.vm.Alike U.vm) (hk : ∀ a : Nat, a < H.size → ¬ A a → H1[a]? = H[a]?) (hAB : ∀ q, B q → A q) : KF dD dF B U H1 :=
  ⟨((h.1.moved hv).kept hk).narrow hAB, ((h.2.1.moved hv).kept hk).narrow hAB, h.2.2.1.all hv hk hAB, h.2.2.2.all hv hk hAB⟩
theorem pv_in {A : Nat → Prop} : ∀ q, pv_N q → A q := fun _ h => h.elim
theorem KQ.call {fb le : Int32} {inf sb : Int64} {q : Nat} {A : Nat → Prop} {s : State} {H : Heap} {locs : List Loc} (h : KQ fb le inf sb q A s s.heap) (hS : va_S A s.heap H locs) (U : State) (hU : U.heap = H) (hW : s.WarmedH U.vm) : KQ fb le inf sb q pv_N U U.heap :=
  h.all hW.alike (by rw [hU]; exact hS.2.1) pv_in
theorem KF.call {dD dF : Nat} {A : Nat → Prop} {s : State} {H : Heap} {locs : List Loc} (h : KF dD dF A s s.heap) (hS : va_S A s.heap H locs) (U : State) (hU : U.heap = H) (hW : s.WarmedH U.vm) : KF dD dF pv_N U U.heap :=
  h.all hW.alike (by rw [hU]; exact hS.2.1) pv_in
theorem KQ.fb {fb le : Int32} {inf sb : Int64} {q : Nat} {as : List Value} : FrameBlind (va_Pc as (fun U => KQ fb le inf sb q pv_N U U.heap)) := pm_fb (fun U _ _ _ h => KQ.all (s := U) h (Vm.Alike.refl U.vm) (fun _ _ _ => rfl) (fun _ z => z))
theorem KQ.fb2 {fb le : Int32} {inf sb : Int64} {q : Nat} {fb' le' : Int32} {inf' sb' : Int64} {q' : Nat} {as : List Value} : FrameBlind (va_Pc as (fun U => KQ fb le inf sb q pv_N U U.heap ∧ KQ fb' le' inf' sb' q' pv_N U U.heap)) := pm_fb (fun U _ _ _ h => ⟨KQ.all (s := U) h.1 (Vm.Alike.refl U.vm) (fun _ _ _ => rfl) (fun _ z => z), KQ.all (s := U) h.2 (Vm.Alike.refl U.vm) (fun _ _ _ => rfl) (fun _ z => z)⟩)
theorem KF.fb {dD dF : Nat} {as : List Value} : FrameBlind (va_Pc as (fun U => KF dD dF pv_N U U.heap)) := pm_fb (fun U _ _ _ h => KF.all (s := U) h (Vm.Alike.refl U.vm) (fun _ _ _ => rfl) (fun _ z => z))
-- shifts under names
def lUshr (x : Int64) (y : Int32) : Int64 := (x.toUInt64 >>> (y.toInt64.toUInt64 &&& Int64.toUInt64 63)).toInt64
def lShl (x : Int64) (y : Int32) : Int64 := x <<< (y.toInt64 &&& 63)
def lShr (x : Int64) (y : Int32) : Int64 := x >>> (y.toInt64 &&& 63)
def iUshr (x y : Int32) : Int32 := (x.toUInt32 >>> (y.toUInt32 &&& Int32.toUInt32 31)).toInt32
theorem nz_0 : narrow .boolean (.int 0) = .int 0 := by decide
theorem nz_1 : narrow .boolean (.int 1) = .int 1 := by decide
theorem nz_of {v : Int32} (h : v = 0 ∨ v = 1) : narrow .boolean (.int v) = .int v := by rcases h with rfl | rfl <;> decide
end
section
/-! ===== doubles and floats compared, with the branch behind ===== -/
abbrev dLt (x y : UInt64) : Prop := FP.dcmp x y = some .lt
abbrev dGt (x y : UInt64) : Prop := FP.dcmp x y = some .gt
abbrev dEq (x y : UInt64) : Prop := FP.dcmp x y = some .eq
abbrev dGe (x y : UInt64) : Prop := FP.dcmp x y = some .gt ∨ FP.dcmp x y = some .eq
abbrev dLe (x y : UInt64) : Prop := FP.dcmp x y = some .lt ∨ FP.dcmp x y = some .eq
abbrev fLt (x y : UInt32) : Prop := FP.fcmp x y = some .lt
abbrev fGt (x y : UInt32) : Prop := FP.fcmp x y = some .gt
abbrev fEq (x y : UInt32) : Prop := FP.fcmp x y = some .eq
abbrev fGe (x y : UInt32) : Prop := FP.fcmp x y = some .gt ∨ FP.fcmp x y = some .eq
abbrev fLe (x y : UInt32) : Prop := FP.fcmp x y = some .lt ∨ FP.fcmp x y = some .eq
theorem cv_gge (o : Option Ordering) : (0 ≤ Op.cmpValue o CmpOp.g) ↔ ¬ o = some .lt := by
  rcases o with _ | o
  · simp [Op.cmpValue]
  · cases o <;> simp [Op.cmpValue]
theorem cv_glt (o : Option Ordering) : (Op.cmpValue o CmpOp.g < 0) ↔ o = some .lt := by
  rcases o with _ | o
  · simp [Op.cmpValue]
  · cases o <;> simp [Op.cmpValue]
theorem cv_lle (o : Option Ordering) : (Op.cmpValue o CmpOp.l ≤ 0) ↔ ¬ o = some .gt := by
  rcases o with _ | o
  · simp [Op.cmpValue]
  · cases o <;> simp [Op.cmpValue]
theorem cv_lgt (o : Option Ordering) : (0 < Op.cmpValue o CmpOp.l) ↔ o = some .gt := by
  rcases o with _ | o
  · simp [Op.cmpValue]
  · cases o <;> simp [Op.cmpValue]
theorem cv_lne (o : Option Ordering) : (Op.cmpValue o CmpOp.l = 0) ↔ o = some .eq := by
  rcases o with _ | o
  · simp [Op.cmpValue]
  · cases o <;> simp [Op.cmpValue]
theorem cv_leq (o : Option Ordering) : (Op.cmpValue o CmpOp.l = 0) ↔ o = some .eq := by
  rcases o with _ | o
  · simp [Op.cmpValue]
  · cases o <;> simp [Op.cmpValue]
theorem cv_llt (o : Option Ordering) : (Op.cmpValue o CmpOp.l < 0) ↔ ¬ (o = some .gt ∨ o = some .eq) := by
  rcases o with _ | o
  · simp [Op.cmpValue]
  · cases o <;> simp [Op.cmpValue]
theorem cv_lge (o : Option Ordering) : (0 ≤ Op.cmpValue o CmpOp.l) ↔ (o = some .gt ∨ o = some .eq) := by
  rcases o with _ | o
  · simp [Op.cmpValue]
  · cases o <;> simp [Op.cmpValue]
theorem cv_ggt (o : Option Ordering) : (0 < Op.cmpValue o CmpOp.g) ↔ ¬ (o = some .lt ∨ o = some .eq) := by
  rcases o with _ | o
  · simp [Op.cmpValue]
  · cases o <;> simp [Op.cmpValue]
theorem cv_gle (o : Option Ordering) : (Op.cmpValue o CmpOp.g ≤ 0) ↔ (o = some .lt ∨ o = some .eq) := by
  rcases o with _ | o
  · simp [Op.cmpValue]
  · cases o <;> simp [Op.cmpValue]
section LFC
variable {p : Program} {l : Launch} {e : Env} {R : Room} {s : State} {m : MethodId} {args : Array Value} {below : List Frame} {meth : Method} {c : Code} {H : Heap} {locs : List Loc} {cells slots : Nat} {Q : State → Prop}
variable {pc : Nat} {ls : Array Slot} {rest : List Value}
theorem lf_d_gge {cc : ByteArray} (hx : p.tables.exec = Jvm.exec) (hb : c.code = cc) {x y : UInt64} {off : Int} {tgt : Nat} (d1 : decode cc pc = .ok (.dcmp .g, 1)) (d2 : decode cc (pc + 1) = .ok (.ifCond .ge off, 3)) (ht : ((pc + 1 : Nat) : Int) + off = (tgt : Int))
    (kt : ¬ dLt x y → W p l e R s m args below meth c H locs cells slots Q (F0 m tgt ls rest)) (kf : dLt x y → W p l e R s m args below meth c H locs cells slots Q (F0 m (pc + 1 + 3) ls rest)) : W p l e R s m args below meth c H locs cells slots Q (F0 m pc ls (.double y :: .double x :: rest)) :=
  lv_dcmp hx hb d1 (lv_if_ge hx hb d2 ht (fun h => kt ((cv_gge (FP.dcmp x y)).mp h)) (fun h => kf (Classical.byContradiction (fun z => h ((cv_gge (FP.dcmp x y)).mpr z)))))
theorem lf_d_glt {cc : ByteArray} (hx : p.tables.exec = Jvm.exec) (hb : c.code = cc) {x y : UInt64} {off : Int} {tgt : Nat} (d1 : decode cc pc = .ok (.dcmp .g, 1)) (d2 : decode cc (pc + 1) = .ok (.ifCond .lt off, 3)) (ht : ((pc + 1 : Nat) : Int) + off = (tgt : Int))
    (kt : dLt x y → W p l e R s m args below meth c H locs cells slots Q (F0 m tgt ls rest)) (kf : ¬ dLt x y → W p l e R s m args below meth c H locs cells slots Q (F0 m (pc + 1 + 3) ls rest)) : W p l e R s m args below meth c H locs cells slots Q (F0 m pc ls (.double y :: .double x :: rest)) :=
  lv_dcmp hx hb d1 (lv_if_lt hx hb d2 ht (fun h => kt ((cv_glt (FP.dcmp x y)).mp h)) (fun h => kf (fun z => h ((cv_glt (FP.dcmp x y)).mpr z))))
theorem lf_d_lle {cc : ByteArray} (hx : p.tables.exec = Jvm.exec) (hb : c.code = cc) {x y : UInt64} {off : Int} {tgt : Nat} (d1 : decode cc pc = .ok (.dcmp .l, 1)) (d2 : decode cc (pc + 1) = .ok (.ifCond .le off, 3)) (ht : ((pc + 1 : Nat) : Int) + off = (tgt : Int))
    (kt : ¬ dGt x y → W p l e R s m args below meth c H locs cells slots Q (F0 m tgt ls rest)) (kf : dGt x y → W p l e R s m args below meth c H locs cells slots Q (F0 m (pc + 1 + 3) ls rest)) : W p l e R s m args below meth c H locs cells slots Q (F0 m pc ls (.double y :: .double x :: rest)) :=
  lv_dcmp hx hb d1 (lv_if_le hx hb d2 ht (fun h => kt ((cv_lle (FP.dcmp x y)).mp h)) (fun h => kf (Classical.byContradiction (fun z => h ((cv_lle (FP.dcmp x y)).mpr z)))))
theorem lf_d_lgt {cc : ByteArray} (hx : p.tables.exec = Jvm.exec) (hb : c.code = cc) {x y : UInt64} {off : Int} {tgt : Nat} (d1 : decode cc pc = .ok (.dcmp .l, 1)) (d2 : decode cc (pc + 1) = .ok (.ifCond .gt off, 3)) (ht : ((pc + 1 : Nat) : Int) + off = (tgt : Int))
    (kt : dGt x y → W p l e R s m args below meth c H locs cells slots Q (F0 m tgt ls rest)) (kf : ¬ dGt x y → W p l e R s m args below meth c H locs cells slots Q (F0 m (pc + 1 + 3) ls rest)) : W p l e R s m args below meth c H locs cells slots Q (F0 m pc ls (.double y :: .double x :: rest)) :=
  lv_dcmp hx hb d1 (lv_if_gt hx hb d2 ht (fun h => kt ((cv_lgt (FP.dcmp x y)).mp h)) (fun h => kf (fun z => h ((cv_lgt (FP.dcmp x y)).mpr z))))
theorem lf_d_lne {cc : ByteArray} (hx : p.tables.exec = Jvm.exec) (hb : c.code = cc) {x y : UInt64} {off : Int} {tgt : Nat} (d1 : decode cc pc = .ok (.dcmp .l, 1)) (d2 : decode cc (pc + 1) = .ok (.ifCond .ne off, 3)) (ht : ((pc + 1 : Nat) : Int) + off = (tgt : Int))
    (kt : ¬ dEq x y → W p l e R s m args below meth c H locs cells slots Q (F0 m tgt ls rest)) (kf : dEq x y → W p l e R s m args below meth c H locs cells slots Q (F0 m (pc + 1 + 3) ls rest)) : W p l e R s m args below meth c H locs cells slots Q (F0 m pc ls (.double y :: .double x :: rest)) :=
  lv_dcmp hx hb d1 (lv_if_ne hx hb d2 ht (fun h => kt (fun z => h ((cv_lne (FP.dcmp x y)).mpr z))) (fun h => kf ((cv_lne (FP.dcmp x y)).mp h)))
theorem lf_d_leq {cc : ByteArray} (hx : p.tables.exec = Jvm.exec) (hb : c.code = cc) {x y : UInt64} {off : Int} {tgt : Nat} (d1 : decode cc pc = .ok (.dcmp .l, 1)) (d2 : decode cc (pc + 1) = .ok (.ifCond .eq off, 3)) (ht : ((pc + 1 : Nat) : Int) + off = (tgt : Int))
    (kt : dEq x y → W p l e R s m args below meth c H locs cells slots Q (F0 m tgt ls rest)) (kf : ¬ dEq x y → W p l e R s m args below meth c H locs cells slots Q (F0 m (pc + 1 + 3) ls rest)) : W p l e R s m args below meth c H locs cells slots Q (F0 m pc ls (.double y :: .double x :: rest)) :=
  lv_dcmp hx hb d1 (lv_if_eq hx hb d2 ht (fun h => kt ((cv_leq (FP.dcmp x y)).mp h)) (fun h => kf (fun z => h ((cv_leq (FP.dcmp x y)).mpr z))))
theorem lf_d_llt {cc : ByteArray} (hx : p.tables.exec = Jvm.exec) (hb : c.code = cc) {x y : UInt64} {off : Int} {tgt : Nat} (d1 : decode cc pc = .ok (.dcmp .l, 1)) (d2 : decode cc (pc + 1) = .ok (.ifCond .lt off, 3)) (ht : ((pc + 1 : Nat) : Int) + off = (tgt : Int))
    (kt : ¬ dGe x y → W p l e R s m args below meth c H locs cells slots Q (F0 m tgt ls rest)) (kf : dGe x y → W p l e R s m args below meth c H locs cells slots Q (F0 m (pc + 1 + 3) ls rest)) : W p l e R s m args below meth c H locs cells slots Q (F0 m pc ls (.double y :: .double x :: rest)) :=
  lv_dcmp hx hb d1 (lv_if_lt hx hb d2 ht (fun h => kt ((cv_llt (FP.dcmp x y)).mp h)) (fun h => kf (Classical.byContradiction (fun z => h ((cv_llt (FP.dcmp x y)).mpr z)))))
theorem lf_d_lge {cc : ByteArray} (hx : p.tables.exec = Jvm.exec) (hb : c.code = cc) {x y : UInt64} {off : Int} {tgt : Nat} (d1 : decode cc pc = .ok (.dcmp .l, 1)) (d2 : decode cc (pc + 1) = .ok (.ifCond .ge off, 3)) (ht : ((pc + 1 : Nat) : Int) + off = (tgt : Int))
    (kt : dGe x y → W p l e R s m args below meth c H locs cells slots Q (F0 m tgt ls rest)) (kf : ¬ dGe x y → W p l e R s m args below meth c H locs cells slots Q (F0 m (pc + 1 + 3) ls rest)) : W p l e R s m args below meth c H locs cells slots Q (F0 m pc ls (.double y :: .double x :: rest)) :=
  lv_dcmp hx hb d1 (lv_if_ge hx hb d2 ht (fun h => kt ((cv_lge (FP.dcmp x y)).mp h)) (fun h => kf (fun z => h ((cv_lge (FP.dcmp x y)).mpr z))))
theorem lf_d_ggt {cc : ByteArray} (hx : p.tables.exec = Jvm.exec) (hb : c.code = cc) {x y : UInt64} {off : Int} {tgt : Nat} (d1 : decode cc pc = .ok (.dcmp .g, 1)) (d2 : decode cc (pc + 1) = .ok (.ifCond .gt off, 3)) (ht : ((pc + 1 : Nat) : Int) + off = (tgt : Int))
    (kt : ¬ dLe x y → W p l e R s m args below meth c H locs cells slots Q (F0 m tgt ls rest)) (kf : dLe x y → W p l e R s m args below meth c H locs cells slots Q (F0 m (pc + 1 + 3) ls rest)) : W p l e R s m args below meth c H locs cells slots Q (F0 m pc ls (.double y :: .double x :: rest)) :=
  lv_dcmp hx hb d1 (lv_if_gt hx hb d2 ht (fun h => kt ((cv_ggt (FP.dcmp x y)).mp h)) (fun h => kf (Classical.byContradiction (fun z => h ((cv_ggt (FP.dcmp x y)).mpr z)))))
theorem lf_d_gle {cc : ByteArray} (hx : p.tables.exec = Jvm.exec) (hb : c.code = cc) {x y : UInt64} {off : Int} {tgt : Nat} (d1 : decode cc pc = .ok (.dcmp .g, 1)) (d2 : decode cc (pc + 1) = .ok (.ifCond .le off, 3)) (ht : ((pc + 1 : Nat) : Int) + off = (tgt : Int))
    (kt : dLe x y → W p l e R s m args below meth c H locs cells slots Q (F0 m tgt ls rest)) (kf : ¬ dLe x y → W p l e R s m args below meth c H locs cells slots Q (F0 m (pc + 1 + 3) ls rest)) : W p l e R s m args below meth c H locs cells slots Q (F0 m pc ls (.double y :: .double x :: rest)) :=
  lv_dcmp hx hb d1 (lv_if_le hx hb d2 ht (fun h => kt ((cv_gle (FP.dcmp x y)).mp h)) (fun h => kf (fun z => h ((cv_gle (FP.dcmp x y)).mpr z))))
theorem lf_f_gge {cc : ByteArray} (hx : p.tables.exec = Jvm.exec) (hb : c.code = cc) {x y : UInt32} {off : Int} {tgt : Nat} (d1 : decode cc pc = .ok (.fcmp .g, 1)) (d2 : decode cc (pc + 1) = .ok (.ifCond .ge off, 3)) (ht : ((pc + 1 : Nat) : Int) + off = (tgt : Int))
    (kt : ¬ fLt x y → W p l e R s m args below meth c H locs cells slots Q (F0 m tgt ls rest)) (kf : fLt x y → W p l e R s m args below meth c H locs cells slots Q (F0 m (pc + 1 + 3) ls rest)) : W p l e R s m args below meth c H locs cells slots Q (F0 m pc ls (.float y :: .float x :: rest)) :=
  lv_fcmp hx hb d1 (lv_if_ge hx hb d2 ht (fun h => kt ((cv_gge (FP.fcmp x y)).mp h)) (fun h => kf (Classical.byContradiction (fun z => h ((cv_gge (FP.fcmp x y)).mpr z)))))
theorem lf_f_glt {cc : ByteArray} (hx : p.tables.exec = Jvm.exec) (hb : c.code = cc) {x y : UInt32} {off : Int} {tgt : Nat} (d1 : decode cc pc = .ok (.fcmp .g, 1)) (d2 : decode cc (pc + 1) = .ok (.ifCond .lt off, 3)) (ht : ((pc + 1 : Nat) : Int) + off = (tgt : Int))
    (kt : fLt x y → W p l e R s m args below meth c H locs cells slots Q (F0 m tgt ls rest)) (kf : ¬ fLt x y → W p l e R s m args below meth c H locs cells slots Q (F0 m (pc + 1 + 3) ls rest)) : W p l e R s m args below meth c H locs cells slots Q (F0 m pc ls (.float y :: .float x :: rest)) :=
  lv_fcmp hx hb d1 (lv_if_lt hx hb d2 ht (fun h => kt ((cv_glt (FP.fcmp x y)).mp h)) (fun h => kf (fun z => h ((cv_glt (FP.fcmp x y)).mpr z))))
theorem lf_f_lle {cc : ByteArray} (hx : p.tables.exec = Jvm.exec) (hb : c.code = cc) {x y : UInt32} {off : Int} {tgt : Nat} (d1 : decode cc pc = .ok (.fcmp .l, 1)) (d2 : decode cc (pc + 1) = .ok (.ifCond .le off, 3)) (ht : ((pc + 1 : Nat) : Int) + off = (tgt : Int))
    (kt : ¬ fGt x y → W p l e R s m args below meth c H locs cells slots Q (F0 m tgt ls rest)) (kf : fGt x y → W p l e R s m args below meth c H locs cells slots Q (F0 m (pc + 1 + 3) ls rest)) : W p l e R s m args below meth c H locs cells slots Q (F0 m pc ls (.float y :: .float x :: rest)) :=
  lv_fcmp hx hb d1 (lv_if_le hx hb d2 ht (fun h => kt ((cv_lle (FP.fcmp x y)).mp h)) (fun h => kf (Classical.byContradiction (fun z => h ((cv_lle (FP.fcmp x y)).mpr z)))))
theorem lf_f_lgt {cc : ByteArray} (hx : p.tables.exec = Jvm.exec) (hb : c.code = cc) {x y : UInt32} {off : Int} {tgt : Nat} (d1 : decode cc pc = .ok (.fcmp .l, 1)) (d2 : decode cc (pc + 1) = .ok (.ifCond .gt off, 3)) (ht : ((pc + 1 : Nat) : Int) + off = (tgt : Int))
    (kt : fGt x y → W p l e R s m args below meth c H locs cells slots Q (F0 m tgt ls rest)) (kf : ¬ fGt x y → W p l e R s m args below meth c H locs cells slots Q (F0 m (pc + 1 + 3) ls rest)) : W p l e R s m args below meth c H locs cells slots Q (F0 m pc ls (.float y :: .float x :: rest)) :=
  lv_fcmp hx hb d1 (lv_if_gt hx hb d2 ht (fun h => kt ((cv_lgt (FP.fcmp x y)).mp h)) (fun h => kf (fun z => h ((cv_lgt (FP.fcmp x y)).mpr z))))
theorem lf_f_lne {cc : ByteArray} (hx : p.tables.exec = Jvm.exec) (hb : c.code = cc) {x y : UInt32} {off : Int} {tgt : Nat} (d1 : decode cc pc = .ok (.fcmp .l, 1)) (d2 : decode cc (pc + 1) = .ok (.ifCond .ne off, 3)) (ht : ((pc + 1 : Nat) : Int) + off = (tgt : Int))
    (kt : ¬ fEq x y → W p l e R s m args below meth c H locs cells slots Q (F0 m tgt ls rest)) (kf : fEq x y → W p l e R s m args below meth c H locs cells slots Q (F0 m (pc + 1 + 3) ls rest)) : W p l e R s m args below meth c H locs cells slots Q (F0 m pc ls (.float y :: .float x :: rest)) :=
  lv_fcmp hx hb d1 (lv_if_ne hx hb d2 ht (fun h => kt (fun z => h ((cv_lne (FP.fcmp x y)).mpr z))) (fun h => kf ((cv_lne (FP.fcmp x y)).mp h)))
theorem lf_f_leq {cc : ByteArray} (hx : p.tables.exec = Jvm.exec) (hb : c.code = cc) {x y : UInt32} {off : Int} {tgt : Nat} (d1 : decode cc pc = .ok (.fcmp .l, 1)) (d2 : decode cc (pc + 1) = .ok (.ifCond .eq off, 3)) (ht : ((pc + 1 : Nat) : Int) + off = (tgt : Int))
    (kt : fEq x y → W p l e R s m args below meth c H locs cells slots Q (F0 m tgt ls rest)) (kf : ¬ fEq x y → W p l e R s m args below meth c H locs cells slots Q (F0 m (pc + 1 + 3) ls rest)) : W p l e R s m args below meth c H locs cells slots Q (F0 m pc ls (.float y :: .float x :: rest)) :=
  lv_fcmp hx hb d1 (lv_if_eq hx hb d2 ht (fun h => kt ((cv_leq (FP.fcmp x y)).mp h)) (fun h => kf (fun z => h ((cv_leq (FP.fcmp x y)).mpr z))))
theorem lf_f_llt {cc : ByteArray} (hx : p.tables.exec = Jvm.exec) (hb : c.code = cc) {x y : UInt32} {off : Int} {tgt : Nat} (d1 : decode cc pc = .ok (.fcmp .l, 1)) (d2 : decode cc (pc + 1) = .ok (.ifCond .lt off, 3)) (ht : ((pc + 1 : Nat) : Int) + off = (tgt : Int))
    (kt : ¬ fGe x y → W p l e R s m args below meth c H locs cells slots Q (F0 m tgt ls rest)) (kf : fGe x y → W p l e R s m args below meth c H locs cells slots Q (F0 m (pc + 1 + 3) ls rest)) : W p l e R s m args below meth c H locs cells slots Q (F0 m pc ls (.float y :: .float x :: rest)) :=
  lv_fcmp hx hb d1 (lv_if_lt hx hb d2 ht (fun h => kt ((cv_llt (FP.fcmp x y)).mp h)) (fun h => kf (Classical.byContradiction (fun z => h ((cv_llt (FP.fcmp x y)).mpr z)))))
theorem lf_f_lge {cc : ByteArray} (hx : p.tables.exec = Jvm.exec) (hb : c.code = cc) {x y : UInt32} {off : Int} {tgt : Nat} (d1 : decode cc pc = .ok (.fcmp .l, 1)) (d2 : decode cc (pc + 1) = .ok (.ifCond .ge off, 3)) (ht : ((pc + 1 : Nat) : Int) + off = (tgt : Int))
    (kt : fGe x y → W p l e R s m args below meth c H locs cells slots Q (F0 m tgt ls rest)) (kf : ¬ fGe x y → W p l e R s m args below meth c H locs cells slots Q (F0 m (pc + 1 + 3) ls rest)) : W p l e R s m args below meth c H locs cells slots Q (F0 m pc ls (.float y :: .float x :: rest)) :=
  lv_fcmp hx hb d1 (lv_if_ge hx hb d2 ht (fun h => kt ((cv_lge (FP.fcmp x y)).mp h)) (fun h => kf (fun z => h ((cv_lge (FP.fcmp x y)).mpr z))))
theorem lf_f_ggt {cc : ByteArray} (hx : p.tables.exec = Jvm.exec) (hb : c.code = cc) {x y : UInt32} {off : Int} {tgt : Nat} (d1 : decode cc pc = .ok (.fcmp .g, 1)) (d2 : decode cc (pc + 1) = .ok (.ifCond .gt off, 3)) (ht : ((pc + 1 : Nat) : Int) + off = (tgt : Int))
    (kt : ¬ fLe x y → W p l e R s m args below meth c H locs cells slots Q (F0 m tgt ls rest)) (kf : fLe x y → W p l e R s m args below meth c H locs cells slots Q (F0 m (pc + 1 + 3) ls rest)) : W p l e R s m args below meth c H locs cells slots Q (F0 m pc ls (.float y :: .float x :: rest)) :=
  lv_fcmp hx hb d1 (lv_if_gt hx hb d2 ht (fun h => kt ((cv_ggt (FP.fcmp x y)).mp h)) (fun h => kf (Classical.byContradiction (fun z => h ((cv_ggt (FP.fcmp x y)).mpr z)))))
theorem lf_f_gle {cc : ByteArray} (hx : p.tables.exec = Jvm.exec) (hb : c.code = cc) {x y : UInt32} {off : Int} {tgt : Nat} (d1 : decode cc pc = .ok (.fcmp .g, 1)) (d2 : decode cc (pc + 1) = .ok (.ifCond .le off, 3)) (ht : ((pc + 1 : Nat) : Int) + off = (tgt : Int))
    (kt : fLe x y → W p l e R s m args below meth c H locs cells slots Q (F0 m tgt ls rest)) (kf : ¬ fLe x y → W p l e R s m args below meth c H locs cells slots Q (F0 m (pc + 1 + 3) ls rest)) : W p l e R s m args below meth c H locs cells slots Q (F0 m pc ls (.float y :: .float x :: rest)) :=
  lv_fcmp hx hb d1 (lv_if_le hx hb d2 ht (fun h => kt ((cv_gle (FP.fcmp x y)).mp h)) (fun h => kf (fun z => h ((cv_gle (FP.fcmp x y)).mpr z))))
end LFC
end
section
/-! ===== Format: each method is its function (laid by program) ===== -/
theorem hdv_X0_plainNaN : yX0_plainNaN.cls = RX0 ∧ yX0_plainNaN.cls ≠ "java/lang/invoke/MethodHandle" ∧ yX0_plainNaN.cls ≠ "java/lang/invoke/VarHandle" ∧ (parseMethodDescriptor yX0_plainNaN.desc).map (fun d => d.parameters.length) = some 0 := by decide +kernel
def s_X0_plainNaN (fb le : Int32) (inf sb : Int64) : Int64 :=
  inf + (lShl 1 (fb - 1))
set_option maxHeartbeats 4000000 in
set_option maxRecDepth 100000 in
theorem pm_X0_plainNaN (l : Launch) (fb le : Int32) (inf sb : Int64) (q : Nat) : PmL l yX0_plainNaN wsX0_plainNaN 0 0 [.ref q] (fun U => KQ fb le inf sb q pv_N U U.heap) (s_X0_plainNaN fb le inf sb) := by
  refine Met.ofW (cc := cX0_plainNaN) (maxL := 1) (ret := (some .long)) (by decide) rfl ?_
  intro p e s m args below meth c s₁ B hml hv
  obtain ⟨rfl, hq⟩ := hv
  have hx := B.exec
  have hb := B.bytes
  have hr := B.returns
  have hts := atoms_spec (ws := wsX0_plainNaN) B.pre
  have hown : s.vm.findClass RX0 = some m.cls := findClass_of_methodNamed B.named
  have hlocks := B.notSynchronized
  have hS : va_S pv_N s.heap s.heap [] := va_S.rf
  have hl := lv_entry ([.ref q]) (n := 1) (Nat.le_of_ble_eq_true rfl)
  rw [lg_entry_eq]
  generalize (lg_sl ([.ref q]) ++ List.replicate (1 - (lg_sl ([.ref q])).length) Slot.unset).toArray = ls at hl ⊢
  have hl : lv_has ls 1 [(0, .ref q)] := hl
  obtain ⟨Z, hZ⟩ : ∃ z, z = MQ below (pm_QL (s_X0_plainNaN fb le inf sb)) ([.ref q] : List Value).toArray s 0 0 pv_N := ⟨_, rfl⟩
  rw [← hZ]
  obtain ⟨Y, hY⟩ : ∃ y, y = s_X0_plainNaN fb le inf sb := ⟨_, rfl⟩
  refine lv_aload_n hx hb dX0_plainNaN_0 rfl (lv_at hl 0 rfl) ?_
  refine vk_getf hx hb hq.2.2.2.1 hS hown (hts _ (List.mem_of_getElem? (i := 1) rfl)) (fun _ h9 => h9) dX0_plainNaN_1 ?_
  refine lv_lconst (v := 1) hx hb dX0_plainNaN_4 (by decide) ?_
  refine lv_aload_n hx hb dX0_plainNaN_5 rfl (lv_at hl 0 rfl) ?_
  refine vk_getf hx hb hq.2.1 hS hown (hts _ (List.mem_of_getElem? (i := 2) rfl)) (fun _ h9 => h9) dX0_plainNaN_6 ?_
  refine lv_iconst (v := 1) hx hb dX0_plainNaN_9 (by decide) ?_
  refine lv_isub hx hb dX0_plainNaN_10 ?_
  refine lv_lshl (v := lShl 1 (fb - 1)) hx hb dX0_plainNaN_11 rfl ?_
  refine lv_ladd hx hb dX0_plainNaN_12 ?_
  rw [hZ]
  exact pm_lret (w := s_X0_plainNaN fb le inf sb) hx hb hr hlocks hS (by exact rfl) dX0_plainNaN_13
theorem hdv_X0_magnitude : yX0_magnitude.cls = RX0 ∧ yX0_magnitude.cls ≠ "java/lang/invoke/MethodHandle" ∧ yX0_magnitude.cls ≠ "java/lang/invoke/VarHandle" ∧ (parseMethodDescriptor yX0_magnitude.desc).map (fun d => d.parameters.length) = some 1 := by decide +kernel
def s_X0_magnitude (fb le : Int32) (inf sb : Int64) (p0 : Int64) : Int64 :=
  p0 &&& (sb - 1)
set_option maxHeartbeats 4000000 in
set_option maxRecDepth 100000 in
theorem pm_X0_magnitude (l : Launch) (fb le : Int32) (inf sb : Int64) (q : Nat) (p0 : Int64) : PmL l yX0_magnitude wsX0_magnitude 0 0 [.ref q, .long p0] (fun U => KQ fb le inf sb q pv_N U U.heap) (s_X0_magnitude fb le inf sb p0) := by
  refine Met.ofW (cc := cX0_magnitude) (maxL := 3) (ret := (some .long)) (by decide) rfl ?_
  intro p e s m args below meth c s₁ B hml hv
  obtain ⟨rfl, hq⟩ := hv
  have hx := B.exec
  have hb := B.bytes
  have hr := B.returns
  have hts := atoms_spec (ws := wsX0_magnitude) B.pre
  have hown : s.vm.findClass RX0 = some m.cls := findClass_of_methodNamed B.named
  have hlocks := B.notSynchronized
  have hS : va_S pv_N s.heap s.heap [] := va_S.rf
  have hl := lv_entry ([.ref q, .long p0]) (n := 3) (Nat.le_of_ble_eq_true rfl)
  rw [lg_entry_eq]
  generalize (lg_sl ([.ref q, .long p0]) ++ List.replicate (3 - (lg_sl ([.ref q, .long p0])).length) Slot.unset).toArray = ls at hl ⊢
  have hl : lv_has ls 3 [(0, .ref q), (1, .long p0)] := hl
  obtain ⟨Z, hZ⟩ : ∃ z, z = MQ below (pm_QL (s_X0_magnitude fb le inf sb p0)) ([.ref q, .long p0] : List Value).toArray s 0 0 pv_N := ⟨_, rfl⟩
  rw [← hZ]
  obtain ⟨Y, hY⟩ : ∃ y, y = s_X0_magnitude fb le inf sb p0 := ⟨_, rfl⟩
  refine lv_lload_n hx hb dX0_magnitude_0 rfl (lv_at hl 1 rfl) ?_
  refine lv_aload_n hx hb dX0_magnitude_1 rfl (lv_at hl 0 rfl) ?_
  refine vk_getf hx hb hq.2.2.2.2 hS hown (hts _ (List.mem_of_getElem? (i := 1) rfl)) (fun _ h9 => h9) dX0_magnitude_2 ?_
  refine lv_lconst (v := 1) hx hb dX0_magnitude_5 (by decide) ?_
  refine lv_lsub hx hb dX0_magnitude_6 ?_
  refine lv_land hx hb dX0_magnitude_7 ?_
  rw [hZ]
  exact pm_lret (w := s_X0_magnitude fb le inf sb p0) hx hb hr hlocks hS (by exact rfl) dX0_magnitude_8
theorem hdv_X0_isNegative : yX0_isNegative.cls = RX0 ∧ yX0_isNegative.cls ≠ "java/lang/invoke/MethodHandle" ∧ yX0_isNegative.cls ≠ "java/lang/invoke/VarHandle" ∧ (parseMethodDescriptor yX0_isNegative.desc).map (fun d => d.parameters.length) = some 1 := by decide +kernel
def s_X0_isNegative (fb le : Int32) (inf sb : Int64) (p0 : Int64) : Int32 :=
  if (p0 &&& sb) = 0 then 0
  else 1
set_option maxHeartbeats 4000000 in
set_option maxRecDepth 100000 in
theorem pm_X0_isNegative (l : Launch) (fb le : Int32) (inf sb : Int64) (q : Nat) (p0 : Int64) : PmI l yX0_isNegative wsX0_isNegative 0 0 [.ref q, .long p0] (fun U => KQ fb le inf sb q pv_N U U.heap) (s_X0_isNegative fb le inf sb p0) := by
  refine Met.ofW (cc := cX0_isNegative) (maxL := 3) (ret := (some .boolean)) (by decide) rfl ?_
  intro p e s m args below meth c s₁ B hml hv
  obtain ⟨rfl, hq⟩ := hv
  have hx := B.exec
  have hb := B.bytes
  have hr := B.returns
  have hts := atoms_spec (ws := wsX0_isNegative) B.pre
  have hown : s.vm.findClass RX0 = some m.cls := findClass_of_methodNamed B.named
  have hlocks := B.notSynchronized
  have hS : va_S pv_N s.heap s.heap [] := va_S.rf
  have hl := lv_entry ([.ref q, .long p0]) (n := 3) (Nat.le_of_ble_eq_true rfl)
  rw [lg_entry_eq]
  generalize (lg_sl ([.ref q, .long p0]) ++ List.replicate (3 - (lg_sl ([.ref q, .long p0])).length) Slot.unset).toArray = ls at hl ⊢
  have hl : lv_has ls 3 [(0, .ref q), (1, .long p0)] := hl
  obtain ⟨Z, hZ⟩ : ∃ z, z = MQ below (pm_QI (s_X0_isNegative fb le inf sb p0)) ([.ref q, .long p0] : List Value).toArray s 0 0 pv_N := ⟨_, rfl⟩
  rw [← hZ]
  obtain ⟨Y, hY⟩ : ∃ y, y = s_X0_isNegative fb le inf sb p0 := ⟨_, rfl⟩
  refine lv_lload_n hx hb dX0_isNegative_0 rfl (lv_at hl 1 rfl) ?_
  refine lv_aload_n hx hb dX0_isNegative_1 rfl (lv_at hl 0 rfl) ?_
  refine vk_getf hx hb hq.2.2.2.2 hS hown (hts _ (List.mem_of_getElem? (i := 1) rfl)) (fun _ h9 => h9) dX0_isNegative_2 ?_
  refine lv_land hx hb dX0_isNegative_5 ?_
  refine lv_lconst (v := 0) hx hb dX0_isNegative_6 (by decide) ?_
  refine lp_eq (tgt := 15) hx hb dX0_isNegative_7 dX0_isNegative_8 (by decide) (fun c_7 => ?_) (fun c_7 => ?_)
  ·
    refine lv_iconst (v := 0) hx hb dX0_isNegative_15 (by decide) ?_
    rw [hZ]
    exact pm_zret (w := s_X0_isNegative fb le inf sb p0) hx hb hr hlocks hS (nz_0) (by exact ((if_pos c_7)).symm) dX0_isNegative_16
  ·
    refine lv_iconst (v := 1) hx hb dX0_isNegative_11 (by decide) ?_
    refine lv_goto (tgt := 16) hx hb dX0_isNegative_12 (by decide) ?_
    rw [hZ]
    exact pm_zret (w := s_X0_isNegative fb le inf sb p0) hx hb hr hlocks hS (nz_1) (by exact ((if_neg c_7)).symm) dX0_isNegative_16
theorem hdv_X0_isNaN : yX0_isNaN.cls = RX0 ∧ yX0_isNaN.cls ≠ "java/lang/invoke/MethodHandle" ∧ yX0_isNaN.cls ≠ "java/lang/invoke/VarHandle" ∧ (parseMethodDescriptor yX0_isNaN.desc).map (fun d => d.parameters.length) = some 1 := by decide +kernel
def s_X0_isNaN (fb le : Int32) (inf sb : Int64) (p0 : Int64) : Int32 :=
  if (s_X0_magnitude fb le inf sb p0) ≤ inf then 0
  else 1
set_option maxHeartbeats 4000000 in
set_option maxRecDepth 100000 in
theorem pm_X0_isNaN (l : Launch) (fb le : Int32) (inf sb : Int64) (q : Nat) (p0 : Int64) : PmI l yX0_isNaN wsX0_isNaN 1 22 [.ref q, .long p0] (fun U => KQ fb le inf sb q pv_N U U.heap) (s_X0_isNaN fb le inf sb p0) := by
  refine Met.ofW (cc := cX0_isNaN) (maxL := 3) (ret := (some .boolean)) (by decide) rfl ?_
  intro p e s m args below meth c s₁ B hml hv
  obtain ⟨rfl, hq⟩ := hv
  have hx := B.exec
  have hb := B.bytes
  have hr := B.returns
  have hts := atoms_spec (ws := wsX0_isNaN) B.pre
  have hown : s.vm.findClass RX0 = some m.cls := findClass_of_methodNamed B.named
  have hlocks := B.notSynchronized
  have hS : va_S pv_N s.heap s.heap [] := va_S.rf
  have hl := lv_entry ([.ref q, .long p0]) (n := 3) (Nat.le_of_ble_eq_true rfl)
  rw [lg_entry_eq]
  generalize (lg_sl ([.ref q, .long p0]) ++ List.replicate (3 - (lg_sl ([.ref q, .long p0])).length) Slot.unset).toArray = ls at hl ⊢
  have hl : lv_has ls 3 [(0, .ref q), (1, .long p0)] := hl
  obtain ⟨Z, hZ⟩ : ∃ z, z = MQ below (pm_QI (s_X0_isNaN fb le inf sb p0)) ([.ref q, .long p0] : List Value).toArray s 0 0 pv_N := ⟨_, rfl⟩
  rw [← hZ]
  obtain ⟨Y, hY⟩ : ∃ y, y = s_X0_isNaN fb le inf sb p0 := ⟨_, rfl⟩
  refine lv_aload_n hx hb dX0_isNaN_0 rfl (lv_at hl 0 rfl) ?_
  refine lv_lload_n hx hb dX0_isNaN_1 rfl (lv_at hl 1 rfl) ?_
  refine pm_callL (va_runV (As := [.long p0]) (rest := []) ⟨hx, hb, hml, hown, hts⟩ (pm_X0_magnitude l fb le inf sb q p0) (cwV 1 hts gX0_isNaN_X0_magnitude rfl rfl rfl hdv_X0_magnitude ⟨Nat.le_of_ble_eq_true rfl, Nat.le_of_ble_eq_true rfl⟩) ⟨KQ.fb, va_Orecv hq.1 hS, fun U hU hW => ⟨rfl, (KQ.call hq hS U hU hW)⟩⟩ rfl rfl hl.1 rfl (lv_room (Nat.le_of_ble_eq_true rfl)) dX0_isNaN_2 ⟨Nat.le_refl 0, Nat.le_refl 0⟩) hS (fun H locs _ _ hS => ?_)
  refine lv_aload_n hx hb dX0_isNaN_5 rfl (lv_at hl 0 rfl) ?_
  refine vk_getf hx hb hq.2.2.2.1 hS hown (hts _ (List.mem_of_getElem? (i := 1) rfl)) (fun _ h9 => h9) dX0_isNaN_6 ?_
  refine lp_le (tgt := 17) hx hb dX0_isNaN_9 dX0_isNaN_10 (by decide) (fun c_9 => ?_) (fun c_9 => ?_)
  ·
    refine lv_iconst (v := 0) hx hb dX0_isNaN_17 (by decide) ?_
    rw [hZ]
    exact pm_zret (w := s_X0_isNaN fb le inf sb p0) hx hb hr hlocks hS (nz_0) (by exact ((if_pos c_9)).symm) dX0_isNaN_18
  ·
    refine lv_iconst (v := 1) hx hb dX0_isNaN_13 (by decide) ?_
    refine lv_goto (tgt := 18) hx hb dX0_isNaN_14 (by decide) ?_
    rw [hZ]
    exact pm_zret (w := s_X0_isNaN fb le inf sb p0) hx hb hr hlocks hS (nz_1) (by exact ((if_neg c_9)).symm) dX0_isNaN_18
theorem hdv_X0_isInfinite : yX0_isInfinite.cls = RX0 ∧ yX0_isInfinite.cls ≠ "java/lang/invoke/MethodHandle" ∧ yX0_isInfinite.cls ≠ "java/lang/invoke/VarHandle" ∧ (parseMethodDescriptor yX0_isInfinite.desc).map (fun d => d.parameters.length) = some 1 := by decide +kernel
def s_X0_isInfinite (fb le : Int32) (inf sb : Int64) (p0 : Int64) : Int32 :=
  if (s_X0_magnitude fb le inf sb p0) = inf then 1
  else 0
set_option maxHeartbeats 4000000 in
set_option maxRecDepth 100000 in
theorem pm_X0_isInfinite (l : Launch) (fb le : Int32) (inf sb : Int64) (q : Nat) (p0 : Int64) : PmI l yX0_isInfinite wsX0_isInfinite 1 22 [.ref q, .long p0] (fun U => KQ fb le inf sb q pv_N U U.heap) (s_X0_isInfinite fb le inf sb p0) := by
  refine Met.ofW (cc := cX0_isInfinite) (maxL := 3) (ret := (some .boolean)) (by decide) rfl ?_
  intro p e s m args below meth c s₁ B hml hv
  obtain ⟨rfl, hq⟩ := hv
  have hx := B.exec
  have hb := B.bytes
  have hr := B.returns
  have hts := atoms_spec (ws := wsX0_isInfinite) B.pre
  have hown : s.vm.findClass RX0 = some m.cls := findClass_of_methodNamed B.named
  have hlocks := B.notSynchronized
  have hS : va_S pv_N s.heap s.heap [] := va_S.rf
  have hl := lv_entry ([.ref q, .long p0]) (n := 3) (Nat.le_of_ble_eq_true rfl)
  rw [lg_entry_eq]
  generalize (lg_sl ([.ref q, .long p0]) ++ List.replicate (3 - (lg_sl ([.ref q, .long p0])).length) Slot.unset).toArray = ls at hl ⊢
  have hl : lv_has ls 3 [(0, .ref q), (1, .long p0)] := hl
  obtain ⟨Z, hZ⟩ : ∃ z, z = MQ below (pm_QI (s_X0_isInfinite fb le inf sb p0)) ([.ref q, .long p0] : List Value).toArray s 0 0 pv_N := ⟨_, rfl⟩
  rw [← hZ]
  obtain ⟨Y, hY⟩ : ∃ y, y = s_X0_isInfinite fb le inf sb p0 := ⟨_, rfl⟩
  refine lv_aload_n hx hb dX0_isInfinite_0 rfl (lv_at hl 0 rfl) ?_
  refine lv_lload_n hx hb dX0_isInfinite_1 rfl (lv_at hl 1 rfl) ?_
  refine pm_callL (va_runV (As := [.long p0]) (rest := []) ⟨hx, hb, hml, hown, hts⟩ (pm_X0_magnitude l fb le inf sb q p0) (cwV 1 hts gX0_isInfinite_X0_magnitude rfl rfl rfl hdv_X0_magnitude ⟨Nat.le_of_ble_eq_true rfl, Nat.le_of_ble_eq_true rfl⟩) ⟨KQ.fb, va_Orecv hq.1 hS, fun U hU hW => ⟨rfl, (KQ.call hq hS U hU hW)⟩⟩ rfl rfl hl.1 rfl (lv_room (Nat.le_of_ble_eq_true rfl)) dX0_isInfinite_2 ⟨Nat.le_refl 0, Nat.le_refl 0⟩) hS (fun H locs _ _ hS => ?_)
  refine lv_aload_n hx hb dX0_isInfinite_5 rfl (lv_at hl 0 rfl) ?_
  refine vk_getf hx hb hq.2.2.2.1 hS hown (hts _ (List.mem_of_getElem? (i := 1) rfl)) (fun _ h9 => h9) dX0_isInfinite_6 ?_
  refine lp_ne (tgt := 17) hx hb dX0_isInfinite_9 dX0_isInfinite_10 (by decide) (fun c_9 => ?_) (fun c_9 => ?_)
  ·
    refine lv_iconst (v := 0) hx hb dX0_isInfinite_17 (by decide) ?_
    rw [hZ]
    exact pm_zret (w := s_X0_isInfinite fb le inf sb p0) hx hb hr hlocks hS (nz_0) (by exact ((if_neg c_9)).symm) dX0_isInfinite_18
  ·
    refine lv_iconst (v := 1) hx hb dX0_isInfinite_13 (by decide) ?_
    refine lv_goto (tgt := 18) hx hb dX0_isInfinite_14 (by decide) ?_
    rw [hZ]
    exact pm_zret (w := s_X0_isInfinite fb le inf sb p0) hx hb hr hlocks hS (nz_1) (by exact ((if_pos c_9)).symm) dX0_isInfinite_18
theorem hdv_X0_isZero : yX0_isZero.cls = RX0 ∧ yX0_isZero.cls ≠ "java/lang/invoke/MethodHandle" ∧ yX0_isZero.cls ≠ "java/lang/invoke/VarHandle" ∧ (parseMethodDescriptor yX0_isZero.desc).map (fun d => d.parameters.length) = some 1 := by decide +kernel
def s_X0_isZero (fb le : Int32) (inf sb : Int64) (p0 : Int64) : Int32 :=
  if (s_X0_magnitude fb le inf sb p0) = 0 then 1
  else 0
set_option maxHeartbeats 4000000 in
set_option maxRecDepth 100000 in
theorem pm_X0_isZero (l : Launch) (fb le : Int32) (inf sb : Int64) (q : Nat) (p0 : Int64) : PmI l yX0_isZero wsX0_isZero 1 22 [.ref q, .long p0] (fun U => KQ fb le inf sb q pv_N U U.heap) (s_X0_isZero fb le inf sb p0) := by
  refine Met.ofW (cc := cX0_isZero) (maxL := 3) (ret := (some .boolean)) (by decide) rfl ?_
  intro p e s m args below meth c s₁ B hml hv
  obtain ⟨rfl, hq⟩ := hv
  have hx := B.exec
  have hb := B.bytes
  have hr := B.returns
  have hts := atoms_spec (ws := wsX0_isZero) B.pre
  have hown : s.vm.findClass RX0 = some m.cls := findClass_of_methodNamed B.named
  have hlocks := B.notSynchronized
  have hS : va_S pv_N s.heap s.heap [] := va_S.rf
  have hl := lv_entry ([.ref q, .long p0]) (n := 3) (Nat.le_of_ble_eq_true rfl)
  rw [lg_entry_eq]
  generalize (lg_sl ([.ref q, .long p0]) ++ List.replicate (3 - (lg_sl ([.ref q, .long p0])).length) Slot.unset).toArray = ls at hl ⊢
  have hl : lv_has ls 3 [(0, .ref q), (1, .long p0)] := hl
  obtain ⟨Z, hZ⟩ : ∃ z, z = MQ below (pm_QI (s_X0_isZero fb le inf sb p0)) ([.ref q, .long p0] : List Value).toArray s 0 0 pv_N := ⟨_, rfl⟩
  rw [← hZ]
  obtain ⟨Y, hY⟩ : ∃ y, y = s_X0_isZero fb le inf sb p0 := ⟨_, rfl⟩
  refine lv_aload_n hx hb dX0_isZero_0 rfl (lv_at hl 0 rfl) ?_
  refine lv_lload_n hx hb dX0_isZero_1 rfl (lv_at hl 1 rfl) ?_
  refine pm_callL (va_runV (As := [.long p0]) (rest := []) ⟨hx, hb, hml, hown, hts⟩ (pm_X0_magnitude l fb le inf sb q p0) (cwV 1 hts gX0_isZero_X0_magnitude rfl rfl rfl hdv_X0_magnitude ⟨Nat.le_of_ble_eq_true rfl, Nat.le_of_ble_eq_true rfl⟩) ⟨KQ.fb, va_Orecv hq.1 hS, fun U hU hW => ⟨rfl, (KQ.call hq hS U hU hW)⟩⟩ rfl rfl hl.1 rfl (lv_room (Nat.le_of_ble_eq_true rfl)) dX0_isZero_2 ⟨Nat.le_refl 0, Nat.le_refl 0⟩) hS (fun H locs _ _ hS => ?_)
  refine lv_lconst (v := 0) hx hb dX0_isZero_5 (by decide) ?_
  refine lp_ne (tgt := 14) hx hb dX0_isZero_6 dX0_isZero_7 (by decide) (fun c_6 => ?_) (fun c_6 => ?_)
  ·
    refine lv_iconst (v := 0) hx hb dX0_isZero_14 (by decide) ?_
    rw [hZ]
    exact pm_zret (w := s_X0_isZero fb le inf sb p0) hx hb hr hlocks hS (nz_0) (by exact ((if_neg c_6)).symm) dX0_isZero_15
  ·
    refine lv_iconst (v := 1) hx hb dX0_isZero_10 (by decide) ?_
    refine lv_goto (tgt := 15) hx hb dX0_isZero_11 (by decide) ?_
    rw [hZ]
    exact pm_zret (w := s_X0_isZero fb le inf sb p0) hx hb hr hlocks hS (nz_1) (by exact ((if_pos c_6)).symm) dX0_isZero_15
theorem hd_X0_rounded : yX0_rounded.cls ≠ "java/lang/invoke/MethodHandle" ∧ yX0_rounded.cls ≠ "java/lang/invoke/VarHandle" ∧ (parseMethodDescriptor yX0_rounded.desc).map (fun d => d.parameters.length) = some 2 := by decide +kernel
def s_X0_rounded_j64 (p0 : Int64) (p1 : Int32) (x_20 : Int64) (z_64_0 : Int32) : Int64 :=
  if z_64_0 = 0 then x_20
  else x_20 + 1
def s_X0_rounded (p0 : Int64) (p1 : Int32) : Int64 :=
  if 0 < p1 then if p1 ≤ 63 then if (lShl 1 (p1 - 1)) < (p0 - (lShl (lUshr p0 p1) p1)) then s_X0_rounded_j64 p0 p1 (lUshr p0 p1) 1
  else if (p0 - (lShl (lUshr p0 p1) p1)) = (lShl 1 (p1 - 1)) then if ((lUshr p0 p1) &&& 1) = 1 then s_X0_rounded_j64 p0 p1 (lUshr p0 p1) 1
  else s_X0_rounded_j64 p0 p1 (lUshr p0 p1) 0
  else s_X0_rounded_j64 p0 p1 (lUshr p0 p1) 0
  else 0
  else lShl p0 (-p1)
set_option maxHeartbeats 4000000 in
set_option maxRecDepth 100000 in
theorem pm_X0_rounded (l : Launch) (p0 : Int64) (p1 : Int32) : PmL l yX0_rounded wsX0_rounded 0 0 [.long p0, .int p1] (fun _ => True) (s_X0_rounded p0 p1) := by
  refine Met.ofW (cc := cX0_rounded) (maxL := 10) (ret := (some .long)) (by decide) rfl ?_
  intro p e s m args below meth c s₁ B hml hv
  obtain ⟨rfl, -⟩ := hv
  have hx := B.exec
  have hb := B.bytes
  have hr := B.returns
  have hts := atoms_spec (ws := wsX0_rounded) B.pre
  have hown : s.vm.findClass RX0 = some m.cls := findClass_of_methodNamed B.named
  have hlocks := B.notSynchronized
  have hS : va_S pv_N s.heap s.heap [] := va_S.rf
  have hl := lv_entry ([.long p0, .int p1]) (n := 10) (Nat.le_of_ble_eq_true rfl)
  rw [lg_entry_eq]
  generalize (lg_sl ([.long p0, .int p1]) ++ List.replicate (10 - (lg_sl ([.long p0, .int p1])).length) Slot.unset).toArray = ls at hl ⊢
  have hl : lv_has ls 10 [(0, .long p0), (2, .int p1)] := hl
  obtain ⟨Z, hZ⟩ : ∃ z, z = MQ below (pm_QL (s_X0_rounded p0 p1)) ([.long p0, .int p1] : List Value).toArray s 0 0 pv_N := ⟨_, rfl⟩
  rw [← hZ]
  obtain ⟨Y, hY⟩ : ∃ y, y = s_X0_rounded p0 p1 := ⟨_, rfl⟩
  refine lv_iload_n hx hb dX0_rounded_0 rfl (lv_at hl 1 rfl) ?_
  refine lv_if_gt (tgt := 9) hx hb dX0_rounded_1 (by decide) (fun c_1 => ?_) (fun c_1 => ?_)
  ·
    refine lv_iload_n hx hb dX0_rounded_9 rfl (lv_at hl 1 rfl) ?_
    refine lv_bipush (v := 63) hx hb dX0_rounded_10 (by decide) ?_
    refine lv_icmp_le (tgt := 17) hx hb dX0_rounded_12 (by decide) (fun c_12 => ?_) (fun c_12 => ?_)
    ·
      refine lv_lload_n hx hb dX0_rounded_17 rfl (lv_at hl 0 rfl) ?_
      refine lv_iload_n hx hb dX0_rounded_18 rfl (lv_at hl 1 rfl) ?_
      refine lv_lushr (v := lUshr p0 p1) hx hb dX0_rounded_19 rfl ?_
      refine lv_topl (fun x_20 ex_20 => ?_)
      refine lv_lstore_n (lv' := [(3, .long x_20), (0, .long p0), (2, .int p1)]) hx hb dX0_rounded_20 rfl hl (by decide) rfl (fun ls hl => ?_)
      refine lv_lload_n hx hb dX0_rounded_21 rfl (lv_at hl 1 rfl) ?_
      refine lv_lload_n hx hb dX0_rounded_22 rfl (lv_at hl 0 rfl) ?_
      refine lv_iload_n hx hb dX0_rounded_23 rfl (lv_at hl 2 rfl) ?_
      refine lv_lshl (v := lShl x_20 p1) hx hb dX0_rounded_24 rfl ?_
      refine lv_lsub hx hb dX0_rounded_25 ?_
      refine lv_topl (fun x_26 ex_26 => ?_)
      refine lv_lstore (lv' := [(5, .long x_26), (3, .long x_20), (0, .long p0), (2, .int p1)]) hx hb dX0_rounded_26 hl (by decide) rfl (fun ls hl => ?_)
      refine lv_lconst (v := 1) hx hb dX0_rounded_28 (by decide) ?_
      refine lv_iload_n hx hb dX0_rounded_29 rfl (lv_at hl 3 rfl) ?_
      refine lv_iconst (v := 1) hx hb dX0_rounded_30 (by decide) ?_
      refine lv_isub hx hb dX0_rounded_31 ?_
      refine lv_lshl (v := lShl 1 (p1 - 1)) hx hb dX0_rounded_32 rfl ?_
      refine lv_topl (fun x_33 ex_33 => ?_)
      refine lv_lstore (lv' := [(7, .long x_33), (5, .long x_26), (3, .long x_20), (0, .long p0), (2, .int p1)]) hx hb dX0_rounded_33 hl (by decide) rfl (fun ls hl => ?_)
      refine lv_lload hx hb dX0_rounded_35 (lv_at hl 1 rfl) ?_
      refine lv_lload hx hb dX0_rounded_37 (lv_at hl 0 rfl) ?_
      have K_64 : ∀ (z_64_0 : Int32) (H : Heap) (locs : List Loc), va_S pv_N s.heap H locs → ∀ (ls : Array Slot), lv_has ls 10 [(3, .long x_20)] → s_X0_rounded p0 p1 = s_X0_rounded_j64 p0 p1 x_20 z_64_0 → W p l e (pm_R 0 0) s m ([.long p0, .int p1] : List Value).toArray below meth c H locs 0 0 Z (F0 m 64 ls [.int z_64_0]) := by
        intro z_64_0 H locs hS ls hl hK_64
        refine lv_istore (lv' := [(9, .int z_64_0), (3, .long x_20)]) hx hb dX0_rounded_64 hl (by decide) rfl (fun ls hl => ?_)
        refine lv_iload hx hb dX0_rounded_66 (lv_at hl 0 rfl) ?_
        refine lv_if_eq (tgt := 77) hx hb dX0_rounded_68 (by decide) (fun c_68 => ?_) (fun c_68 => ?_)
        ·
          refine lv_lload_n hx hb dX0_rounded_77 rfl (lv_at hl 1 rfl) ?_
          rw [hZ]
          exact pm_lret (w := s_X0_rounded p0 p1) hx hb hr hlocks hS (by subst ex_33 ex_26 ex_20; exact (hK_64.trans (if_pos c_68)).symm) dX0_rounded_78
        ·
          refine lv_lload_n hx hb dX0_rounded_71 rfl (lv_at hl 1 rfl) ?_
          refine lv_lconst (v := 1) hx hb dX0_rounded_72 (by decide) ?_
          refine lv_ladd hx hb dX0_rounded_73 ?_
          refine lv_goto (tgt := 78) hx hb dX0_rounded_74 (by decide) ?_
          rw [hZ]
          exact pm_lret (w := s_X0_rounded p0 p1) hx hb hr hlocks hS (by subst ex_33 ex_26 ex_20; exact (hK_64.trans (if_neg c_68)).symm) dX0_rounded_78
      refine lp_gt (tgt := 59) hx hb dX0_rounded_39 dX0_rounded_40 (by decide) (fun c_39 => ?_) (fun c_39 => ?_)
      ·
        refine lv_iconst (v := 1) hx hb dX0_rounded_59 (by decide) ?_
        refine lv_goto (tgt := 64) hx hb dX0_rounded_60 (by decide) ?_
        exact K_64 1 _ _ hS ls (lv_sub hl [2] rfl) (by subst ex_33 ex_26 ex_20; exact (((if_pos c_1).trans (if_pos c_12)).trans (if_pos c_39)))
      ·
        refine lv_lload hx hb dX0_rounded_43 (lv_at hl 1 rfl) ?_
        refine lv_lload hx hb dX0_rounded_45 (lv_at hl 0 rfl) ?_
        refine lp_ne (tgt := 63) hx hb dX0_rounded_47 dX0_rounded_48 (by decide) (fun c_47 => ?_) (fun c_47 => ?_)
        ·
          refine lv_iconst (v := 0) hx hb dX0_rounded_63 (by decide) ?_
          exact K_64 0 _ _ hS ls (lv_sub hl [2] rfl) (by subst ex_33 ex_26 ex_20; exact ((((if_pos c_1).trans (if_pos c_12)).trans (if_neg c_39)).trans (if_neg c_47)))
        ·
          refine lv_lload_n hx hb dX0_rounded_51 rfl (lv_at hl 2 rfl) ?_
          refine lv_lconst (v := 1) hx hb dX0_rounded_52 (by decide) ?_
          refine lv_land hx hb dX0_rounded_53 ?_
          refine lv_lconst (v := 1) hx hb dX0_rounded_54 (by decide) ?_
          refine lp_ne (tgt := 63) hx hb dX0_rounded_55 dX0_rounded_56 (by decide) (fun c_55 => ?_) (fun c_55 => ?_)
          ·
            refine lv_iconst (v := 0) hx hb dX0_rounded_63 (by decide) ?_
            exact K_64 0 _ _ hS ls (lv_sub hl [2] rfl) (by subst ex_33 ex_26 ex_20; exact (((((if_pos c_1).trans (if_pos c_12)).trans (if_neg c_39)).trans (if_pos c_47)).trans (if_neg c_55)))
          ·
            refine lv_iconst (v := 1) hx hb dX0_rounded_59 (by decide) ?_
            refine lv_goto (tgt := 64) hx hb dX0_rounded_60 (by decide) ?_
            exact K_64 1 _ _ hS ls (lv_sub hl [2] rfl) (by subst ex_33 ex_26 ex_20; exact (((((if_pos c_1).trans (if_pos c_12)).trans (if_neg c_39)).trans (if_pos c_47)).trans (if_pos c_55)))
    ·
      refine lv_lconst (v := 0) hx hb dX0_rounded_15 (by decide) ?_
      rw [hZ]
      exact pm_lret (w := s_X0_rounded p0 p1) hx hb hr hlocks hS (by exact (((if_pos c_1).trans (if_neg c_12))).symm) dX0_rounded_16
  ·
    refine lv_lload_n hx hb dX0_rounded_4 rfl (lv_at hl 0 rfl) ?_
    refine lv_iload_n hx hb dX0_rounded_5 rfl (lv_at hl 1 rfl) ?_
    refine lv_ineg hx hb dX0_rounded_6 ?_
    refine lv_lshl (v := lShl p0 (-p1)) hx hb dX0_rounded_7 rfl ?_
    rw [hZ]
    exact pm_lret (w := s_X0_rounded p0 p1) hx hb hr hlocks hS (by exact ((if_neg c_1)).symm) dX0_rounded_8
def hbS (n : Nat) : Int32 := match n with
  | 7 => 32
  | 6 => 16
  | 5 => 8
  | 4 => 4
  | 3 => 2
  | 2 => 1
  | _ => 0
theorem hbS_s {n : Nat} (h : n + 1 < 8) (h0 : 1 ≤ n) : hbS (n + 1) / 2 = hbS n := by
  match n, h, h0 with
  | 1, _, _ => decide
  | 2, _, _ => decide
  | 3, _, _ => decide
  | 4, _, _ => decide
  | 5, _, _ => decide
  | 6, _, _ => decide
theorem hbS_p {n : Nat} (h : ¬ hbS (n + 1) ≤ 0) : 1 ≤ n := by
  match n, h with
  | 0, h => exact absurd (by decide) h
  | n + 1, _ => omega
theorem hd_X0_highestBit : yX0_highestBit.cls ≠ "java/lang/invoke/MethodHandle" ∧ yX0_highestBit.cls ≠ "java/lang/invoke/VarHandle" ∧ (parseMethodDescriptor yX0_highestBit.desc).map (fun d => d.parameters.length) = some 1 := by decide +kernel
def s_X0_highestBit_l5 (p0 : Int64) : Nat → Int32 → Int32 → Int32
  | 0, _, _ => 0
  | n + 1, y_5_2, y_5_3 =>
  if y_5_3 ≤ 0 then y_5_2
  else if (lUshr p0 (y_5_2 + y_5_3)) = 0 then s_X0_highestBit_l5 p0 n y_5_2 (y_5_3 / 2)
  else s_X0_highestBit_l5 p0 n (y_5_2 + y_5_3) (y_5_3 / 2)
def s_X0_highestBit (p0 : Int64) : Int32 :=
  s_X0_highestBit_l5 p0 7 0 32
set_option maxHeartbeats 4000000 in
set_option maxRecDepth 100000 in
theorem pm_X0_highestBit (l : Launch) (p0 : Int64) : PmI l yX0_highestBit wsX0_highestBit 0 0 [.long p0] (fun _ => True) (s_X0_highestBit p0) := by
  refine Met.ofW (cc := cX0_highestBit) (maxL := 4) (ret := (some .int)) (by decide) rfl ?_
  intro p e s m args below meth c s₁ B hml hv
  obtain ⟨rfl, -⟩ := hv
  have hx := B.exec
  have hb := B.bytes
  have hr := B.returns
  have hts := atoms_spec (ws := wsX0_highestBit) B.pre
  have hown : s.vm.findClass RX0 = some m.cls := findClass_of_methodNamed B.named
  have hlocks := B.notSynchronized
  have hS : va_S pv_N s.heap s.heap [] := va_S.rf
  have hl := lv_entry ([.long p0]) (n := 4) (Nat.le_of_ble_eq_true rfl)
  rw [lg_entry_eq]
  generalize (lg_sl ([.long p0]) ++ List.replicate (4 - (lg_sl ([.long p0])).length) Slot.unset).toArray = ls at hl ⊢
  have hl : lv_has ls 4 [(0, .long p0)] := hl
  obtain ⟨Z, hZ⟩ : ∃ z, z = MQ below (pm_QI (s_X0_highestBit p0)) ([.long p0] : List Value).toArray s 0 0 pv_N := ⟨_, rfl⟩
  rw [← hZ]
  obtain ⟨Y, hY⟩ : ∃ y, y = s_X0_highestBit p0 := ⟨_, rfl⟩
  refine lv_iconst (v := 0) hx hb dX0_highestBit_0 (by decide) ?_
  refine lv_istore_n (lv' := [(2, .int 0), (0, .long p0)]) hx hb dX0_highestBit_1 rfl hl (by decide) rfl (fun ls hl => ?_)
  refine lv_bipush (v := 32) hx hb dX0_highestBit_2 (by decide) ?_
  refine lv_istore_n (lv' := [(3, .int 32), (2, .int 0), (0, .long p0)]) hx hb dX0_highestBit_4 rfl hl (by decide) rfl (fun ls hl => ?_)
  have K_5 : ∀ (n : Nat) (y_5_2 : Int32) (y_5_3 : Int32) (H : Heap) (locs : List Loc), va_S pv_N s.heap H locs → ∀ (ls : Array Slot), lv_has ls 4 [(0, .long p0), (2, .int y_5_2), (3, .int y_5_3)] → (y_5_3 = hbS n ∧ 1 ≤ n ∧ n < 8) → s_X0_highestBit p0 = s_X0_highestBit_l5 p0 n y_5_2 y_5_3 → W p l e (pm_R 0 0) s m ([.long p0] : List Value).toArray below meth c H locs 0 0 Z (F0 m 5 ls []) := by
    intro n
    induction n with
    | zero =>
      intro y_5_2 y_5_3 H locs hS ls hl hI hK_5
      exact absurd hI.2.1 (by decide)
    | succ n ih =>
      intro y_5_2 y_5_3 H locs hS ls hl hI hK_5
      refine lv_iload_n hx hb dX0_highestBit_5 rfl (lv_at hl 2 rfl) ?_
      refine lv_if_le (tgt := 30) hx hb dX0_highestBit_6 (by decide) (fun c_6 => ?_) (fun c_6 => ?_)
      ·
        refine lv_iload_n hx hb dX0_highestBit_30 rfl (lv_at hl 1 rfl) ?_
        rw [hZ]
        exact pm_iret (w := s_X0_highestBit p0) hx hb hr hlocks hS (by exact (hK_5.trans (if_pos c_6)).symm) dX0_highestBit_31
      ·
        refine lv_lload_n hx hb dX0_highestBit_9 rfl (lv_at hl 0 rfl) ?_
        refine lv_iload_n hx hb dX0_highestBit_10 rfl (lv_at hl 1 rfl) ?_
        refine lv_iload_n hx hb dX0_highestBit_11 rfl (lv_at hl 2 rfl) ?_
        refine lv_iadd hx hb dX0_highestBit_12 ?_
        refine lv_lushr (v := lUshr p0 (y_5_2 + y_5_3)) hx hb dX0_highestBit_13 rfl ?_
        refine lv_lconst (v := 0) hx hb dX0_highestBit_14 (by decide) ?_
        refine lp_eq (tgt := 23) hx hb dX0_highestBit_15 dX0_highestBit_16 (by decide) (fun c_15 => ?_) (fun c_15 => ?_)
        ·
          refine lv_iload_n hx hb dX0_highestBit_23 rfl (lv_at hl 2 rfl) ?_
          refine lv_iconst (v := 2) hx hb dX0_highestBit_24 (by decide) ?_
          refine lv_idiv hx hb dX0_highestBit_25 (by decide) ?_
          refine lv_topi (fun x_26 ex_26 => ?_)
          refine lv_istore_n (lv' := [(3, .int x_26), (0, .long p0), (2, .int y_5_2)]) hx hb dX0_highestBit_26 rfl hl (by decide) rfl (fun ls hl => ?_)
          refine lv_goto (tgt := 5) hx hb dX0_highestBit_27 (by decide) ?_
          exact ih y_5_2 x_26 _ _ hS ls (lv_sub hl [1, 2, 0] rfl) (by subst ex_26; have h1 := hbS_p (n := n) (by rw [← hI.1]; exact c_6); exact ⟨by rw [hI.1]; exact hbS_s hI.2.2 h1, h1, Nat.lt_of_succ_lt hI.2.2⟩) (by subst ex_26; exact hK_5.trans ((if_neg c_6).trans (if_pos c_15)))
        ·
          refine lv_iload_n hx hb dX0_highestBit_19 rfl (lv_at hl 1 rfl) ?_
          refine lv_iload_n hx hb dX0_highestBit_20 rfl (lv_at hl 2 rfl) ?_
          refine lv_iadd hx hb dX0_highestBit_21 ?_
          refine lv_topi (fun x_22 ex_22 => ?_)
          refine lv_istore_n (lv' := [(2, .int x_22), (0, .long p0), (3, .int y_5_3)]) hx hb dX0_highestBit_22 rfl hl (by decide) rfl (fun ls hl => ?_)
          refine lv_iload_n hx hb dX0_highestBit_23 rfl (lv_at hl 2 rfl) ?_
          refine lv_iconst (v := 2) hx hb dX0_highestBit_24 (by decide) ?_
          refine lv_idiv hx hb dX0_highestBit_25 (by decide) ?_
          refine lv_topi (fun x_26 ex_26 => ?_)
          refine lv_istore_n (lv' := [(3, .int x_26), (2, .int x_22), (0, .long p0)]) hx hb dX0_highestBit_26 rfl hl (by decide) rfl (fun ls hl => ?_)
          refine lv_goto (tgt := 5) hx hb dX0_highestBit_27 (by decide) ?_
          exact ih x_22 x_26 _ _ hS ls (lv_sub hl [2, 1, 0] rfl) (by subst ex_26; have h1 := hbS_p (n := n) (by rw [← hI.1]; exact c_6); exact ⟨by rw [hI.1]; exact hbS_s hI.2.2 h1, h1, Nat.lt_of_succ_lt hI.2.2⟩) (by subst ex_26 ex_22; exact hK_5.trans ((if_neg c_6).trans (if_neg c_15)))
  exact K_5 (7) 0 32 _ _ hS ls (lv_sub hl [2, 1, 0] rfl) (⟨rfl, by decide, by decide⟩) (by exact rfl)
theorem hdv_X0_missingPlaces : yX0_missingPlaces.cls = RX0 ∧ yX0_missingPlaces.cls ≠ "java/lang/invoke/MethodHandle" ∧ yX0_missingPlaces.cls ≠ "java/lang/invoke/VarHandle" ∧ (parseMethodDescriptor yX0_missingPlaces.desc).map (fun d => d.parameters.length) = some 1 := by decide +kernel
def s_X0_missingPlaces (fb le : Int32) (inf sb : Int64) (p0 : Int64) : Int32 :=
  if (lShl 1 fb) ≤ (s_X0_magnitude fb le inf sb p0) then 0
  else fb - (s_X0_highestBit (s_X0_magnitude fb le inf sb p0))
set_option maxHeartbeats 4000000 in
set_option maxRecDepth 100000 in
theorem pm_X0_missingPlaces (l : Launch) (fb le : Int32) (inf sb : Int64) (q : Nat) (p0 : Int64) : PmI l yX0_missingPlaces wsX0_missingPlaces 1 23 [.ref q, .long p0] (fun U => KQ fb le inf sb q pv_N U U.heap) (s_X0_missingPlaces fb le inf sb p0) := by
  refine Met.ofW (cc := cX0_missingPlaces) (maxL := 5) (ret := (some .int)) (by decide) rfl ?_
  intro p e s m args below meth c s₁ B hml hv
  obtain ⟨rfl, hq⟩ := hv
  have hx := B.exec
  have hb := B.bytes
  have hr := B.returns
  have hts := atoms_spec (ws := wsX0_missingPlaces) B.pre
  have hown : s.vm.findClass RX0 = some m.cls := findClass_of_methodNamed B.named
  have hlocks := B.notSynchronized
  have hS : va_S pv_N s.heap s.heap [] := va_S.rf
  have hl := lv_entry ([.ref q, .long p0]) (n := 5) (Nat.le_of_ble_eq_true rfl)
  rw [lg_entry_eq]
  generalize (lg_sl ([.ref q, .long p0]) ++ List.replicate (5 - (lg_sl ([.ref q, .long p0])).length) Slot.unset).toArray = ls at hl ⊢
  have hl : lv_has ls 5 [(0, .ref q), (1, .long p0)] := hl
  obtain ⟨Z, hZ⟩ : ∃ z, z = MQ below (pm_QI (s_X0_missingPlaces fb le inf sb p0)) ([.ref q, .long p0] : List Value).toArray s 0 0 pv_N := ⟨_, rfl⟩
  rw [← hZ]
  obtain ⟨Y, hY⟩ : ∃ y, y = s_X0_missingPlaces fb le inf sb p0 := ⟨_, rfl⟩
  refine lv_aload_n hx hb dX0_missingPlaces_0 rfl (lv_at hl 0 rfl) ?_
  refine lv_lload_n hx hb dX0_missingPlaces_1 rfl (lv_at hl 1 rfl) ?_
  refine pm_callL (va_runV (As := [.long p0]) (rest := []) ⟨hx, hb, hml, hown, hts⟩ (pm_X0_magnitude l fb le inf sb q p0) (cwV 1 hts gX0_missingPlaces_X0_magnitude rfl rfl rfl hdv_X0_magnitude ⟨Nat.le_of_ble_eq_true rfl, Nat.le_of_ble_eq_true rfl⟩) ⟨KQ.fb, va_Orecv hq.1 hS, fun U hU hW => ⟨rfl, (KQ.call hq hS U hU hW)⟩⟩ rfl rfl hl.1 rfl (lv_room (Nat.le_of_ble_eq_true rfl)) dX0_missingPlaces_2 ⟨Nat.le_refl 0, Nat.le_refl 0⟩) hS (fun H locs _ _ hS => ?_)
  refine lv_topl (fun x_5 ex_5 => ?_)
  refine lv_lstore_n (lv' := [(3, .long x_5), (0, .ref q), (1, .long p0)]) hx hb dX0_missingPlaces_5 rfl hl (by decide) rfl (fun ls hl => ?_)
  refine lv_lload_n hx hb dX0_missingPlaces_6 rfl (lv_at hl 0 rfl) ?_
  refine lv_lconst (v := 1) hx hb dX0_missingPlaces_7 (by decide) ?_
  refine lv_aload_n hx hb dX0_missingPlaces_8 rfl (lv_at hl 1 rfl) ?_
  refine vk_getf hx hb hq.2.1 hS hown (hts _ (List.mem_of_getElem? (i := 1) rfl)) (fun _ h9 => h9) dX0_missingPlaces_9 ?_
  refine lv_lshl (v := lShl 1 fb) hx hb dX0_missingPlaces_12 rfl ?_
  refine lp_ge (tgt := 29) hx hb dX0_missingPlaces_13 dX0_missingPlaces_14 (by decide) (fun c_13 => ?_) (fun c_13 => ?_)
  ·
    refine lv_iconst (v := 0) hx hb dX0_missingPlaces_29 (by decide) ?_
    rw [hZ]
    exact pm_iret (w := s_X0_missingPlaces fb le inf sb p0) hx hb hr hlocks hS (by subst ex_5; exact ((if_pos c_13)).symm) dX0_missingPlaces_30
  ·
    refine lv_aload_n hx hb dX0_missingPlaces_17 rfl (lv_at hl 1 rfl) ?_
    refine vk_getf hx hb hq.2.1 hS hown (hts _ (List.mem_of_getElem? (i := 1) rfl)) (fun _ h9 => h9) dX0_missingPlaces_18 ?_
    refine lv_lload_n hx hb dX0_missingPlaces_21 rfl (lv_at hl 0 rfl) ?_
    refine pm_callI (va_runS (As := [.long x_5]) (rest := [.int fb]) ⟨hx, hb, hml, hown, hts⟩ (pm_X0_highestBit l x_5) (va_cwS 1 hts gX0_missingPlaces_X0_highestBit rfl rfl rfl hd_X0_highestBit ⟨Nat.le_of_ble_eq_true rfl, Nat.le_of_ble_eq_true rfl⟩) ⟨pm_fbT, fun U hU hW => ⟨rfl, trivial⟩⟩ rfl rfl hl.1 rfl (lv_room (Nat.le_of_ble_eq_true rfl)) dX0_missingPlaces_22 ⟨Nat.le_refl 0, Nat.le_refl 0⟩) hS (fun H locs _ _ hS => ?_)
    refine lv_isub hx hb dX0_missingPlaces_25 ?_
    refine lv_goto (tgt := 30) hx hb dX0_missingPlaces_26 (by decide) ?_
    rw [hZ]
    exact pm_iret (w := s_X0_missingPlaces fb le inf sb p0) hx hb hr hlocks hS (by subst ex_5; exact ((if_neg c_13)).symm) dX0_missingPlaces_30
theorem hdv_X0_significand : yX0_significand.cls = RX0 ∧ yX0_significand.cls ≠ "java/lang/invoke/MethodHandle" ∧ yX0_significand.cls ≠ "java/lang/invoke/VarHandle" ∧ (parseMethodDescriptor yX0_significand.desc).map (fun d => d.parameters.length) = some 1 := by decide +kernel
def s_X0_significand (fb le : Int32) (inf sb : Int64) (p0 : Int64) : Int64 :=
  if (lShl 1 fb) ≤ (s_X0_magnitude fb le inf sb p0) then ((s_X0_magnitude fb le inf sb p0) &&& ((lShl 1 fb) - 1)) ||| (lShl 1 fb)
  else lShl (s_X0_magnitude fb le inf sb p0) (s_X0_missingPlaces fb le inf sb p0)
set_option maxHeartbeats 4000000 in
set_option maxRecDepth 100000 in
theorem pm_X0_significand (l : Launch) (fb le : Int32) (inf sb : Int64) (q : Nat) (p0 : Int64) : PmL l yX0_significand wsX0_significand 2 47 [.ref q, .long p0] (fun U => KQ fb le inf sb q pv_N U U.heap) (s_X0_significand fb le inf sb p0) := by
  refine Met.ofW (cc := cX0_significand) (maxL := 7) (ret := (some .long)) (by decide) rfl ?_
  intro p e s m args below meth c s₁ B hml hv
  obtain ⟨rfl, hq⟩ := hv
  have hx := B.exec
  have hb := B.bytes
  have hr := B.returns
  have hts := atoms_spec (ws := wsX0_significand) B.pre
  have hown : s.vm.findClass RX0 = some m.cls := findClass_of_methodNamed B.named
  have hlocks := B.notSynchronized
  have hS : va_S pv_N s.heap s.heap [] := va_S.rf
  have hl := lv_entry ([.ref q, .long p0]) (n := 7) (Nat.le_of_ble_eq_true rfl)
  rw [lg_entry_eq]
  generalize (lg_sl ([.ref q, .long p0]) ++ List.replicate (7 - (lg_sl ([.ref q, .long p0])).length) Slot.unset).toArray = ls at hl ⊢
  have hl : lv_has ls 7 [(0, .ref q), (1, .long p0)] := hl
  obtain ⟨Z, hZ⟩ : ∃ z, z = MQ below (pm_QL (s_X0_significand fb le inf sb p0)) ([.ref q, .long p0] : List Value).toArray s 0 0 pv_N := ⟨_, rfl⟩
  rw [← hZ]
  obtain ⟨Y, hY⟩ : ∃ y, y = s_X0_significand fb le inf sb p0 := ⟨_, rfl⟩
  refine lv_lconst (v := 1) hx hb dX0_significand_0 (by decide) ?_
  refine lv_aload_n hx hb dX0_significand_1 rfl (lv_at hl 0 rfl) ?_
  refine vk_getf hx hb hq.2.1 hS hown (hts _ (List.mem_of_getElem? (i := 1) rfl)) (fun _ h9 => h9) dX0_significand_2 ?_
  refine lv_lshl (v := lShl 1 fb) hx hb dX0_significand_5 rfl ?_
  refine lv_topl (fun x_6 ex_6 => ?_)
  refine lv_lstore_n (lv' := [(3, .long x_6), (0, .ref q), (1, .long p0)]) hx hb dX0_significand_6 rfl hl (by decide) rfl (fun ls hl => ?_)
  refine lv_aload_n hx hb dX0_significand_7 rfl (lv_at hl 1 rfl) ?_
  refine lv_lload_n hx hb dX0_significand_8 rfl (lv_at hl 2 rfl) ?_
  refine pm_callL (va_runV (As := [.long p0]) (rest := []) ⟨hx, hb, hml, hown, hts⟩ (pm_X0_magnitude l fb le inf sb q p0) (cwV 1 hts gX0_significand_X0_magnitude rfl rfl rfl hdv_X0_magnitude ⟨Nat.le_of_ble_eq_true rfl, Nat.le_of_ble_eq_true rfl⟩) ⟨KQ.fb, va_Orecv hq.1 hS, fun U hU hW => ⟨rfl, (KQ.call hq hS U hU hW)⟩⟩ rfl rfl hl.1 rfl (lv_room (Nat.le_of_ble_eq_true rfl)) dX0_significand_9 ⟨Nat.le_refl 0, Nat.le_refl 0⟩) hS (fun H locs _ _ hS => ?_)
  refine lv_topl (fun x_12 ex_12 => ?_)
  refine lv_lstore (lv' := [(5, .long x_12), (3, .long x_6), (0, .ref q), (1, .long p0)]) hx hb dX0_significand_12 hl (by decide) rfl (fun ls hl => ?_)
  refine lv_lload hx hb dX0_significand_14 (lv_at hl 0 rfl) ?_
  refine lv_lload_n hx hb dX0_significand_16 rfl (lv_at hl 1 rfl) ?_
  refine lp_ge (tgt := 30) hx hb dX0_significand_17 dX0_significand_18 (by decide) (fun c_17 => ?_) (fun c_17 => ?_)
  ·
    refine lv_lload hx hb dX0_significand_30 (lv_at hl 0 rfl) ?_
    refine lv_lload_n hx hb dX0_significand_32 rfl (lv_at hl 1 rfl) ?_
    refine lv_lconst (v := 1) hx hb dX0_significand_33 (by decide) ?_
    refine lv_lsub hx hb dX0_significand_34 ?_
    refine lv_land hx hb dX0_significand_35 ?_
    refine lv_lload_n hx hb dX0_significand_36 rfl (lv_at hl 1 rfl) ?_
    refine lv_lor hx hb dX0_significand_37 ?_
    rw [hZ]
    exact pm_lret (w := s_X0_significand fb le inf sb p0) hx hb hr hlocks hS (by subst ex_12 ex_6; exact ((if_pos c_17)).symm) dX0_significand_38
  ·
    refine lv_lload hx hb dX0_significand_21 (lv_at hl 0 rfl) ?_
    refine lv_aload_n hx hb dX0_significand_23 rfl (lv_at hl 2 rfl) ?_
    refine lv_lload_n hx hb dX0_significand_24 rfl (lv_at hl 3 rfl) ?_
    refine pm_callI (va_runV (As := [.long p0]) (rest := [.long x_12]) ⟨hx, hb, hml, hown, hts⟩ (pm_X0_missingPlaces l fb le inf sb q p0) (cwV 1 hts gX0_significand_X0_missingPlaces rfl rfl rfl hdv_X0_missingPlaces ⟨Nat.le_of_ble_eq_true rfl, Nat.le_of_ble_eq_true rfl⟩) ⟨KQ.fb, va_Orecv hq.1 hS, fun U hU hW => ⟨rfl, (KQ.call hq hS U hU hW)⟩⟩ rfl rfl hl.1 rfl (lv_room (Nat.le_of_ble_eq_true rfl)) dX0_significand_25 ⟨Nat.le_refl 0, Nat.le_refl 0⟩) hS (fun H locs _ _ hS => ?_)
    refine lv_lshl (v := lShl x_12 (s_X0_missingPlaces fb le inf sb p0)) hx hb dX0_significand_28 rfl ?_
    rw [hZ]
    exact pm_lret (w := s_X0_significand fb le inf sb p0) hx hb hr hlocks hS (by subst ex_12 ex_6; exact ((if_neg c_17)).symm) dX0_significand_29
theorem hdv_X0_exponent : yX0_exponent.cls = RX0 ∧ yX0_exponent.cls ≠ "java/lang/invoke/MethodHandle" ∧ yX0_exponent.cls ≠ "java/lang/invoke/VarHandle" ∧ (parseMethodDescriptor yX0_exponent.desc).map (fun d => d.parameters.length) = some 1 := by decide +kernel
def s_X0_exponent (fb le : Int32) (inf sb : Int64) (p0 : Int64) : Int32 :=
  (le + (if (((lUshr (s_X0_magnitude fb le inf sb p0) fb).toInt32) - 1) < 0 then 0 else (((lUshr (s_X0_magnitude fb le inf sb p0) fb).toInt32) - 1))) - (s_X0_missingPlaces fb le inf sb p0)
set_option maxHeartbeats 4000000 in
set_option maxRecDepth 100000 in
theorem pm_X0_exponent (l : Launch) (fb le : Int32) (inf sb : Int64) (q : Nat) (p0 : Int64) : PmI l yX0_exponent wsX0_exponent 2 47 [.ref q, .long p0] (fun U => KQ fb le inf sb q pv_N U U.heap) (s_X0_exponent fb le inf sb p0) := by
  refine Met.ofW (cc := cX0_exponent) (maxL := 4) (ret := (some .int)) (by decide) rfl ?_
  intro p e s m args below meth c s₁ B hml hv
  obtain ⟨rfl, hq⟩ := hv
  have hx := B.exec
  have hb := B.bytes
  have hr := B.returns
  have hts := atoms_spec (ws := wsX0_exponent) B.pre
  have hown : s.vm.findClass RX0 = some m.cls := findClass_of_methodNamed B.named
  have hlocks := B.notSynchronized
  have hS : va_S pv_N s.heap s.heap [] := va_S.rf
  have hl := lv_entry ([.ref q, .long p0]) (n := 4) (Nat.le_of_ble_eq_true rfl)
  rw [lg_entry_eq]
  generalize (lg_sl ([.ref q, .long p0]) ++ List.replicate (4 - (lg_sl ([.ref q, .long p0])).length) Slot.unset).toArray = ls at hl ⊢
  have hl : lv_has ls 4 [(0, .ref q), (1, .long p0)] := hl
  obtain ⟨Z, hZ⟩ : ∃ z, z = MQ below (pm_QI (s_X0_exponent fb le inf sb p0)) ([.ref q, .long p0] : List Value).toArray s 0 0 pv_N := ⟨_, rfl⟩
  rw [← hZ]
  obtain ⟨Y, hY⟩ : ∃ y, y = s_X0_exponent fb le inf sb p0 := ⟨_, rfl⟩
  refine lv_aload_n hx hb dX0_exponent_0 rfl (lv_at hl 0 rfl) ?_
  refine lv_lload_n hx hb dX0_exponent_1 rfl (lv_at hl 1 rfl) ?_
  refine pm_callL (va_runV (As := [.long p0]) (rest := []) ⟨hx, hb, hml, hown, hts⟩ (pm_X0_magnitude l fb le inf sb q p0) (cwV 1 hts gX0_exponent_X0_magnitude rfl rfl rfl hdv_X0_magnitude ⟨Nat.le_of_ble_eq_true rfl, Nat.le_of_ble_eq_true rfl⟩) ⟨KQ.fb, va_Orecv hq.1 hS, fun U hU hW => ⟨rfl, (KQ.call hq hS U hU hW)⟩⟩ rfl rfl hl.1 rfl (lv_room (Nat.le_of_ble_eq_true rfl)) dX0_exponent_2 ⟨Nat.le_refl 0, Nat.le_refl 0⟩) hS (fun H locs _ _ hS => ?_)
  refine lv_aload_n hx hb dX0_exponent_5 rfl (lv_at hl 0 rfl) ?_
  refine vk_getf hx hb hq.2.1 hS hown (hts _ (List.mem_of_getElem? (i := 1) rfl)) (fun _ h9 => h9) dX0_exponent_6 ?_
  refine lv_lushr (v := lUshr (s_X0_magnitude fb le inf sb p0) fb) hx hb dX0_exponent_9 rfl ?_
  refine lv_l2i (v := (lUshr (s_X0_magnitude fb le inf sb p0) fb).toInt32) hx hb dX0_exponent_10 rfl ?_
  refine lv_topi (fun x_11 ex_11 => ?_)
  refine lv_istore_n (lv' := [(3, .int x_11), (0, .ref q), (1, .long p0)]) hx hb dX0_exponent_11 rfl hl (by decide) rfl (fun ls hl => ?_)
  refine lv_aload_n hx hb dX0_exponent_12 rfl (lv_at hl 1 rfl) ?_
  refine vk_getf hx hb hq.2.2.1 hS hown (hts _ (List.mem_of_getElem? (i := 2) rfl)) (fun _ h9 => h9) dX0_exponent_13 ?_
  refine lv_iload_n hx hb dX0_exponent_16 rfl (lv_at hl 0 rfl) ?_
  refine lv_iconst (v := 1) hx hb dX0_exponent_17 (by decide) ?_
  refine lv_isub hx hb dX0_exponent_18 ?_
  refine lv_iconst (v := 0) hx hb dX0_exponent_19 (by decide) ?_
  refine va_mmax hx hb (hml.trans hl.1.symm) hown (hts _ (List.mem_of_getElem? (i := 3) rfl)) (hts _ (List.mem_of_getElem? (i := 4) rfl)) (hts _ (List.mem_of_getElem? (i := 5) rfl)) (hts _ (List.mem_of_getElem? (i := 6) rfl)) (Nat.le_of_ble_eq_true rfl) (Nat.le_of_ble_eq_true rfl) (Nat.le_refl 0) (Nat.le_refl 0) dX0_exponent_20 ?_
  refine lv_iadd hx hb dX0_exponent_23 ?_
  refine lv_aload_n hx hb dX0_exponent_24 rfl (lv_at hl 1 rfl) ?_
  refine lv_lload_n hx hb dX0_exponent_25 rfl (lv_at hl 2 rfl) ?_
  refine pm_callI (va_runV (As := [.long p0]) (rest := [.int (le + (if (x_11 - 1) < 0 then 0 else (x_11 - 1)))]) ⟨hx, hb, hml, hown, hts⟩ (pm_X0_missingPlaces l fb le inf sb q p0) (cwV 1 hts gX0_exponent_X0_missingPlaces rfl rfl rfl hdv_X0_missingPlaces ⟨Nat.le_of_ble_eq_true rfl, Nat.le_of_ble_eq_true rfl⟩) ⟨KQ.fb, va_Orecv hq.1 hS, fun U hU hW => ⟨rfl, (KQ.call hq hS U hU hW)⟩⟩ rfl rfl hl.1 rfl (lv_room (Nat.le_of_ble_eq_true rfl)) dX0_exponent_26 ⟨Nat.le_refl 0, Nat.le_refl 0⟩) hS (fun H locs _ _ hS => ?_)
  refine lv_isub hx hb dX0_exponent_29 ?_
  rw [hZ]
  exact pm_iret (w := s_X0_exponent fb le inf sb p0) hx hb hr hlocks hS (by subst ex_11; exact rfl) dX0_exponent_30
theorem hdv_X0_pack : yX0_pack.cls = RX0 ∧ yX0_pack.cls ≠ "java/lang/invoke/MethodHandle" ∧ yX0_pack.cls ≠ "java/lang/invoke/VarHandle" ∧ (parseMethodDescriptor yX0_pack.desc).map (fun d => d.parameters.length) = some 3 := by decide +kernel
def s_X0_pack_j12 (fb le : Int32) (inf sb : Int64) (p0 : Int32) (p1 : Int32) (p2 : Int64) (z_12_0 : Int64) : Int64 :=
  if p2 = 0 then z_12_0
  else if (((if ((p1 + (s_X0_highestBit p2)) - fb) < le then le else ((p1 + (s_X0_highestBit p2)) - fb)) - le).toInt64) < ((lUshr inf fb) - 1) then z_12_0 ||| ((lShl (((if ((p1 + (s_X0_highestBit p2)) - fb) < le then le else ((p1 + (s_X0_highestBit p2)) - fb)) - le).toInt64) fb) + (s_X0_rounded p2 ((if ((p1 + (s_X0_highestBit p2)) - fb) < le then le else ((p1 + (s_X0_highestBit p2)) - fb)) - p1)))
  else z_12_0 ||| inf
def s_X0_pack (fb le : Int32) (inf sb : Int64) (p0 : Int32) (p1 : Int32) (p2 : Int64) : Int64 :=
  if p0 = 0 then s_X0_pack_j12 fb le inf sb p0 p1 p2 0
  else s_X0_pack_j12 fb le inf sb p0 p1 p2 sb
set_option maxHeartbeats 4000000 in
set_option maxRecDepth 100000 in
theorem pm_X0_pack (l : Launch) (fb le : Int32) (inf sb : Int64) (q : Nat) (p0 : Int32) (p1 : Int32) (p2 : Int64) : PmL l yX0_pack wsX0_pack 1 29 [.ref q, .int p0, .int p1, .long p2] (fun U => KQ fb le inf sb q pv_N U U.heap) (s_X0_pack fb le inf sb p0 p1 p2) := by
  refine Met.ofW (cc := cX0_pack) (maxL := 10) (ret := (some .long)) (by decide) rfl ?_
  intro p e s m args below meth c s₁ B hml hv
  obtain ⟨rfl, hq⟩ := hv
  have hx := B.exec
  have hb := B.bytes
  have hr := B.returns
  have hts := atoms_spec (ws := wsX0_pack) B.pre
  have hown : s.vm.findClass RX0 = some m.cls := findClass_of_methodNamed B.named
  have hlocks := B.notSynchronized
  have hS : va_S pv_N s.heap s.heap [] := va_S.rf
  have hl := lv_entry ([.ref q, .int p0, .int p1, .long p2]) (n := 10) (Nat.le_of_ble_eq_true rfl)
  rw [lg_entry_eq]
  generalize (lg_sl ([.ref q, .int p0, .int p1, .long p2]) ++ List.replicate (10 - (lg_sl ([.ref q, .int p0, .int p1, .long p2])).length) Slot.unset).toArray = ls at hl ⊢
  have hl : lv_has ls 10 [(0, .ref q), (1, .int p0), (2, .int p1), (3, .long p2)] := hl
  obtain ⟨Z, hZ⟩ : ∃ z, z = MQ below (pm_QL (s_X0_pack fb le inf sb p0 p1 p2)) ([.ref q, .int p0, .int p1, .long p2] : List Value).toArray s 0 0 pv_N := ⟨_, rfl⟩
  rw [← hZ]
  obtain ⟨Y, hY⟩ : ∃ y, y = s_X0_pack fb le inf sb p0 p1 p2 := ⟨_, rfl⟩
  refine lv_iload_n hx hb dX0_pack_0 rfl (lv_at hl 1 rfl) ?_
  have K_12 : ∀ (z_12_0 : Int64) (H : Heap) (locs : List Loc), va_S pv_N s.heap H locs → ∀ (ls : Array Slot), lv_has ls 10 [(0, .ref q), (2, .int p1), (3, .long p2)] → s_X0_pack fb le inf sb p0 p1 p2 = s_X0_pack_j12 fb le inf sb p0 p1 p2 z_12_0 → W p l e (pm_R 1 29) s m ([.ref q, .int p0, .int p1, .long p2] : List Value).toArray below meth c H locs 0 0 Z (F0 m 12 ls [.long z_12_0]) := by
    intro z_12_0 H locs hS ls hl hK_12
    refine lv_lstore (lv' := [(5, .long z_12_0), (0, .ref q), (2, .int p1), (3, .long p2)]) hx hb dX0_pack_12 hl (by decide) rfl (fun ls hl => ?_)
    refine lv_lload_n hx hb dX0_pack_14 rfl (lv_at hl 3 rfl) ?_
    refine lv_lconst (v := 0) hx hb dX0_pack_15 (by decide) ?_
    refine lp_ne (tgt := 23) hx hb dX0_pack_16 dX0_pack_17 (by decide) (fun c_16 => ?_) (fun c_16 => ?_)
    ·
      refine lv_iload_n hx hb dX0_pack_23 rfl (lv_at hl 2 rfl) ?_
      refine lv_lload_n hx hb dX0_pack_24 rfl (lv_at hl 3 rfl) ?_
      refine pm_callI (va_runS (As := [.long p2]) (rest := [.int p1]) ⟨hx, hb, hml, hown, hts⟩ (pm_X0_highestBit l p2) (va_cwS 1 hts gX0_pack_X0_highestBit rfl rfl rfl hd_X0_highestBit ⟨Nat.le_of_ble_eq_true rfl, Nat.le_of_ble_eq_true rfl⟩) ⟨pm_fbT, fun U hU hW => ⟨rfl, trivial⟩⟩ rfl rfl hl.1 rfl (lv_room (Nat.le_of_ble_eq_true rfl)) dX0_pack_25 ⟨Nat.le_refl 0, Nat.le_refl 0⟩) hS (fun H locs _ _ hS => ?_)
      refine lv_iadd hx hb dX0_pack_28 ?_
      refine lv_aload_n hx hb dX0_pack_29 rfl (lv_at hl 1 rfl) ?_
      refine vk_getf hx hb hq.2.1 hS hown (hts _ (List.mem_of_getElem? (i := 2) rfl)) (fun _ h9 => h9) dX0_pack_30 ?_
      refine lv_isub hx hb dX0_pack_33 ?_
      refine lv_aload_n hx hb dX0_pack_34 rfl (lv_at hl 1 rfl) ?_
      refine vk_getf hx hb hq.2.2.1 hS hown (hts _ (List.mem_of_getElem? (i := 3) rfl)) (fun _ h9 => h9) dX0_pack_35 ?_
      refine va_mmax hx hb (hml.trans hl.1.symm) hown (hts _ (List.mem_of_getElem? (i := 4) rfl)) (hts _ (List.mem_of_getElem? (i := 5) rfl)) (hts _ (List.mem_of_getElem? (i := 6) rfl)) (hts _ (List.mem_of_getElem? (i := 7) rfl)) (Nat.le_of_ble_eq_true rfl) (Nat.le_of_ble_eq_true rfl) (Nat.le_refl 0) (Nat.le_refl 0) dX0_pack_38 ?_
      refine lv_topi (fun x_41 ex_41 => ?_)
      refine lv_istore (lv' := [(7, .int x_41), (5, .long z_12_0), (0, .ref q), (2, .int p1), (3, .long p2)]) hx hb dX0_pack_41 hl (by decide) rfl (fun ls hl => ?_)
      refine lv_iload hx hb dX0_pack_43 (lv_at hl 0 rfl) ?_
      refine lv_aload_n hx hb dX0_pack_45 rfl (lv_at hl 2 rfl) ?_
      refine vk_getf hx hb hq.2.2.1 hS hown (hts _ (List.mem_of_getElem? (i := 3) rfl)) (fun _ h9 => h9) dX0_pack_46 ?_
      refine lv_isub hx hb dX0_pack_49 ?_
      refine lv_i2l (v := (x_41 - le).toInt64) hx hb dX0_pack_50 rfl ?_
      refine lv_topl (fun x_51 ex_51 => ?_)
      refine lv_lstore (lv' := [(8, .long x_51), (7, .int x_41), (5, .long z_12_0), (0, .ref q), (2, .int p1), (3, .long p2)]) hx hb dX0_pack_51 hl (by decide) rfl (fun ls hl => ?_)
      refine lv_lload hx hb dX0_pack_53 (lv_at hl 0 rfl) ?_
      refine lv_aload_n hx hb dX0_pack_55 rfl (lv_at hl 3 rfl) ?_
      refine vk_getf hx hb hq.2.2.2.1 hS hown (hts _ (List.mem_of_getElem? (i := 8) rfl)) (fun _ h9 => h9) dX0_pack_56 ?_
      refine lv_aload_n hx hb dX0_pack_59 rfl (lv_at hl 3 rfl) ?_
      refine vk_getf hx hb hq.2.1 hS hown (hts _ (List.mem_of_getElem? (i := 2) rfl)) (fun _ h9 => h9) dX0_pack_60 ?_
      refine lv_lushr (v := lUshr inf fb) hx hb dX0_pack_63 rfl ?_
      refine lv_lconst (v := 1) hx hb dX0_pack_64 (by decide) ?_
      refine lv_lsub hx hb dX0_pack_65 ?_
      refine lp_lt (tgt := 78) hx hb dX0_pack_66 dX0_pack_67 (by decide) (fun c_66 => ?_) (fun c_66 => ?_)
      ·
        refine lv_lload hx hb dX0_pack_78 (lv_at hl 2 rfl) ?_
        refine lv_lload hx hb dX0_pack_80 (lv_at hl 0 rfl) ?_
        refine lv_aload_n hx hb dX0_pack_82 rfl (lv_at hl 3 rfl) ?_
        refine vk_getf hx hb hq.2.1 hS hown (hts _ (List.mem_of_getElem? (i := 2) rfl)) (fun _ h9 => h9) dX0_pack_83 ?_
        refine lv_lshl (v := lShl x_51 fb) hx hb dX0_pack_86 rfl ?_
        refine lv_lload_n hx hb dX0_pack_87 rfl (lv_at hl 5 rfl) ?_
        refine lv_iload hx hb dX0_pack_88 (lv_at hl 1 rfl) ?_
        refine lv_iload_n hx hb dX0_pack_90 rfl (lv_at hl 4 rfl) ?_
        refine lv_isub hx hb dX0_pack_91 ?_
        refine pm_callL (va_runS (As := [.long p2, .int (x_41 - p1)]) (rest := [.long (lShl x_51 fb), .long z_12_0]) ⟨hx, hb, hml, hown, hts⟩ (pm_X0_rounded l p2 (x_41 - p1)) (va_cwS 2 hts gX0_pack_X0_rounded rfl rfl rfl hd_X0_rounded ⟨Nat.le_of_ble_eq_true rfl, Nat.le_of_ble_eq_true rfl⟩) ⟨pm_fbT, fun U hU hW => ⟨rfl, trivial⟩⟩ rfl rfl hl.1 rfl (lv_room (Nat.le_of_ble_eq_true rfl)) dX0_pack_92 ⟨Nat.le_refl 0, Nat.le_refl 0⟩) hS (fun H locs _ _ hS => ?_)
        refine lv_ladd hx hb dX0_pack_95 ?_
        refine lv_lor hx hb dX0_pack_96 ?_
        rw [hZ]
        exact pm_lret (w := s_X0_pack fb le inf sb p0 p1 p2) hx hb hr hlocks hS (by subst ex_51 ex_41; exact (hK_12.trans ((if_neg c_16).trans (if_pos c_66))).symm) dX0_pack_97
      ·
        refine lv_lload hx hb dX0_pack_70 (lv_at hl 2 rfl) ?_
        refine lv_aload_n hx hb dX0_pack_72 rfl (lv_at hl 3 rfl) ?_
        refine vk_getf hx hb hq.2.2.2.1 hS hown (hts _ (List.mem_of_getElem? (i := 8) rfl)) (fun _ h9 => h9) dX0_pack_73 ?_
        refine lv_lor hx hb dX0_pack_76 ?_
        rw [hZ]
        exact pm_lret (w := s_X0_pack fb le inf sb p0 p1 p2) hx hb hr hlocks hS (by subst ex_51 ex_41; exact (hK_12.trans ((if_neg c_16).trans (if_neg c_66))).symm) dX0_pack_77
    ·
      refine lv_lload hx hb dX0_pack_20 (lv_at hl 0 rfl) ?_
      rw [hZ]
      exact pm_lret (w := s_X0_pack fb le inf sb p0 p1 p2) hx hb hr hlocks hS (by exact (hK_12.trans (if_pos c_16)).symm) dX0_pack_22
  refine lv_if_eq (tgt := 11) hx hb dX0_pack_1 (by decide) (fun c_1 => ?_) (fun c_1 => ?_)
  ·
    refine lv_lconst (v := 0) hx hb dX0_pack_11 (by decide) ?_
    exact K_12 0 _ _ hS ls (lv_sub hl [0, 2, 3] rfl) ((if_pos c_1))
  ·
    refine lv_aload_n hx hb dX0_pack_4 rfl (lv_at hl 0 rfl) ?_
    refine vk_getf hx hb hq.2.2.2.2 hS hown (hts _ (List.mem_of_getElem? (i := 1) rfl)) (fun _ h9 => h9) dX0_pack_5 ?_
    refine lv_goto (tgt := 12) hx hb dX0_pack_8 (by decide) ?_
    exact K_12 sb _ _ hS ls (lv_sub hl [0, 2, 3] rfl) ((if_neg c_1))
end
section
/-! ===== Reals: each method is its function (laid by program) ===== -/
theorem hd_X3_movedDown : yX3_movedDown.cls ≠ "java/lang/invoke/MethodHandle" ∧ yX3_movedDown.cls ≠ "java/lang/invoke/VarHandle" ∧ (parseMethodDescriptor yX3_movedDown.desc).map (fun d => d.parameters.length) = some 2 := by decide +kernel
def s_X3_movedDown (p0 : Int64) (p1 : Int32) : Int64 :=
  if p1 ≤ 62 then if (lShl (lUshr p0 p1) p1) = p0 then (lUshr p0 p1)
  else (lUshr p0 p1) ||| 1
  else 1
set_option maxHeartbeats 4000000 in
set_option maxRecDepth 100000 in
theorem pm_X3_movedDown (l : Launch) (p0 : Int64) (p1 : Int32) : PmL l yX3_movedDown wsX3_movedDown 0 0 [.long p0, .int p1] (fun _ => True) (s_X3_movedDown p0 p1) := by
  refine Met.ofW (cc := cX3_movedDown) (maxL := 5) (ret := (some .long)) (by decide) rfl ?_
  intro p e s m args below meth c s₁ B hml hv
  obtain ⟨rfl, -⟩ := hv
  have hx := B.exec
  have hb := B.bytes
  have hr := B.returns
  have hts := atoms_spec (ws := wsX3_movedDown) B.pre
  have hown : s.vm.findClass RX3 = some m.cls := findClass_of_methodNamed B.named
  have hlocks := B.notSynchronized
  have hS : va_S pv_N s.heap s.heap [] := va_S.rf
  have hl := lv_entry ([.long p0, .int p1]) (n := 5) (Nat.le_of_ble_eq_true rfl)
  rw [lg_entry_eq]
  generalize (lg_sl ([.long p0, .int p1]) ++ List.replicate (5 - (lg_sl ([.long p0, .int p1])).length) Slot.unset).toArray = ls at hl ⊢
  have hl : lv_has ls 5 [(0, .long p0), (2, .int p1)] := hl
  obtain ⟨Z, hZ⟩ : ∃ z, z = MQ below (pm_QL (s_X3_movedDown p0 p1)) ([.long p0, .int p1] : List Value).toArray s 0 0 pv_N := ⟨_, rfl⟩
  rw [← hZ]
  obtain ⟨Y, hY⟩ : ∃ y, y = s_X3_movedDown p0 p1 := ⟨_, rfl⟩
  refine lv_iload_n hx hb dX3_movedDown_0 rfl (lv_at hl 1 rfl) ?_
  refine lv_bipush (v := 62) hx hb dX3_movedDown_1 (by decide) ?_
  refine lv_icmp_le (tgt := 8) hx hb dX3_movedDown_3 (by decide) (fun c_3 => ?_) (fun c_3 => ?_)
  ·
    refine lv_lload_n hx hb dX3_movedDown_8 rfl (lv_at hl 0 rfl) ?_
    refine lv_iload_n hx hb dX3_movedDown_9 rfl (lv_at hl 1 rfl) ?_
    refine lv_lushr (v := lUshr p0 p1) hx hb dX3_movedDown_10 rfl ?_
    refine lv_topl (fun x_11 ex_11 => ?_)
    refine lv_lstore_n (lv' := [(3, .long x_11), (0, .long p0), (2, .int p1)]) hx hb dX3_movedDown_11 rfl hl (by decide) rfl (fun ls hl => ?_)
    refine lv_lload_n hx hb dX3_movedDown_12 rfl (lv_at hl 0 rfl) ?_
    refine lv_iload_n hx hb dX3_movedDown_13 rfl (lv_at hl 2 rfl) ?_
    refine lv_lshl (v := lShl x_11 p1) hx hb dX3_movedDown_14 rfl ?_
    refine lv_lload_n hx hb dX3_movedDown_15 rfl (lv_at hl 1 rfl) ?_
    refine lp_ne (tgt := 24) hx hb dX3_movedDown_16 dX3_movedDown_17 (by decide) (fun c_16 => ?_) (fun c_16 => ?_)
    ·
      refine lv_lload_n hx hb dX3_movedDown_24 rfl (lv_at hl 0 rfl) ?_
      refine lv_lconst (v := 1) hx hb dX3_movedDown_25 (by decide) ?_
      refine lv_lor hx hb dX3_movedDown_26 ?_
      rw [hZ]
      exact pm_lret (w := s_X3_movedDown p0 p1) hx hb hr hlocks hS (by subst ex_11; exact (((if_pos c_3).trans (if_neg c_16))).symm) dX3_movedDown_27
    ·
      refine lv_lload_n hx hb dX3_movedDown_20 rfl (lv_at hl 0 rfl) ?_
      refine lv_goto (tgt := 27) hx hb dX3_movedDown_21 (by decide) ?_
      rw [hZ]
      exact pm_lret (w := s_X3_movedDown p0 p1) hx hb hr hlocks hS (by subst ex_11; exact (((if_pos c_3).trans (if_pos c_16))).symm) dX3_movedDown_27
  ·
    refine lv_lconst (v := 1) hx hb dX3_movedDown_6 (by decide) ?_
    rw [hZ]
    exact pm_lret (w := s_X3_movedDown p0 p1) hx hb hr hlocks hS (by exact ((if_neg c_3)).symm) dX3_movedDown_7
theorem hd_X3_sumOfFinite : yX3_sumOfFinite.cls ≠ "java/lang/invoke/MethodHandle" ∧ yX3_sumOfFinite.cls ≠ "java/lang/invoke/VarHandle" ∧ (parseMethodDescriptor yX3_sumOfFinite.desc).map (fun d => d.parameters.length) = some 2 := by decide +kernel
def s_X3_sumOfFinite_j123 (p0 : Int64) (p1 : Int64) (z_100_0 : Int64) (x_7 : Int32) (z_123_0 : Int32) : Int64 :=
  s_X0_pack 52 (-1074) 9218868437227405312 (-9223372036854775808) z_123_0 (x_7 - 9) z_100_0
def s_X3_sumOfFinite_j100 (p0 : Int64) (p1 : Int64) (x_7 : Int32) (z_100_0 : Int64) : Int64 :=
  if 0 ≤ p0 then s_X3_sumOfFinite_j123 p0 p1 z_100_0 x_7 0
  else if z_100_0 = 0 then s_X3_sumOfFinite_j123 p0 p1 z_100_0 x_7 0
  else s_X3_sumOfFinite_j123 p0 p1 z_100_0 x_7 1
def s_X3_sumOfFinite_j80 (p0 : Int64) (p1 : Int64) (x_31 : Int64) (x_48 : Int64) (x_7 : Int32) (z_80_0 : Int32) : Int64 :=
  if z_80_0 = 0 then s_X3_sumOfFinite_j100 p0 p1 x_7 (x_31 - x_48)
  else s_X3_sumOfFinite_j100 p0 p1 x_7 (x_31 + x_48)
def s_X3_sumOfFinite_j72 (p0 : Int64) (p1 : Int64) (z_61_0 : Int32) (x_31 : Int64) (x_48 : Int64) (x_7 : Int32) (z_72_0 : Int32) : Int64 :=
  if z_61_0 = z_72_0 then s_X3_sumOfFinite_j80 p0 p1 x_31 x_48 x_7 1
  else s_X3_sumOfFinite_j80 p0 p1 x_31 x_48 x_7 0
def s_X3_sumOfFinite_j61 (p0 : Int64) (p1 : Int64) (x_31 : Int64) (x_48 : Int64) (x_7 : Int32) (z_61_0 : Int32) : Int64 :=
  if 0 ≤ p1 then s_X3_sumOfFinite_j72 p0 p1 z_61_0 x_31 x_48 x_7 0
  else s_X3_sumOfFinite_j72 p0 p1 z_61_0 x_31 x_48 x_7 1
def s_X3_sumOfFinite (p0 : Int64) (p1 : Int64) : Int64 :=
  if 0 ≤ p0 then s_X3_sumOfFinite_j61 p0 p1 (lShl (s_X0_significand 52 (-1074) 9218868437227405312 (-9223372036854775808) p0) 9) (s_X3_movedDown (lShl (s_X0_significand 52 (-1074) 9218868437227405312 (-9223372036854775808) p1) 9) ((s_X0_exponent 52 (-1074) 9218868437227405312 (-9223372036854775808) p0) - (s_X0_exponent 52 (-1074) 9218868437227405312 (-9223372036854775808) p1))) (s_X0_exponent 52 (-1074) 9218868437227405312 (-9223372036854775808) p0) 0
  else s_X3_sumOfFinite_j61 p0 p1 (lShl (s_X0_significand 52 (-1074) 9218868437227405312 (-9223372036854775808) p0) 9) (s_X3_movedDown (lShl (s_X0_significand 52 (-1074) 9218868437227405312 (-9223372036854775808) p1) 9) ((s_X0_exponent 52 (-1074) 9218868437227405312 (-9223372036854775808) p0) - (s_X0_exponent 52 (-1074) 9218868437227405312 (-9223372036854775808) p1))) (s_X0_exponent 52 (-1074) 9218868437227405312 (-9223372036854775808) p0) 1
set_option maxHeartbeats 4000000 in
set_option maxRecDepth 100000 in
theorem pm_X3_sumOfFinite (l : Launch) (dD dF : Nat) (p0 : Int64) (p1 : Int64) : PmL l yX3_sumOfFinite wsX3_sumOfFinite 3 73 [.long p0, .long p1] (fun U => KF dD dF pv_N U U.heap) (s_X3_sumOfFinite p0 p1) := by
  refine Met.ofW (cc := cX3_sumOfFinite) (maxL := 13) (ret := (some .long)) (by decide) rfl ?_
  intro p e s m args below meth c s₁ B hml hv
  obtain ⟨rfl, hF⟩ := hv
  have hx := B.exec
  have hb := B.bytes
  have hr := B.returns
  have hts := atoms_spec (ws := wsX3_sumOfFinite) B.pre
  have hown : s.vm.findClass RX3 = some m.cls := findClass_of_methodNamed B.named
  have hlocks := B.notSynchronized
  have hS : va_S pv_N s.heap s.heap [] := va_S.rf
  have hl := lv_entry ([.long p0, .long p1]) (n := 13) (Nat.le_of_ble_eq_true rfl)
  rw [lg_entry_eq]
  generalize (lg_sl ([.long p0, .long p1]) ++ List.replicate (13 - (lg_sl ([.long p0, .long p1])).length) Slot.unset).toArray = ls at hl ⊢
  have hl : lv_has ls 13 [(0, .long p0), (2, .long p1)] := hl
  obtain ⟨Z, hZ⟩ : ∃ z, z = MQ below (pm_QL (s_X3_sumOfFinite p0 p1)) ([.long p0, .long p1] : List Value).toArray s 0 0 pv_N := ⟨_, rfl⟩
  rw [← hZ]
  obtain ⟨Y, hY⟩ : ∃ y, y = s_X3_sumOfFinite p0 p1 := ⟨_, rfl⟩
  refine va_gets hx hb hF.1 hS hown (hts _ (List.mem_of_getElem? (i := 1) rfl)) (fun _ h9 => h9) dX3_sumOfFinite_0 ?_
  refine lv_lload_n hx hb dX3_sumOfFinite_3 rfl (lv_at hl 0 rfl) ?_
  refine pm_callI (va_runV (As := [.long p0]) (rest := []) ⟨hx, hb, hml, hown, hts⟩ (pm_X0_exponent l 52 (-1074) 9218868437227405312 (-9223372036854775808) dD p0) (cwV 1 hts gX3_sumOfFinite_X0_exponent rfl rfl rfl hdv_X0_exponent ⟨Nat.le_of_ble_eq_true rfl, Nat.le_of_ble_eq_true rfl⟩) ⟨KQ.fb, va_Orecv hF.2.2.1.1 hS, fun U hU hW => ⟨rfl, (KQ.call hF.2.2.1 hS U hU hW)⟩⟩ rfl rfl hl.1 rfl (lv_room (Nat.le_of_ble_eq_true rfl)) dX3_sumOfFinite_4 ⟨Nat.le_refl 0, Nat.le_refl 0⟩) hS (fun H locs _ _ hS => ?_)
  refine lv_topi (fun x_7 ex_7 => ?_)
  refine lv_istore (lv' := [(4, .int x_7), (0, .long p0), (2, .long p1)]) hx hb dX3_sumOfFinite_7 hl (by decide) rfl (fun ls hl => ?_)
  refine lv_iload hx hb dX3_sumOfFinite_9 (lv_at hl 0 rfl) ?_
  refine va_gets hx hb hF.1 hS hown (hts _ (List.mem_of_getElem? (i := 1) rfl)) (fun _ h9 => h9) dX3_sumOfFinite_11 ?_
  refine lv_lload_n hx hb dX3_sumOfFinite_14 rfl (lv_at hl 2 rfl) ?_
  refine pm_callI (va_runV (As := [.long p1]) (rest := [.int x_7]) ⟨hx, hb, hml, hown, hts⟩ (pm_X0_exponent l 52 (-1074) 9218868437227405312 (-9223372036854775808) dD p1) (cwV 1 hts gX3_sumOfFinite_X0_exponent rfl rfl rfl hdv_X0_exponent ⟨Nat.le_of_ble_eq_true rfl, Nat.le_of_ble_eq_true rfl⟩) ⟨KQ.fb, va_Orecv hF.2.2.1.1 hS, fun U hU hW => ⟨rfl, (KQ.call hF.2.2.1 hS U hU hW)⟩⟩ rfl rfl hl.1 rfl (lv_room (Nat.le_of_ble_eq_true rfl)) dX3_sumOfFinite_15 ⟨Nat.le_refl 0, Nat.le_refl 0⟩) hS (fun H locs _ _ hS => ?_)
  refine lv_isub hx hb dX3_sumOfFinite_18 ?_
  refine lv_topi (fun x_19 ex_19 => ?_)
  refine lv_istore (lv' := [(5, .int x_19), (4, .int x_7), (0, .long p0), (2, .long p1)]) hx hb dX3_sumOfFinite_19 hl (by decide) rfl (fun ls hl => ?_)
  refine va_gets hx hb hF.1 hS hown (hts _ (List.mem_of_getElem? (i := 1) rfl)) (fun _ h9 => h9) dX3_sumOfFinite_21 ?_
  refine lv_lload_n hx hb dX3_sumOfFinite_24 rfl (lv_at hl 2 rfl) ?_
  refine pm_callL (va_runV (As := [.long p0]) (rest := []) ⟨hx, hb, hml, hown, hts⟩ (pm_X0_significand l 52 (-1074) 9218868437227405312 (-9223372036854775808) dD p0) (cwV 1 hts gX3_sumOfFinite_X0_significand rfl rfl rfl hdv_X0_significand ⟨Nat.le_of_ble_eq_true rfl, Nat.le_of_ble_eq_true rfl⟩) ⟨KQ.fb, va_Orecv hF.2.2.1.1 hS, fun U hU hW => ⟨rfl, (KQ.call hF.2.2.1 hS U hU hW)⟩⟩ rfl rfl hl.1 rfl (lv_room (Nat.le_of_ble_eq_true rfl)) dX3_sumOfFinite_25 ⟨Nat.le_refl 0, Nat.le_refl 0⟩) hS (fun H locs _ _ hS => ?_)
  refine lv_bipush (v := 9) hx hb dX3_sumOfFinite_28 (by decide) ?_
  refine lv_lshl (v := lShl (s_X0_significand 52 (-1074) 9218868437227405312 (-9223372036854775808) p0) 9) hx hb dX3_sumOfFinite_30 rfl ?_
  refine lv_topl (fun x_31 ex_31 => ?_)
  refine lv_lstore (lv' := [(6, .long x_31), (5, .int x_19), (4, .int x_7), (0, .long p0), (2, .long p1)]) hx hb dX3_sumOfFinite_31 hl (by decide) rfl (fun ls hl => ?_)
  refine va_gets hx hb hF.1 hS hown (hts _ (List.mem_of_getElem? (i := 1) rfl)) (fun _ h9 => h9) dX3_sumOfFinite_33 ?_
  refine lv_lload_n hx hb dX3_sumOfFinite_36 rfl (lv_at hl 4 rfl) ?_
  refine pm_callL (va_runV (As := [.long p1]) (rest := []) ⟨hx, hb, hml, hown, hts⟩ (pm_X0_significand l 52 (-1074) 9218868437227405312 (-9223372036854775808) dD p1) (cwV 1 hts gX3_sumOfFinite_X0_significand rfl rfl rfl hdv_X0_significand ⟨Nat.le_of_ble_eq_true rfl, Nat.le_of_ble_eq_true rfl⟩) ⟨KQ.fb, va_Orecv hF.2.2.1.1 hS, fun U hU hW => ⟨rfl, (KQ.call hF.2.2.1 hS U hU hW)⟩⟩ rfl rfl hl.1 rfl (lv_room (Nat.le_of_ble_eq_true rfl)) dX3_sumOfFinite_37 ⟨Nat.le_refl 0, Nat.le_refl 0⟩) hS (fun H locs _ _ hS => ?_)
  refine lv_bipush (v := 9) hx hb dX3_sumOfFinite_40 (by decide) ?_
  refine lv_lshl (v := lShl (s_X0_significand 52 (-1074) 9218868437227405312 (-9223372036854775808) p1) 9) hx hb dX3_sumOfFinite_42 rfl ?_
  refine lv_iload hx hb dX3_sumOfFinite_43 (lv_at hl 1 rfl) ?_
  refine pm_callL (va_runS (As := [.long (lShl (s_X0_significand 52 (-1074) 9218868437227405312 (-9223372036854775808) p1) 9), .int x_19]) (rest := []) ⟨hx, hb, hml, hown, hts⟩ (pm_X3_movedDown l (lShl (s_X0_significand 52 (-1074) 9218868437227405312 (-9223372036854775808) p1) 9) x_19) (va_cwS 2 hts gX3_sumOfFinite_X3_movedDown rfl rfl rfl hd_X3_movedDown ⟨Nat.le_of_ble_eq_true rfl, Nat.le_of_ble_eq_true rfl⟩) ⟨pm_fbT, fun U hU hW => ⟨rfl, trivial⟩⟩ rfl rfl hl.1 rfl (lv_room (Nat.le_of_ble_eq_true rfl)) dX3_sumOfFinite_45 ⟨Nat.le_refl 0, Nat.le_refl 0⟩) hS (fun H locs _ _ hS => ?_)
  refine lv_topl (fun x_48 ex_48 => ?_)
  refine lv_lstore (lv' := [(8, .long x_48), (6, .long x_31), (5, .int x_19), (4, .int x_7), (0, .long p0), (2, .long p1)]) hx hb dX3_sumOfFinite_48 hl (by decide) rfl (fun ls hl => ?_)
  refine lv_lload_n hx hb dX3_sumOfFinite_50 rfl (lv_at hl 4 rfl) ?_
  refine lv_lconst (v := 0) hx hb dX3_sumOfFinite_51 (by decide) ?_
  have K_61 : ∀ (z_61_0 : Int32) (H : Heap) (locs : List Loc), va_S pv_N s.heap H locs → ∀ (ls : Array Slot), lv_has ls 13 [(0, .long p0), (2, .long p1), (4, .int x_7), (6, .long x_31), (8, .long x_48)] → s_X3_sumOfFinite p0 p1 = s_X3_sumOfFinite_j61 p0 p1 x_31 x_48 x_7 z_61_0 → W p l e (pm_R 3 73) s m ([.long p0, .long p1] : List Value).toArray below meth c H locs 0 0 Z (F0 m 61 ls [.int z_61_0]) := by
    intro z_61_0 H locs hS ls hl hK_61
    refine lv_lload_n hx hb dX3_sumOfFinite_61 rfl (lv_at hl 1 rfl) ?_
    refine lv_lconst (v := 0) hx hb dX3_sumOfFinite_62 (by decide) ?_
    have K_72 : ∀ (z_72_0 : Int32) (H : Heap) (locs : List Loc), va_S pv_N s.heap H locs → ∀ (ls : Array Slot), lv_has ls 13 [(0, .long p0), (4, .int x_7), (6, .long x_31), (8, .long x_48)] → s_X3_sumOfFinite p0 p1 = s_X3_sumOfFinite_j72 p0 p1 z_61_0 x_31 x_48 x_7 z_72_0 → W p l e (pm_R 3 73) s m ([.long p0, .long p1] : List Value).toArray below meth c H locs 0 0 Z (F0 m 72 ls [.int z_72_0, .int z_61_0]) := by
      intro z_72_0 H locs hS ls hl hK_72
      have K_80 : ∀ (z_80_0 : Int32) (H : Heap) (locs : List Loc), va_S pv_N s.heap H locs → ∀ (ls : Array Slot), lv_has ls 13 [(0, .long p0), (4, .int x_7), (6, .long x_31), (8, .long x_48)] → s_X3_sumOfFinite p0 p1 = s_X3_sumOfFinite_j80 p0 p1 x_31 x_48 x_7 z_80_0 → W p l e (pm_R 3 73) s m ([.long p0, .long p1] : List Value).toArray below meth c H locs 0 0 Z (F0 m 80 ls [.int z_80_0]) := by
        intro z_80_0 H locs hS ls hl hK_80
        refine lv_istore (lv' := [(10, .int z_80_0), (0, .long p0), (4, .int x_7), (6, .long x_31), (8, .long x_48)]) hx hb dX3_sumOfFinite_80 hl (by decide) rfl (fun ls hl => ?_)
        refine lv_iload hx hb dX3_sumOfFinite_82 (lv_at hl 0 rfl) ?_
        have K_100 : ∀ (z_100_0 : Int64) (H : Heap) (locs : List Loc), va_S pv_N s.heap H locs → ∀ (ls : Array Slot), lv_has ls 13 [(0, .long p0), (4, .int x_7)] → s_X3_sumOfFinite p0 p1 = s_X3_sumOfFinite_j100 p0 p1 x_7 z_100_0 → W p l e (pm_R 3 73) s m ([.long p0, .long p1] : List Value).toArray below meth c H locs 0 0 Z (F0 m 100 ls [.long z_100_0]) := by
          intro z_100_0 H locs hS ls hl hK_100
          refine lv_lstore (lv' := [(11, .long z_100_0), (0, .long p0), (4, .int x_7)]) hx hb dX3_sumOfFinite_100 hl (by decide) rfl (fun ls hl => ?_)
          refine va_gets hx hb hF.1 hS hown (hts _ (List.mem_of_getElem? (i := 1) rfl)) (fun _ h9 => h9) dX3_sumOfFinite_102 ?_
          refine lv_lload_n hx hb dX3_sumOfFinite_105 rfl (lv_at hl 1 rfl) ?_
          refine lv_lconst (v := 0) hx hb dX3_sumOfFinite_106 (by decide) ?_
          have K_123 : ∀ (z_123_0 : Int32) (H : Heap) (locs : List Loc), va_S pv_N s.heap H locs → ∀ (ls : Array Slot), lv_has ls 13 [(4, .int x_7), (11, .long z_100_0)] → s_X3_sumOfFinite p0 p1 = s_X3_sumOfFinite_j123 p0 p1 z_100_0 x_7 z_123_0 → W p l e (pm_R 3 73) s m ([.long p0, .long p1] : List Value).toArray below meth c H locs 0 0 Z (F0 m 123 ls [.int z_123_0, .ref dD]) := by
            intro z_123_0 H locs hS ls hl hK_123
            refine lv_iload hx hb dX3_sumOfFinite_123 (lv_at hl 0 rfl) ?_
            refine lv_bipush (v := 9) hx hb dX3_sumOfFinite_125 (by decide) ?_
            refine lv_isub hx hb dX3_sumOfFinite_127 ?_
            refine lv_lload hx hb dX3_sumOfFinite_128 (lv_at hl 1 rfl) ?_
            refine pm_callL (va_runV (As := [.int z_123_0, .int (x_7 - 9), .long z_100_0]) (rest := []) ⟨hx, hb, hml, hown, hts⟩ (pm_X0_pack l 52 (-1074) 9218868437227405312 (-9223372036854775808) dD z_123_0 (x_7 - 9) z_100_0) (cwV 3 hts gX3_sumOfFinite_X0_pack rfl rfl rfl hdv_X0_pack ⟨Nat.le_of_ble_eq_true rfl, Nat.le_of_ble_eq_true rfl⟩) ⟨KQ.fb, va_Orecv hF.2.2.1.1 hS, fun U hU hW => ⟨rfl, (KQ.call hF.2.2.1 hS U hU hW)⟩⟩ rfl rfl hl.1 rfl (lv_room (Nat.le_of_ble_eq_true rfl)) dX3_sumOfFinite_130 ⟨Nat.le_refl 0, Nat.le_refl 0⟩) hS (fun H locs _ _ hS => ?_)
            rw [hZ]
            exact pm_lret (w := s_X3_sumOfFinite p0 p1) hx hb hr hlocks hS (by subst ex_48 ex_31 ex_19 ex_7; exact (hK_123.trans rfl).symm) dX3_sumOfFinite_133
          refine lp_ge (tgt := 122) hx hb dX3_sumOfFinite_107 dX3_sumOfFinite_108 (by decide) (fun c_107 => ?_) (fun c_107 => ?_)
          ·
            refine lv_iconst (v := 0) hx hb dX3_sumOfFinite_122 (by decide) ?_
            exact K_123 0 _ _ hS ls (lv_sub hl [2, 0] rfl) (by subst ex_48 ex_31 ex_19 ex_7; exact hK_100.trans (if_pos c_107))
          ·
            refine lv_lload hx hb dX3_sumOfFinite_111 (lv_at hl 0 rfl) ?_
            refine lv_lconst (v := 0) hx hb dX3_sumOfFinite_113 (by decide) ?_
            refine lp_eq (tgt := 122) hx hb dX3_sumOfFinite_114 dX3_sumOfFinite_115 (by decide) (fun c_114 => ?_) (fun c_114 => ?_)
            ·
              refine lv_iconst (v := 0) hx hb dX3_sumOfFinite_122 (by decide) ?_
              exact K_123 0 _ _ hS ls (lv_sub hl [2, 0] rfl) (by subst ex_48 ex_31 ex_19 ex_7; exact hK_100.trans ((if_neg c_107).trans (if_pos c_114)))
            ·
              refine lv_iconst (v := 1) hx hb dX3_sumOfFinite_118 (by decide) ?_
              refine lv_goto (tgt := 123) hx hb dX3_sumOfFinite_119 (by decide) ?_
              exact K_123 1 _ _ hS ls (lv_sub hl [2, 0] rfl) (by subst ex_48 ex_31 ex_19 ex_7; exact hK_100.trans ((if_neg c_107).trans (if_neg c_114)))
        refine lv_if_eq (tgt := 95) hx hb dX3_sumOfFinite_84 (by decide) (fun c_84 => ?_) (fun c_84 => ?_)
        ·
          refine lv_lload hx hb dX3_sumOfFinite_95 (lv_at hl 3 rfl) ?_
          refine lv_lload hx hb dX3_sumOfFinite_97 (lv_at hl 4 rfl) ?_
          refine lv_lsub hx hb dX3_sumOfFinite_99 ?_
          exact K_100 (x_31 - x_48) _ _ hS ls (lv_sub hl [1, 2] rfl) (by subst ex_48 ex_31 ex_19 ex_7; exact hK_80.trans (if_pos c_84))
        ·
          refine lv_lload hx hb dX3_sumOfFinite_87 (lv_at hl 3 rfl) ?_
          refine lv_lload hx hb dX3_sumOfFinite_89 (lv_at hl 4 rfl) ?_
          refine lv_ladd hx hb dX3_sumOfFinite_91 ?_
          refine lv_goto (tgt := 100) hx hb dX3_sumOfFinite_92 (by decide) ?_
          exact K_100 (x_31 + x_48) _ _ hS ls (lv_sub hl [1, 2] rfl) (by subst ex_48 ex_31 ex_19 ex_7; exact hK_80.trans (if_neg c_84))
      refine lv_icmp_ne (tgt := 79) hx hb dX3_sumOfFinite_72 (by decide) (fun c_72 => ?_) (fun c_72 => ?_)
      ·
        refine lv_iconst (v := 0) hx hb dX3_sumOfFinite_79 (by decide) ?_
        exact K_80 0 _ _ hS ls (lv_sub hl [0, 1, 2, 3] rfl) (by subst ex_48 ex_31 ex_19 ex_7; exact hK_72.trans (if_neg c_72))
      ·
        refine lv_iconst (v := 1) hx hb dX3_sumOfFinite_75 (by decide) ?_
        refine lv_goto (tgt := 80) hx hb dX3_sumOfFinite_76 (by decide) ?_
        exact K_80 1 _ _ hS ls (lv_sub hl [0, 1, 2, 3] rfl) (by subst ex_48 ex_31 ex_19 ex_7; exact hK_72.trans (if_pos c_72))
    refine lp_ge (tgt := 71) hx hb dX3_sumOfFinite_63 dX3_sumOfFinite_64 (by decide) (fun c_63 => ?_) (fun c_63 => ?_)
    ·
      refine lv_iconst (v := 0) hx hb dX3_sumOfFinite_71 (by decide) ?_
      exact K_72 0 _ _ hS ls (lv_sub hl [0, 2, 3, 4] rfl) (by subst ex_48 ex_31 ex_19 ex_7; exact hK_61.trans (if_pos c_63))
    ·
      refine lv_iconst (v := 1) hx hb dX3_sumOfFinite_67 (by decide) ?_
      refine lv_goto (tgt := 72) hx hb dX3_sumOfFinite_68 (by decide) ?_
      exact K_72 1 _ _ hS ls (lv_sub hl [0, 2, 3, 4] rfl) (by subst ex_48 ex_31 ex_19 ex_7; exact hK_61.trans (if_neg c_63))
  refine lp_ge (tgt := 60) hx hb dX3_sumOfFinite_52 dX3_sumOfFinite_53 (by decide) (fun c_52 => ?_) (fun c_52 => ?_)
  ·
    refine lv_iconst (v := 0) hx hb dX3_sumOfFinite_60 (by decide) ?_
    exact K_61 0 _ _ hS ls (lv_sub hl [4, 5, 3, 1, 0] rfl) (by subst ex_48 ex_31 ex_19 ex_7; exact (if_pos c_52))
  ·
    refine lv_iconst (v := 1) hx hb dX3_sumOfFinite_56 (by decide) ?_
    refine lv_goto (tgt := 61) hx hb dX3_sumOfFinite_57 (by decide) ?_
    exact K_61 1 _ _ hS ls (lv_sub hl [4, 5, 3, 1, 0] rfl) (by subst ex_48 ex_31 ex_19 ex_7; exact (if_neg c_52))
theorem hd_X3_sum : yX3_sum.cls ≠ "java/lang/invoke/MethodHandle" ∧ yX3_sum.cls ≠ "java/lang/invoke/VarHandle" ∧ (parseMethodDescriptor yX3_sum.desc).map (fun d => d.parameters.length) = some 2 := by decide +kernel
def s_X3_sum_j111 (p0 : Int64) (p1 : Int64) (z_99_0 : Int64) (z_111_0 : Int64) : Int64 :=
  if (s_X0_isZero 52 (-1074) 9218868437227405312 (-9223372036854775808) z_99_0) = 0 then if (s_X0_isInfinite 52 (-1074) 9218868437227405312 (-9223372036854775808) z_99_0) = 0 then if (s_X0_isZero 52 (-1074) 9218868437227405312 (-9223372036854775808) z_111_0) = 0 then s_X3_sumOfFinite z_99_0 z_111_0
  else z_99_0
  else z_99_0
  else p0 &&& p1
def s_X3_sum_j99 (p0 : Int64) (p1 : Int64) (z_87_0 : Int32) (z_99_0 : Int64) : Int64 :=
  if z_87_0 = 0 then s_X3_sum_j111 p0 p1 z_99_0 p0
  else s_X3_sum_j111 p0 p1 z_99_0 p1
def s_X3_sum_j87 (p0 : Int64) (p1 : Int64) (z_87_0 : Int32) : Int64 :=
  if z_87_0 = 0 then s_X3_sum_j99 p0 p1 z_87_0 p1
  else s_X3_sum_j99 p0 p1 z_87_0 p0
def s_X3_sum (p0 : Int64) (p1 : Int64) : Int64 :=
  if (s_X0_isNaN 52 (-1074) 9218868437227405312 (-9223372036854775808) p0) = 0 then if (s_X0_isNaN 52 (-1074) 9218868437227405312 (-9223372036854775808) p1) = 0 then if (s_X0_isInfinite 52 (-1074) 9218868437227405312 (-9223372036854775808) p0) = 0 then if (s_X0_magnitude 52 (-1074) 9218868437227405312 (-9223372036854775808) p0) < (s_X0_magnitude 52 (-1074) 9218868437227405312 (-9223372036854775808) p1) then s_X3_sum_j87 p0 p1 0
  else s_X3_sum_j87 p0 p1 1
  else if (s_X0_isInfinite 52 (-1074) 9218868437227405312 (-9223372036854775808) p1) = 0 then p0
  else if p0 = p1 then p0
  else s_X0_plainNaN 52 (-1074) 9218868437227405312 (-9223372036854775808)
  else s_X0_plainNaN 52 (-1074) 9218868437227405312 (-9223372036854775808)
  else s_X0_plainNaN 52 (-1074) 9218868437227405312 (-9223372036854775808)
set_option maxHeartbeats 4000000 in
set_option maxRecDepth 100000 in
theorem pm_X3_sum (l : Launch) (dD dF : Nat) (p0 : Int64) (p1 : Int64) : PmL l yX3_sum wsX3_sum 4 105 [.long p0, .long p1] (fun U => KF dD dF pv_N U U.heap) (s_X3_sum p0 p1) := by
  refine Met.ofW (cc := cX3_sum) (maxL := 9) (ret := (some .long)) (by decide) rfl ?_
  intro p e s m args below meth c s₁ B hml hv
  obtain ⟨rfl, hF⟩ := hv
  have hx := B.exec
  have hb := B.bytes
  have hr := B.returns
  have hts := atoms_spec (ws := wsX3_sum) B.pre
  have hown : s.vm.findClass RX3 = some m.cls := findClass_of_methodNamed B.named
  have hlocks := B.notSynchronized
  have hS : va_S pv_N s.heap s.heap [] := va_S.rf
  have hl := lv_entry ([.long p0, .long p1]) (n := 9) (Nat.le_of_ble_eq_true rfl)
  rw [lg_entry_eq]
  generalize (lg_sl ([.long p0, .long p1]) ++ List.replicate (9 - (lg_sl ([.long p0, .long p1])).length) Slot.unset).toArray = ls at hl ⊢
  have hl : lv_has ls 9 [(0, .long p0), (2, .long p1)] := hl
  obtain ⟨Z, hZ⟩ : ∃ z, z = MQ below (pm_QL (s_X3_sum p0 p1)) ([.long p0, .long p1] : List Value).toArray s 0 0 pv_N := ⟨_, rfl⟩
  rw [← hZ]
  obtain ⟨Y, hY⟩ : ∃ y, y = s_X3_sum p0 p1 := ⟨_, rfl⟩
  refine va_gets hx hb hF.1 hS hown (hts _ (List.mem_of_getElem? (i := 1) rfl)) (fun _ h9 => h9) dX3_sum_0 ?_
  refine lv_lload_n hx hb dX3_sum_3 rfl (lv_at hl 0 rfl) ?_
  refine pm_callI (va_runV (As := [.long p0]) (rest := []) ⟨hx, hb, hml, hown, hts⟩ (pm_X0_isNaN l 52 (-1074) 9218868437227405312 (-9223372036854775808) dD p0) (cwV 1 hts gX3_sum_X0_isNaN rfl rfl rfl hdv_X0_isNaN ⟨Nat.le_of_ble_eq_true rfl, Nat.le_of_ble_eq_true rfl⟩) ⟨KQ.fb, va_Orecv hF.2.2.1.1 hS, fun U hU hW => ⟨rfl, (KQ.call hF.2.2.1 hS U hU hW)⟩⟩ rfl rfl hl.1 rfl (lv_room (Nat.le_of_ble_eq_true rfl)) dX3_sum_4 ⟨Nat.le_refl 0, Nat.le_refl 0⟩) hS (fun H locs _ _ hS => ?_)
  refine lv_if_ne (tgt := 20) hx hb dX3_sum_7 (by decide) (fun c_7 => ?_) (fun c_7 => ?_)
  ·
    refine va_gets hx hb hF.1 hS hown (hts _ (List.mem_of_getElem? (i := 1) rfl)) (fun _ h9 => h9) dX3_sum_20 ?_
    refine pm_callL (va_runV (As := []) (rest := []) ⟨hx, hb, hml, hown, hts⟩ (pm_X0_plainNaN l 52 (-1074) 9218868437227405312 (-9223372036854775808) dD) (cwV 0 hts gX3_sum_X0_plainNaN rfl rfl rfl hdv_X0_plainNaN ⟨Nat.le_of_ble_eq_true rfl, Nat.le_of_ble_eq_true rfl⟩) ⟨KQ.fb, va_Orecv hF.2.2.1.1 hS, fun U hU hW => ⟨rfl, (KQ.call hF.2.2.1 hS U hU hW)⟩⟩ rfl rfl hl.1 rfl (lv_room (Nat.le_of_ble_eq_true rfl)) dX3_sum_23 ⟨Nat.le_refl 0, Nat.le_refl 0⟩) hS (fun H locs _ _ hS => ?_)
    rw [hZ]
    exact pm_lret (w := s_X3_sum p0 p1) hx hb hr hlocks hS (by exact ((if_neg c_7)).symm) dX3_sum_26
  ·
    refine va_gets hx hb hF.1 hS hown (hts _ (List.mem_of_getElem? (i := 1) rfl)) (fun _ h9 => h9) dX3_sum_10 ?_
    refine lv_lload_n hx hb dX3_sum_13 rfl (lv_at hl 1 rfl) ?_
    refine pm_callI (va_runV (As := [.long p1]) (rest := []) ⟨hx, hb, hml, hown, hts⟩ (pm_X0_isNaN l 52 (-1074) 9218868437227405312 (-9223372036854775808) dD p1) (cwV 1 hts gX3_sum_X0_isNaN rfl rfl rfl hdv_X0_isNaN ⟨Nat.le_of_ble_eq_true rfl, Nat.le_of_ble_eq_true rfl⟩) ⟨KQ.fb, va_Orecv hF.2.2.1.1 hS, fun U hU hW => ⟨rfl, (KQ.call hF.2.2.1 hS U hU hW)⟩⟩ rfl rfl hl.1 rfl (lv_room (Nat.le_of_ble_eq_true rfl)) dX3_sum_14 ⟨Nat.le_refl 0, Nat.le_refl 0⟩) hS (fun H locs _ _ hS => ?_)
    refine lv_if_eq (tgt := 27) hx hb dX3_sum_17 (by decide) (fun c_17 => ?_) (fun c_17 => ?_)
    ·
      refine va_gets hx hb hF.1 hS hown (hts _ (List.mem_of_getElem? (i := 1) rfl)) (fun _ h9 => h9) dX3_sum_27 ?_
      refine lv_lload_n hx hb dX3_sum_30 rfl (lv_at hl 0 rfl) ?_
      refine pm_callI (va_runV (As := [.long p0]) (rest := []) ⟨hx, hb, hml, hown, hts⟩ (pm_X0_isInfinite l 52 (-1074) 9218868437227405312 (-9223372036854775808) dD p0) (cwV 1 hts gX3_sum_X0_isInfinite rfl rfl rfl hdv_X0_isInfinite ⟨Nat.le_of_ble_eq_true rfl, Nat.le_of_ble_eq_true rfl⟩) ⟨KQ.fb, va_Orecv hF.2.2.1.1 hS, fun U hU hW => ⟨rfl, (KQ.call hF.2.2.1 hS U hU hW)⟩⟩ rfl rfl hl.1 rfl (lv_room (Nat.le_of_ble_eq_true rfl)) dX3_sum_31 ⟨Nat.le_refl 0, Nat.le_refl 0⟩) hS (fun H locs _ _ hS => ?_)
      refine lv_if_eq (tgt := 64) hx hb dX3_sum_34 (by decide) (fun c_34 => ?_) (fun c_34 => ?_)
      ·
        refine va_gets hx hb hF.1 hS hown (hts _ (List.mem_of_getElem? (i := 1) rfl)) (fun _ h9 => h9) dX3_sum_64 ?_
        refine lv_lload_n hx hb dX3_sum_67 rfl (lv_at hl 0 rfl) ?_
        refine pm_callL (va_runV (As := [.long p0]) (rest := []) ⟨hx, hb, hml, hown, hts⟩ (pm_X0_magnitude l 52 (-1074) 9218868437227405312 (-9223372036854775808) dD p0) (cwV 1 hts gX3_sum_X0_magnitude rfl rfl rfl hdv_X0_magnitude ⟨Nat.le_of_ble_eq_true rfl, Nat.le_of_ble_eq_true rfl⟩) ⟨KQ.fb, va_Orecv hF.2.2.1.1 hS, fun U hU hW => ⟨rfl, (KQ.call hF.2.2.1 hS U hU hW)⟩⟩ rfl rfl hl.1 rfl (lv_room (Nat.le_of_ble_eq_true rfl)) dX3_sum_68 ⟨Nat.le_refl 0, Nat.le_refl 0⟩) hS (fun H locs _ _ hS => ?_)
        refine va_gets hx hb hF.1 hS hown (hts _ (List.mem_of_getElem? (i := 1) rfl)) (fun _ h9 => h9) dX3_sum_71 ?_
        refine lv_lload_n hx hb dX3_sum_74 rfl (lv_at hl 1 rfl) ?_
        refine pm_callL (va_runV (As := [.long p1]) (rest := [.long (s_X0_magnitude 52 (-1074) 9218868437227405312 (-9223372036854775808) p0)]) ⟨hx, hb, hml, hown, hts⟩ (pm_X0_magnitude l 52 (-1074) 9218868437227405312 (-9223372036854775808) dD p1) (cwV 1 hts gX3_sum_X0_magnitude rfl rfl rfl hdv_X0_magnitude ⟨Nat.le_of_ble_eq_true rfl, Nat.le_of_ble_eq_true rfl⟩) ⟨KQ.fb, va_Orecv hF.2.2.1.1 hS, fun U hU hW => ⟨rfl, (KQ.call hF.2.2.1 hS U hU hW)⟩⟩ rfl rfl hl.1 rfl (lv_room (Nat.le_of_ble_eq_true rfl)) dX3_sum_75 ⟨Nat.le_refl 0, Nat.le_refl 0⟩) hS (fun H locs _ _ hS => ?_)
        have K_87 : ∀ (z_87_0 : Int32) (H : Heap) (locs : List Loc), va_S pv_N s.heap H locs → ∀ (ls : Array Slot), lv_has ls 9 [(0, .long p0), (2, .long p1)] → s_X3_sum p0 p1 = s_X3_sum_j87 p0 p1 z_87_0 → W p l e (pm_R 4 105) s m ([.long p0, .long p1] : List Value).toArray below meth c H locs 0 0 Z (F0 m 87 ls [.int z_87_0]) := by
          intro z_87_0 H locs hS ls hl hK_87
          refine lv_istore (lv' := [(4, .int z_87_0), (0, .long p0), (2, .long p1)]) hx hb dX3_sum_87 hl (by decide) rfl (fun ls hl => ?_)
          refine lv_iload hx hb dX3_sum_89 (lv_at hl 0 rfl) ?_
          have K_99 : ∀ (z_99_0 : Int64) (H : Heap) (locs : List Loc), va_S pv_N s.heap H locs → ∀ (ls : Array Slot), lv_has ls 9 [(0, .long p0), (2, .long p1), (4, .int z_87_0)] → s_X3_sum p0 p1 = s_X3_sum_j99 p0 p1 z_87_0 z_99_0 → W p l e (pm_R 4 105) s m ([.long p0, .long p1] : List Value).toArray below meth c H locs 0 0 Z (F0 m 99 ls [.long z_99_0]) := by
            intro z_99_0 H locs hS ls hl hK_99
            refine lv_lstore (lv' := [(5, .long z_99_0), (0, .long p0), (2, .long p1), (4, .int z_87_0)]) hx hb dX3_sum_99 hl (by decide) rfl (fun ls hl => ?_)
            refine lv_iload hx hb dX3_sum_101 (lv_at hl 3 rfl) ?_
            have K_111 : ∀ (z_111_0 : Int64) (H : Heap) (locs : List Loc), va_S pv_N s.heap H locs → ∀ (ls : Array Slot), lv_has ls 9 [(0, .long p0), (2, .long p1), (5, .long z_99_0)] → s_X3_sum p0 p1 = s_X3_sum_j111 p0 p1 z_99_0 z_111_0 → W p l e (pm_R 4 105) s m ([.long p0, .long p1] : List Value).toArray below meth c H locs 0 0 Z (F0 m 111 ls [.long z_111_0]) := by
              intro z_111_0 H locs hS ls hl hK_111
              refine lv_lstore (lv' := [(7, .long z_111_0), (0, .long p0), (2, .long p1), (5, .long z_99_0)]) hx hb dX3_sum_111 hl (by decide) rfl (fun ls hl => ?_)
              refine va_gets hx hb hF.1 hS hown (hts _ (List.mem_of_getElem? (i := 1) rfl)) (fun _ h9 => h9) dX3_sum_113 ?_
              refine lv_lload hx hb dX3_sum_116 (lv_at hl 3 rfl) ?_
              refine pm_callI (va_runV (As := [.long z_99_0]) (rest := []) ⟨hx, hb, hml, hown, hts⟩ (pm_X0_isZero l 52 (-1074) 9218868437227405312 (-9223372036854775808) dD z_99_0) (cwV 1 hts gX3_sum_X0_isZero rfl rfl rfl hdv_X0_isZero ⟨Nat.le_of_ble_eq_true rfl, Nat.le_of_ble_eq_true rfl⟩) ⟨KQ.fb, va_Orecv hF.2.2.1.1 hS, fun U hU hW => ⟨rfl, (KQ.call hF.2.2.1 hS U hU hW)⟩⟩ rfl rfl hl.1 rfl (lv_room (Nat.le_of_ble_eq_true rfl)) dX3_sum_118 ⟨Nat.le_refl 0, Nat.le_refl 0⟩) hS (fun H locs _ _ hS => ?_)
              refine lv_if_eq (tgt := 128) hx hb dX3_sum_121 (by decide) (fun c_121 => ?_) (fun c_121 => ?_)
              ·
                refine va_gets hx hb hF.1 hS hown (hts _ (List.mem_of_getElem? (i := 1) rfl)) (fun _ h9 => h9) dX3_sum_128 ?_
                refine lv_lload hx hb dX3_sum_131 (lv_at hl 3 rfl) ?_
                refine pm_callI (va_runV (As := [.long z_99_0]) (rest := []) ⟨hx, hb, hml, hown, hts⟩ (pm_X0_isInfinite l 52 (-1074) 9218868437227405312 (-9223372036854775808) dD z_99_0) (cwV 1 hts gX3_sum_X0_isInfinite rfl rfl rfl hdv_X0_isInfinite ⟨Nat.le_of_ble_eq_true rfl, Nat.le_of_ble_eq_true rfl⟩) ⟨KQ.fb, va_Orecv hF.2.2.1.1 hS, fun U hU hW => ⟨rfl, (KQ.call hF.2.2.1 hS U hU hW)⟩⟩ rfl rfl hl.1 rfl (lv_room (Nat.le_of_ble_eq_true rfl)) dX3_sum_133 ⟨Nat.le_refl 0, Nat.le_refl 0⟩) hS (fun H locs _ _ hS => ?_)
                refine lv_if_ne (tgt := 150) hx hb dX3_sum_136 (by decide) (fun c_136 => ?_) (fun c_136 => ?_)
                ·
                  refine lv_lload hx hb dX3_sum_150 (lv_at hl 3 rfl) ?_
                  rw [hZ]
                  exact pm_lret (w := s_X3_sum p0 p1) hx hb hr hlocks hS (by exact (hK_111.trans ((if_pos c_121).trans (if_neg c_136))).symm) dX3_sum_152
                ·
                  refine va_gets hx hb hF.1 hS hown (hts _ (List.mem_of_getElem? (i := 1) rfl)) (fun _ h9 => h9) dX3_sum_139 ?_
                  refine lv_lload hx hb dX3_sum_142 (lv_at hl 0 rfl) ?_
                  refine pm_callI (va_runV (As := [.long z_111_0]) (rest := []) ⟨hx, hb, hml, hown, hts⟩ (pm_X0_isZero l 52 (-1074) 9218868437227405312 (-9223372036854775808) dD z_111_0) (cwV 1 hts gX3_sum_X0_isZero rfl rfl rfl hdv_X0_isZero ⟨Nat.le_of_ble_eq_true rfl, Nat.le_of_ble_eq_true rfl⟩) ⟨KQ.fb, va_Orecv hF.2.2.1.1 hS, fun U hU hW => ⟨rfl, (KQ.call hF.2.2.1 hS U hU hW)⟩⟩ rfl rfl hl.1 rfl (lv_room (Nat.le_of_ble_eq_true rfl)) dX3_sum_144 ⟨Nat.le_refl 0, Nat.le_refl 0⟩) hS (fun H locs _ _ hS => ?_)
                  refine lv_if_eq (tgt := 153) hx hb dX3_sum_147 (by decide) (fun c_147 => ?_) (fun c_147 => ?_)
                  ·
                    refine lv_lload hx hb dX3_sum_153 (lv_at hl 3 rfl) ?_
                    refine lv_lload hx hb dX3_sum_155 (lv_at hl 0 rfl) ?_
                    refine pm_callL (va_runS (As := [.long z_99_0, .long z_111_0]) (rest := []) ⟨hx, hb, hml, hown, hts⟩ (pm_X3_sumOfFinite l dD dF z_99_0 z_111_0) (va_cwS 2 hts gX3_sum_X3_sumOfFinite rfl rfl rfl hd_X3_sumOfFinite ⟨Nat.le_of_ble_eq_true rfl, Nat.le_of_ble_eq_true rfl⟩) ⟨KF.fb, fun U hU hW => ⟨rfl, (KF.call hF hS U hU hW)⟩⟩ rfl rfl hl.1 rfl (lv_room (Nat.le_of_ble_eq_true rfl)) dX3_sum_157 ⟨Nat.le_refl 0, Nat.le_refl 0⟩) hS (fun H locs _ _ hS => ?_)
                    rw [hZ]
                    exact pm_lret (w := s_X3_sum p0 p1) hx hb hr hlocks hS (by exact (hK_111.trans (((if_pos c_121).trans (if_pos c_136)).trans (if_pos c_147))).symm) dX3_sum_160
                  ·
                    refine lv_lload hx hb dX3_sum_150 (lv_at hl 3 rfl) ?_
                    rw [hZ]
                    exact pm_lret (w := s_X3_sum p0 p1) hx hb hr hlocks hS (by exact (hK_111.trans (((if_pos c_121).trans (if_pos c_136)).trans (if_neg c_147))).symm) dX3_sum_152
              ·
                refine lv_lload_n hx hb dX3_sum_124 rfl (lv_at hl 1 rfl) ?_
                refine lv_lload_n hx hb dX3_sum_125 rfl (lv_at hl 2 rfl) ?_
                refine lv_land hx hb dX3_sum_126 ?_
                rw [hZ]
                exact pm_lret (w := s_X3_sum p0 p1) hx hb hr hlocks hS (by exact (hK_111.trans (if_neg c_121)).symm) dX3_sum_127
            refine lv_if_eq (tgt := 110) hx hb dX3_sum_103 (by decide) (fun c_103 => ?_) (fun c_103 => ?_)
            ·
              refine lv_lload_n hx hb dX3_sum_110 rfl (lv_at hl 1 rfl) ?_
              exact K_111 p0 _ _ hS ls (lv_sub hl [1, 2, 0] rfl) (hK_99.trans (if_pos c_103))
            ·
              refine lv_lload_n hx hb dX3_sum_106 rfl (lv_at hl 2 rfl) ?_
              refine lv_goto (tgt := 111) hx hb dX3_sum_107 (by decide) ?_
              exact K_111 p1 _ _ hS ls (lv_sub hl [1, 2, 0] rfl) (hK_99.trans (if_neg c_103))
          refine lv_if_eq (tgt := 98) hx hb dX3_sum_91 (by decide) (fun c_91 => ?_) (fun c_91 => ?_)
          ·
            refine lv_lload_n hx hb dX3_sum_98 rfl (lv_at hl 2 rfl) ?_
            exact K_99 p1 _ _ hS ls (lv_sub hl [1, 2, 0] rfl) (hK_87.trans (if_pos c_91))
          ·
            refine lv_lload_n hx hb dX3_sum_94 rfl (lv_at hl 1 rfl) ?_
            refine lv_goto (tgt := 99) hx hb dX3_sum_95 (by decide) ?_
            exact K_99 p0 _ _ hS ls (lv_sub hl [1, 2, 0] rfl) (hK_87.trans (if_neg c_91))
        refine lp_lt (tgt := 86) hx hb dX3_sum_78 dX3_sum_79 (by decide) (fun c_78 => ?_) (fun c_78 => ?_)
        ·
          refine lv_iconst (v := 0) hx hb dX3_sum_86 (by decide) ?_
          exact K_87 0 _ _ hS ls (lv_sub hl [0, 1] rfl) (((((if_pos c_7).trans (if_pos c_17)).trans (if_pos c_34)).trans (if_pos c_78)))
        ·
          refine lv_iconst (v := 1) hx hb dX3_sum_82 (by decide) ?_
          refine lv_goto (tgt := 87) hx hb dX3_sum_83 (by decide) ?_
          exact K_87 1 _ _ hS ls (lv_sub hl [0, 1] rfl) (((((if_pos c_7).trans (if_pos c_17)).trans (if_pos c_34)).trans (if_neg c_78)))
      ·
        refine va_gets hx hb hF.1 hS hown (hts _ (List.mem_of_getElem? (i := 1) rfl)) (fun _ h9 => h9) dX3_sum_37 ?_
        refine lv_lload_n hx hb dX3_sum_40 rfl (lv_at hl 1 rfl) ?_
        refine pm_callI (va_runV (As := [.long p1]) (rest := []) ⟨hx, hb, hml, hown, hts⟩ (pm_X0_isInfinite l 52 (-1074) 9218868437227405312 (-9223372036854775808) dD p1) (cwV 1 hts gX3_sum_X0_isInfinite rfl rfl rfl hdv_X0_isInfinite ⟨Nat.le_of_ble_eq_true rfl, Nat.le_of_ble_eq_true rfl⟩) ⟨KQ.fb, va_Orecv hF.2.2.1.1 hS, fun U hU hW => ⟨rfl, (KQ.call hF.2.2.1 hS U hU hW)⟩⟩ rfl rfl hl.1 rfl (lv_room (Nat.le_of_ble_eq_true rfl)) dX3_sum_41 ⟨Nat.le_refl 0, Nat.le_refl 0⟩) hS (fun H locs _ _ hS => ?_)
        refine lv_if_eq (tgt := 62) hx hb dX3_sum_44 (by decide) (fun c_44 => ?_) (fun c_44 => ?_)
        ·
          refine lv_lload_n hx hb dX3_sum_62 rfl (lv_at hl 0 rfl) ?_
          rw [hZ]
          exact pm_lret (w := s_X3_sum p0 p1) hx hb hr hlocks hS (by exact (((((if_pos c_7).trans (if_pos c_17)).trans (if_neg c_34)).trans (if_pos c_44))).symm) dX3_sum_63
        ·
          refine lv_lload_n hx hb dX3_sum_47 rfl (lv_at hl 0 rfl) ?_
          refine lv_lload_n hx hb dX3_sum_48 rfl (lv_at hl 1 rfl) ?_
          refine lp_eq (tgt := 62) hx hb dX3_sum_49 dX3_sum_50 (by decide) (fun c_49 => ?_) (fun c_49 => ?_)
          ·
            refine lv_lload_n hx hb dX3_sum_62 rfl (lv_at hl 0 rfl) ?_
            rw [hZ]
            exact pm_lret (w := s_X3_sum p0 p1) hx hb hr hlocks hS (by exact ((((((if_pos c_7).trans (if_pos c_17)).trans (if_neg c_34)).trans (if_neg c_44)).trans (if_pos c_49))).symm) dX3_sum_63
          ·
            refine va_gets hx hb hF.1 hS hown (hts _ (List.mem_of_getElem? (i := 1) rfl)) (fun _ h9 => h9) dX3_sum_53 ?_
            refine pm_callL (va_runV (As := []) (rest := []) ⟨hx, hb, hml, hown, hts⟩ (pm_X0_plainNaN l 52 (-1074) 9218868437227405312 (-9223372036854775808) dD) (cwV 0 hts gX3_sum_X0_plainNaN rfl rfl rfl hdv_X0_plainNaN ⟨Nat.le_of_ble_eq_true rfl, Nat.le_of_ble_eq_true rfl⟩) ⟨KQ.fb, va_Orecv hF.2.2.1.1 hS, fun U hU hW => ⟨rfl, (KQ.call hF.2.2.1 hS U hU hW)⟩⟩ rfl rfl hl.1 rfl (lv_room (Nat.le_of_ble_eq_true rfl)) dX3_sum_56 ⟨Nat.le_refl 0, Nat.le_refl 0⟩) hS (fun H locs _ _ hS => ?_)
            refine lv_goto (tgt := 63) hx hb dX3_sum_59 (by decide) ?_
            rw [hZ]
            exact pm_lret (w := s_X3_sum p0 p1) hx hb hr hlocks hS (by exact ((((((if_pos c_7).trans (if_pos c_17)).trans (if_neg c_34)).trans (if_neg c_44)).trans (if_neg c_49))).symm) dX3_sum_63
    ·
      refine va_gets hx hb hF.1 hS hown (hts _ (List.mem_of_getElem? (i := 1) rfl)) (fun _ h9 => h9) dX3_sum_20 ?_
      refine pm_callL (va_runV (As := []) (rest := []) ⟨hx, hb, hml, hown, hts⟩ (pm_X0_plainNaN l 52 (-1074) 9218868437227405312 (-9223372036854775808) dD) (cwV 0 hts gX3_sum_X0_plainNaN rfl rfl rfl hdv_X0_plainNaN ⟨Nat.le_of_ble_eq_true rfl, Nat.le_of_ble_eq_true rfl⟩) ⟨KQ.fb, va_Orecv hF.2.2.1.1 hS, fun U hU hW => ⟨rfl, (KQ.call hF.2.2.1 hS U hU hW)⟩⟩ rfl rfl hl.1 rfl (lv_room (Nat.le_of_ble_eq_true rfl)) dX3_sum_23 ⟨Nat.le_refl 0, Nat.le_refl 0⟩) hS (fun H locs _ _ hS => ?_)
      rw [hZ]
      exact pm_lret (w := s_X3_sum p0 p1) hx hb hr hlocks hS (by exact (((if_pos c_7).trans (if_neg c_17))).symm) dX3_sum_26
theorem hd_X3_difference : yX3_difference.cls ≠ "java/lang/invoke/MethodHandle" ∧ yX3_difference.cls ≠ "java/lang/invoke/VarHandle" ∧ (parseMethodDescriptor yX3_difference.desc).map (fun d => d.parameters.length) = some 2 := by decide +kernel
def s_X3_difference (p0 : Int64) (p1 : Int64) : Int64 :=
  s_X3_sum p0 (p1 ^^^ (-9223372036854775808))
set_option maxHeartbeats 4000000 in
set_option maxRecDepth 100000 in
theorem pm_X3_difference (l : Launch) (dD dF : Nat) (p0 : Int64) (p1 : Int64) : PmL l yX3_difference wsX3_difference 5 133 [.long p0, .long p1] (fun U => KF dD dF pv_N U U.heap) (s_X3_difference p0 p1) := by
  refine Met.ofW (cc := cX3_difference) (maxL := 4) (ret := (some .long)) (by decide) rfl ?_
  intro p e s m args below meth c s₁ B hml hv
  obtain ⟨rfl, hF⟩ := hv
  have hx := B.exec
  have hb := B.bytes
  have hr := B.returns
  have hts := atoms_spec (ws := wsX3_difference) B.pre
  have hown : s.vm.findClass RX3 = some m.cls := findClass_of_methodNamed B.named
  have hlocks := B.notSynchronized
  have hS : va_S pv_N s.heap s.heap [] := va_S.rf
  have hl := lv_entry ([.long p0, .long p1]) (n := 4) (Nat.le_of_ble_eq_true rfl)
  rw [lg_entry_eq]
  generalize (lg_sl ([.long p0, .long p1]) ++ List.replicate (4 - (lg_sl ([.long p0, .long p1])).length) Slot.unset).toArray = ls at hl ⊢
  have hl : lv_has ls 4 [(0, .long p0), (2, .long p1)] := hl
  obtain ⟨Z, hZ⟩ : ∃ z, z = MQ below (pm_QL (s_X3_difference p0 p1)) ([.long p0, .long p1] : List Value).toArray s 0 0 pv_N := ⟨_, rfl⟩
  rw [← hZ]
  obtain ⟨Y, hY⟩ : ∃ y, y = s_X3_difference p0 p1 := ⟨_, rfl⟩
  refine lv_lload_n hx hb dX3_difference_0 rfl (lv_at hl 0 rfl) ?_
  refine lv_lload_n hx hb dX3_difference_1 rfl (lv_at hl 1 rfl) ?_
  refine lv_ldc2 (v := (-9223372036854775808)) hx hb hown (hts _ (List.mem_of_getElem? (i := 1) rfl)) dX3_difference_2 ?_
  refine lv_lxor hx hb dX3_difference_5 ?_
  refine pm_callL (va_runS (As := [.long p0, .long (p1 ^^^ (-9223372036854775808))]) (rest := []) ⟨hx, hb, hml, hown, hts⟩ (pm_X3_sum l dD dF p0 (p1 ^^^ (-9223372036854775808))) (va_cwS 2 hts gX3_difference_X3_sum rfl rfl rfl hd_X3_sum ⟨Nat.le_of_ble_eq_true rfl, Nat.le_of_ble_eq_true rfl⟩) ⟨KF.fb, fun U hU hW => ⟨rfl, (KF.call hF hS U hU hW)⟩⟩ rfl rfl hl.1 rfl (lv_room (Nat.le_of_ble_eq_true rfl)) dX3_difference_6 ⟨Nat.le_refl 0, Nat.le_refl 0⟩) hS (fun H locs _ _ hS => ?_)
  rw [hZ]
  exact pm_lret (w := s_X3_difference p0 p1) hx hb hr hlocks hS (by exact rfl) dX3_difference_9
theorem hd_X3_productOfFinite : yX3_productOfFinite.cls ≠ "java/lang/invoke/MethodHandle" ∧ yX3_productOfFinite.cls ≠ "java/lang/invoke/VarHandle" ∧ (parseMethodDescriptor yX3_productOfFinite.desc).map (fun d => d.parameters.length) = some 2 := by decide +kernel
def s_X3_productOfFinite_j156 (p0 : Int64) (p1 : Int64) (x_104 : Int64) (x_121 : Int32) (z_156_0 : Int32) : Int64 :=
  s_X0_pack 52 (-1074) 9218868437227405312 (-9223372036854775808) z_156_0 ((x_121 + 54) - 10) x_104
def s_X3_productOfFinite_j148 (p0 : Int64) (p1 : Int64) (z_137_0 : Int32) (x_104 : Int64) (x_121 : Int32) (z_148_0 : Int32) : Int64 :=
  if z_137_0 = z_148_0 then s_X3_productOfFinite_j156 p0 p1 x_104 x_121 0
  else s_X3_productOfFinite_j156 p0 p1 x_104 x_121 1
def s_X3_productOfFinite_j137 (p0 : Int64) (p1 : Int64) (x_104 : Int64) (x_121 : Int32) (z_137_0 : Int32) : Int64 :=
  if 0 ≤ p1 then s_X3_productOfFinite_j148 p0 p1 z_137_0 x_104 x_121 0
  else s_X3_productOfFinite_j148 p0 p1 z_137_0 x_104 x_121 1
def s_X3_productOfFinite (p0 : Int64) (p1 : Int64) : Int64 :=
  if 0 ≤ p0 then s_X3_productOfFinite_j137 p0 p1 ((lShl (((lUshr (s_X0_significand 52 (-1074) 9218868437227405312 (-9223372036854775808) p0) 27) * (lUshr (s_X0_significand 52 (-1074) 9218868437227405312 (-9223372036854775808) p1) 27)) + (lUshr (((lUshr (s_X0_significand 52 (-1074) 9218868437227405312 (-9223372036854775808) p0) 27) * ((s_X0_significand 52 (-1074) 9218868437227405312 (-9223372036854775808) p1) &&& (134217727))) + (((s_X0_significand 52 (-1074) 9218868437227405312 (-9223372036854775808) p0) &&& (134217727)) * (lUshr (s_X0_significand 52 (-1074) 9218868437227405312 (-9223372036854775808) p1) 27))) 27)) 10) + (s_X3_movedDown ((((s_X0_significand 52 (-1074) 9218868437227405312 (-9223372036854775808) p0) &&& (134217727)) * ((s_X0_significand 52 (-1074) 9218868437227405312 (-9223372036854775808) p1) &&& (134217727))) + (lShl ((((lUshr (s_X0_significand 52 (-1074) 9218868437227405312 (-9223372036854775808) p0) 27) * ((s_X0_significand 52 (-1074) 9218868437227405312 (-9223372036854775808) p1) &&& (134217727))) + (((s_X0_significand 52 (-1074) 9218868437227405312 (-9223372036854775808) p0) &&& (134217727)) * (lUshr (s_X0_significand 52 (-1074) 9218868437227405312 (-9223372036854775808) p1) 27))) &&& (134217727)) 27)) 44)) ((s_X0_exponent 52 (-1074) 9218868437227405312 (-9223372036854775808) p0) + (s_X0_exponent 52 (-1074) 9218868437227405312 (-9223372036854775808) p1)) 0
  else s_X3_productOfFinite_j137 p0 p1 ((lShl (((lUshr (s_X0_significand 52 (-1074) 9218868437227405312 (-9223372036854775808) p0) 27) * (lUshr (s_X0_significand 52 (-1074) 9218868437227405312 (-9223372036854775808) p1) 27)) + (lUshr (((lUshr (s_X0_significand 52 (-1074) 9218868437227405312 (-9223372036854775808) p0) 27) * ((s_X0_significand 52 (-1074) 9218868437227405312 (-9223372036854775808) p1) &&& (134217727))) + (((s_X0_significand 52 (-1074) 9218868437227405312 (-9223372036854775808) p0) &&& (134217727)) * (lUshr (s_X0_significand 52 (-1074) 9218868437227405312 (-9223372036854775808) p1) 27))) 27)) 10) + (s_X3_movedDown ((((s_X0_significand 52 (-1074) 9218868437227405312 (-9223372036854775808) p0) &&& (134217727)) * ((s_X0_significand 52 (-1074) 9218868437227405312 (-9223372036854775808) p1) &&& (134217727))) + (lShl ((((lUshr (s_X0_significand 52 (-1074) 9218868437227405312 (-9223372036854775808) p0) 27) * ((s_X0_significand 52 (-1074) 9218868437227405312 (-9223372036854775808) p1) &&& (134217727))) + (((s_X0_significand 52 (-1074) 9218868437227405312 (-9223372036854775808) p0) &&& (134217727)) * (lUshr (s_X0_significand 52 (-1074) 9218868437227405312 (-9223372036854775808) p1) 27))) &&& (134217727)) 27)) 44)) ((s_X0_exponent 52 (-1074) 9218868437227405312 (-9223372036854775808) p0) + (s_X0_exponent 52 (-1074) 9218868437227405312 (-9223372036854775808) p1)) 1
set_option maxHeartbeats 4000000 in
set_option maxRecDepth 100000 in
theorem pm_X3_productOfFinite (l : Launch) (dD dF : Nat) (p0 : Int64) (p1 : Int64) : PmL l yX3_productOfFinite wsX3_productOfFinite 3 73 [.long p0, .long p1] (fun U => KF dD dF pv_N U U.heap) (s_X3_productOfFinite p0 p1) := by
  refine Met.ofW (cc := cX3_productOfFinite) (maxL := 25) (ret := (some .long)) (by decide) rfl ?_
  intro p e s m args below meth c s₁ B hml hv
  obtain ⟨rfl, hF⟩ := hv
  have hx := B.exec
  have hb := B.bytes
  have hr := B.returns
  have hts := atoms_spec (ws := wsX3_productOfFinite) B.pre
  have hown : s.vm.findClass RX3 = some m.cls := findClass_of_methodNamed B.named
  have hlocks := B.notSynchronized
  have hS : va_S pv_N s.heap s.heap [] := va_S.rf
  have hl := lv_entry ([.long p0, .long p1]) (n := 25) (Nat.le_of_ble_eq_true rfl)
  rw [lg_entry_eq]
  generalize (lg_sl ([.long p0, .long p1]) ++ List.replicate (25 - (lg_sl ([.long p0, .long p1])).length) Slot.unset).toArray = ls at hl ⊢
  have hl : lv_has ls 25 [(0, .long p0), (2, .long p1)] := hl
  obtain ⟨Z, hZ⟩ : ∃ z, z = MQ below (pm_QL (s_X3_productOfFinite p0 p1)) ([.long p0, .long p1] : List Value).toArray s 0 0 pv_N := ⟨_, rfl⟩
  rw [← hZ]
  obtain ⟨Y, hY⟩ : ∃ y, y = s_X3_productOfFinite p0 p1 := ⟨_, rfl⟩
  refine va_gets hx hb hF.1 hS hown (hts _ (List.mem_of_getElem? (i := 1) rfl)) (fun _ h9 => h9) dX3_productOfFinite_0 ?_
  refine lv_lload_n hx hb dX3_productOfFinite_3 rfl (lv_at hl 0 rfl) ?_
  refine pm_callL (va_runV (As := [.long p0]) (rest := []) ⟨hx, hb, hml, hown, hts⟩ (pm_X0_significand l 52 (-1074) 9218868437227405312 (-9223372036854775808) dD p0) (cwV 1 hts gX3_productOfFinite_X0_significand rfl rfl rfl hdv_X0_significand ⟨Nat.le_of_ble_eq_true rfl, Nat.le_of_ble_eq_true rfl⟩) ⟨KQ.fb, va_Orecv hF.2.2.1.1 hS, fun U hU hW => ⟨rfl, (KQ.call hF.2.2.1 hS U hU hW)⟩⟩ rfl rfl hl.1 rfl (lv_room (Nat.le_of_ble_eq_true rfl)) dX3_productOfFinite_4 ⟨Nat.le_refl 0, Nat.le_refl 0⟩) hS (fun H locs _ _ hS => ?_)
  refine lv_topl (fun x_7 ex_7 => ?_)
  refine lv_lstore (lv' := [(4, .long x_7), (0, .long p0), (2, .long p1)]) hx hb dX3_productOfFinite_7 hl (by decide) rfl (fun ls hl => ?_)
  refine va_gets hx hb hF.1 hS hown (hts _ (List.mem_of_getElem? (i := 1) rfl)) (fun _ h9 => h9) dX3_productOfFinite_9 ?_
  refine lv_lload_n hx hb dX3_productOfFinite_12 rfl (lv_at hl 2 rfl) ?_
  refine pm_callL (va_runV (As := [.long p1]) (rest := []) ⟨hx, hb, hml, hown, hts⟩ (pm_X0_significand l 52 (-1074) 9218868437227405312 (-9223372036854775808) dD p1) (cwV 1 hts gX3_productOfFinite_X0_significand rfl rfl rfl hdv_X0_significand ⟨Nat.le_of_ble_eq_true rfl, Nat.le_of_ble_eq_true rfl⟩) ⟨KQ.fb, va_Orecv hF.2.2.1.1 hS, fun U hU hW => ⟨rfl, (KQ.call hF.2.2.1 hS U hU hW)⟩⟩ rfl rfl hl.1 rfl (lv_room (Nat.le_of_ble_eq_true rfl)) dX3_productOfFinite_13 ⟨Nat.le_refl 0, Nat.le_refl 0⟩) hS (fun H locs _ _ hS => ?_)
  refine lv_topl (fun x_16 ex_16 => ?_)
  refine lv_lstore (lv' := [(6, .long x_16), (4, .long x_7), (0, .long p0), (2, .long p1)]) hx hb dX3_productOfFinite_16 hl (by decide) rfl (fun ls hl => ?_)
  refine lv_lload hx hb dX3_productOfFinite_18 (lv_at hl 1 rfl) ?_
  refine lv_bipush (v := 27) hx hb dX3_productOfFinite_20 (by decide) ?_
  refine lv_lushr (v := lUshr x_7 27) hx hb dX3_productOfFinite_22 rfl ?_
  refine lv_topl (fun x_23 ex_23 => ?_)
  refine lv_lstore (lv' := [(8, .long x_23), (6, .long x_16), (4, .long x_7), (0, .long p0), (2, .long p1)]) hx hb dX3_productOfFinite_23 hl (by decide) rfl (fun ls hl => ?_)
  refine lv_lload hx hb dX3_productOfFinite_25 (lv_at hl 2 rfl) ?_
  refine lv_ldc2 (v := (134217727)) hx hb hown (hts _ (List.mem_of_getElem? (i := 2) rfl)) dX3_productOfFinite_27 ?_
  refine lv_land hx hb dX3_productOfFinite_30 ?_
  refine lv_topl (fun x_31 ex_31 => ?_)
  refine lv_lstore (lv' := [(10, .long x_31), (8, .long x_23), (6, .long x_16), (4, .long x_7), (0, .long p0), (2, .long p1)]) hx hb dX3_productOfFinite_31 hl (by decide) rfl (fun ls hl => ?_)
  refine lv_lload hx hb dX3_productOfFinite_33 (lv_at hl 2 rfl) ?_
  refine lv_bipush (v := 27) hx hb dX3_productOfFinite_35 (by decide) ?_
  refine lv_lushr (v := lUshr x_16 27) hx hb dX3_productOfFinite_37 rfl ?_
  refine lv_topl (fun x_38 ex_38 => ?_)
  refine lv_lstore (lv' := [(12, .long x_38), (10, .long x_31), (8, .long x_23), (6, .long x_16), (4, .long x_7), (0, .long p0), (2, .long p1)]) hx hb dX3_productOfFinite_38 hl (by decide) rfl (fun ls hl => ?_)
  refine lv_lload hx hb dX3_productOfFinite_40 (lv_at hl 3 rfl) ?_
  refine lv_ldc2 (v := (134217727)) hx hb hown (hts _ (List.mem_of_getElem? (i := 2) rfl)) dX3_productOfFinite_42 ?_
  refine lv_land hx hb dX3_productOfFinite_45 ?_
  refine lv_topl (fun x_46 ex_46 => ?_)
  refine lv_lstore (lv' := [(14, .long x_46), (12, .long x_38), (10, .long x_31), (8, .long x_23), (6, .long x_16), (4, .long x_7), (0, .long p0), (2, .long p1)]) hx hb dX3_productOfFinite_46 hl (by decide) rfl (fun ls hl => ?_)
  refine lv_lload hx hb dX3_productOfFinite_48 (lv_at hl 3 rfl) ?_
  refine lv_lload hx hb dX3_productOfFinite_50 (lv_at hl 0 rfl) ?_
  refine lv_lmul hx hb dX3_productOfFinite_52 ?_
  refine lv_lload hx hb dX3_productOfFinite_53 (lv_at hl 2 rfl) ?_
  refine lv_lload hx hb dX3_productOfFinite_55 (lv_at hl 1 rfl) ?_
  refine lv_lmul hx hb dX3_productOfFinite_57 ?_
  refine lv_ladd hx hb dX3_productOfFinite_58 ?_
  refine lv_topl (fun x_59 ex_59 => ?_)
  refine lv_lstore (lv' := [(16, .long x_59), (14, .long x_46), (12, .long x_38), (10, .long x_31), (8, .long x_23), (6, .long x_16), (4, .long x_7), (0, .long p0), (2, .long p1)]) hx hb dX3_productOfFinite_59 hl (by decide) rfl (fun ls hl => ?_)
  refine lv_lload hx hb dX3_productOfFinite_61 (lv_at hl 4 rfl) ?_
  refine lv_lload hx hb dX3_productOfFinite_63 (lv_at hl 2 rfl) ?_
  refine lv_lmul hx hb dX3_productOfFinite_65 ?_
  refine lv_lload hx hb dX3_productOfFinite_66 (lv_at hl 0 rfl) ?_
  refine lv_bipush (v := 27) hx hb dX3_productOfFinite_68 (by decide) ?_
  refine lv_lushr (v := lUshr x_59 27) hx hb dX3_productOfFinite_70 rfl ?_
  refine lv_ladd hx hb dX3_productOfFinite_71 ?_
  refine lv_topl (fun x_72 ex_72 => ?_)
  refine lv_lstore (lv' := [(18, .long x_72), (16, .long x_59), (14, .long x_46), (12, .long x_38), (10, .long x_31), (8, .long x_23), (6, .long x_16), (4, .long x_7), (0, .long p0), (2, .long p1)]) hx hb dX3_productOfFinite_72 hl (by decide) rfl (fun ls hl => ?_)
  refine lv_lload hx hb dX3_productOfFinite_74 (lv_at hl 4 rfl) ?_
  refine lv_lload hx hb dX3_productOfFinite_76 (lv_at hl 2 rfl) ?_
  refine lv_lmul hx hb dX3_productOfFinite_78 ?_
  refine lv_lload hx hb dX3_productOfFinite_79 (lv_at hl 1 rfl) ?_
  refine lv_ldc2 (v := (134217727)) hx hb hown (hts _ (List.mem_of_getElem? (i := 2) rfl)) dX3_productOfFinite_81 ?_
  refine lv_land hx hb dX3_productOfFinite_84 ?_
  refine lv_bipush (v := 27) hx hb dX3_productOfFinite_85 (by decide) ?_
  refine lv_lshl (v := lShl (x_59 &&& (134217727)) 27) hx hb dX3_productOfFinite_87 rfl ?_
  refine lv_ladd hx hb dX3_productOfFinite_88 ?_
  refine lv_topl (fun x_89 ex_89 => ?_)
  refine lv_lstore (lv' := [(20, .long x_89), (18, .long x_72), (16, .long x_59), (14, .long x_46), (12, .long x_38), (10, .long x_31), (8, .long x_23), (6, .long x_16), (4, .long x_7), (0, .long p0), (2, .long p1)]) hx hb dX3_productOfFinite_89 hl (by decide) rfl (fun ls hl => ?_)
  refine lv_lload hx hb dX3_productOfFinite_91 (lv_at hl 1 rfl) ?_
  refine lv_bipush (v := 10) hx hb dX3_productOfFinite_93 (by decide) ?_
  refine lv_lshl (v := lShl x_72 10) hx hb dX3_productOfFinite_95 rfl ?_
  refine lv_lload hx hb dX3_productOfFinite_96 (lv_at hl 0 rfl) ?_
  refine lv_bipush (v := 44) hx hb dX3_productOfFinite_98 (by decide) ?_
  refine pm_callL (va_runS (As := [.long x_89, .int 44]) (rest := [.long (lShl x_72 10)]) ⟨hx, hb, hml, hown, hts⟩ (pm_X3_movedDown l x_89 44) (va_cwS 2 hts gX3_productOfFinite_X3_movedDown rfl rfl rfl hd_X3_movedDown ⟨Nat.le_of_ble_eq_true rfl, Nat.le_of_ble_eq_true rfl⟩) ⟨pm_fbT, fun U hU hW => ⟨rfl, trivial⟩⟩ rfl rfl hl.1 rfl (lv_room (Nat.le_of_ble_eq_true rfl)) dX3_productOfFinite_100 ⟨Nat.le_refl 0, Nat.le_refl 0⟩) hS (fun H locs _ _ hS => ?_)
  refine lv_ladd hx hb dX3_productOfFinite_103 ?_
  refine lv_topl (fun x_104 ex_104 => ?_)
  refine lv_lstore (lv' := [(22, .long x_104), (20, .long x_89), (18, .long x_72), (16, .long x_59), (14, .long x_46), (12, .long x_38), (10, .long x_31), (8, .long x_23), (6, .long x_16), (4, .long x_7), (0, .long p0), (2, .long p1)]) hx hb dX3_productOfFinite_104 hl (by decide) rfl (fun ls hl => ?_)
  refine va_gets hx hb hF.1 hS hown (hts _ (List.mem_of_getElem? (i := 1) rfl)) (fun _ h9 => h9) dX3_productOfFinite_106 ?_
  refine lv_lload_n hx hb dX3_productOfFinite_109 rfl (lv_at hl 10 rfl) ?_
  refine pm_callI (va_runV (As := [.long p0]) (rest := []) ⟨hx, hb, hml, hown, hts⟩ (pm_X0_exponent l 52 (-1074) 9218868437227405312 (-9223372036854775808) dD p0) (cwV 1 hts gX3_productOfFinite_X0_exponent rfl rfl rfl hdv_X0_exponent ⟨Nat.le_of_ble_eq_true rfl, Nat.le_of_ble_eq_true rfl⟩) ⟨KQ.fb, va_Orecv hF.2.2.1.1 hS, fun U hU hW => ⟨rfl, (KQ.call hF.2.2.1 hS U hU hW)⟩⟩ rfl rfl hl.1 rfl (lv_room (Nat.le_of_ble_eq_true rfl)) dX3_productOfFinite_110 ⟨Nat.le_refl 0, Nat.le_refl 0⟩) hS (fun H locs _ _ hS => ?_)
  refine va_gets hx hb hF.1 hS hown (hts _ (List.mem_of_getElem? (i := 1) rfl)) (fun _ h9 => h9) dX3_productOfFinite_113 ?_
  refine lv_lload_n hx hb dX3_productOfFinite_116 rfl (lv_at hl 11 rfl) ?_
  refine pm_callI (va_runV (As := [.long p1]) (rest := [.int (s_X0_exponent 52 (-1074) 9218868437227405312 (-9223372036854775808) p0)]) ⟨hx, hb, hml, hown, hts⟩ (pm_X0_exponent l 52 (-1074) 9218868437227405312 (-9223372036854775808) dD p1) (cwV 1 hts gX3_productOfFinite_X0_exponent rfl rfl rfl hdv_X0_exponent ⟨Nat.le_of_ble_eq_true rfl, Nat.le_of_ble_eq_true rfl⟩) ⟨KQ.fb, va_Orecv hF.2.2.1.1 hS, fun U hU hW => ⟨rfl, (KQ.call hF.2.2.1 hS U hU hW)⟩⟩ rfl rfl hl.1 rfl (lv_room (Nat.le_of_ble_eq_true rfl)) dX3_productOfFinite_117 ⟨Nat.le_refl 0, Nat.le_refl 0⟩) hS (fun H locs _ _ hS => ?_)
  refine lv_iadd hx hb dX3_productOfFinite_120 ?_
  refine lv_topi (fun x_121 ex_121 => ?_)
  refine lv_istore (lv' := [(24, .int x_121), (22, .long x_104), (20, .long x_89), (18, .long x_72), (16, .long x_59), (14, .long x_46), (12, .long x_38), (10, .long x_31), (8, .long x_23), (6, .long x_16), (4, .long x_7), (0, .long p0), (2, .long p1)]) hx hb dX3_productOfFinite_121 hl (by decide) rfl (fun ls hl => ?_)
  refine va_gets hx hb hF.1 hS hown (hts _ (List.mem_of_getElem? (i := 1) rfl)) (fun _ h9 => h9) dX3_productOfFinite_123 ?_
  refine lv_lload_n hx hb dX3_productOfFinite_126 rfl (lv_at hl 11 rfl) ?_
  refine lv_lconst (v := 0) hx hb dX3_productOfFinite_127 (by decide) ?_
  have K_137 : ∀ (z_137_0 : Int32) (H : Heap) (locs : List Loc), va_S pv_N s.heap H locs → ∀ (ls : Array Slot), lv_has ls 25 [(2, .long p1), (22, .long x_104), (24, .int x_121)] → s_X3_productOfFinite p0 p1 = s_X3_productOfFinite_j137 p0 p1 x_104 x_121 z_137_0 → W p l e (pm_R 3 73) s m ([.long p0, .long p1] : List Value).toArray below meth c H locs 0 0 Z (F0 m 137 ls [.int z_137_0, .ref dD]) := by
    intro z_137_0 H locs hS ls hl hK_137
    refine lv_lload_n hx hb dX3_productOfFinite_137 rfl (lv_at hl 0 rfl) ?_
    refine lv_lconst (v := 0) hx hb dX3_productOfFinite_138 (by decide) ?_
    have K_148 : ∀ (z_148_0 : Int32) (H : Heap) (locs : List Loc), va_S pv_N s.heap H locs → ∀ (ls : Array Slot), lv_has ls 25 [(22, .long x_104), (24, .int x_121)] → s_X3_productOfFinite p0 p1 = s_X3_productOfFinite_j148 p0 p1 z_137_0 x_104 x_121 z_148_0 → W p l e (pm_R 3 73) s m ([.long p0, .long p1] : List Value).toArray below meth c H locs 0 0 Z (F0 m 148 ls [.int z_148_0, .int z_137_0, .ref dD]) := by
      intro z_148_0 H locs hS ls hl hK_148
      have K_156 : ∀ (z_156_0 : Int32) (H : Heap) (locs : List Loc), va_S pv_N s.heap H locs → ∀ (ls : Array Slot), lv_has ls 25 [(22, .long x_104), (24, .int x_121)] → s_X3_productOfFinite p0 p1 = s_X3_productOfFinite_j156 p0 p1 x_104 x_121 z_156_0 → W p l e (pm_R 3 73) s m ([.long p0, .long p1] : List Value).toArray below meth c H locs 0 0 Z (F0 m 156 ls [.int z_156_0, .ref dD]) := by
        intro z_156_0 H locs hS ls hl hK_156
        refine lv_iload hx hb dX3_productOfFinite_156 (lv_at hl 1 rfl) ?_
        refine lv_bipush (v := 54) hx hb dX3_productOfFinite_158 (by decide) ?_
        refine lv_iadd hx hb dX3_productOfFinite_160 ?_
        refine lv_bipush (v := 10) hx hb dX3_productOfFinite_161 (by decide) ?_
        refine lv_isub hx hb dX3_productOfFinite_163 ?_
        refine lv_lload hx hb dX3_productOfFinite_164 (lv_at hl 0 rfl) ?_
        refine pm_callL (va_runV (As := [.int z_156_0, .int ((x_121 + 54) - 10), .long x_104]) (rest := []) ⟨hx, hb, hml, hown, hts⟩ (pm_X0_pack l 52 (-1074) 9218868437227405312 (-9223372036854775808) dD z_156_0 ((x_121 + 54) - 10) x_104) (cwV 3 hts gX3_productOfFinite_X0_pack rfl rfl rfl hdv_X0_pack ⟨Nat.le_of_ble_eq_true rfl, Nat.le_of_ble_eq_true rfl⟩) ⟨KQ.fb, va_Orecv hF.2.2.1.1 hS, fun U hU hW => ⟨rfl, (KQ.call hF.2.2.1 hS U hU hW)⟩⟩ rfl rfl hl.1 rfl (lv_room (Nat.le_of_ble_eq_true rfl)) dX3_productOfFinite_166 ⟨Nat.le_refl 0, Nat.le_refl 0⟩) hS (fun H locs _ _ hS => ?_)
        rw [hZ]
        exact pm_lret (w := s_X3_productOfFinite p0 p1) hx hb hr hlocks hS (by subst ex_121 ex_104 ex_89 ex_72 ex_59 ex_46 ex_38 ex_31 ex_23 ex_16 ex_7; exact (hK_156.trans rfl).symm) dX3_productOfFinite_169
      refine lv_icmp_eq (tgt := 155) hx hb dX3_productOfFinite_148 (by decide) (fun c_148 => ?_) (fun c_148 => ?_)
      ·
        refine lv_iconst (v := 0) hx hb dX3_productOfFinite_155 (by decide) ?_
        exact K_156 0 _ _ hS ls (lv_sub hl [0, 1] rfl) (by subst ex_121 ex_104 ex_89 ex_72 ex_59 ex_46 ex_38 ex_31 ex_23 ex_16 ex_7; exact hK_148.trans (if_pos c_148))
      ·
        refine lv_iconst (v := 1) hx hb dX3_productOfFinite_151 (by decide) ?_
        refine lv_goto (tgt := 156) hx hb dX3_productOfFinite_152 (by decide) ?_
        exact K_156 1 _ _ hS ls (lv_sub hl [0, 1] rfl) (by subst ex_121 ex_104 ex_89 ex_72 ex_59 ex_46 ex_38 ex_31 ex_23 ex_16 ex_7; exact hK_148.trans (if_neg c_148))
    refine lp_ge (tgt := 147) hx hb dX3_productOfFinite_139 dX3_productOfFinite_140 (by decide) (fun c_139 => ?_) (fun c_139 => ?_)
    ·
      refine lv_iconst (v := 0) hx hb dX3_productOfFinite_147 (by decide) ?_
      exact K_148 0 _ _ hS ls (lv_sub hl [1, 2] rfl) (by subst ex_121 ex_104 ex_89 ex_72 ex_59 ex_46 ex_38 ex_31 ex_23 ex_16 ex_7; exact hK_137.trans (if_pos c_139))
    ·
      refine lv_iconst (v := 1) hx hb dX3_productOfFinite_143 (by decide) ?_
      refine lv_goto (tgt := 148) hx hb dX3_productOfFinite_144 (by decide) ?_
      exact K_148 1 _ _ hS ls (lv_sub hl [1, 2] rfl) (by subst ex_121 ex_104 ex_89 ex_72 ex_59 ex_46 ex_38 ex_31 ex_23 ex_16 ex_7; exact hK_137.trans (if_neg c_139))
  refine lp_ge (tgt := 136) hx hb dX3_productOfFinite_128 dX3_productOfFinite_129 (by decide) (fun c_128 => ?_) (fun c_128 => ?_)
  ·
    refine lv_iconst (v := 0) hx hb dX3_productOfFinite_136 (by decide) ?_
    exact K_137 0 _ _ hS ls (lv_sub hl [12, 1, 0] rfl) (by subst ex_121 ex_104 ex_89 ex_72 ex_59 ex_46 ex_38 ex_31 ex_23 ex_16 ex_7; exact (if_pos c_128))
  ·
    refine lv_iconst (v := 1) hx hb dX3_productOfFinite_132 (by decide) ?_
    refine lv_goto (tgt := 137) hx hb dX3_productOfFinite_133 (by decide) ?_
    exact K_137 1 _ _ hS ls (lv_sub hl [12, 1, 0] rfl) (by subst ex_121 ex_104 ex_89 ex_72 ex_59 ex_46 ex_38 ex_31 ex_23 ex_16 ex_7; exact (if_neg c_128))
theorem hd_X3_product : yX3_product.cls ≠ "java/lang/invoke/MethodHandle" ∧ yX3_product.cls ≠ "java/lang/invoke/VarHandle" ∧ (parseMethodDescriptor yX3_product.desc).map (fun d => d.parameters.length) = some 2 := by decide +kernel
def s_X3_product_j83 (p0 : Int64) (p1 : Int64) (z_61_0 : Int32) (x_34 : Int64) : Int64 :=
  if z_61_0 = 0 then x_34 ||| 9218868437227405312
  else s_X0_plainNaN 52 (-1074) 9218868437227405312 (-9223372036854775808)
def s_X3_product_j61 (p0 : Int64) (p1 : Int64) (x_34 : Int64) (z_61_0 : Int32) : Int64 :=
  if (s_X0_isInfinite 52 (-1074) 9218868437227405312 (-9223372036854775808) p0) = 0 then if (s_X0_isInfinite 52 (-1074) 9218868437227405312 (-9223372036854775808) p1) = 0 then if z_61_0 = 0 then s_X3_productOfFinite p0 p1
  else x_34
  else s_X3_product_j83 p0 p1 z_61_0 x_34
  else s_X3_product_j83 p0 p1 z_61_0 x_34
def s_X3_product (p0 : Int64) (p1 : Int64) : Int64 :=
  if (s_X0_isNaN 52 (-1074) 9218868437227405312 (-9223372036854775808) p0) = 0 then if (s_X0_isNaN 52 (-1074) 9218868437227405312 (-9223372036854775808) p1) = 0 then if (s_X0_isZero 52 (-1074) 9218868437227405312 (-9223372036854775808) p0) = 0 then if (s_X0_isZero 52 (-1074) 9218868437227405312 (-9223372036854775808) p1) = 0 then s_X3_product_j61 p0 p1 ((p0 ^^^ p1) &&& (-9223372036854775808)) 0
  else s_X3_product_j61 p0 p1 ((p0 ^^^ p1) &&& (-9223372036854775808)) 1
  else s_X3_product_j61 p0 p1 ((p0 ^^^ p1) &&& (-9223372036854775808)) 1
  else s_X0_plainNaN 52 (-1074) 9218868437227405312 (-9223372036854775808)
  else s_X0_plainNaN 52 (-1074) 9218868437227405312 (-9223372036854775808)
set_option maxHeartbeats 4000000 in
set_option maxRecDepth 100000 in
theorem pm_X3_product (l : Launch) (dD dF : Nat) (p0 : Int64) (p1 : Int64) : PmL l yX3_product wsX3_product 4 117 [.long p0, .long p1] (fun U => KF dD dF pv_N U U.heap) (s_X3_product p0 p1) := by
  refine Met.ofW (cc := cX3_product) (maxL := 7) (ret := (some .long)) (by decide) rfl ?_
  intro p e s m args below meth c s₁ B hml hv
  obtain ⟨rfl, hF⟩ := hv
  have hx := B.exec
  have hb := B.bytes
  have hr := B.returns
  have hts := atoms_spec (ws := wsX3_product) B.pre
  have hown : s.vm.findClass RX3 = some m.cls := findClass_of_methodNamed B.named
  have hlocks := B.notSynchronized
  have hS : va_S pv_N s.heap s.heap [] := va_S.rf
  have hl := lv_entry ([.long p0, .long p1]) (n := 7) (Nat.le_of_ble_eq_true rfl)
  rw [lg_entry_eq]
  generalize (lg_sl ([.long p0, .long p1]) ++ List.replicate (7 - (lg_sl ([.long p0, .long p1])).length) Slot.unset).toArray = ls at hl ⊢
  have hl : lv_has ls 7 [(0, .long p0), (2, .long p1)] := hl
  obtain ⟨Z, hZ⟩ : ∃ z, z = MQ below (pm_QL (s_X3_product p0 p1)) ([.long p0, .long p1] : List Value).toArray s 0 0 pv_N := ⟨_, rfl⟩
  rw [← hZ]
  obtain ⟨Y, hY⟩ : ∃ y, y = s_X3_product p0 p1 := ⟨_, rfl⟩
  refine va_gets hx hb hF.1 hS hown (hts _ (List.mem_of_getElem? (i := 1) rfl)) (fun _ h9 => h9) dX3_product_0 ?_
  refine lv_lload_n hx hb dX3_product_3 rfl (lv_at hl 0 rfl) ?_
  refine pm_callI (va_runV (As := [.long p0]) (rest := []) ⟨hx, hb, hml, hown, hts⟩ (pm_X0_isNaN l 52 (-1074) 9218868437227405312 (-9223372036854775808) dD p0) (cwV 1 hts gX3_product_X0_isNaN rfl rfl rfl hdv_X0_isNaN ⟨Nat.le_of_ble_eq_true rfl, Nat.le_of_ble_eq_true rfl⟩) ⟨KQ.fb, va_Orecv hF.2.2.1.1 hS, fun U hU hW => ⟨rfl, (KQ.call hF.2.2.1 hS U hU hW)⟩⟩ rfl rfl hl.1 rfl (lv_room (Nat.le_of_ble_eq_true rfl)) dX3_product_4 ⟨Nat.le_refl 0, Nat.le_refl 0⟩) hS (fun H locs _ _ hS => ?_)
  refine lv_if_ne (tgt := 20) hx hb dX3_product_7 (by decide) (fun c_7 => ?_) (fun c_7 => ?_)
  ·
    refine va_gets hx hb hF.1 hS hown (hts _ (List.mem_of_getElem? (i := 1) rfl)) (fun _ h9 => h9) dX3_product_20 ?_
    refine pm_callL (va_runV (As := []) (rest := []) ⟨hx, hb, hml, hown, hts⟩ (pm_X0_plainNaN l 52 (-1074) 9218868437227405312 (-9223372036854775808) dD) (cwV 0 hts gX3_product_X0_plainNaN rfl rfl rfl hdv_X0_plainNaN ⟨Nat.le_of_ble_eq_true rfl, Nat.le_of_ble_eq_true rfl⟩) ⟨KQ.fb, va_Orecv hF.2.2.1.1 hS, fun U hU hW => ⟨rfl, (KQ.call hF.2.2.1 hS U hU hW)⟩⟩ rfl rfl hl.1 rfl (lv_room (Nat.le_of_ble_eq_true rfl)) dX3_product_23 ⟨Nat.le_refl 0, Nat.le_refl 0⟩) hS (fun H locs _ _ hS => ?_)
    rw [hZ]
    exact pm_lret (w := s_X3_product p0 p1) hx hb hr hlocks hS (by exact ((if_neg c_7)).symm) dX3_product_26
  ·
    refine va_gets hx hb hF.1 hS hown (hts _ (List.mem_of_getElem? (i := 1) rfl)) (fun _ h9 => h9) dX3_product_10 ?_
    refine lv_lload_n hx hb dX3_product_13 rfl (lv_at hl 1 rfl) ?_
    refine pm_callI (va_runV (As := [.long p1]) (rest := []) ⟨hx, hb, hml, hown, hts⟩ (pm_X0_isNaN l 52 (-1074) 9218868437227405312 (-9223372036854775808) dD p1) (cwV 1 hts gX3_product_X0_isNaN rfl rfl rfl hdv_X0_isNaN ⟨Nat.le_of_ble_eq_true rfl, Nat.le_of_ble_eq_true rfl⟩) ⟨KQ.fb, va_Orecv hF.2.2.1.1 hS, fun U hU hW => ⟨rfl, (KQ.call hF.2.2.1 hS U hU hW)⟩⟩ rfl rfl hl.1 rfl (lv_room (Nat.le_of_ble_eq_true rfl)) dX3_product_14 ⟨Nat.le_refl 0, Nat.le_refl 0⟩) hS (fun H locs _ _ hS => ?_)
    refine lv_if_eq (tgt := 27) hx hb dX3_product_17 (by decide) (fun c_17 => ?_) (fun c_17 => ?_)
    ·
      refine lv_lload_n hx hb dX3_product_27 rfl (lv_at hl 0 rfl) ?_
      refine lv_lload_n hx hb dX3_product_28 rfl (lv_at hl 1 rfl) ?_
      refine lv_lxor hx hb dX3_product_29 ?_
      refine lv_ldc2 (v := (-9223372036854775808)) hx hb hown (hts _ (List.mem_of_getElem? (i := 2) rfl)) dX3_product_30 ?_
      refine lv_land hx hb dX3_product_33 ?_
      refine lv_topl (fun x_34 ex_34 => ?_)
      refine lv_lstore (lv' := [(4, .long x_34), (0, .long p0), (2, .long p1)]) hx hb dX3_product_34 hl (by decide) rfl (fun ls hl => ?_)
      refine va_gets hx hb hF.1 hS hown (hts _ (List.mem_of_getElem? (i := 1) rfl)) (fun _ h9 => h9) dX3_product_36 ?_
      refine lv_lload_n hx hb dX3_product_39 rfl (lv_at hl 1 rfl) ?_
      refine pm_callI (va_runV (As := [.long p0]) (rest := []) ⟨hx, hb, hml, hown, hts⟩ (pm_X0_isZero l 52 (-1074) 9218868437227405312 (-9223372036854775808) dD p0) (cwV 1 hts gX3_product_X0_isZero rfl rfl rfl hdv_X0_isZero ⟨Nat.le_of_ble_eq_true rfl, Nat.le_of_ble_eq_true rfl⟩) ⟨KQ.fb, va_Orecv hF.2.2.1.1 hS, fun U hU hW => ⟨rfl, (KQ.call hF.2.2.1 hS U hU hW)⟩⟩ rfl rfl hl.1 rfl (lv_room (Nat.le_of_ble_eq_true rfl)) dX3_product_40 ⟨Nat.le_refl 0, Nat.le_refl 0⟩) hS (fun H locs _ _ hS => ?_)
      have K_61 : ∀ (z_61_0 : Int32) (H : Heap) (locs : List Loc), va_S pv_N s.heap H locs → ∀ (ls : Array Slot), lv_has ls 7 [(0, .long p0), (2, .long p1), (4, .long x_34)] → s_X3_product p0 p1 = s_X3_product_j61 p0 p1 x_34 z_61_0 → W p l e (pm_R 4 117) s m ([.long p0, .long p1] : List Value).toArray below meth c H locs 0 0 Z (F0 m 61 ls [.int z_61_0]) := by
        intro z_61_0 H locs hS ls hl hK_61
        refine lv_istore (lv' := [(6, .int z_61_0), (0, .long p0), (2, .long p1), (4, .long x_34)]) hx hb dX3_product_61 hl (by decide) rfl (fun ls hl => ?_)
        refine va_gets hx hb hF.1 hS hown (hts _ (List.mem_of_getElem? (i := 1) rfl)) (fun _ h9 => h9) dX3_product_63 ?_
        refine lv_lload_n hx hb dX3_product_66 rfl (lv_at hl 1 rfl) ?_
        refine pm_callI (va_runV (As := [.long p0]) (rest := []) ⟨hx, hb, hml, hown, hts⟩ (pm_X0_isInfinite l 52 (-1074) 9218868437227405312 (-9223372036854775808) dD p0) (cwV 1 hts gX3_product_X0_isInfinite rfl rfl rfl hdv_X0_isInfinite ⟨Nat.le_of_ble_eq_true rfl, Nat.le_of_ble_eq_true rfl⟩) ⟨KQ.fb, va_Orecv hF.2.2.1.1 hS, fun U hU hW => ⟨rfl, (KQ.call hF.2.2.1 hS U hU hW)⟩⟩ rfl rfl hl.1 rfl (lv_room (Nat.le_of_ble_eq_true rfl)) dX3_product_67 ⟨Nat.le_refl 0, Nat.le_refl 0⟩) hS (fun H locs _ _ hS => ?_)
        have K_83 : ∀ (H : Heap) (locs : List Loc), va_S pv_N s.heap H locs → ∀ (ls : Array Slot), lv_has ls 7 [(4, .long x_34), (6, .int z_61_0)] → s_X3_product p0 p1 = s_X3_product_j83 p0 p1 z_61_0 x_34 → W p l e (pm_R 4 117) s m ([.long p0, .long p1] : List Value).toArray below meth c H locs 0 0 Z (F0 m 83 ls []) := by
          intro H locs hS ls hl hK_83
          refine lv_iload hx hb dX3_product_83 (lv_at hl 1 rfl) ?_
          refine lv_if_eq (tgt := 97) hx hb dX3_product_85 (by decide) (fun c_85 => ?_) (fun c_85 => ?_)
          ·
            refine lv_lload hx hb dX3_product_97 (lv_at hl 0 rfl) ?_
            refine va_gets hx hb hF.1 hS hown (hts _ (List.mem_of_getElem? (i := 1) rfl)) (fun _ h9 => h9) dX3_product_99 ?_
            refine vk_getf hx hb hF.2.2.1.2.2.2.1 hS hown (hts _ (List.mem_of_getElem? (i := 3) rfl)) (fun _ h9 => h9) dX3_product_102 ?_
            refine lv_lor hx hb dX3_product_105 ?_
            rw [hZ]
            exact pm_lret (w := s_X3_product p0 p1) hx hb hr hlocks hS (by subst ex_34; exact (hK_83.trans (if_pos c_85)).symm) dX3_product_106
          ·
            refine va_gets hx hb hF.1 hS hown (hts _ (List.mem_of_getElem? (i := 1) rfl)) (fun _ h9 => h9) dX3_product_88 ?_
            refine pm_callL (va_runV (As := []) (rest := []) ⟨hx, hb, hml, hown, hts⟩ (pm_X0_plainNaN l 52 (-1074) 9218868437227405312 (-9223372036854775808) dD) (cwV 0 hts gX3_product_X0_plainNaN rfl rfl rfl hdv_X0_plainNaN ⟨Nat.le_of_ble_eq_true rfl, Nat.le_of_ble_eq_true rfl⟩) ⟨KQ.fb, va_Orecv hF.2.2.1.1 hS, fun U hU hW => ⟨rfl, (KQ.call hF.2.2.1 hS U hU hW)⟩⟩ rfl rfl hl.1 rfl (lv_room (Nat.le_of_ble_eq_true rfl)) dX3_product_91 ⟨Nat.le_refl 0, Nat.le_refl 0⟩) hS (fun H locs _ _ hS => ?_)
            refine lv_goto (tgt := 106) hx hb dX3_product_94 (by decide) ?_
            rw [hZ]
            exact pm_lret (w := s_X3_product p0 p1) hx hb hr hlocks hS (by subst ex_34; exact (hK_83.trans (if_neg c_85)).symm) dX3_product_106
        refine lv_if_ne (tgt := 83) hx hb dX3_product_70 (by decide) (fun c_70 => ?_) (fun c_70 => ?_)
        ·
          exact K_83 _ _ hS ls (lv_sub hl [3, 0] rfl) (by subst ex_34; exact hK_61.trans (if_neg c_70))
        ·
          refine va_gets hx hb hF.1 hS hown (hts _ (List.mem_of_getElem? (i := 1) rfl)) (fun _ h9 => h9) dX3_product_73 ?_
          refine lv_lload_n hx hb dX3_product_76 rfl (lv_at hl 2 rfl) ?_
          refine pm_callI (va_runV (As := [.long p1]) (rest := []) ⟨hx, hb, hml, hown, hts⟩ (pm_X0_isInfinite l 52 (-1074) 9218868437227405312 (-9223372036854775808) dD p1) (cwV 1 hts gX3_product_X0_isInfinite rfl rfl rfl hdv_X0_isInfinite ⟨Nat.le_of_ble_eq_true rfl, Nat.le_of_ble_eq_true rfl⟩) ⟨KQ.fb, va_Orecv hF.2.2.1.1 hS, fun U hU hW => ⟨rfl, (KQ.call hF.2.2.1 hS U hU hW)⟩⟩ rfl rfl hl.1 rfl (lv_room (Nat.le_of_ble_eq_true rfl)) dX3_product_77 ⟨Nat.le_refl 0, Nat.le_refl 0⟩) hS (fun H locs _ _ hS => ?_)
          refine lv_if_eq (tgt := 107) hx hb dX3_product_80 (by decide) (fun c_80 => ?_) (fun c_80 => ?_)
          ·
            refine lv_iload hx hb dX3_product_107 (lv_at hl 0 rfl) ?_
            refine lv_if_eq (tgt := 117) hx hb dX3_product_109 (by decide) (fun c_109 => ?_) (fun c_109 => ?_)
            ·
              refine lv_lload_n hx hb dX3_product_117 rfl (lv_at hl 1 rfl) ?_
              refine lv_lload_n hx hb dX3_product_118 rfl (lv_at hl 2 rfl) ?_
              refine pm_callL (va_runS (As := [.long p0, .long p1]) (rest := []) ⟨hx, hb, hml, hown, hts⟩ (pm_X3_productOfFinite l dD dF p0 p1) (va_cwS 2 hts gX3_product_X3_productOfFinite rfl rfl rfl hd_X3_productOfFinite ⟨Nat.le_of_ble_eq_true rfl, Nat.le_of_ble_eq_true rfl⟩) ⟨KF.fb, fun U hU hW => ⟨rfl, (KF.call hF hS U hU hW)⟩⟩ rfl rfl hl.1 rfl (lv_room (Nat.le_of_ble_eq_true rfl)) dX3_product_119 ⟨Nat.le_refl 0, Nat.le_refl 0⟩) hS (fun H locs _ _ hS => ?_)
              rw [hZ]
              exact pm_lret (w := s_X3_product p0 p1) hx hb hr hlocks hS (by subst ex_34; exact (hK_61.trans (((if_pos c_70).trans (if_pos c_80)).trans (if_pos c_109))).symm) dX3_product_122
            ·
              refine lv_lload hx hb dX3_product_112 (lv_at hl 3 rfl) ?_
              refine lv_goto (tgt := 122) hx hb dX3_product_114 (by decide) ?_
              rw [hZ]
              exact pm_lret (w := s_X3_product p0 p1) hx hb hr hlocks hS (by subst ex_34; exact (hK_61.trans (((if_pos c_70).trans (if_pos c_80)).trans (if_neg c_109))).symm) dX3_product_122
          ·
            exact K_83 _ _ hS ls (lv_sub hl [3, 0] rfl) (by subst ex_34; exact hK_61.trans ((if_pos c_70).trans (if_neg c_80)))
      refine lv_if_ne (tgt := 56) hx hb dX3_product_43 (by decide) (fun c_43 => ?_) (fun c_43 => ?_)
      ·
        refine lv_iconst (v := 1) hx hb dX3_product_56 (by decide) ?_
        refine lv_goto (tgt := 61) hx hb dX3_product_57 (by decide) ?_
        exact K_61 1 _ _ hS ls (lv_sub hl [1, 2, 0] rfl) (by subst ex_34; exact (((if_pos c_7).trans (if_pos c_17)).trans (if_neg c_43)))
      ·
        refine va_gets hx hb hF.1 hS hown (hts _ (List.mem_of_getElem? (i := 1) rfl)) (fun _ h9 => h9) dX3_product_46 ?_
        refine lv_lload_n hx hb dX3_product_49 rfl (lv_at hl 2 rfl) ?_
        refine pm_callI (va_runV (As := [.long p1]) (rest := []) ⟨hx, hb, hml, hown, hts⟩ (pm_X0_isZero l 52 (-1074) 9218868437227405312 (-9223372036854775808) dD p1) (cwV 1 hts gX3_product_X0_isZero rfl rfl rfl hdv_X0_isZero ⟨Nat.le_of_ble_eq_true rfl, Nat.le_of_ble_eq_true rfl⟩) ⟨KQ.fb, va_Orecv hF.2.2.1.1 hS, fun U hU hW => ⟨rfl, (KQ.call hF.2.2.1 hS U hU hW)⟩⟩ rfl rfl hl.1 rfl (lv_room (Nat.le_of_ble_eq_true rfl)) dX3_product_50 ⟨Nat.le_refl 0, Nat.le_refl 0⟩) hS (fun H locs _ _ hS => ?_)
        refine lv_if_eq (tgt := 60) hx hb dX3_product_53 (by decide) (fun c_53 => ?_) (fun c_53 => ?_)
        ·
          refine lv_iconst (v := 0) hx hb dX3_product_60 (by decide) ?_
          exact K_61 0 _ _ hS ls (lv_sub hl [1, 2, 0] rfl) (by subst ex_34; exact ((((if_pos c_7).trans (if_pos c_17)).trans (if_pos c_43)).trans (if_pos c_53)))
        ·
          refine lv_iconst (v := 1) hx hb dX3_product_56 (by decide) ?_
          refine lv_goto (tgt := 61) hx hb dX3_product_57 (by decide) ?_
          exact K_61 1 _ _ hS ls (lv_sub hl [1, 2, 0] rfl) (by subst ex_34; exact ((((if_pos c_7).trans (if_pos c_17)).trans (if_pos c_43)).trans (if_neg c_53)))
    ·
      refine va_gets hx hb hF.1 hS hown (hts _ (List.mem_of_getElem? (i := 1) rfl)) (fun _ h9 => h9) dX3_product_20 ?_
      refine pm_callL (va_runV (As := []) (rest := []) ⟨hx, hb, hml, hown, hts⟩ (pm_X0_plainNaN l 52 (-1074) 9218868437227405312 (-9223372036854775808) dD) (cwV 0 hts gX3_product_X0_plainNaN rfl rfl rfl hdv_X0_plainNaN ⟨Nat.le_of_ble_eq_true rfl, Nat.le_of_ble_eq_true rfl⟩) ⟨KQ.fb, va_Orecv hF.2.2.1.1 hS, fun U hU hW => ⟨rfl, (KQ.call hF.2.2.1 hS U hU hW)⟩⟩ rfl rfl hl.1 rfl (lv_room (Nat.le_of_ble_eq_true rfl)) dX3_product_23 ⟨Nat.le_refl 0, Nat.le_refl 0⟩) hS (fun H locs _ _ hS => ?_)
      rw [hZ]
      exact pm_lret (w := s_X3_product p0 p1) hx hb hr hlocks hS (by exact (((if_pos c_7).trans (if_neg c_17))).symm) dX3_product_26
def rdS (n : Nat) : Int32 := nI (7 - n)
theorem rdS_s {n : Nat} (h : n + 1 ≤ 7) : rdS (n + 1) + 1 = rdS n := by
  match n, h with
  | 0, _ => decide
  | 1, _ => decide
  | 2, _ => decide
  | 3, _ => decide
  | 4, _ => decide
  | 5, _ => decide
  | 6, _ => decide
theorem rdS_p {n : Nat} (h : ¬ 6 ≤ rdS (n + 1)) : 1 ≤ n := by
  match n, h with
  | 0, h => exact absurd (by decide) h
  | n + 1, _ => omega
theorem hd_X3_quotientOfFinite : yX3_quotientOfFinite.cls ≠ "java/lang/invoke/MethodHandle" ∧ yX3_quotientOfFinite.cls ≠ "java/lang/invoke/VarHandle" ∧ (parseMethodDescriptor yX3_quotientOfFinite.desc).map (fun d => d.parameters.length) = some 2 := by decide +kernel
def s_X3_quotientOfFinite_j148 (p0 : Int64) (p1 : Int64) (y_52_6 : Int64) (y_52_8 : Int64) (x_113 : Int32) (z_148_0 : Int32) : Int64 :=
  if y_52_6 = 0 then s_X0_pack 52 (-1074) 9218868437227405312 (-9223372036854775808) z_148_0 x_113 y_52_8
  else s_X0_pack 52 (-1074) 9218868437227405312 (-9223372036854775808) z_148_0 x_113 (y_52_8 ||| 1)
def s_X3_quotientOfFinite_j140 (p0 : Int64) (p1 : Int64) (y_52_6 : Int64) (y_52_8 : Int64) (z_129_0 : Int32) (x_113 : Int32) (z_140_0 : Int32) : Int64 :=
  if z_129_0 = z_140_0 then s_X3_quotientOfFinite_j148 p0 p1 y_52_6 y_52_8 x_113 0
  else s_X3_quotientOfFinite_j148 p0 p1 y_52_6 y_52_8 x_113 1
def s_X3_quotientOfFinite_j129 (p0 : Int64) (p1 : Int64) (y_52_6 : Int64) (y_52_8 : Int64) (x_113 : Int32) (z_129_0 : Int32) : Int64 :=
  if 0 ≤ p1 then s_X3_quotientOfFinite_j140 p0 p1 y_52_6 y_52_8 z_129_0 x_113 0
  else s_X3_quotientOfFinite_j140 p0 p1 y_52_6 y_52_8 z_129_0 x_113 1
def s_X3_quotientOfFinite_l52 (p0 : Int64) (p1 : Int64) (x_7 : Int64) : Nat → Int64 → Int64 → Int32 → Int32 → Int64
  | 0, _, _, _, _ => 0
  | n + 1, y_52_6, y_52_8, y_52_10, y_52_11 =>
  if 6 ≤ y_52_11 then if 0 ≤ p0 then s_X3_quotientOfFinite_j129 p0 p1 y_52_6 y_52_8 (((s_X0_exponent 52 (-1074) 9218868437227405312 (-9223372036854775808) p0) - (s_X0_exponent 52 (-1074) 9218868437227405312 (-9223372036854775808) p1)) - y_52_10) 0
  else s_X3_quotientOfFinite_j129 p0 p1 y_52_6 y_52_8 (((s_X0_exponent 52 (-1074) 9218868437227405312 (-9223372036854775808) p0) - (s_X0_exponent 52 (-1074) 9218868437227405312 (-9223372036854775808) p1)) - y_52_10) 1
  else s_X3_quotientOfFinite_l52 p0 p1 x_7 n ((lShl y_52_6 10) - (lShl y_52_6 10) / x_7 * x_7) ((lShl y_52_8 10) + ((lShl y_52_6 10) / x_7)) (y_52_10 + 10) (y_52_11 + 1)
def s_X3_quotientOfFinite (p0 : Int64) (p1 : Int64) : Int64 :=
  if (s_X0_significand 52 (-1074) 9218868437227405312 (-9223372036854775808) p1) = 0 then s_X0_plainNaN 52 (-1074) 9218868437227405312 (-9223372036854775808)
  else s_X3_quotientOfFinite_l52 p0 p1 (s_X0_significand 52 (-1074) 9218868437227405312 (-9223372036854775808) p1) 7 ((s_X0_significand 52 (-1074) 9218868437227405312 (-9223372036854775808) p0) - (s_X0_significand 52 (-1074) 9218868437227405312 (-9223372036854775808) p0) / (s_X0_significand 52 (-1074) 9218868437227405312 (-9223372036854775808) p1) * (s_X0_significand 52 (-1074) 9218868437227405312 (-9223372036854775808) p1)) ((s_X0_significand 52 (-1074) 9218868437227405312 (-9223372036854775808) p0) / (s_X0_significand 52 (-1074) 9218868437227405312 (-9223372036854775808) p1)) 0 0
set_option maxHeartbeats 4000000 in
set_option maxRecDepth 100000 in
theorem pm_X3_quotientOfFinite (l : Launch) (dD dF : Nat) (p0 : Int64) (p1 : Int64) : PmL l yX3_quotientOfFinite wsX3_quotientOfFinite 3 73 [.long p0, .long p1] (fun U => KF dD dF pv_N U U.heap) (s_X3_quotientOfFinite p0 p1) := by
  refine Met.ofW (cc := cX3_quotientOfFinite) (maxL := 12) (ret := (some .long)) (by decide) rfl ?_
  intro p e s m args below meth c s₁ B hml hv
  obtain ⟨rfl, hF⟩ := hv
  have hx := B.exec
  have hb := B.bytes
  have hr := B.returns
  have hts := atoms_spec (ws := wsX3_quotientOfFinite) B.pre
  have hown : s.vm.findClass RX3 = some m.cls := findClass_of_methodNamed B.named
  have hlocks := B.notSynchronized
  have hS : va_S pv_N s.heap s.heap [] := va_S.rf
  have hl := lv_entry ([.long p0, .long p1]) (n := 12) (Nat.le_of_ble_eq_true rfl)
  rw [lg_entry_eq]
  generalize (lg_sl ([.long p0, .long p1]) ++ List.replicate (12 - (lg_sl ([.long p0, .long p1])).length) Slot.unset).toArray = ls at hl ⊢
  have hl : lv_has ls 12 [(0, .long p0), (2, .long p1)] := hl
  obtain ⟨Z, hZ⟩ : ∃ z, z = MQ below (pm_QL (s_X3_quotientOfFinite p0 p1)) ([.long p0, .long p1] : List Value).toArray s 0 0 pv_N := ⟨_, rfl⟩
  rw [← hZ]
  obtain ⟨Y, hY⟩ : ∃ y, y = s_X3_quotientOfFinite p0 p1 := ⟨_, rfl⟩
  refine va_gets hx hb hF.1 hS hown (hts _ (List.mem_of_getElem? (i := 1) rfl)) (fun _ h9 => h9) dX3_quotientOfFinite_0 ?_
  refine lv_lload_n hx hb dX3_quotientOfFinite_3 rfl (lv_at hl 1 rfl) ?_
  refine pm_callL (va_runV (As := [.long p1]) (rest := []) ⟨hx, hb, hml, hown, hts⟩ (pm_X0_significand l 52 (-1074) 9218868437227405312 (-9223372036854775808) dD p1) (cwV 1 hts gX3_quotientOfFinite_X0_significand rfl rfl rfl hdv_X0_significand ⟨Nat.le_of_ble_eq_true rfl, Nat.le_of_ble_eq_true rfl⟩) ⟨KQ.fb, va_Orecv hF.2.2.1.1 hS, fun U hU hW => ⟨rfl, (KQ.call hF.2.2.1 hS U hU hW)⟩⟩ rfl rfl hl.1 rfl (lv_room (Nat.le_of_ble_eq_true rfl)) dX3_quotientOfFinite_4 ⟨Nat.le_refl 0, Nat.le_refl 0⟩) hS (fun H locs _ _ hS => ?_)
  refine lv_topl (fun x_7 ex_7 => ?_)
  refine lv_lstore (lv' := [(4, .long x_7), (0, .long p0), (2, .long p1)]) hx hb dX3_quotientOfFinite_7 hl (by decide) rfl (fun ls hl => ?_)
  refine lv_lload hx hb dX3_quotientOfFinite_9 (lv_at hl 0 rfl) ?_
  refine lv_lconst (v := 0) hx hb dX3_quotientOfFinite_11 (by decide) ?_
  refine lp_ne (tgt := 23) hx hb dX3_quotientOfFinite_12 dX3_quotientOfFinite_13 (by decide) (fun c_12 => ?_) (fun c_12 => ?_)
  ·
    refine va_gets hx hb hF.1 hS hown (hts _ (List.mem_of_getElem? (i := 1) rfl)) (fun _ h9 => h9) dX3_quotientOfFinite_23 ?_
    refine lv_lload_n hx hb dX3_quotientOfFinite_26 rfl (lv_at hl 1 rfl) ?_
    refine pm_callL (va_runV (As := [.long p0]) (rest := []) ⟨hx, hb, hml, hown, hts⟩ (pm_X0_significand l 52 (-1074) 9218868437227405312 (-9223372036854775808) dD p0) (cwV 1 hts gX3_quotientOfFinite_X0_significand rfl rfl rfl hdv_X0_significand ⟨Nat.le_of_ble_eq_true rfl, Nat.le_of_ble_eq_true rfl⟩) ⟨KQ.fb, va_Orecv hF.2.2.1.1 hS, fun U hU hW => ⟨rfl, (KQ.call hF.2.2.1 hS U hU hW)⟩⟩ rfl rfl hl.1 rfl (lv_room (Nat.le_of_ble_eq_true rfl)) dX3_quotientOfFinite_27 ⟨Nat.le_refl 0, Nat.le_refl 0⟩) hS (fun H locs _ _ hS => ?_)
    refine lv_topl (fun x_30 ex_30 => ?_)
    refine lv_lstore (lv' := [(6, .long x_30), (4, .long x_7), (0, .long p0), (2, .long p1)]) hx hb dX3_quotientOfFinite_30 hl (by decide) rfl (fun ls hl => ?_)
    refine lv_lload hx hb dX3_quotientOfFinite_32 (lv_at hl 0 rfl) ?_
    refine lv_lload hx hb dX3_quotientOfFinite_34 (lv_at hl 1 rfl) ?_
    refine lv_ldiv hx hb dX3_quotientOfFinite_36 (c_12) ?_
    refine lv_topl (fun x_37 ex_37 => ?_)
    refine lv_lstore (lv' := [(8, .long x_37), (6, .long x_30), (4, .long x_7), (0, .long p0), (2, .long p1)]) hx hb dX3_quotientOfFinite_37 hl (by decide) rfl (fun ls hl => ?_)
    refine lv_lload hx hb dX3_quotientOfFinite_39 (lv_at hl 1 rfl) ?_
    refine lv_lload hx hb dX3_quotientOfFinite_41 (lv_at hl 2 rfl) ?_
    refine lv_lrem hx hb dX3_quotientOfFinite_43 (c_12) ?_
    refine lv_topl (fun x_44 ex_44 => ?_)
    refine lv_lstore (lv' := [(6, .long x_44), (8, .long x_37), (4, .long x_7), (0, .long p0), (2, .long p1)]) hx hb dX3_quotientOfFinite_44 hl (by decide) rfl (fun ls hl => ?_)
    refine lv_iconst (v := 0) hx hb dX3_quotientOfFinite_46 (by decide) ?_
    refine lv_istore (lv' := [(10, .int 0), (6, .long x_44), (8, .long x_37), (4, .long x_7), (0, .long p0), (2, .long p1)]) hx hb dX3_quotientOfFinite_47 hl (by decide) rfl (fun ls hl => ?_)
    refine lv_iconst (v := 0) hx hb dX3_quotientOfFinite_49 (by decide) ?_
    refine lv_istore (lv' := [(11, .int 0), (10, .int 0), (6, .long x_44), (8, .long x_37), (4, .long x_7), (0, .long p0), (2, .long p1)]) hx hb dX3_quotientOfFinite_50 hl (by decide) rfl (fun ls hl => ?_)
    have K_52 : ∀ (n : Nat) (y_52_6 : Int64) (y_52_8 : Int64) (y_52_10 : Int32) (y_52_11 : Int32) (H : Heap) (locs : List Loc), va_S pv_N s.heap H locs → ∀ (ls : Array Slot), lv_has ls 12 [(0, .long p0), (2, .long p1), (4, .long x_7), (6, .long y_52_6), (8, .long y_52_8), (10, .int y_52_10), (11, .int y_52_11)] → (y_52_11 = rdS n ∧ 1 ≤ n ∧ n ≤ 7) → s_X3_quotientOfFinite p0 p1 = s_X3_quotientOfFinite_l52 p0 p1 x_7 n y_52_6 y_52_8 y_52_10 y_52_11 → W p l e (pm_R 3 73) s m ([.long p0, .long p1] : List Value).toArray below meth c H locs 0 0 Z (F0 m 52 ls []) := by
      intro n
      induction n with
      | zero =>
        intro y_52_6 y_52_8 y_52_10 y_52_11 H locs hS ls hl hI hK_52
        exact absurd hI.2.1 (by decide)
      | succ n ih =>
        intro y_52_6 y_52_8 y_52_10 y_52_11 H locs hS ls hl hI hK_52
        refine lv_iload hx hb dX3_quotientOfFinite_52 (lv_at hl 6 rfl) ?_
        refine lv_bipush (v := 6) hx hb dX3_quotientOfFinite_54 (by decide) ?_
        refine lv_icmp_ge (tgt := 95) hx hb dX3_quotientOfFinite_56 (by decide) (fun c_56 => ?_) (fun c_56 => ?_)
        ·
          refine va_gets hx hb hF.1 hS hown (hts _ (List.mem_of_getElem? (i := 1) rfl)) (fun _ h9 => h9) dX3_quotientOfFinite_95 ?_
          refine lv_lload_n hx hb dX3_quotientOfFinite_98 rfl (lv_at hl 0 rfl) ?_
          refine pm_callI (va_runV (As := [.long p0]) (rest := []) ⟨hx, hb, hml, hown, hts⟩ (pm_X0_exponent l 52 (-1074) 9218868437227405312 (-9223372036854775808) dD p0) (cwV 1 hts gX3_quotientOfFinite_X0_exponent rfl rfl rfl hdv_X0_exponent ⟨Nat.le_of_ble_eq_true rfl, Nat.le_of_ble_eq_true rfl⟩) ⟨KQ.fb, va_Orecv hF.2.2.1.1 hS, fun U hU hW => ⟨rfl, (KQ.call hF.2.2.1 hS U hU hW)⟩⟩ rfl rfl hl.1 rfl (lv_room (Nat.le_of_ble_eq_true rfl)) dX3_quotientOfFinite_99 ⟨Nat.le_refl 0, Nat.le_refl 0⟩) hS (fun H locs _ _ hS => ?_)
          refine va_gets hx hb hF.1 hS hown (hts _ (List.mem_of_getElem? (i := 1) rfl)) (fun _ h9 => h9) dX3_quotientOfFinite_102 ?_
          refine lv_lload_n hx hb dX3_quotientOfFinite_105 rfl (lv_at hl 1 rfl) ?_
          refine pm_callI (va_runV (As := [.long p1]) (rest := [.int (s_X0_exponent 52 (-1074) 9218868437227405312 (-9223372036854775808) p0)]) ⟨hx, hb, hml, hown, hts⟩ (pm_X0_exponent l 52 (-1074) 9218868437227405312 (-9223372036854775808) dD p1) (cwV 1 hts gX3_quotientOfFinite_X0_exponent rfl rfl rfl hdv_X0_exponent ⟨Nat.le_of_ble_eq_true rfl, Nat.le_of_ble_eq_true rfl⟩) ⟨KQ.fb, va_Orecv hF.2.2.1.1 hS, fun U hU hW => ⟨rfl, (KQ.call hF.2.2.1 hS U hU hW)⟩⟩ rfl rfl hl.1 rfl (lv_room (Nat.le_of_ble_eq_true rfl)) dX3_quotientOfFinite_106 ⟨Nat.le_refl 0, Nat.le_refl 0⟩) hS (fun H locs _ _ hS => ?_)
          refine lv_isub hx hb dX3_quotientOfFinite_109 ?_
          refine lv_iload hx hb dX3_quotientOfFinite_110 (lv_at hl 5 rfl) ?_
          refine lv_isub hx hb dX3_quotientOfFinite_112 ?_
          refine lv_topi (fun x_113 ex_113 => ?_)
          refine lv_istore (lv' := [(11, .int x_113), (0, .long p0), (2, .long p1), (4, .long x_7), (6, .long y_52_6), (8, .long y_52_8), (10, .int y_52_10)]) hx hb dX3_quotientOfFinite_113 hl (by decide) rfl (fun ls hl => ?_)
          refine va_gets hx hb hF.1 hS hown (hts _ (List.mem_of_getElem? (i := 1) rfl)) (fun _ h9 => h9) dX3_quotientOfFinite_115 ?_
          refine lv_lload_n hx hb dX3_quotientOfFinite_118 rfl (lv_at hl 1 rfl) ?_
          refine lv_lconst (v := 0) hx hb dX3_quotientOfFinite_119 (by decide) ?_
          have K_129 : ∀ (z_129_0 : Int32) (H : Heap) (locs : List Loc), va_S pv_N s.heap H locs → ∀ (ls : Array Slot), lv_has ls 12 [(2, .long p1), (6, .long y_52_6), (8, .long y_52_8), (11, .int x_113)] → s_X3_quotientOfFinite p0 p1 = s_X3_quotientOfFinite_j129 p0 p1 y_52_6 y_52_8 x_113 z_129_0 → W p l e (pm_R 3 73) s m ([.long p0, .long p1] : List Value).toArray below meth c H locs 0 0 Z (F0 m 129 ls [.int z_129_0, .ref dD]) := by
            intro z_129_0 H locs hS ls hl hK_129
            refine lv_lload_n hx hb dX3_quotientOfFinite_129 rfl (lv_at hl 0 rfl) ?_
            refine lv_lconst (v := 0) hx hb dX3_quotientOfFinite_130 (by decide) ?_
            have K_140 : ∀ (z_140_0 : Int32) (H : Heap) (locs : List Loc), va_S pv_N s.heap H locs → ∀ (ls : Array Slot), lv_has ls 12 [(6, .long y_52_6), (8, .long y_52_8), (11, .int x_113)] → s_X3_quotientOfFinite p0 p1 = s_X3_quotientOfFinite_j140 p0 p1 y_52_6 y_52_8 z_129_0 x_113 z_140_0 → W p l e (pm_R 3 73) s m ([.long p0, .long p1] : List Value).toArray below meth c H locs 0 0 Z (F0 m 140 ls [.int z_140_0, .int z_129_0, .ref dD]) := by
              intro z_140_0 H locs hS ls hl hK_140
              have K_148 : ∀ (z_148_0 : Int32) (H : Heap) (locs : List Loc), va_S pv_N s.heap H locs → ∀ (ls : Array Slot), lv_has ls 12 [(6, .long y_52_6), (8, .long y_52_8), (11, .int x_113)] → s_X3_quotientOfFinite p0 p1 = s_X3_quotientOfFinite_j148 p0 p1 y_52_6 y_52_8 x_113 z_148_0 → W p l e (pm_R 3 73) s m ([.long p0, .long p1] : List Value).toArray below meth c H locs 0 0 Z (F0 m 148 ls [.int z_148_0, .ref dD]) := by
                intro z_148_0 H locs hS ls hl hK_148
                refine lv_iload hx hb dX3_quotientOfFinite_148 (lv_at hl 2 rfl) ?_
                refine lv_lload hx hb dX3_quotientOfFinite_150 (lv_at hl 0 rfl) ?_
                refine lv_lconst (v := 0) hx hb dX3_quotientOfFinite_152 (by decide) ?_
                refine lp_ne (tgt := 162) hx hb dX3_quotientOfFinite_153 dX3_quotientOfFinite_154 (by decide) (fun c_153 => ?_) (fun c_153 => ?_)
                ·
                  refine lv_lload hx hb dX3_quotientOfFinite_162 (lv_at hl 1 rfl) ?_
                  refine lv_lconst (v := 1) hx hb dX3_quotientOfFinite_164 (by decide) ?_
                  refine lv_lor hx hb dX3_quotientOfFinite_165 ?_
                  refine pm_callL (va_runV (As := [.int z_148_0, .int x_113, .long (y_52_8 ||| 1)]) (rest := []) ⟨hx, hb, hml, hown, hts⟩ (pm_X0_pack l 52 (-1074) 9218868437227405312 (-9223372036854775808) dD z_148_0 x_113 (y_52_8 ||| 1)) (cwV 3 hts gX3_quotientOfFinite_X0_pack rfl rfl rfl hdv_X0_pack ⟨Nat.le_of_ble_eq_true rfl, Nat.le_of_ble_eq_true rfl⟩) ⟨KQ.fb, va_Orecv hF.2.2.1.1 hS, fun U hU hW => ⟨rfl, (KQ.call hF.2.2.1 hS U hU hW)⟩⟩ rfl rfl hl.1 rfl (lv_room (Nat.le_of_ble_eq_true rfl)) dX3_quotientOfFinite_166 ⟨Nat.le_refl 0, Nat.le_refl 0⟩) hS (fun H locs _ _ hS => ?_)
                  rw [hZ]
                  exact pm_lret (w := s_X3_quotientOfFinite p0 p1) hx hb hr hlocks hS (by subst ex_113 ex_44 ex_37 ex_30 ex_7; exact (hK_148.trans (if_neg c_153)).symm) dX3_quotientOfFinite_169
                ·
                  refine lv_lload hx hb dX3_quotientOfFinite_157 (lv_at hl 1 rfl) ?_
                  refine lv_goto (tgt := 166) hx hb dX3_quotientOfFinite_159 (by decide) ?_
                  refine pm_callL (va_runV (As := [.int z_148_0, .int x_113, .long y_52_8]) (rest := []) ⟨hx, hb, hml, hown, hts⟩ (pm_X0_pack l 52 (-1074) 9218868437227405312 (-9223372036854775808) dD z_148_0 x_113 y_52_8) (cwV 3 hts gX3_quotientOfFinite_X0_pack rfl rfl rfl hdv_X0_pack ⟨Nat.le_of_ble_eq_true rfl, Nat.le_of_ble_eq_true rfl⟩) ⟨KQ.fb, va_Orecv hF.2.2.1.1 hS, fun U hU hW => ⟨rfl, (KQ.call hF.2.2.1 hS U hU hW)⟩⟩ rfl rfl hl.1 rfl (lv_room (Nat.le_of_ble_eq_true rfl)) dX3_quotientOfFinite_166 ⟨Nat.le_refl 0, Nat.le_refl 0⟩) hS (fun H locs _ _ hS => ?_)
                  rw [hZ]
                  exact pm_lret (w := s_X3_quotientOfFinite p0 p1) hx hb hr hlocks hS (by subst ex_113 ex_44 ex_37 ex_30 ex_7; exact (hK_148.trans (if_pos c_153)).symm) dX3_quotientOfFinite_169
              refine lv_icmp_eq (tgt := 147) hx hb dX3_quotientOfFinite_140 (by decide) (fun c_140 => ?_) (fun c_140 => ?_)
              ·
                refine lv_iconst (v := 0) hx hb dX3_quotientOfFinite_147 (by decide) ?_
                exact K_148 0 _ _ hS ls (lv_sub hl [0, 1, 2] rfl) (by subst ex_113 ex_44 ex_37 ex_30 ex_7; exact hK_140.trans (if_pos c_140))
              ·
                refine lv_iconst (v := 1) hx hb dX3_quotientOfFinite_143 (by decide) ?_
                refine lv_goto (tgt := 148) hx hb dX3_quotientOfFinite_144 (by decide) ?_
                exact K_148 1 _ _ hS ls (lv_sub hl [0, 1, 2] rfl) (by subst ex_113 ex_44 ex_37 ex_30 ex_7; exact hK_140.trans (if_neg c_140))
            refine lp_ge (tgt := 139) hx hb dX3_quotientOfFinite_131 dX3_quotientOfFinite_132 (by decide) (fun c_131 => ?_) (fun c_131 => ?_)
            ·
              refine lv_iconst (v := 0) hx hb dX3_quotientOfFinite_139 (by decide) ?_
              exact K_140 0 _ _ hS ls (lv_sub hl [1, 2, 3] rfl) (by subst ex_113 ex_44 ex_37 ex_30 ex_7; exact hK_129.trans (if_pos c_131))
            ·
              refine lv_iconst (v := 1) hx hb dX3_quotientOfFinite_135 (by decide) ?_
              refine lv_goto (tgt := 140) hx hb dX3_quotientOfFinite_136 (by decide) ?_
              exact K_140 1 _ _ hS ls (lv_sub hl [1, 2, 3] rfl) (by subst ex_113 ex_44 ex_37 ex_30 ex_7; exact hK_129.trans (if_neg c_131))
          refine lp_ge (tgt := 128) hx hb dX3_quotientOfFinite_120 dX3_quotientOfFinite_121 (by decide) (fun c_120 => ?_) (fun c_120 => ?_)
          ·
            refine lv_iconst (v := 0) hx hb dX3_quotientOfFinite_128 (by decide) ?_
            exact K_129 0 _ _ hS ls (lv_sub hl [2, 4, 5, 0] rfl) (by subst ex_113 ex_44 ex_37 ex_30 ex_7; exact hK_52.trans ((if_pos c_56).trans (if_pos c_120)))
          ·
            refine lv_iconst (v := 1) hx hb dX3_quotientOfFinite_124 (by decide) ?_
            refine lv_goto (tgt := 129) hx hb dX3_quotientOfFinite_125 (by decide) ?_
            exact K_129 1 _ _ hS ls (lv_sub hl [2, 4, 5, 0] rfl) (by subst ex_113 ex_44 ex_37 ex_30 ex_7; exact hK_52.trans ((if_pos c_56).trans (if_neg c_120)))
        ·
          refine lv_lload hx hb dX3_quotientOfFinite_59 (lv_at hl 3 rfl) ?_
          refine lv_bipush (v := 10) hx hb dX3_quotientOfFinite_61 (by decide) ?_
          refine lv_lshl (v := lShl y_52_6 10) hx hb dX3_quotientOfFinite_63 rfl ?_
          refine lv_topl (fun x_64 ex_64 => ?_)
          refine lv_lstore (lv' := [(6, .long x_64), (0, .long p0), (2, .long p1), (4, .long x_7), (8, .long y_52_8), (10, .int y_52_10), (11, .int y_52_11)]) hx hb dX3_quotientOfFinite_64 hl (by decide) rfl (fun ls hl => ?_)
          refine lv_lload hx hb dX3_quotientOfFinite_66 (lv_at hl 4 rfl) ?_
          refine lv_bipush (v := 10) hx hb dX3_quotientOfFinite_68 (by decide) ?_
          refine lv_lshl (v := lShl y_52_8 10) hx hb dX3_quotientOfFinite_70 rfl ?_
          refine lv_lload hx hb dX3_quotientOfFinite_71 (lv_at hl 0 rfl) ?_
          refine lv_lload hx hb dX3_quotientOfFinite_73 (lv_at hl 3 rfl) ?_
          refine lv_ldiv hx hb dX3_quotientOfFinite_75 (c_12) ?_
          refine lv_ladd hx hb dX3_quotientOfFinite_76 ?_
          refine lv_topl (fun x_77 ex_77 => ?_)
          refine lv_lstore (lv' := [(8, .long x_77), (6, .long x_64), (0, .long p0), (2, .long p1), (4, .long x_7), (10, .int y_52_10), (11, .int y_52_11)]) hx hb dX3_quotientOfFinite_77 hl (by decide) rfl (fun ls hl => ?_)
          refine lv_lload hx hb dX3_quotientOfFinite_79 (lv_at hl 1 rfl) ?_
          refine lv_lload hx hb dX3_quotientOfFinite_81 (lv_at hl 4 rfl) ?_
          refine lv_lrem hx hb dX3_quotientOfFinite_83 (c_12) ?_
          refine lv_topl (fun x_84 ex_84 => ?_)
          refine lv_lstore (lv' := [(6, .long x_84), (8, .long x_77), (0, .long p0), (2, .long p1), (4, .long x_7), (10, .int y_52_10), (11, .int y_52_11)]) hx hb dX3_quotientOfFinite_84 hl (by decide) rfl (fun ls hl => ?_)
          obtain ⟨x_86, ex_86⟩ : ∃ y : Int32, y = y_52_10 + 10 := ⟨_, rfl⟩
          refine lv_iinc (v := x_86) (lv' := [(10, .int x_86), (6, .long x_84), (8, .long x_77), (0, .long p0), (2, .long p1), (4, .long x_7), (11, .int y_52_11)]) hx hb dX3_quotientOfFinite_86 hl (k := 5) rfl (by rw [ex_86]; rfl) (by decide) rfl (fun ls hl => ?_)
          obtain ⟨x_89, ex_89⟩ : ∃ y : Int32, y = y_52_11 + 1 := ⟨_, rfl⟩
          refine lv_iinc (v := x_89) (lv' := [(11, .int x_89), (10, .int x_86), (6, .long x_84), (8, .long x_77), (0, .long p0), (2, .long p1), (4, .long x_7)]) hx hb dX3_quotientOfFinite_89 hl (k := 6) rfl (by rw [ex_89]; rfl) (by decide) rfl (fun ls hl => ?_)
          refine lv_goto (tgt := 52) hx hb dX3_quotientOfFinite_92 (by decide) ?_
          exact ih x_84 x_77 x_86 x_89 _ _ hS ls (lv_sub hl [4, 5, 6, 2, 3, 1, 0] rfl) (by subst ex_89; have h1 := rdS_p (n := n) (by rw [← hI.1]; exact c_56); exact ⟨by rw [hI.1]; exact rdS_s hI.2.2, h1, by omega⟩) (by subst ex_89 ex_86 ex_84 ex_77 ex_64 ex_44 ex_37 ex_30 ex_7; exact hK_52.trans (if_neg c_56))
    exact K_52 (7) x_44 x_37 0 0 _ _ hS ls (lv_sub hl [5, 6, 4, 2, 3, 1, 0] rfl) (⟨rfl, by decide, by decide⟩) (by subst ex_44 ex_37 ex_30 ex_7; exact (if_neg c_12))
  ·
    refine va_gets hx hb hF.1 hS hown (hts _ (List.mem_of_getElem? (i := 1) rfl)) (fun _ h9 => h9) dX3_quotientOfFinite_16 ?_
    refine pm_callL (va_runV (As := []) (rest := []) ⟨hx, hb, hml, hown, hts⟩ (pm_X0_plainNaN l 52 (-1074) 9218868437227405312 (-9223372036854775808) dD) (cwV 0 hts gX3_quotientOfFinite_X0_plainNaN rfl rfl rfl hdv_X0_plainNaN ⟨Nat.le_of_ble_eq_true rfl, Nat.le_of_ble_eq_true rfl⟩) ⟨KQ.fb, va_Orecv hF.2.2.1.1 hS, fun U hU hW => ⟨rfl, (KQ.call hF.2.2.1 hS U hU hW)⟩⟩ rfl rfl hl.1 rfl (lv_room (Nat.le_of_ble_eq_true rfl)) dX3_quotientOfFinite_19 ⟨Nat.le_refl 0, Nat.le_refl 0⟩) hS (fun H locs _ _ hS => ?_)
    rw [hZ]
    exact pm_lret (w := s_X3_quotientOfFinite p0 p1) hx hb hr hlocks hS (by subst ex_7; exact ((if_pos c_12)).symm) dX3_quotientOfFinite_22
theorem hd_X3_quotient : yX3_quotient.cls ≠ "java/lang/invoke/MethodHandle" ∧ yX3_quotient.cls ≠ "java/lang/invoke/VarHandle" ∧ (parseMethodDescriptor yX3_quotient.desc).map (fun d => d.parameters.length) = some 2 := by decide +kernel
def s_X3_quotient (p0 : Int64) (p1 : Int64) : Int64 :=
  if (s_X0_isNaN 52 (-1074) 9218868437227405312 (-9223372036854775808) p0) = 0 then if (s_X0_isNaN 52 (-1074) 9218868437227405312 (-9223372036854775808) p1) = 0 then if (s_X0_isInfinite 52 (-1074) 9218868437227405312 (-9223372036854775808) p0) = 0 then if (s_X0_isZero 52 (-1074) 9218868437227405312 (-9223372036854775808) p1) = 0 then if (s_X0_isZero 52 (-1074) 9218868437227405312 (-9223372036854775808) p0) = 0 then if (s_X0_isInfinite 52 (-1074) 9218868437227405312 (-9223372036854775808) p1) = 0 then s_X3_quotientOfFinite p0 p1
  else ((p0 ^^^ p1) &&& (-9223372036854775808))
  else ((p0 ^^^ p1) &&& (-9223372036854775808))
  else if (s_X0_isZero 52 (-1074) 9218868437227405312 (-9223372036854775808) p0) = 0 then ((p0 ^^^ p1) &&& (-9223372036854775808)) ||| 9218868437227405312
  else s_X0_plainNaN 52 (-1074) 9218868437227405312 (-9223372036854775808)
  else if (s_X0_isInfinite 52 (-1074) 9218868437227405312 (-9223372036854775808) p1) = 0 then ((p0 ^^^ p1) &&& (-9223372036854775808)) ||| 9218868437227405312
  else s_X0_plainNaN 52 (-1074) 9218868437227405312 (-9223372036854775808)
  else s_X0_plainNaN 52 (-1074) 9218868437227405312 (-9223372036854775808)
  else s_X0_plainNaN 52 (-1074) 9218868437227405312 (-9223372036854775808)
set_option maxHeartbeats 4000000 in
set_option maxRecDepth 100000 in
theorem pm_X3_quotient (l : Launch) (dD dF : Nat) (p0 : Int64) (p1 : Int64) : PmL l yX3_quotient wsX3_quotient 4 104 [.long p0, .long p1] (fun U => KF dD dF pv_N U U.heap) (s_X3_quotient p0 p1) := by
  refine Met.ofW (cc := cX3_quotient) (maxL := 6) (ret := (some .long)) (by decide) rfl ?_
  intro p e s m args below meth c s₁ B hml hv
  obtain ⟨rfl, hF⟩ := hv
  have hx := B.exec
  have hb := B.bytes
  have hr := B.returns
  have hts := atoms_spec (ws := wsX3_quotient) B.pre
  have hown : s.vm.findClass RX3 = some m.cls := findClass_of_methodNamed B.named
  have hlocks := B.notSynchronized
  have hS : va_S pv_N s.heap s.heap [] := va_S.rf
  have hl := lv_entry ([.long p0, .long p1]) (n := 6) (Nat.le_of_ble_eq_true rfl)
  rw [lg_entry_eq]
  generalize (lg_sl ([.long p0, .long p1]) ++ List.replicate (6 - (lg_sl ([.long p0, .long p1])).length) Slot.unset).toArray = ls at hl ⊢
  have hl : lv_has ls 6 [(0, .long p0), (2, .long p1)] := hl
  obtain ⟨Z, hZ⟩ : ∃ z, z = MQ below (pm_QL (s_X3_quotient p0 p1)) ([.long p0, .long p1] : List Value).toArray s 0 0 pv_N := ⟨_, rfl⟩
  rw [← hZ]
  obtain ⟨Y, hY⟩ : ∃ y, y = s_X3_quotient p0 p1 := ⟨_, rfl⟩
  refine va_gets hx hb hF.1 hS hown (hts _ (List.mem_of_getElem? (i := 1) rfl)) (fun _ h9 => h9) dX3_quotient_0 ?_
  refine lv_lload_n hx hb dX3_quotient_3 rfl (lv_at hl 0 rfl) ?_
  refine pm_callI (va_runV (As := [.long p0]) (rest := []) ⟨hx, hb, hml, hown, hts⟩ (pm_X0_isNaN l 52 (-1074) 9218868437227405312 (-9223372036854775808) dD p0) (cwV 1 hts gX3_quotient_X0_isNaN rfl rfl rfl hdv_X0_isNaN ⟨Nat.le_of_ble_eq_true rfl, Nat.le_of_ble_eq_true rfl⟩) ⟨KQ.fb, va_Orecv hF.2.2.1.1 hS, fun U hU hW => ⟨rfl, (KQ.call hF.2.2.1 hS U hU hW)⟩⟩ rfl rfl hl.1 rfl (lv_room (Nat.le_of_ble_eq_true rfl)) dX3_quotient_4 ⟨Nat.le_refl 0, Nat.le_refl 0⟩) hS (fun H locs _ _ hS => ?_)
  refine lv_if_ne (tgt := 20) hx hb dX3_quotient_7 (by decide) (fun c_7 => ?_) (fun c_7 => ?_)
  ·
    refine va_gets hx hb hF.1 hS hown (hts _ (List.mem_of_getElem? (i := 1) rfl)) (fun _ h9 => h9) dX3_quotient_20 ?_
    refine pm_callL (va_runV (As := []) (rest := []) ⟨hx, hb, hml, hown, hts⟩ (pm_X0_plainNaN l 52 (-1074) 9218868437227405312 (-9223372036854775808) dD) (cwV 0 hts gX3_quotient_X0_plainNaN rfl rfl rfl hdv_X0_plainNaN ⟨Nat.le_of_ble_eq_true rfl, Nat.le_of_ble_eq_true rfl⟩) ⟨KQ.fb, va_Orecv hF.2.2.1.1 hS, fun U hU hW => ⟨rfl, (KQ.call hF.2.2.1 hS U hU hW)⟩⟩ rfl rfl hl.1 rfl (lv_room (Nat.le_of_ble_eq_true rfl)) dX3_quotient_23 ⟨Nat.le_refl 0, Nat.le_refl 0⟩) hS (fun H locs _ _ hS => ?_)
    rw [hZ]
    exact pm_lret (w := s_X3_quotient p0 p1) hx hb hr hlocks hS (by exact ((if_neg c_7)).symm) dX3_quotient_26
  ·
    refine va_gets hx hb hF.1 hS hown (hts _ (List.mem_of_getElem? (i := 1) rfl)) (fun _ h9 => h9) dX3_quotient_10 ?_
    refine lv_lload_n hx hb dX3_quotient_13 rfl (lv_at hl 1 rfl) ?_
    refine pm_callI (va_runV (As := [.long p1]) (rest := []) ⟨hx, hb, hml, hown, hts⟩ (pm_X0_isNaN l 52 (-1074) 9218868437227405312 (-9223372036854775808) dD p1) (cwV 1 hts gX3_quotient_X0_isNaN rfl rfl rfl hdv_X0_isNaN ⟨Nat.le_of_ble_eq_true rfl, Nat.le_of_ble_eq_true rfl⟩) ⟨KQ.fb, va_Orecv hF.2.2.1.1 hS, fun U hU hW => ⟨rfl, (KQ.call hF.2.2.1 hS U hU hW)⟩⟩ rfl rfl hl.1 rfl (lv_room (Nat.le_of_ble_eq_true rfl)) dX3_quotient_14 ⟨Nat.le_refl 0, Nat.le_refl 0⟩) hS (fun H locs _ _ hS => ?_)
    refine lv_if_eq (tgt := 27) hx hb dX3_quotient_17 (by decide) (fun c_17 => ?_) (fun c_17 => ?_)
    ·
      refine lv_lload_n hx hb dX3_quotient_27 rfl (lv_at hl 0 rfl) ?_
      refine lv_lload_n hx hb dX3_quotient_28 rfl (lv_at hl 1 rfl) ?_
      refine lv_lxor hx hb dX3_quotient_29 ?_
      refine lv_ldc2 (v := (-9223372036854775808)) hx hb hown (hts _ (List.mem_of_getElem? (i := 2) rfl)) dX3_quotient_30 ?_
      refine lv_land hx hb dX3_quotient_33 ?_
      refine lv_topl (fun x_34 ex_34 => ?_)
      refine lv_lstore (lv' := [(4, .long x_34), (0, .long p0), (2, .long p1)]) hx hb dX3_quotient_34 hl (by decide) rfl (fun ls hl => ?_)
      refine va_gets hx hb hF.1 hS hown (hts _ (List.mem_of_getElem? (i := 1) rfl)) (fun _ h9 => h9) dX3_quotient_36 ?_
      refine lv_lload_n hx hb dX3_quotient_39 rfl (lv_at hl 1 rfl) ?_
      refine pm_callI (va_runV (As := [.long p0]) (rest := []) ⟨hx, hb, hml, hown, hts⟩ (pm_X0_isInfinite l 52 (-1074) 9218868437227405312 (-9223372036854775808) dD p0) (cwV 1 hts gX3_quotient_X0_isInfinite rfl rfl rfl hdv_X0_isInfinite ⟨Nat.le_of_ble_eq_true rfl, Nat.le_of_ble_eq_true rfl⟩) ⟨KQ.fb, va_Orecv hF.2.2.1.1 hS, fun U hU hW => ⟨rfl, (KQ.call hF.2.2.1 hS U hU hW)⟩⟩ rfl rfl hl.1 rfl (lv_room (Nat.le_of_ble_eq_true rfl)) dX3_quotient_40 ⟨Nat.le_refl 0, Nat.le_refl 0⟩) hS (fun H locs _ _ hS => ?_)
      refine lv_if_eq (tgt := 75) hx hb dX3_quotient_43 (by decide) (fun c_43 => ?_) (fun c_43 => ?_)
      ·
        refine va_gets hx hb hF.1 hS hown (hts _ (List.mem_of_getElem? (i := 1) rfl)) (fun _ h9 => h9) dX3_quotient_75 ?_
        refine lv_lload_n hx hb dX3_quotient_78 rfl (lv_at hl 2 rfl) ?_
        refine pm_callI (va_runV (As := [.long p1]) (rest := []) ⟨hx, hb, hml, hown, hts⟩ (pm_X0_isZero l 52 (-1074) 9218868437227405312 (-9223372036854775808) dD p1) (cwV 1 hts gX3_quotient_X0_isZero rfl rfl rfl hdv_X0_isZero ⟨Nat.le_of_ble_eq_true rfl, Nat.le_of_ble_eq_true rfl⟩) ⟨KQ.fb, va_Orecv hF.2.2.1.1 hS, fun U hU hW => ⟨rfl, (KQ.call hF.2.2.1 hS U hU hW)⟩⟩ rfl rfl hl.1 rfl (lv_room (Nat.le_of_ble_eq_true rfl)) dX3_quotient_79 ⟨Nat.le_refl 0, Nat.le_refl 0⟩) hS (fun H locs _ _ hS => ?_)
        refine lv_if_eq (tgt := 114) hx hb dX3_quotient_82 (by decide) (fun c_82 => ?_) (fun c_82 => ?_)
        ·
          refine va_gets hx hb hF.1 hS hown (hts _ (List.mem_of_getElem? (i := 1) rfl)) (fun _ h9 => h9) dX3_quotient_114 ?_
          refine lv_lload_n hx hb dX3_quotient_117 rfl (lv_at hl 1 rfl) ?_
          refine pm_callI (va_runV (As := [.long p0]) (rest := []) ⟨hx, hb, hml, hown, hts⟩ (pm_X0_isZero l 52 (-1074) 9218868437227405312 (-9223372036854775808) dD p0) (cwV 1 hts gX3_quotient_X0_isZero rfl rfl rfl hdv_X0_isZero ⟨Nat.le_of_ble_eq_true rfl, Nat.le_of_ble_eq_true rfl⟩) ⟨KQ.fb, va_Orecv hF.2.2.1.1 hS, fun U hU hW => ⟨rfl, (KQ.call hF.2.2.1 hS U hU hW)⟩⟩ rfl rfl hl.1 rfl (lv_room (Nat.le_of_ble_eq_true rfl)) dX3_quotient_118 ⟨Nat.le_refl 0, Nat.le_refl 0⟩) hS (fun H locs _ _ hS => ?_)
          refine lv_if_ne (tgt := 134) hx hb dX3_quotient_121 (by decide) (fun c_121 => ?_) (fun c_121 => ?_)
          ·
            refine lv_lload hx hb dX3_quotient_134 (lv_at hl 0 rfl) ?_
            refine lv_goto (tgt := 144) hx hb dX3_quotient_136 (by decide) ?_
            rw [hZ]
            exact pm_lret (w := s_X3_quotient p0 p1) hx hb hr hlocks hS (by subst ex_34; exact ((((((if_pos c_7).trans (if_pos c_17)).trans (if_pos c_43)).trans (if_pos c_82)).trans (if_neg c_121))).symm) dX3_quotient_144
          ·
            refine va_gets hx hb hF.1 hS hown (hts _ (List.mem_of_getElem? (i := 1) rfl)) (fun _ h9 => h9) dX3_quotient_124 ?_
            refine lv_lload_n hx hb dX3_quotient_127 rfl (lv_at hl 2 rfl) ?_
            refine pm_callI (va_runV (As := [.long p1]) (rest := []) ⟨hx, hb, hml, hown, hts⟩ (pm_X0_isInfinite l 52 (-1074) 9218868437227405312 (-9223372036854775808) dD p1) (cwV 1 hts gX3_quotient_X0_isInfinite rfl rfl rfl hdv_X0_isInfinite ⟨Nat.le_of_ble_eq_true rfl, Nat.le_of_ble_eq_true rfl⟩) ⟨KQ.fb, va_Orecv hF.2.2.1.1 hS, fun U hU hW => ⟨rfl, (KQ.call hF.2.2.1 hS U hU hW)⟩⟩ rfl rfl hl.1 rfl (lv_room (Nat.le_of_ble_eq_true rfl)) dX3_quotient_128 ⟨Nat.le_refl 0, Nat.le_refl 0⟩) hS (fun H locs _ _ hS => ?_)
            refine lv_if_eq (tgt := 139) hx hb dX3_quotient_131 (by decide) (fun c_131 => ?_) (fun c_131 => ?_)
            ·
              refine lv_lload_n hx hb dX3_quotient_139 rfl (lv_at hl 1 rfl) ?_
              refine lv_lload_n hx hb dX3_quotient_140 rfl (lv_at hl 2 rfl) ?_
              refine pm_callL (va_runS (As := [.long p0, .long p1]) (rest := []) ⟨hx, hb, hml, hown, hts⟩ (pm_X3_quotientOfFinite l dD dF p0 p1) (va_cwS 2 hts gX3_quotient_X3_quotientOfFinite rfl rfl rfl hd_X3_quotientOfFinite ⟨Nat.le_of_ble_eq_true rfl, Nat.le_of_ble_eq_true rfl⟩) ⟨KF.fb, fun U hU hW => ⟨rfl, (KF.call hF hS U hU hW)⟩⟩ rfl rfl hl.1 rfl (lv_room (Nat.le_of_ble_eq_true rfl)) dX3_quotient_141 ⟨Nat.le_refl 0, Nat.le_refl 0⟩) hS (fun H locs _ _ hS => ?_)
              rw [hZ]
              exact pm_lret (w := s_X3_quotient p0 p1) hx hb hr hlocks hS (by subst ex_34; exact (((((((if_pos c_7).trans (if_pos c_17)).trans (if_pos c_43)).trans (if_pos c_82)).trans (if_pos c_121)).trans (if_pos c_131))).symm) dX3_quotient_144
            ·
              refine lv_lload hx hb dX3_quotient_134 (lv_at hl 0 rfl) ?_
              refine lv_goto (tgt := 144) hx hb dX3_quotient_136 (by decide) ?_
              rw [hZ]
              exact pm_lret (w := s_X3_quotient p0 p1) hx hb hr hlocks hS (by subst ex_34; exact (((((((if_pos c_7).trans (if_pos c_17)).trans (if_pos c_43)).trans (if_pos c_82)).trans (if_pos c_121)).trans (if_neg c_131))).symm) dX3_quotient_144
        ·
          refine va_gets hx hb hF.1 hS hown (hts _ (List.mem_of_getElem? (i := 1) rfl)) (fun _ h9 => h9) dX3_quotient_85 ?_
          refine lv_lload_n hx hb dX3_quotient_88 rfl (lv_at hl 1 rfl) ?_
          refine pm_callI (va_runV (As := [.long p0]) (rest := []) ⟨hx, hb, hml, hown, hts⟩ (pm_X0_isZero l 52 (-1074) 9218868437227405312 (-9223372036854775808) dD p0) (cwV 1 hts gX3_quotient_X0_isZero rfl rfl rfl hdv_X0_isZero ⟨Nat.le_of_ble_eq_true rfl, Nat.le_of_ble_eq_true rfl⟩) ⟨KQ.fb, va_Orecv hF.2.2.1.1 hS, fun U hU hW => ⟨rfl, (KQ.call hF.2.2.1 hS U hU hW)⟩⟩ rfl rfl hl.1 rfl (lv_room (Nat.le_of_ble_eq_true rfl)) dX3_quotient_89 ⟨Nat.le_refl 0, Nat.le_refl 0⟩) hS (fun H locs _ _ hS => ?_)
          refine lv_if_eq (tgt := 104) hx hb dX3_quotient_92 (by decide) (fun c_92 => ?_) (fun c_92 => ?_)
          ·
            refine lv_lload hx hb dX3_quotient_104 (lv_at hl 0 rfl) ?_
            refine va_gets hx hb hF.1 hS hown (hts _ (List.mem_of_getElem? (i := 1) rfl)) (fun _ h9 => h9) dX3_quotient_106 ?_
            refine vk_getf hx hb hF.2.2.1.2.2.2.1 hS hown (hts _ (List.mem_of_getElem? (i := 3) rfl)) (fun _ h9 => h9) dX3_quotient_109 ?_
            refine lv_lor hx hb dX3_quotient_112 ?_
            rw [hZ]
            exact pm_lret (w := s_X3_quotient p0 p1) hx hb hr hlocks hS (by subst ex_34; exact ((((((if_pos c_7).trans (if_pos c_17)).trans (if_pos c_43)).trans (if_neg c_82)).trans (if_pos c_92))).symm) dX3_quotient_113
          ·
            refine va_gets hx hb hF.1 hS hown (hts _ (List.mem_of_getElem? (i := 1) rfl)) (fun _ h9 => h9) dX3_quotient_95 ?_
            refine pm_callL (va_runV (As := []) (rest := []) ⟨hx, hb, hml, hown, hts⟩ (pm_X0_plainNaN l 52 (-1074) 9218868437227405312 (-9223372036854775808) dD) (cwV 0 hts gX3_quotient_X0_plainNaN rfl rfl rfl hdv_X0_plainNaN ⟨Nat.le_of_ble_eq_true rfl, Nat.le_of_ble_eq_true rfl⟩) ⟨KQ.fb, va_Orecv hF.2.2.1.1 hS, fun U hU hW => ⟨rfl, (KQ.call hF.2.2.1 hS U hU hW)⟩⟩ rfl rfl hl.1 rfl (lv_room (Nat.le_of_ble_eq_true rfl)) dX3_quotient_98 ⟨Nat.le_refl 0, Nat.le_refl 0⟩) hS (fun H locs _ _ hS => ?_)
            refine lv_goto (tgt := 113) hx hb dX3_quotient_101 (by decide) ?_
            rw [hZ]
            exact pm_lret (w := s_X3_quotient p0 p1) hx hb hr hlocks hS (by subst ex_34; exact ((((((if_pos c_7).trans (if_pos c_17)).trans (if_pos c_43)).trans (if_neg c_82)).trans (if_neg c_92))).symm) dX3_quotient_113
      ·
        refine va_gets hx hb hF.1 hS hown (hts _ (List.mem_of_getElem? (i := 1) rfl)) (fun _ h9 => h9) dX3_quotient_46 ?_
        refine lv_lload_n hx hb dX3_quotient_49 rfl (lv_at hl 2 rfl) ?_
        refine pm_callI (va_runV (As := [.long p1]) (rest := []) ⟨hx, hb, hml, hown, hts⟩ (pm_X0_isInfinite l 52 (-1074) 9218868437227405312 (-9223372036854775808) dD p1) (cwV 1 hts gX3_quotient_X0_isInfinite rfl rfl rfl hdv_X0_isInfinite ⟨Nat.le_of_ble_eq_true rfl, Nat.le_of_ble_eq_true rfl⟩) ⟨KQ.fb, va_Orecv hF.2.2.1.1 hS, fun U hU hW => ⟨rfl, (KQ.call hF.2.2.1 hS U hU hW)⟩⟩ rfl rfl hl.1 rfl (lv_room (Nat.le_of_ble_eq_true rfl)) dX3_quotient_50 ⟨Nat.le_refl 0, Nat.le_refl 0⟩) hS (fun H locs _ _ hS => ?_)
        refine lv_if_eq (tgt := 65) hx hb dX3_quotient_53 (by decide) (fun c_53 => ?_) (fun c_53 => ?_)
        ·
          refine lv_lload hx hb dX3_quotient_65 (lv_at hl 0 rfl) ?_
          refine va_gets hx hb hF.1 hS hown (hts _ (List.mem_of_getElem? (i := 1) rfl)) (fun _ h9 => h9) dX3_quotient_67 ?_
          refine vk_getf hx hb hF.2.2.1.2.2.2.1 hS hown (hts _ (List.mem_of_getElem? (i := 3) rfl)) (fun _ h9 => h9) dX3_quotient_70 ?_
          refine lv_lor hx hb dX3_quotient_73 ?_
          rw [hZ]
          exact pm_lret (w := s_X3_quotient p0 p1) hx hb hr hlocks hS (by subst ex_34; exact (((((if_pos c_7).trans (if_pos c_17)).trans (if_neg c_43)).trans (if_pos c_53))).symm) dX3_quotient_74
        ·
          refine va_gets hx hb hF.1 hS hown (hts _ (List.mem_of_getElem? (i := 1) rfl)) (fun _ h9 => h9) dX3_quotient_56 ?_
          refine pm_callL (va_runV (As := []) (rest := []) ⟨hx, hb, hml, hown, hts⟩ (pm_X0_plainNaN l 52 (-1074) 9218868437227405312 (-9223372036854775808) dD) (cwV 0 hts gX3_quotient_X0_plainNaN rfl rfl rfl hdv_X0_plainNaN ⟨Nat.le_of_ble_eq_true rfl, Nat.le_of_ble_eq_true rfl⟩) ⟨KQ.fb, va_Orecv hF.2.2.1.1 hS, fun U hU hW => ⟨rfl, (KQ.call hF.2.2.1 hS U hU hW)⟩⟩ rfl rfl hl.1 rfl (lv_room (Nat.le_of_ble_eq_true rfl)) dX3_quotient_59 ⟨Nat.le_refl 0, Nat.le_refl 0⟩) hS (fun H locs _ _ hS => ?_)
          refine lv_goto (tgt := 74) hx hb dX3_quotient_62 (by decide) ?_
          rw [hZ]
          exact pm_lret (w := s_X3_quotient p0 p1) hx hb hr hlocks hS (by subst ex_34; exact (((((if_pos c_7).trans (if_pos c_17)).trans (if_neg c_43)).trans (if_neg c_53))).symm) dX3_quotient_74
    ·
      refine va_gets hx hb hF.1 hS hown (hts _ (List.mem_of_getElem? (i := 1) rfl)) (fun _ h9 => h9) dX3_quotient_20 ?_
      refine pm_callL (va_runV (As := []) (rest := []) ⟨hx, hb, hml, hown, hts⟩ (pm_X0_plainNaN l 52 (-1074) 9218868437227405312 (-9223372036854775808) dD) (cwV 0 hts gX3_quotient_X0_plainNaN rfl rfl rfl hdv_X0_plainNaN ⟨Nat.le_of_ble_eq_true rfl, Nat.le_of_ble_eq_true rfl⟩) ⟨KQ.fb, va_Orecv hF.2.2.1.1 hS, fun U hU hW => ⟨rfl, (KQ.call hF.2.2.1 hS U hU hW)⟩⟩ rfl rfl hl.1 rfl (lv_room (Nat.le_of_ble_eq_true rfl)) dX3_quotient_23 ⟨Nat.le_refl 0, Nat.le_refl 0⟩) hS (fun H locs _ _ hS => ?_)
      rw [hZ]
      exact pm_lret (w := s_X3_quotient p0 p1) hx hb hr hlocks hS (by exact (((if_pos c_7).trans (if_neg c_17))).symm) dX3_quotient_26
theorem i32_m10 {y : Int32} (h : ¬ y ≤ 0) : (y + (-10)).toInt = y.toInt - 10 ∧ 0 < y.toInt := by
  have h1 : 0 < y.toInt := by
    have h2 : ¬ y.toInt ≤ (0 : Int32).toInt := fun z => h (Int32.le_iff_toInt_le.mpr z)
    have h3 : (0 : Int32).toInt = 0 := by decide
    omega
  have h2 := Int32.toInt_lt y
  refine ⟨?_, h1⟩
  rw [Int32.toInt_add]
  have h3 : (-10 : Int32).toInt = -10 := by decide
  rw [h3, Int.bmod_def]
  omega
theorem hd_X3_remainderOfFinite : yX3_remainderOfFinite.cls ≠ "java/lang/invoke/MethodHandle" ∧ yX3_remainderOfFinite.cls ≠ "java/lang/invoke/VarHandle" ∧ (parseMethodDescriptor yX3_remainderOfFinite.desc).map (fun d => d.parameters.length) = some 2 := by decide +kernel
def s_X3_remainderOfFinite_l56 (p0 : Int64) (p1 : Int64) (x_30 : Int32) (x_7 : Int64) : Nat → Int64 → Int32 → Int64
  | 0, _, _ => 0
  | n + 1, y_56_7, y_56_9 =>
  if y_56_9 ≤ 0 then if 0 ≤ p0 then s_X0_pack 52 (-1074) 9218868437227405312 (-9223372036854775808) 0 x_30 y_56_7
  else s_X0_pack 52 (-1074) 9218868437227405312 (-9223372036854775808) 1 x_30 y_56_7
  else s_X3_remainderOfFinite_l56 p0 p1 x_30 x_7 n ((lShl y_56_7 (if 10 < y_56_9 then 10 else y_56_9)) - (lShl y_56_7 (if 10 < y_56_9 then 10 else y_56_9)) / x_7 * x_7) (y_56_9 + (-10))
def s_X3_remainderOfFinite (p0 : Int64) (p1 : Int64) : Int64 :=
  if (s_X0_significand 52 (-1074) 9218868437227405312 (-9223372036854775808) p1) = 0 then s_X0_plainNaN 52 (-1074) 9218868437227405312 (-9223372036854775808)
  else s_X3_remainderOfFinite_l56 p0 p1 (s_X0_exponent 52 (-1074) 9218868437227405312 (-9223372036854775808) p1) (s_X0_significand 52 (-1074) 9218868437227405312 (-9223372036854775808) p1) (((s_X0_exponent 52 (-1074) 9218868437227405312 (-9223372036854775808) p0) - (s_X0_exponent 52 (-1074) 9218868437227405312 (-9223372036854775808) p1)).toInt.toNat + 1) ((s_X0_significand 52 (-1074) 9218868437227405312 (-9223372036854775808) p0) - (s_X0_significand 52 (-1074) 9218868437227405312 (-9223372036854775808) p0) / (s_X0_significand 52 (-1074) 9218868437227405312 (-9223372036854775808) p1) * (s_X0_significand 52 (-1074) 9218868437227405312 (-9223372036854775808) p1)) ((s_X0_exponent 52 (-1074) 9218868437227405312 (-9223372036854775808) p0) - (s_X0_exponent 52 (-1074) 9218868437227405312 (-9223372036854775808) p1))
set_option maxHeartbeats 4000000 in
set_option maxRecDepth 100000 in
theorem pm_X3_remainderOfFinite (l : Launch) (dD dF : Nat) (p0 : Int64) (p1 : Int64) : PmL l yX3_remainderOfFinite wsX3_remainderOfFinite 3 73 [.long p0, .long p1] (fun U => KF dD dF pv_N U U.heap) (s_X3_remainderOfFinite p0 p1) := by
  refine Met.ofW (cc := cX3_remainderOfFinite) (maxL := 10) (ret := (some .long)) (by decide) rfl ?_
  intro p e s m args below meth c s₁ B hml hv
  obtain ⟨rfl, hF⟩ := hv
  have hx := B.exec
  have hb := B.bytes
  have hr := B.returns
  have hts := atoms_spec (ws := wsX3_remainderOfFinite) B.pre
  have hown : s.vm.findClass RX3 = some m.cls := findClass_of_methodNamed B.named
  have hlocks := B.notSynchronized
  have hS : va_S pv_N s.heap s.heap [] := va_S.rf
  have hl := lv_entry ([.long p0, .long p1]) (n := 10) (Nat.le_of_ble_eq_true rfl)
  rw [lg_entry_eq]
  generalize (lg_sl ([.long p0, .long p1]) ++ List.replicate (10 - (lg_sl ([.long p0, .long p1])).length) Slot.unset).toArray = ls at hl ⊢
  have hl : lv_has ls 10 [(0, .long p0), (2, .long p1)] := hl
  obtain ⟨Z, hZ⟩ : ∃ z, z = MQ below (pm_QL (s_X3_remainderOfFinite p0 p1)) ([.long p0, .long p1] : List Value).toArray s 0 0 pv_N := ⟨_, rfl⟩
  rw [← hZ]
  obtain ⟨Y, hY⟩ : ∃ y, y = s_X3_remainderOfFinite p0 p1 := ⟨_, rfl⟩
  refine va_gets hx hb hF.1 hS hown (hts _ (List.mem_of_getElem? (i := 1) rfl)) (fun _ h9 => h9) dX3_remainderOfFinite_0 ?_
  refine lv_lload_n hx hb dX3_remainderOfFinite_3 rfl (lv_at hl 1 rfl) ?_
  refine pm_callL (va_runV (As := [.long p1]) (rest := []) ⟨hx, hb, hml, hown, hts⟩ (pm_X0_significand l 52 (-1074) 9218868437227405312 (-9223372036854775808) dD p1) (cwV 1 hts gX3_remainderOfFinite_X0_significand rfl rfl rfl hdv_X0_significand ⟨Nat.le_of_ble_eq_true rfl, Nat.le_of_ble_eq_true rfl⟩) ⟨KQ.fb, va_Orecv hF.2.2.1.1 hS, fun U hU hW => ⟨rfl, (KQ.call hF.2.2.1 hS U hU hW)⟩⟩ rfl rfl hl.1 rfl (lv_room (Nat.le_of_ble_eq_true rfl)) dX3_remainderOfFinite_4 ⟨Nat.le_refl 0, Nat.le_refl 0⟩) hS (fun H locs _ _ hS => ?_)
  refine lv_topl (fun x_7 ex_7 => ?_)
  refine lv_lstore (lv' := [(4, .long x_7), (0, .long p0), (2, .long p1)]) hx hb dX3_remainderOfFinite_7 hl (by decide) rfl (fun ls hl => ?_)
  refine lv_lload hx hb dX3_remainderOfFinite_9 (lv_at hl 0 rfl) ?_
  refine lv_lconst (v := 0) hx hb dX3_remainderOfFinite_11 (by decide) ?_
  refine lp_ne (tgt := 23) hx hb dX3_remainderOfFinite_12 dX3_remainderOfFinite_13 (by decide) (fun c_12 => ?_) (fun c_12 => ?_)
  ·
    refine va_gets hx hb hF.1 hS hown (hts _ (List.mem_of_getElem? (i := 1) rfl)) (fun _ h9 => h9) dX3_remainderOfFinite_23 ?_
    refine lv_lload_n hx hb dX3_remainderOfFinite_26 rfl (lv_at hl 2 rfl) ?_
    refine pm_callI (va_runV (As := [.long p1]) (rest := []) ⟨hx, hb, hml, hown, hts⟩ (pm_X0_exponent l 52 (-1074) 9218868437227405312 (-9223372036854775808) dD p1) (cwV 1 hts gX3_remainderOfFinite_X0_exponent rfl rfl rfl hdv_X0_exponent ⟨Nat.le_of_ble_eq_true rfl, Nat.le_of_ble_eq_true rfl⟩) ⟨KQ.fb, va_Orecv hF.2.2.1.1 hS, fun U hU hW => ⟨rfl, (KQ.call hF.2.2.1 hS U hU hW)⟩⟩ rfl rfl hl.1 rfl (lv_room (Nat.le_of_ble_eq_true rfl)) dX3_remainderOfFinite_27 ⟨Nat.le_refl 0, Nat.le_refl 0⟩) hS (fun H locs _ _ hS => ?_)
    refine lv_topi (fun x_30 ex_30 => ?_)
    refine lv_istore (lv' := [(6, .int x_30), (4, .long x_7), (0, .long p0), (2, .long p1)]) hx hb dX3_remainderOfFinite_30 hl (by decide) rfl (fun ls hl => ?_)
    refine va_gets hx hb hF.1 hS hown (hts _ (List.mem_of_getElem? (i := 1) rfl)) (fun _ h9 => h9) dX3_remainderOfFinite_32 ?_
    refine lv_lload_n hx hb dX3_remainderOfFinite_35 rfl (lv_at hl 2 rfl) ?_
    refine pm_callL (va_runV (As := [.long p0]) (rest := []) ⟨hx, hb, hml, hown, hts⟩ (pm_X0_significand l 52 (-1074) 9218868437227405312 (-9223372036854775808) dD p0) (cwV 1 hts gX3_remainderOfFinite_X0_significand rfl rfl rfl hdv_X0_significand ⟨Nat.le_of_ble_eq_true rfl, Nat.le_of_ble_eq_true rfl⟩) ⟨KQ.fb, va_Orecv hF.2.2.1.1 hS, fun U hU hW => ⟨rfl, (KQ.call hF.2.2.1 hS U hU hW)⟩⟩ rfl rfl hl.1 rfl (lv_room (Nat.le_of_ble_eq_true rfl)) dX3_remainderOfFinite_36 ⟨Nat.le_refl 0, Nat.le_refl 0⟩) hS (fun H locs _ _ hS => ?_)
    refine lv_lload hx hb dX3_remainderOfFinite_39 (lv_at hl 1 rfl) ?_
    refine lv_lrem hx hb dX3_remainderOfFinite_41 (c_12) ?_
    refine lv_topl (fun x_42 ex_42 => ?_)
    refine lv_lstore (lv' := [(7, .long x_42), (6, .int x_30), (4, .long x_7), (0, .long p0), (2, .long p1)]) hx hb dX3_remainderOfFinite_42 hl (by decide) rfl (fun ls hl => ?_)
    refine va_gets hx hb hF.1 hS hown (hts _ (List.mem_of_getElem? (i := 1) rfl)) (fun _ h9 => h9) dX3_remainderOfFinite_44 ?_
    refine lv_lload_n hx hb dX3_remainderOfFinite_47 rfl (lv_at hl 3 rfl) ?_
    refine pm_callI (va_runV (As := [.long p0]) (rest := []) ⟨hx, hb, hml, hown, hts⟩ (pm_X0_exponent l 52 (-1074) 9218868437227405312 (-9223372036854775808) dD p0) (cwV 1 hts gX3_remainderOfFinite_X0_exponent rfl rfl rfl hdv_X0_exponent ⟨Nat.le_of_ble_eq_true rfl, Nat.le_of_ble_eq_true rfl⟩) ⟨KQ.fb, va_Orecv hF.2.2.1.1 hS, fun U hU hW => ⟨rfl, (KQ.call hF.2.2.1 hS U hU hW)⟩⟩ rfl rfl hl.1 rfl (lv_room (Nat.le_of_ble_eq_true rfl)) dX3_remainderOfFinite_48 ⟨Nat.le_refl 0, Nat.le_refl 0⟩) hS (fun H locs _ _ hS => ?_)
    refine lv_iload hx hb dX3_remainderOfFinite_51 (lv_at hl 1 rfl) ?_
    refine lv_isub hx hb dX3_remainderOfFinite_53 ?_
    refine lv_topi (fun x_54 ex_54 => ?_)
    refine lv_istore (lv' := [(9, .int x_54), (7, .long x_42), (6, .int x_30), (4, .long x_7), (0, .long p0), (2, .long p1)]) hx hb dX3_remainderOfFinite_54 hl (by decide) rfl (fun ls hl => ?_)
    have K_56 : ∀ (n : Nat) (y_56_7 : Int64) (y_56_9 : Int32) (H : Heap) (locs : List Loc), va_S pv_N s.heap H locs → ∀ (ls : Array Slot), lv_has ls 10 [(0, .long p0), (4, .long x_7), (6, .int x_30), (7, .long y_56_7), (9, .int y_56_9)] → ((y_56_9).toInt < (n : Int) ∧ 1 ≤ n) → s_X3_remainderOfFinite p0 p1 = s_X3_remainderOfFinite_l56 p0 p1 x_30 x_7 n y_56_7 y_56_9 → W p l e (pm_R 3 73) s m ([.long p0, .long p1] : List Value).toArray below meth c H locs 0 0 Z (F0 m 56 ls []) := by
      intro n
      induction n with
      | zero =>
        intro y_56_7 y_56_9 H locs hS ls hl hI hK_56
        exact absurd hI.2 (by decide)
      | succ n ih =>
        intro y_56_7 y_56_9 H locs hS ls hl hI hK_56
        refine lv_iload hx hb dX3_remainderOfFinite_56 (lv_at hl 4 rfl) ?_
        refine lv_if_le (tgt := 82) hx hb dX3_remainderOfFinite_58 (by decide) (fun c_58 => ?_) (fun c_58 => ?_)
        ·
          refine va_gets hx hb hF.1 hS hown (hts _ (List.mem_of_getElem? (i := 1) rfl)) (fun _ h9 => h9) dX3_remainderOfFinite_82 ?_
          refine lv_lload_n hx hb dX3_remainderOfFinite_85 rfl (lv_at hl 0 rfl) ?_
          refine lv_lconst (v := 0) hx hb dX3_remainderOfFinite_86 (by decide) ?_
          refine lp_ge (tgt := 95) hx hb dX3_remainderOfFinite_87 dX3_remainderOfFinite_88 (by decide) (fun c_87 => ?_) (fun c_87 => ?_)
          ·
            refine lv_iconst (v := 0) hx hb dX3_remainderOfFinite_95 (by decide) ?_
            refine lv_iload hx hb dX3_remainderOfFinite_96 (lv_at hl 2 rfl) ?_
            refine lv_lload hx hb dX3_remainderOfFinite_98 (lv_at hl 3 rfl) ?_
            refine pm_callL (va_runV (As := [.int 0, .int x_30, .long y_56_7]) (rest := []) ⟨hx, hb, hml, hown, hts⟩ (pm_X0_pack l 52 (-1074) 9218868437227405312 (-9223372036854775808) dD 0 x_30 y_56_7) (cwV 3 hts gX3_remainderOfFinite_X0_pack rfl rfl rfl hdv_X0_pack ⟨Nat.le_of_ble_eq_true rfl, Nat.le_of_ble_eq_true rfl⟩) ⟨KQ.fb, va_Orecv hF.2.2.1.1 hS, fun U hU hW => ⟨rfl, (KQ.call hF.2.2.1 hS U hU hW)⟩⟩ rfl rfl hl.1 rfl (lv_room (Nat.le_of_ble_eq_true rfl)) dX3_remainderOfFinite_100 ⟨Nat.le_refl 0, Nat.le_refl 0⟩) hS (fun H locs _ _ hS => ?_)
            rw [hZ]
            exact pm_lret (w := s_X3_remainderOfFinite p0 p1) hx hb hr hlocks hS (by subst ex_54 ex_42 ex_30 ex_7; exact (hK_56.trans ((if_pos c_58).trans (if_pos c_87))).symm) dX3_remainderOfFinite_103
          ·
            refine lv_iconst (v := 1) hx hb dX3_remainderOfFinite_91 (by decide) ?_
            refine lv_goto (tgt := 96) hx hb dX3_remainderOfFinite_92 (by decide) ?_
            refine lv_iload hx hb dX3_remainderOfFinite_96 (lv_at hl 2 rfl) ?_
            refine lv_lload hx hb dX3_remainderOfFinite_98 (lv_at hl 3 rfl) ?_
            refine pm_callL (va_runV (As := [.int 1, .int x_30, .long y_56_7]) (rest := []) ⟨hx, hb, hml, hown, hts⟩ (pm_X0_pack l 52 (-1074) 9218868437227405312 (-9223372036854775808) dD 1 x_30 y_56_7) (cwV 3 hts gX3_remainderOfFinite_X0_pack rfl rfl rfl hdv_X0_pack ⟨Nat.le_of_ble_eq_true rfl, Nat.le_of_ble_eq_true rfl⟩) ⟨KQ.fb, va_Orecv hF.2.2.1.1 hS, fun U hU hW => ⟨rfl, (KQ.call hF.2.2.1 hS U hU hW)⟩⟩ rfl rfl hl.1 rfl (lv_room (Nat.le_of_ble_eq_true rfl)) dX3_remainderOfFinite_100 ⟨Nat.le_refl 0, Nat.le_refl 0⟩) hS (fun H locs _ _ hS => ?_)
            rw [hZ]
            exact pm_lret (w := s_X3_remainderOfFinite p0 p1) hx hb hr hlocks hS (by subst ex_54 ex_42 ex_30 ex_7; exact (hK_56.trans ((if_pos c_58).trans (if_neg c_87))).symm) dX3_remainderOfFinite_103
        ·
          refine lv_lload hx hb dX3_remainderOfFinite_61 (lv_at hl 3 rfl) ?_
          refine lv_iload hx hb dX3_remainderOfFinite_63 (lv_at hl 4 rfl) ?_
          refine lv_bipush (v := 10) hx hb dX3_remainderOfFinite_65 (by decide) ?_
          refine va_mmin hx hb (hml.trans hl.1.symm) hown (hts _ (List.mem_of_getElem? (i := 2) rfl)) (hts _ (List.mem_of_getElem? (i := 3) rfl)) (hts _ (List.mem_of_getElem? (i := 4) rfl)) (hts _ (List.mem_of_getElem? (i := 5) rfl)) (Nat.le_of_ble_eq_true rfl) (Nat.le_of_ble_eq_true rfl) (Nat.le_refl 0) (Nat.le_refl 0) dX3_remainderOfFinite_67 ?_
          refine lv_lshl (v := lShl y_56_7 (if 10 < y_56_9 then 10 else y_56_9)) hx hb dX3_remainderOfFinite_70 rfl ?_
          refine lv_lload hx hb dX3_remainderOfFinite_71 (lv_at hl 1 rfl) ?_
          refine lv_lrem hx hb dX3_remainderOfFinite_73 (c_12) ?_
          refine lv_topl (fun x_74 ex_74 => ?_)
          refine lv_lstore (lv' := [(7, .long x_74), (0, .long p0), (4, .long x_7), (6, .int x_30), (9, .int y_56_9)]) hx hb dX3_remainderOfFinite_74 hl (by decide) rfl (fun ls hl => ?_)
          obtain ⟨x_76, ex_76⟩ : ∃ y : Int32, y = y_56_9 + (-10) := ⟨_, rfl⟩
          refine lv_iinc (v := x_76) (lv' := [(9, .int x_76), (7, .long x_74), (0, .long p0), (4, .long x_7), (6, .int x_30)]) hx hb dX3_remainderOfFinite_76 hl (k := 4) rfl (by rw [ex_76]; rfl) (by decide) rfl (fun ls hl => ?_)
          refine lv_goto (tgt := 56) hx hb dX3_remainderOfFinite_79 (by decide) ?_
          exact ih x_74 x_76 _ _ hS ls (lv_sub hl [2, 3, 4, 1, 0] rfl) (by subst ex_76; have h1 := i32_m10 c_58; have h2 := hI.1; exact ⟨by omega, by omega⟩) (by subst ex_76 ex_74 ex_54 ex_42 ex_30 ex_7; exact hK_56.trans (if_neg c_58))
    exact K_56 (x_54.toInt.toNat + 1) x_42 x_54 _ _ hS ls (lv_sub hl [4, 3, 2, 1, 0] rfl) (⟨by omega, by omega⟩) (by subst ex_54 ex_42 ex_30 ex_7; exact (if_neg c_12))
  ·
    refine va_gets hx hb hF.1 hS hown (hts _ (List.mem_of_getElem? (i := 1) rfl)) (fun _ h9 => h9) dX3_remainderOfFinite_16 ?_
    refine pm_callL (va_runV (As := []) (rest := []) ⟨hx, hb, hml, hown, hts⟩ (pm_X0_plainNaN l 52 (-1074) 9218868437227405312 (-9223372036854775808) dD) (cwV 0 hts gX3_remainderOfFinite_X0_plainNaN rfl rfl rfl hdv_X0_plainNaN ⟨Nat.le_of_ble_eq_true rfl, Nat.le_of_ble_eq_true rfl⟩) ⟨KQ.fb, va_Orecv hF.2.2.1.1 hS, fun U hU hW => ⟨rfl, (KQ.call hF.2.2.1 hS U hU hW)⟩⟩ rfl rfl hl.1 rfl (lv_room (Nat.le_of_ble_eq_true rfl)) dX3_remainderOfFinite_19 ⟨Nat.le_refl 0, Nat.le_refl 0⟩) hS (fun H locs _ _ hS => ?_)
    rw [hZ]
    exact pm_lret (w := s_X3_remainderOfFinite p0 p1) hx hb hr hlocks hS (by subst ex_7; exact ((if_pos c_12)).symm) dX3_remainderOfFinite_22
theorem hd_X3_remainder : yX3_remainder.cls ≠ "java/lang/invoke/MethodHandle" ∧ yX3_remainder.cls ≠ "java/lang/invoke/VarHandle" ∧ (parseMethodDescriptor yX3_remainder.desc).map (fun d => d.parameters.length) = some 2 := by decide +kernel
def s_X3_remainder_j82 (p0 : Int64) (p1 : Int64) (z_82_0 : Int32) : Int64 :=
  if z_82_0 = 0 then s_X3_remainderOfFinite p0 p1
  else p0
def s_X3_remainder_j25 (p0 : Int64) (p1 : Int64) (z_25_0 : Int32) : Int64 :=
  if z_25_0 = 0 then if (s_X0_isInfinite 52 (-1074) 9218868437227405312 (-9223372036854775808) p0) = 0 then if (s_X0_isZero 52 (-1074) 9218868437227405312 (-9223372036854775808) p1) = 0 then if (s_X0_magnitude 52 (-1074) 9218868437227405312 (-9223372036854775808) p1) ≤ (s_X0_magnitude 52 (-1074) 9218868437227405312 (-9223372036854775808) p0) then s_X3_remainder_j82 p0 p1 0
  else s_X3_remainder_j82 p0 p1 1
  else s_X0_plainNaN 52 (-1074) 9218868437227405312 (-9223372036854775808)
  else s_X0_plainNaN 52 (-1074) 9218868437227405312 (-9223372036854775808)
  else s_X0_plainNaN 52 (-1074) 9218868437227405312 (-9223372036854775808)
def s_X3_remainder (p0 : Int64) (p1 : Int64) : Int64 :=
  if (s_X0_isNaN 52 (-1074) 9218868437227405312 (-9223372036854775808) p0) = 0 then if (s_X0_isNaN 52 (-1074) 9218868437227405312 (-9223372036854775808) p1) = 0 then s_X3_remainder_j25 p0 p1 0
  else s_X3_remainder_j25 p0 p1 1
  else s_X3_remainder_j25 p0 p1 1
set_option maxHeartbeats 4000000 in
set_option maxRecDepth 100000 in
theorem pm_X3_remainder (l : Launch) (dD dF : Nat) (p0 : Int64) (p1 : Int64) : PmL l yX3_remainder wsX3_remainder 4 102 [.long p0, .long p1] (fun U => KF dD dF pv_N U U.heap) (s_X3_remainder p0 p1) := by
  refine Met.ofW (cc := cX3_remainder) (maxL := 6) (ret := (some .long)) (by decide) rfl ?_
  intro p e s m args below meth c s₁ B hml hv
  obtain ⟨rfl, hF⟩ := hv
  have hx := B.exec
  have hb := B.bytes
  have hr := B.returns
  have hts := atoms_spec (ws := wsX3_remainder) B.pre
  have hown : s.vm.findClass RX3 = some m.cls := findClass_of_methodNamed B.named
  have hlocks := B.notSynchronized
  have hS : va_S pv_N s.heap s.heap [] := va_S.rf
  have hl := lv_entry ([.long p0, .long p1]) (n := 6) (Nat.le_of_ble_eq_true rfl)
  rw [lg_entry_eq]
  generalize (lg_sl ([.long p0, .long p1]) ++ List.replicate (6 - (lg_sl ([.long p0, .long p1])).length) Slot.unset).toArray = ls at hl ⊢
  have hl : lv_has ls 6 [(0, .long p0), (2, .long p1)] := hl
  obtain ⟨Z, hZ⟩ : ∃ z, z = MQ below (pm_QL (s_X3_remainder p0 p1)) ([.long p0, .long p1] : List Value).toArray s 0 0 pv_N := ⟨_, rfl⟩
  rw [← hZ]
  obtain ⟨Y, hY⟩ : ∃ y, y = s_X3_remainder p0 p1 := ⟨_, rfl⟩
  refine va_gets hx hb hF.1 hS hown (hts _ (List.mem_of_getElem? (i := 1) rfl)) (fun _ h9 => h9) dX3_remainder_0 ?_
  refine lv_lload_n hx hb dX3_remainder_3 rfl (lv_at hl 0 rfl) ?_
  refine pm_callI (va_runV (As := [.long p0]) (rest := []) ⟨hx, hb, hml, hown, hts⟩ (pm_X0_isNaN l 52 (-1074) 9218868437227405312 (-9223372036854775808) dD p0) (cwV 1 hts gX3_remainder_X0_isNaN rfl rfl rfl hdv_X0_isNaN ⟨Nat.le_of_ble_eq_true rfl, Nat.le_of_ble_eq_true rfl⟩) ⟨KQ.fb, va_Orecv hF.2.2.1.1 hS, fun U hU hW => ⟨rfl, (KQ.call hF.2.2.1 hS U hU hW)⟩⟩ rfl rfl hl.1 rfl (lv_room (Nat.le_of_ble_eq_true rfl)) dX3_remainder_4 ⟨Nat.le_refl 0, Nat.le_refl 0⟩) hS (fun H locs _ _ hS => ?_)
  have K_25 : ∀ (z_25_0 : Int32) (H : Heap) (locs : List Loc), va_S pv_N s.heap H locs → ∀ (ls : Array Slot), lv_has ls 6 [(0, .long p0), (2, .long p1)] → s_X3_remainder p0 p1 = s_X3_remainder_j25 p0 p1 z_25_0 → W p l e (pm_R 4 102) s m ([.long p0, .long p1] : List Value).toArray below meth c H locs 0 0 Z (F0 m 25 ls [.int z_25_0]) := by
    intro z_25_0 H locs hS ls hl hK_25
    refine lv_istore (lv' := [(4, .int z_25_0), (0, .long p0), (2, .long p1)]) hx hb dX3_remainder_25 hl (by decide) rfl (fun ls hl => ?_)
    refine lv_iload hx hb dX3_remainder_27 (lv_at hl 0 rfl) ?_
    refine lv_if_ne (tgt := 52) hx hb dX3_remainder_29 (by decide) (fun c_29 => ?_) (fun c_29 => ?_)
    ·
      refine va_gets hx hb hF.1 hS hown (hts _ (List.mem_of_getElem? (i := 1) rfl)) (fun _ h9 => h9) dX3_remainder_52 ?_
      refine pm_callL (va_runV (As := []) (rest := []) ⟨hx, hb, hml, hown, hts⟩ (pm_X0_plainNaN l 52 (-1074) 9218868437227405312 (-9223372036854775808) dD) (cwV 0 hts gX3_remainder_X0_plainNaN rfl rfl rfl hdv_X0_plainNaN ⟨Nat.le_of_ble_eq_true rfl, Nat.le_of_ble_eq_true rfl⟩) ⟨KQ.fb, va_Orecv hF.2.2.1.1 hS, fun U hU hW => ⟨rfl, (KQ.call hF.2.2.1 hS U hU hW)⟩⟩ rfl rfl hl.1 rfl (lv_room (Nat.le_of_ble_eq_true rfl)) dX3_remainder_55 ⟨Nat.le_refl 0, Nat.le_refl 0⟩) hS (fun H locs _ _ hS => ?_)
      rw [hZ]
      exact pm_lret (w := s_X3_remainder p0 p1) hx hb hr hlocks hS (by exact (hK_25.trans (if_neg c_29)).symm) dX3_remainder_58
    ·
      refine va_gets hx hb hF.1 hS hown (hts _ (List.mem_of_getElem? (i := 1) rfl)) (fun _ h9 => h9) dX3_remainder_32 ?_
      refine lv_lload_n hx hb dX3_remainder_35 rfl (lv_at hl 1 rfl) ?_
      refine pm_callI (va_runV (As := [.long p0]) (rest := []) ⟨hx, hb, hml, hown, hts⟩ (pm_X0_isInfinite l 52 (-1074) 9218868437227405312 (-9223372036854775808) dD p0) (cwV 1 hts gX3_remainder_X0_isInfinite rfl rfl rfl hdv_X0_isInfinite ⟨Nat.le_of_ble_eq_true rfl, Nat.le_of_ble_eq_true rfl⟩) ⟨KQ.fb, va_Orecv hF.2.2.1.1 hS, fun U hU hW => ⟨rfl, (KQ.call hF.2.2.1 hS U hU hW)⟩⟩ rfl rfl hl.1 rfl (lv_room (Nat.le_of_ble_eq_true rfl)) dX3_remainder_36 ⟨Nat.le_refl 0, Nat.le_refl 0⟩) hS (fun H locs _ _ hS => ?_)
      refine lv_if_ne (tgt := 52) hx hb dX3_remainder_39 (by decide) (fun c_39 => ?_) (fun c_39 => ?_)
      ·
        refine va_gets hx hb hF.1 hS hown (hts _ (List.mem_of_getElem? (i := 1) rfl)) (fun _ h9 => h9) dX3_remainder_52 ?_
        refine pm_callL (va_runV (As := []) (rest := []) ⟨hx, hb, hml, hown, hts⟩ (pm_X0_plainNaN l 52 (-1074) 9218868437227405312 (-9223372036854775808) dD) (cwV 0 hts gX3_remainder_X0_plainNaN rfl rfl rfl hdv_X0_plainNaN ⟨Nat.le_of_ble_eq_true rfl, Nat.le_of_ble_eq_true rfl⟩) ⟨KQ.fb, va_Orecv hF.2.2.1.1 hS, fun U hU hW => ⟨rfl, (KQ.call hF.2.2.1 hS U hU hW)⟩⟩ rfl rfl hl.1 rfl (lv_room (Nat.le_of_ble_eq_true rfl)) dX3_remainder_55 ⟨Nat.le_refl 0, Nat.le_refl 0⟩) hS (fun H locs _ _ hS => ?_)
        rw [hZ]
        exact pm_lret (w := s_X3_remainder p0 p1) hx hb hr hlocks hS (by exact (hK_25.trans ((if_pos c_29).trans (if_neg c_39))).symm) dX3_remainder_58
      ·
        refine va_gets hx hb hF.1 hS hown (hts _ (List.mem_of_getElem? (i := 1) rfl)) (fun _ h9 => h9) dX3_remainder_42 ?_
        refine lv_lload_n hx hb dX3_remainder_45 rfl (lv_at hl 2 rfl) ?_
        refine pm_callI (va_runV (As := [.long p1]) (rest := []) ⟨hx, hb, hml, hown, hts⟩ (pm_X0_isZero l 52 (-1074) 9218868437227405312 (-9223372036854775808) dD p1) (cwV 1 hts gX3_remainder_X0_isZero rfl rfl rfl hdv_X0_isZero ⟨Nat.le_of_ble_eq_true rfl, Nat.le_of_ble_eq_true rfl⟩) ⟨KQ.fb, va_Orecv hF.2.2.1.1 hS, fun U hU hW => ⟨rfl, (KQ.call hF.2.2.1 hS U hU hW)⟩⟩ rfl rfl hl.1 rfl (lv_room (Nat.le_of_ble_eq_true rfl)) dX3_remainder_46 ⟨Nat.le_refl 0, Nat.le_refl 0⟩) hS (fun H locs _ _ hS => ?_)
        refine lv_if_eq (tgt := 59) hx hb dX3_remainder_49 (by decide) (fun c_49 => ?_) (fun c_49 => ?_)
        ·
          refine va_gets hx hb hF.1 hS hown (hts _ (List.mem_of_getElem? (i := 1) rfl)) (fun _ h9 => h9) dX3_remainder_59 ?_
          refine lv_lload_n hx hb dX3_remainder_62 rfl (lv_at hl 1 rfl) ?_
          refine pm_callL (va_runV (As := [.long p0]) (rest := []) ⟨hx, hb, hml, hown, hts⟩ (pm_X0_magnitude l 52 (-1074) 9218868437227405312 (-9223372036854775808) dD p0) (cwV 1 hts gX3_remainder_X0_magnitude rfl rfl rfl hdv_X0_magnitude ⟨Nat.le_of_ble_eq_true rfl, Nat.le_of_ble_eq_true rfl⟩) ⟨KQ.fb, va_Orecv hF.2.2.1.1 hS, fun U hU hW => ⟨rfl, (KQ.call hF.2.2.1 hS U hU hW)⟩⟩ rfl rfl hl.1 rfl (lv_room (Nat.le_of_ble_eq_true rfl)) dX3_remainder_63 ⟨Nat.le_refl 0, Nat.le_refl 0⟩) hS (fun H locs _ _ hS => ?_)
          refine va_gets hx hb hF.1 hS hown (hts _ (List.mem_of_getElem? (i := 1) rfl)) (fun _ h9 => h9) dX3_remainder_66 ?_
          refine lv_lload_n hx hb dX3_remainder_69 rfl (lv_at hl 2 rfl) ?_
          refine pm_callL (va_runV (As := [.long p1]) (rest := [.long (s_X0_magnitude 52 (-1074) 9218868437227405312 (-9223372036854775808) p0)]) ⟨hx, hb, hml, hown, hts⟩ (pm_X0_magnitude l 52 (-1074) 9218868437227405312 (-9223372036854775808) dD p1) (cwV 1 hts gX3_remainder_X0_magnitude rfl rfl rfl hdv_X0_magnitude ⟨Nat.le_of_ble_eq_true rfl, Nat.le_of_ble_eq_true rfl⟩) ⟨KQ.fb, va_Orecv hF.2.2.1.1 hS, fun U hU hW => ⟨rfl, (KQ.call hF.2.2.1 hS U hU hW)⟩⟩ rfl rfl hl.1 rfl (lv_room (Nat.le_of_ble_eq_true rfl)) dX3_remainder_70 ⟨Nat.le_refl 0, Nat.le_refl 0⟩) hS (fun H locs _ _ hS => ?_)
          have K_82 : ∀ (z_82_0 : Int32) (H : Heap) (locs : List Loc), va_S pv_N s.heap H locs → ∀ (ls : Array Slot), lv_has ls 6 [(0, .long p0), (2, .long p1)] → s_X3_remainder p0 p1 = s_X3_remainder_j82 p0 p1 z_82_0 → W p l e (pm_R 4 102) s m ([.long p0, .long p1] : List Value).toArray below meth c H locs 0 0 Z (F0 m 82 ls [.int z_82_0]) := by
            intro z_82_0 H locs hS ls hl hK_82
            refine lv_istore (lv' := [(5, .int z_82_0), (0, .long p0), (2, .long p1)]) hx hb dX3_remainder_82 hl (by decide) rfl (fun ls hl => ?_)
            refine lv_iload hx hb dX3_remainder_84 (lv_at hl 0 rfl) ?_
            refine lv_if_eq (tgt := 93) hx hb dX3_remainder_86 (by decide) (fun c_86 => ?_) (fun c_86 => ?_)
            ·
              refine lv_lload_n hx hb dX3_remainder_93 rfl (lv_at hl 1 rfl) ?_
              refine lv_lload_n hx hb dX3_remainder_94 rfl (lv_at hl 2 rfl) ?_
              refine pm_callL (va_runS (As := [.long p0, .long p1]) (rest := []) ⟨hx, hb, hml, hown, hts⟩ (pm_X3_remainderOfFinite l dD dF p0 p1) (va_cwS 2 hts gX3_remainder_X3_remainderOfFinite rfl rfl rfl hd_X3_remainderOfFinite ⟨Nat.le_of_ble_eq_true rfl, Nat.le_of_ble_eq_true rfl⟩) ⟨KF.fb, fun U hU hW => ⟨rfl, (KF.call hF hS U hU hW)⟩⟩ rfl rfl hl.1 rfl (lv_room (Nat.le_of_ble_eq_true rfl)) dX3_remainder_95 ⟨Nat.le_refl 0, Nat.le_refl 0⟩) hS (fun H locs _ _ hS => ?_)
              rw [hZ]
              exact pm_lret (w := s_X3_remainder p0 p1) hx hb hr hlocks hS (by exact (hK_82.trans (if_pos c_86)).symm) dX3_remainder_98
            ·
              refine lv_lload_n hx hb dX3_remainder_89 rfl (lv_at hl 1 rfl) ?_
              refine lv_goto (tgt := 98) hx hb dX3_remainder_90 (by decide) ?_
              rw [hZ]
              exact pm_lret (w := s_X3_remainder p0 p1) hx hb hr hlocks hS (by exact (hK_82.trans (if_neg c_86)).symm) dX3_remainder_98
          refine lp_ge (tgt := 81) hx hb dX3_remainder_73 dX3_remainder_74 (by decide) (fun c_73 => ?_) (fun c_73 => ?_)
          ·
            refine lv_iconst (v := 0) hx hb dX3_remainder_81 (by decide) ?_
            exact K_82 0 _ _ hS ls (lv_sub hl [1, 2] rfl) (hK_25.trans ((((if_pos c_29).trans (if_pos c_39)).trans (if_pos c_49)).trans (if_pos c_73)))
          ·
            refine lv_iconst (v := 1) hx hb dX3_remainder_77 (by decide) ?_
            refine lv_goto (tgt := 82) hx hb dX3_remainder_78 (by decide) ?_
            exact K_82 1 _ _ hS ls (lv_sub hl [1, 2] rfl) (hK_25.trans ((((if_pos c_29).trans (if_pos c_39)).trans (if_pos c_49)).trans (if_neg c_73)))
        ·
          refine va_gets hx hb hF.1 hS hown (hts _ (List.mem_of_getElem? (i := 1) rfl)) (fun _ h9 => h9) dX3_remainder_52 ?_
          refine pm_callL (va_runV (As := []) (rest := []) ⟨hx, hb, hml, hown, hts⟩ (pm_X0_plainNaN l 52 (-1074) 9218868437227405312 (-9223372036854775808) dD) (cwV 0 hts gX3_remainder_X0_plainNaN rfl rfl rfl hdv_X0_plainNaN ⟨Nat.le_of_ble_eq_true rfl, Nat.le_of_ble_eq_true rfl⟩) ⟨KQ.fb, va_Orecv hF.2.2.1.1 hS, fun U hU hW => ⟨rfl, (KQ.call hF.2.2.1 hS U hU hW)⟩⟩ rfl rfl hl.1 rfl (lv_room (Nat.le_of_ble_eq_true rfl)) dX3_remainder_55 ⟨Nat.le_refl 0, Nat.le_refl 0⟩) hS (fun H locs _ _ hS => ?_)
          rw [hZ]
          exact pm_lret (w := s_X3_remainder p0 p1) hx hb hr hlocks hS (by exact (hK_25.trans (((if_pos c_29).trans (if_pos c_39)).trans (if_neg c_49))).symm) dX3_remainder_58
  refine lv_if_ne (tgt := 20) hx hb dX3_remainder_7 (by decide) (fun c_7 => ?_) (fun c_7 => ?_)
  ·
    refine lv_iconst (v := 1) hx hb dX3_remainder_20 (by decide) ?_
    refine lv_goto (tgt := 25) hx hb dX3_remainder_21 (by decide) ?_
    exact K_25 1 _ _ hS ls (lv_sub hl [0, 1] rfl) ((if_neg c_7))
  ·
    refine va_gets hx hb hF.1 hS hown (hts _ (List.mem_of_getElem? (i := 1) rfl)) (fun _ h9 => h9) dX3_remainder_10 ?_
    refine lv_lload_n hx hb dX3_remainder_13 rfl (lv_at hl 1 rfl) ?_
    refine pm_callI (va_runV (As := [.long p1]) (rest := []) ⟨hx, hb, hml, hown, hts⟩ (pm_X0_isNaN l 52 (-1074) 9218868437227405312 (-9223372036854775808) dD p1) (cwV 1 hts gX3_remainder_X0_isNaN rfl rfl rfl hdv_X0_isNaN ⟨Nat.le_of_ble_eq_true rfl, Nat.le_of_ble_eq_true rfl⟩) ⟨KQ.fb, va_Orecv hF.2.2.1.1 hS, fun U hU hW => ⟨rfl, (KQ.call hF.2.2.1 hS U hU hW)⟩⟩ rfl rfl hl.1 rfl (lv_room (Nat.le_of_ble_eq_true rfl)) dX3_remainder_14 ⟨Nat.le_refl 0, Nat.le_refl 0⟩) hS (fun H locs _ _ hS => ?_)
    refine lv_if_eq (tgt := 24) hx hb dX3_remainder_17 (by decide) (fun c_17 => ?_) (fun c_17 => ?_)
    ·
      refine lv_iconst (v := 0) hx hb dX3_remainder_24 (by decide) ?_
      exact K_25 0 _ _ hS ls (lv_sub hl [0, 1] rfl) (((if_pos c_7).trans (if_pos c_17)))
    ·
      refine lv_iconst (v := 1) hx hb dX3_remainder_20 (by decide) ?_
      refine lv_goto (tgt := 25) hx hb dX3_remainder_21 (by decide) ?_
      exact K_25 1 _ _ hS ls (lv_sub hl [0, 1] rfl) (((if_pos c_7).trans (if_neg c_17)))
theorem hd_X3_rankWithSignOfZero : yX3_rankWithSignOfZero.cls ≠ "java/lang/invoke/MethodHandle" ∧ yX3_rankWithSignOfZero.cls ≠ "java/lang/invoke/VarHandle" ∧ (parseMethodDescriptor yX3_rankWithSignOfZero.desc).map (fun d => d.parameters.length) = some 1 := by decide +kernel
def s_X3_rankWithSignOfZero (p0 : Int64) : Int64 :=
  if 0 ≤ p0 then p0
  else (s_X0_magnitude 52 (-1074) 9218868437227405312 (-9223372036854775808) p0) ^^^ (-1)
set_option maxHeartbeats 4000000 in
set_option maxRecDepth 100000 in
theorem pm_X3_rankWithSignOfZero (l : Launch) (dD dF : Nat) (p0 : Int64) : PmL l yX3_rankWithSignOfZero wsX3_rankWithSignOfZero 1 22 [.long p0] (fun U => KF dD dF pv_N U U.heap) (s_X3_rankWithSignOfZero p0) := by
  refine Met.ofW (cc := cX3_rankWithSignOfZero) (maxL := 2) (ret := (some .long)) (by decide) rfl ?_
  intro p e s m args below meth c s₁ B hml hv
  obtain ⟨rfl, hF⟩ := hv
  have hx := B.exec
  have hb := B.bytes
  have hr := B.returns
  have hts := atoms_spec (ws := wsX3_rankWithSignOfZero) B.pre
  have hown : s.vm.findClass RX3 = some m.cls := findClass_of_methodNamed B.named
  have hlocks := B.notSynchronized
  have hS : va_S pv_N s.heap s.heap [] := va_S.rf
  have hl := lv_entry ([.long p0]) (n := 2) (Nat.le_of_ble_eq_true rfl)
  rw [lg_entry_eq]
  generalize (lg_sl ([.long p0]) ++ List.replicate (2 - (lg_sl ([.long p0])).length) Slot.unset).toArray = ls at hl ⊢
  have hl : lv_has ls 2 [(0, .long p0)] := hl
  obtain ⟨Z, hZ⟩ : ∃ z, z = MQ below (pm_QL (s_X3_rankWithSignOfZero p0)) ([.long p0] : List Value).toArray s 0 0 pv_N := ⟨_, rfl⟩
  rw [← hZ]
  obtain ⟨Y, hY⟩ : ∃ y, y = s_X3_rankWithSignOfZero p0 := ⟨_, rfl⟩
  refine lv_lload_n hx hb dX3_rankWithSignOfZero_0 rfl (lv_at hl 0 rfl) ?_
  refine lv_lconst (v := 0) hx hb dX3_rankWithSignOfZero_1 (by decide) ?_
  refine lp_ge (tgt := 20) hx hb dX3_rankWithSignOfZero_2 dX3_rankWithSignOfZero_3 (by decide) (fun c_2 => ?_) (fun c_2 => ?_)
  ·
    refine lv_lload_n hx hb dX3_rankWithSignOfZero_20 rfl (lv_at hl 0 rfl) ?_
    rw [hZ]
    exact pm_lret (w := s_X3_rankWithSignOfZero p0) hx hb hr hlocks hS (by exact ((if_pos c_2)).symm) dX3_rankWithSignOfZero_21
  ·
    refine va_gets hx hb hF.1 hS hown (hts _ (List.mem_of_getElem? (i := 1) rfl)) (fun _ h9 => h9) dX3_rankWithSignOfZero_6 ?_
    refine lv_lload_n hx hb dX3_rankWithSignOfZero_9 rfl (lv_at hl 0 rfl) ?_
    refine pm_callL (va_runV (As := [.long p0]) (rest := []) ⟨hx, hb, hml, hown, hts⟩ (pm_X0_magnitude l 52 (-1074) 9218868437227405312 (-9223372036854775808) dD p0) (cwV 1 hts gX3_rankWithSignOfZero_X0_magnitude rfl rfl rfl hdv_X0_magnitude ⟨Nat.le_of_ble_eq_true rfl, Nat.le_of_ble_eq_true rfl⟩) ⟨KQ.fb, va_Orecv hF.2.2.1.1 hS, fun U hU hW => ⟨rfl, (KQ.call hF.2.2.1 hS U hU hW)⟩⟩ rfl rfl hl.1 rfl (lv_room (Nat.le_of_ble_eq_true rfl)) dX3_rankWithSignOfZero_10 ⟨Nat.le_refl 0, Nat.le_refl 0⟩) hS (fun H locs _ _ hS => ?_)
    refine lv_ldc2 (v := (-1)) hx hb hown (hts _ (List.mem_of_getElem? (i := 2) rfl)) dX3_rankWithSignOfZero_13 ?_
    refine lv_lxor hx hb dX3_rankWithSignOfZero_16 ?_
    refine lv_goto (tgt := 21) hx hb dX3_rankWithSignOfZero_17 (by decide) ?_
    rw [hZ]
    exact pm_lret (w := s_X3_rankWithSignOfZero p0) hx hb hr hlocks hS (by exact ((if_neg c_2)).symm) dX3_rankWithSignOfZero_21
theorem hd_X3_rank : yX3_rank.cls ≠ "java/lang/invoke/MethodHandle" ∧ yX3_rank.cls ≠ "java/lang/invoke/VarHandle" ∧ (parseMethodDescriptor yX3_rank.desc).map (fun d => d.parameters.length) = some 1 := by decide +kernel
def s_X3_rank (p0 : Int64) : Int64 :=
  if 0 ≤ p0 then p0
  else -(s_X0_magnitude 52 (-1074) 9218868437227405312 (-9223372036854775808) p0)
set_option maxHeartbeats 4000000 in
set_option maxRecDepth 100000 in
theorem pm_X3_rank (l : Launch) (dD dF : Nat) (p0 : Int64) : PmL l yX3_rank wsX3_rank 1 22 [.long p0] (fun U => KF dD dF pv_N U U.heap) (s_X3_rank p0) := by
  refine Met.ofW (cc := cX3_rank) (maxL := 2) (ret := (some .long)) (by decide) rfl ?_
  intro p e s m args below meth c s₁ B hml hv
  obtain ⟨rfl, hF⟩ := hv
  have hx := B.exec
  have hb := B.bytes
  have hr := B.returns
  have hts := atoms_spec (ws := wsX3_rank) B.pre
  have hown : s.vm.findClass RX3 = some m.cls := findClass_of_methodNamed B.named
  have hlocks := B.notSynchronized
  have hS : va_S pv_N s.heap s.heap [] := va_S.rf
  have hl := lv_entry ([.long p0]) (n := 2) (Nat.le_of_ble_eq_true rfl)
  rw [lg_entry_eq]
  generalize (lg_sl ([.long p0]) ++ List.replicate (2 - (lg_sl ([.long p0])).length) Slot.unset).toArray = ls at hl ⊢
  have hl : lv_has ls 2 [(0, .long p0)] := hl
  obtain ⟨Z, hZ⟩ : ∃ z, z = MQ below (pm_QL (s_X3_rank p0)) ([.long p0] : List Value).toArray s 0 0 pv_N := ⟨_, rfl⟩
  rw [← hZ]
  obtain ⟨Y, hY⟩ : ∃ y, y = s_X3_rank p0 := ⟨_, rfl⟩
  refine lv_lload_n hx hb dX3_rank_0 rfl (lv_at hl 0 rfl) ?_
  refine lv_lconst (v := 0) hx hb dX3_rank_1 (by decide) ?_
  refine lp_ge (tgt := 17) hx hb dX3_rank_2 dX3_rank_3 (by decide) (fun c_2 => ?_) (fun c_2 => ?_)
  ·
    refine lv_lload_n hx hb dX3_rank_17 rfl (lv_at hl 0 rfl) ?_
    rw [hZ]
    exact pm_lret (w := s_X3_rank p0) hx hb hr hlocks hS (by exact ((if_pos c_2)).symm) dX3_rank_18
  ·
    refine va_gets hx hb hF.1 hS hown (hts _ (List.mem_of_getElem? (i := 1) rfl)) (fun _ h9 => h9) dX3_rank_6 ?_
    refine lv_lload_n hx hb dX3_rank_9 rfl (lv_at hl 0 rfl) ?_
    refine pm_callL (va_runV (As := [.long p0]) (rest := []) ⟨hx, hb, hml, hown, hts⟩ (pm_X0_magnitude l 52 (-1074) 9218868437227405312 (-9223372036854775808) dD p0) (cwV 1 hts gX3_rank_X0_magnitude rfl rfl rfl hdv_X0_magnitude ⟨Nat.le_of_ble_eq_true rfl, Nat.le_of_ble_eq_true rfl⟩) ⟨KQ.fb, va_Orecv hF.2.2.1.1 hS, fun U hU hW => ⟨rfl, (KQ.call hF.2.2.1 hS U hU hW)⟩⟩ rfl rfl hl.1 rfl (lv_room (Nat.le_of_ble_eq_true rfl)) dX3_rank_10 ⟨Nat.le_refl 0, Nat.le_refl 0⟩) hS (fun H locs _ _ hS => ?_)
    refine lv_lneg hx hb dX3_rank_13 ?_
    refine lv_goto (tgt := 18) hx hb dX3_rank_14 (by decide) ?_
    rw [hZ]
    exact pm_lret (w := s_X3_rank p0) hx hb hr hlocks hS (by exact ((if_neg c_2)).symm) dX3_rank_18
theorem hd_X3_greater : yX3_greater.cls ≠ "java/lang/invoke/MethodHandle" ∧ yX3_greater.cls ≠ "java/lang/invoke/VarHandle" ∧ (parseMethodDescriptor yX3_greater.desc).map (fun d => d.parameters.length) = some 2 := by decide +kernel
def s_X3_greater (p0 : Int64) (p1 : Int64) : Int64 :=
  if (s_X0_isNaN 52 (-1074) 9218868437227405312 (-9223372036854775808) p0) = 0 then if (s_X0_isNaN 52 (-1074) 9218868437227405312 (-9223372036854775808) p1) = 0 then if (s_X3_rankWithSignOfZero p0) < (s_X3_rankWithSignOfZero p1) then p1
  else p0
  else s_X0_plainNaN 52 (-1074) 9218868437227405312 (-9223372036854775808)
  else s_X0_plainNaN 52 (-1074) 9218868437227405312 (-9223372036854775808)
set_option maxHeartbeats 4000000 in
set_option maxRecDepth 100000 in
theorem pm_X3_greater (l : Launch) (dD dF : Nat) (p0 : Int64) (p1 : Int64) : PmL l yX3_greater wsX3_greater 2 44 [.long p0, .long p1] (fun U => KF dD dF pv_N U U.heap) (s_X3_greater p0 p1) := by
  refine Met.ofW (cc := cX3_greater) (maxL := 4) (ret := (some .long)) (by decide) rfl ?_
  intro p e s m args below meth c s₁ B hml hv
  obtain ⟨rfl, hF⟩ := hv
  have hx := B.exec
  have hb := B.bytes
  have hr := B.returns
  have hts := atoms_spec (ws := wsX3_greater) B.pre
  have hown : s.vm.findClass RX3 = some m.cls := findClass_of_methodNamed B.named
  have hlocks := B.notSynchronized
  have hS : va_S pv_N s.heap s.heap [] := va_S.rf
  have hl := lv_entry ([.long p0, .long p1]) (n := 4) (Nat.le_of_ble_eq_true rfl)
  rw [lg_entry_eq]
  generalize (lg_sl ([.long p0, .long p1]) ++ List.replicate (4 - (lg_sl ([.long p0, .long p1])).length) Slot.unset).toArray = ls at hl ⊢
  have hl : lv_has ls 4 [(0, .long p0), (2, .long p1)] := hl
  obtain ⟨Z, hZ⟩ : ∃ z, z = MQ below (pm_QL (s_X3_greater p0 p1)) ([.long p0, .long p1] : List Value).toArray s 0 0 pv_N := ⟨_, rfl⟩
  rw [← hZ]
  obtain ⟨Y, hY⟩ : ∃ y, y = s_X3_greater p0 p1 := ⟨_, rfl⟩
  refine va_gets hx hb hF.1 hS hown (hts _ (List.mem_of_getElem? (i := 1) rfl)) (fun _ h9 => h9) dX3_greater_0 ?_
  refine lv_lload_n hx hb dX3_greater_3 rfl (lv_at hl 0 rfl) ?_
  refine pm_callI (va_runV (As := [.long p0]) (rest := []) ⟨hx, hb, hml, hown, hts⟩ (pm_X0_isNaN l 52 (-1074) 9218868437227405312 (-9223372036854775808) dD p0) (cwV 1 hts gX3_greater_X0_isNaN rfl rfl rfl hdv_X0_isNaN ⟨Nat.le_of_ble_eq_true rfl, Nat.le_of_ble_eq_true rfl⟩) ⟨KQ.fb, va_Orecv hF.2.2.1.1 hS, fun U hU hW => ⟨rfl, (KQ.call hF.2.2.1 hS U hU hW)⟩⟩ rfl rfl hl.1 rfl (lv_room (Nat.le_of_ble_eq_true rfl)) dX3_greater_4 ⟨Nat.le_refl 0, Nat.le_refl 0⟩) hS (fun H locs _ _ hS => ?_)
  refine lv_if_ne (tgt := 20) hx hb dX3_greater_7 (by decide) (fun c_7 => ?_) (fun c_7 => ?_)
  ·
    refine va_gets hx hb hF.1 hS hown (hts _ (List.mem_of_getElem? (i := 1) rfl)) (fun _ h9 => h9) dX3_greater_20 ?_
    refine pm_callL (va_runV (As := []) (rest := []) ⟨hx, hb, hml, hown, hts⟩ (pm_X0_plainNaN l 52 (-1074) 9218868437227405312 (-9223372036854775808) dD) (cwV 0 hts gX3_greater_X0_plainNaN rfl rfl rfl hdv_X0_plainNaN ⟨Nat.le_of_ble_eq_true rfl, Nat.le_of_ble_eq_true rfl⟩) ⟨KQ.fb, va_Orecv hF.2.2.1.1 hS, fun U hU hW => ⟨rfl, (KQ.call hF.2.2.1 hS U hU hW)⟩⟩ rfl rfl hl.1 rfl (lv_room (Nat.le_of_ble_eq_true rfl)) dX3_greater_23 ⟨Nat.le_refl 0, Nat.le_refl 0⟩) hS (fun H locs _ _ hS => ?_)
    rw [hZ]
    exact pm_lret (w := s_X3_greater p0 p1) hx hb hr hlocks hS (by exact ((if_neg c_7)).symm) dX3_greater_26
  ·
    refine va_gets hx hb hF.1 hS hown (hts _ (List.mem_of_getElem? (i := 1) rfl)) (fun _ h9 => h9) dX3_greater_10 ?_
    refine lv_lload_n hx hb dX3_greater_13 rfl (lv_at hl 1 rfl) ?_
    refine pm_callI (va_runV (As := [.long p1]) (rest := []) ⟨hx, hb, hml, hown, hts⟩ (pm_X0_isNaN l 52 (-1074) 9218868437227405312 (-9223372036854775808) dD p1) (cwV 1 hts gX3_greater_X0_isNaN rfl rfl rfl hdv_X0_isNaN ⟨Nat.le_of_ble_eq_true rfl, Nat.le_of_ble_eq_true rfl⟩) ⟨KQ.fb, va_Orecv hF.2.2.1.1 hS, fun U hU hW => ⟨rfl, (KQ.call hF.2.2.1 hS U hU hW)⟩⟩ rfl rfl hl.1 rfl (lv_room (Nat.le_of_ble_eq_true rfl)) dX3_greater_14 ⟨Nat.le_refl 0, Nat.le_refl 0⟩) hS (fun H locs _ _ hS => ?_)
    refine lv_if_eq (tgt := 27) hx hb dX3_greater_17 (by decide) (fun c_17 => ?_) (fun c_17 => ?_)
    ·
      refine lv_lload_n hx hb dX3_greater_27 rfl (lv_at hl 0 rfl) ?_
      refine pm_callL (va_runS (As := [.long p0]) (rest := []) ⟨hx, hb, hml, hown, hts⟩ (pm_X3_rankWithSignOfZero l dD dF p0) (va_cwS 1 hts gX3_greater_X3_rankWithSignOfZero rfl rfl rfl hd_X3_rankWithSignOfZero ⟨Nat.le_of_ble_eq_true rfl, Nat.le_of_ble_eq_true rfl⟩) ⟨KF.fb, fun U hU hW => ⟨rfl, (KF.call hF hS U hU hW)⟩⟩ rfl rfl hl.1 rfl (lv_room (Nat.le_of_ble_eq_true rfl)) dX3_greater_28 ⟨Nat.le_refl 0, Nat.le_refl 0⟩) hS (fun H locs _ _ hS => ?_)
      refine lv_lload_n hx hb dX3_greater_31 rfl (lv_at hl 1 rfl) ?_
      refine pm_callL (va_runS (As := [.long p1]) (rest := [.long (s_X3_rankWithSignOfZero p0)]) ⟨hx, hb, hml, hown, hts⟩ (pm_X3_rankWithSignOfZero l dD dF p1) (va_cwS 1 hts gX3_greater_X3_rankWithSignOfZero rfl rfl rfl hd_X3_rankWithSignOfZero ⟨Nat.le_of_ble_eq_true rfl, Nat.le_of_ble_eq_true rfl⟩) ⟨KF.fb, fun U hU hW => ⟨rfl, (KF.call hF hS U hU hW)⟩⟩ rfl rfl hl.1 rfl (lv_room (Nat.le_of_ble_eq_true rfl)) dX3_greater_32 ⟨Nat.le_refl 0, Nat.le_refl 0⟩) hS (fun H locs _ _ hS => ?_)
      refine lp_lt (tgt := 43) hx hb dX3_greater_35 dX3_greater_36 (by decide) (fun c_35 => ?_) (fun c_35 => ?_)
      ·
        refine lv_lload_n hx hb dX3_greater_43 rfl (lv_at hl 1 rfl) ?_
        rw [hZ]
        exact pm_lret (w := s_X3_greater p0 p1) hx hb hr hlocks hS (by exact ((((if_pos c_7).trans (if_pos c_17)).trans (if_pos c_35))).symm) dX3_greater_44
      ·
        refine lv_lload_n hx hb dX3_greater_39 rfl (lv_at hl 0 rfl) ?_
        refine lv_goto (tgt := 44) hx hb dX3_greater_40 (by decide) ?_
        rw [hZ]
        exact pm_lret (w := s_X3_greater p0 p1) hx hb hr hlocks hS (by exact ((((if_pos c_7).trans (if_pos c_17)).trans (if_neg c_35))).symm) dX3_greater_44
    ·
      refine va_gets hx hb hF.1 hS hown (hts _ (List.mem_of_getElem? (i := 1) rfl)) (fun _ h9 => h9) dX3_greater_20 ?_
      refine pm_callL (va_runV (As := []) (rest := []) ⟨hx, hb, hml, hown, hts⟩ (pm_X0_plainNaN l 52 (-1074) 9218868437227405312 (-9223372036854775808) dD) (cwV 0 hts gX3_greater_X0_plainNaN rfl rfl rfl hdv_X0_plainNaN ⟨Nat.le_of_ble_eq_true rfl, Nat.le_of_ble_eq_true rfl⟩) ⟨KQ.fb, va_Orecv hF.2.2.1.1 hS, fun U hU hW => ⟨rfl, (KQ.call hF.2.2.1 hS U hU hW)⟩⟩ rfl rfl hl.1 rfl (lv_room (Nat.le_of_ble_eq_true rfl)) dX3_greater_23 ⟨Nat.le_refl 0, Nat.le_refl 0⟩) hS (fun H locs _ _ hS => ?_)
      rw [hZ]
      exact pm_lret (w := s_X3_greater p0 p1) hx hb hr hlocks hS (by exact (((if_pos c_7).trans (if_neg c_17))).symm) dX3_greater_26
theorem hd_X3_lesser : yX3_lesser.cls ≠ "java/lang/invoke/MethodHandle" ∧ yX3_lesser.cls ≠ "java/lang/invoke/VarHandle" ∧ (parseMethodDescriptor yX3_lesser.desc).map (fun d => d.parameters.length) = some 2 := by decide +kernel
def s_X3_lesser (p0 : Int64) (p1 : Int64) : Int64 :=
  if (s_X0_isNaN 52 (-1074) 9218868437227405312 (-9223372036854775808) p0) = 0 then if (s_X0_isNaN 52 (-1074) 9218868437227405312 (-9223372036854775808) p1) = 0 then if (s_X3_rankWithSignOfZero p1) < (s_X3_rankWithSignOfZero p0) then p1
  else p0
  else s_X0_plainNaN 52 (-1074) 9218868437227405312 (-9223372036854775808)
  else s_X0_plainNaN 52 (-1074) 9218868437227405312 (-9223372036854775808)
set_option maxHeartbeats 4000000 in
set_option maxRecDepth 100000 in
theorem pm_X3_lesser (l : Launch) (dD dF : Nat) (p0 : Int64) (p1 : Int64) : PmL l yX3_lesser wsX3_lesser 2 44 [.long p0, .long p1] (fun U => KF dD dF pv_N U U.heap) (s_X3_lesser p0 p1) := by
  refine Met.ofW (cc := cX3_lesser) (maxL := 4) (ret := (some .long)) (by decide) rfl ?_
  intro p e s m args below meth c s₁ B hml hv
  obtain ⟨rfl, hF⟩ := hv
  have hx := B.exec
  have hb := B.bytes
  have hr := B.returns
  have hts := atoms_spec (ws := wsX3_lesser) B.pre
  have hown : s.vm.findClass RX3 = some m.cls := findClass_of_methodNamed B.named
  have hlocks := B.notSynchronized
  have hS : va_S pv_N s.heap s.heap [] := va_S.rf
  have hl := lv_entry ([.long p0, .long p1]) (n := 4) (Nat.le_of_ble_eq_true rfl)
  rw [lg_entry_eq]
  generalize (lg_sl ([.long p0, .long p1]) ++ List.replicate (4 - (lg_sl ([.long p0, .long p1])).length) Slot.unset).toArray = ls at hl ⊢
  have hl : lv_has ls 4 [(0, .long p0), (2, .long p1)] := hl
  obtain ⟨Z, hZ⟩ : ∃ z, z = MQ below (pm_QL (s_X3_lesser p0 p1)) ([.long p0, .long p1] : List Value).toArray s 0 0 pv_N := ⟨_, rfl⟩
  rw [← hZ]
  obtain ⟨Y, hY⟩ : ∃ y, y = s_X3_lesser p0 p1 := ⟨_, rfl⟩
  refine va_gets hx hb hF.1 hS hown (hts _ (List.mem_of_getElem? (i := 1) rfl)) (fun _ h9 => h9) dX3_lesser_0 ?_
  refine lv_lload_n hx hb dX3_lesser_3 rfl (lv_at hl 0 rfl) ?_
  refine pm_callI (va_runV (As := [.long p0]) (rest := []) ⟨hx, hb, hml, hown, hts⟩ (pm_X0_isNaN l 52 (-1074) 9218868437227405312 (-9223372036854775808) dD p0) (cwV 1 hts gX3_lesser_X0_isNaN rfl rfl rfl hdv_X0_isNaN ⟨Nat.le_of_ble_eq_true rfl, Nat.le_of_ble_eq_true rfl⟩) ⟨KQ.fb, va_Orecv hF.2.2.1.1 hS, fun U hU hW => ⟨rfl, (KQ.call hF.2.2.1 hS U hU hW)⟩⟩ rfl rfl hl.1 rfl (lv_room (Nat.le_of_ble_eq_true rfl)) dX3_lesser_4 ⟨Nat.le_refl 0, Nat.le_refl 0⟩) hS (fun H locs _ _ hS => ?_)
  refine lv_if_ne (tgt := 20) hx hb dX3_lesser_7 (by decide) (fun c_7 => ?_) (fun c_7 => ?_)
  ·
    refine va_gets hx hb hF.1 hS hown (hts _ (List.mem_of_getElem? (i := 1) rfl)) (fun _ h9 => h9) dX3_lesser_20 ?_
    refine pm_callL (va_runV (As := []) (rest := []) ⟨hx, hb, hml, hown, hts⟩ (pm_X0_plainNaN l 52 (-1074) 9218868437227405312 (-9223372036854775808) dD) (cwV 0 hts gX3_lesser_X0_plainNaN rfl rfl rfl hdv_X0_plainNaN ⟨Nat.le_of_ble_eq_true rfl, Nat.le_of_ble_eq_true rfl⟩) ⟨KQ.fb, va_Orecv hF.2.2.1.1 hS, fun U hU hW => ⟨rfl, (KQ.call hF.2.2.1 hS U hU hW)⟩⟩ rfl rfl hl.1 rfl (lv_room (Nat.le_of_ble_eq_true rfl)) dX3_lesser_23 ⟨Nat.le_refl 0, Nat.le_refl 0⟩) hS (fun H locs _ _ hS => ?_)
    rw [hZ]
    exact pm_lret (w := s_X3_lesser p0 p1) hx hb hr hlocks hS (by exact ((if_neg c_7)).symm) dX3_lesser_26
  ·
    refine va_gets hx hb hF.1 hS hown (hts _ (List.mem_of_getElem? (i := 1) rfl)) (fun _ h9 => h9) dX3_lesser_10 ?_
    refine lv_lload_n hx hb dX3_lesser_13 rfl (lv_at hl 1 rfl) ?_
    refine pm_callI (va_runV (As := [.long p1]) (rest := []) ⟨hx, hb, hml, hown, hts⟩ (pm_X0_isNaN l 52 (-1074) 9218868437227405312 (-9223372036854775808) dD p1) (cwV 1 hts gX3_lesser_X0_isNaN rfl rfl rfl hdv_X0_isNaN ⟨Nat.le_of_ble_eq_true rfl, Nat.le_of_ble_eq_true rfl⟩) ⟨KQ.fb, va_Orecv hF.2.2.1.1 hS, fun U hU hW => ⟨rfl, (KQ.call hF.2.2.1 hS U hU hW)⟩⟩ rfl rfl hl.1 rfl (lv_room (Nat.le_of_ble_eq_true rfl)) dX3_lesser_14 ⟨Nat.le_refl 0, Nat.le_refl 0⟩) hS (fun H locs _ _ hS => ?_)
    refine lv_if_eq (tgt := 27) hx hb dX3_lesser_17 (by decide) (fun c_17 => ?_) (fun c_17 => ?_)
    ·
      refine lv_lload_n hx hb dX3_lesser_27 rfl (lv_at hl 0 rfl) ?_
      refine pm_callL (va_runS (As := [.long p0]) (rest := []) ⟨hx, hb, hml, hown, hts⟩ (pm_X3_rankWithSignOfZero l dD dF p0) (va_cwS 1 hts gX3_lesser_X3_rankWithSignOfZero rfl rfl rfl hd_X3_rankWithSignOfZero ⟨Nat.le_of_ble_eq_true rfl, Nat.le_of_ble_eq_true rfl⟩) ⟨KF.fb, fun U hU hW => ⟨rfl, (KF.call hF hS U hU hW)⟩⟩ rfl rfl hl.1 rfl (lv_room (Nat.le_of_ble_eq_true rfl)) dX3_lesser_28 ⟨Nat.le_refl 0, Nat.le_refl 0⟩) hS (fun H locs _ _ hS => ?_)
      refine lv_lload_n hx hb dX3_lesser_31 rfl (lv_at hl 1 rfl) ?_
      refine pm_callL (va_runS (As := [.long p1]) (rest := [.long (s_X3_rankWithSignOfZero p0)]) ⟨hx, hb, hml, hown, hts⟩ (pm_X3_rankWithSignOfZero l dD dF p1) (va_cwS 1 hts gX3_lesser_X3_rankWithSignOfZero rfl rfl rfl hd_X3_rankWithSignOfZero ⟨Nat.le_of_ble_eq_true rfl, Nat.le_of_ble_eq_true rfl⟩) ⟨KF.fb, fun U hU hW => ⟨rfl, (KF.call hF hS U hU hW)⟩⟩ rfl rfl hl.1 rfl (lv_room (Nat.le_of_ble_eq_true rfl)) dX3_lesser_32 ⟨Nat.le_refl 0, Nat.le_refl 0⟩) hS (fun H locs _ _ hS => ?_)
      refine lp_gt (tgt := 43) hx hb dX3_lesser_35 dX3_lesser_36 (by decide) (fun c_35 => ?_) (fun c_35 => ?_)
      ·
        refine lv_lload_n hx hb dX3_lesser_43 rfl (lv_at hl 1 rfl) ?_
        rw [hZ]
        exact pm_lret (w := s_X3_lesser p0 p1) hx hb hr hlocks hS (by exact ((((if_pos c_7).trans (if_pos c_17)).trans (if_pos c_35))).symm) dX3_lesser_44
      ·
        refine lv_lload_n hx hb dX3_lesser_39 rfl (lv_at hl 0 rfl) ?_
        refine lv_goto (tgt := 44) hx hb dX3_lesser_40 (by decide) ?_
        rw [hZ]
        exact pm_lret (w := s_X3_lesser p0 p1) hx hb hr hlocks hS (by exact ((((if_pos c_7).trans (if_pos c_17)).trans (if_neg c_35))).symm) dX3_lesser_44
    ·
      refine va_gets hx hb hF.1 hS hown (hts _ (List.mem_of_getElem? (i := 1) rfl)) (fun _ h9 => h9) dX3_lesser_20 ?_
      refine pm_callL (va_runV (As := []) (rest := []) ⟨hx, hb, hml, hown, hts⟩ (pm_X0_plainNaN l 52 (-1074) 9218868437227405312 (-9223372036854775808) dD) (cwV 0 hts gX3_lesser_X0_plainNaN rfl rfl rfl hdv_X0_plainNaN ⟨Nat.le_of_ble_eq_true rfl, Nat.le_of_ble_eq_true rfl⟩) ⟨KQ.fb, va_Orecv hF.2.2.1.1 hS, fun U hU hW => ⟨rfl, (KQ.call hF.2.2.1 hS U hU hW)⟩⟩ rfl rfl hl.1 rfl (lv_room (Nat.le_of_ble_eq_true rfl)) dX3_lesser_23 ⟨Nat.le_refl 0, Nat.le_refl 0⟩) hS (fun H locs _ _ hS => ?_)
      rw [hZ]
      exact pm_lret (w := s_X3_lesser p0 p1) hx hb hr hlocks hS (by exact (((if_pos c_7).trans (if_neg c_17))).symm) dX3_lesser_26
theorem hd_X3_withSignOf : yX3_withSignOf.cls ≠ "java/lang/invoke/MethodHandle" ∧ yX3_withSignOf.cls ≠ "java/lang/invoke/VarHandle" ∧ (parseMethodDescriptor yX3_withSignOf.desc).map (fun d => d.parameters.length) = some 2 := by decide +kernel
def s_X3_withSignOf_j36 (p0 : Int64) (p1 : Int64) (z_36_0 : Int64) : Int64 :=
  z_36_0 ||| (s_X0_magnitude 52 (-1074) 9218868437227405312 (-9223372036854775808) p0)
def s_X3_withSignOf (p0 : Int64) (p1 : Int64) : Int64 :=
  if (s_X0_isNaN 52 (-1074) 9218868437227405312 (-9223372036854775808) p0) = 0 then if (s_X0_isNaN 52 (-1074) 9218868437227405312 (-9223372036854775808) p1) = 0 then s_X3_withSignOf_j36 p0 p1 (p1 &&& (-9223372036854775808))
  else s_X3_withSignOf_j36 p0 p1 0
  else s_X0_plainNaN 52 (-1074) 9218868437227405312 (-9223372036854775808)
set_option maxHeartbeats 4000000 in
set_option maxRecDepth 100000 in
theorem pm_X3_withSignOf (l : Launch) (dD dF : Nat) (p0 : Int64) (p1 : Int64) : PmL l yX3_withSignOf wsX3_withSignOf 2 44 [.long p0, .long p1] (fun U => KF dD dF pv_N U U.heap) (s_X3_withSignOf p0 p1) := by
  refine Met.ofW (cc := cX3_withSignOf) (maxL := 6) (ret := (some .long)) (by decide) rfl ?_
  intro p e s m args below meth c s₁ B hml hv
  obtain ⟨rfl, hF⟩ := hv
  have hx := B.exec
  have hb := B.bytes
  have hr := B.returns
  have hts := atoms_spec (ws := wsX3_withSignOf) B.pre
  have hown : s.vm.findClass RX3 = some m.cls := findClass_of_methodNamed B.named
  have hlocks := B.notSynchronized
  have hS : va_S pv_N s.heap s.heap [] := va_S.rf
  have hl := lv_entry ([.long p0, .long p1]) (n := 6) (Nat.le_of_ble_eq_true rfl)
  rw [lg_entry_eq]
  generalize (lg_sl ([.long p0, .long p1]) ++ List.replicate (6 - (lg_sl ([.long p0, .long p1])).length) Slot.unset).toArray = ls at hl ⊢
  have hl : lv_has ls 6 [(0, .long p0), (2, .long p1)] := hl
  obtain ⟨Z, hZ⟩ : ∃ z, z = MQ below (pm_QL (s_X3_withSignOf p0 p1)) ([.long p0, .long p1] : List Value).toArray s 0 0 pv_N := ⟨_, rfl⟩
  rw [← hZ]
  obtain ⟨Y, hY⟩ : ∃ y, y = s_X3_withSignOf p0 p1 := ⟨_, rfl⟩
  refine va_gets hx hb hF.1 hS hown (hts _ (List.mem_of_getElem? (i := 1) rfl)) (fun _ h9 => h9) dX3_withSignOf_0 ?_
  refine lv_lload_n hx hb dX3_withSignOf_3 rfl (lv_at hl 0 rfl) ?_
  refine pm_callI (va_runV (As := [.long p0]) (rest := []) ⟨hx, hb, hml, hown, hts⟩ (pm_X0_isNaN l 52 (-1074) 9218868437227405312 (-9223372036854775808) dD p0) (cwV 1 hts gX3_withSignOf_X0_isNaN rfl rfl rfl hdv_X0_isNaN ⟨Nat.le_of_ble_eq_true rfl, Nat.le_of_ble_eq_true rfl⟩) ⟨KQ.fb, va_Orecv hF.2.2.1.1 hS, fun U hU hW => ⟨rfl, (KQ.call hF.2.2.1 hS U hU hW)⟩⟩ rfl rfl hl.1 rfl (lv_room (Nat.le_of_ble_eq_true rfl)) dX3_withSignOf_4 ⟨Nat.le_refl 0, Nat.le_refl 0⟩) hS (fun H locs _ _ hS => ?_)
  refine lv_if_eq (tgt := 17) hx hb dX3_withSignOf_7 (by decide) (fun c_7 => ?_) (fun c_7 => ?_)
  ·
    refine va_gets hx hb hF.1 hS hown (hts _ (List.mem_of_getElem? (i := 1) rfl)) (fun _ h9 => h9) dX3_withSignOf_17 ?_
    refine lv_lload_n hx hb dX3_withSignOf_20 rfl (lv_at hl 1 rfl) ?_
    refine pm_callI (va_runV (As := [.long p1]) (rest := []) ⟨hx, hb, hml, hown, hts⟩ (pm_X0_isNaN l 52 (-1074) 9218868437227405312 (-9223372036854775808) dD p1) (cwV 1 hts gX3_withSignOf_X0_isNaN rfl rfl rfl hdv_X0_isNaN ⟨Nat.le_of_ble_eq_true rfl, Nat.le_of_ble_eq_true rfl⟩) ⟨KQ.fb, va_Orecv hF.2.2.1.1 hS, fun U hU hW => ⟨rfl, (KQ.call hF.2.2.1 hS U hU hW)⟩⟩ rfl rfl hl.1 rfl (lv_room (Nat.le_of_ble_eq_true rfl)) dX3_withSignOf_21 ⟨Nat.le_refl 0, Nat.le_refl 0⟩) hS (fun H locs _ _ hS => ?_)
    have K_36 : ∀ (z_36_0 : Int64) (H : Heap) (locs : List Loc), va_S pv_N s.heap H locs → ∀ (ls : Array Slot), lv_has ls 6 [(0, .long p0)] → s_X3_withSignOf p0 p1 = s_X3_withSignOf_j36 p0 p1 z_36_0 → W p l e (pm_R 2 44) s m ([.long p0, .long p1] : List Value).toArray below meth c H locs 0 0 Z (F0 m 36 ls [.long z_36_0]) := by
      intro z_36_0 H locs hS ls hl hK_36
      refine lv_lstore (lv' := [(4, .long z_36_0), (0, .long p0)]) hx hb dX3_withSignOf_36 hl (by decide) rfl (fun ls hl => ?_)
      refine lv_lload hx hb dX3_withSignOf_38 (lv_at hl 0 rfl) ?_
      refine va_gets hx hb hF.1 hS hown (hts _ (List.mem_of_getElem? (i := 1) rfl)) (fun _ h9 => h9) dX3_withSignOf_40 ?_
      refine lv_lload_n hx hb dX3_withSignOf_43 rfl (lv_at hl 1 rfl) ?_
      refine pm_callL (va_runV (As := [.long p0]) (rest := [.long z_36_0]) ⟨hx, hb, hml, hown, hts⟩ (pm_X0_magnitude l 52 (-1074) 9218868437227405312 (-9223372036854775808) dD p0) (cwV 1 hts gX3_withSignOf_X0_magnitude rfl rfl rfl hdv_X0_magnitude ⟨Nat.le_of_ble_eq_true rfl, Nat.le_of_ble_eq_true rfl⟩) ⟨KQ.fb, va_Orecv hF.2.2.1.1 hS, fun U hU hW => ⟨rfl, (KQ.call hF.2.2.1 hS U hU hW)⟩⟩ rfl rfl hl.1 rfl (lv_room (Nat.le_of_ble_eq_true rfl)) dX3_withSignOf_44 ⟨Nat.le_refl 0, Nat.le_refl 0⟩) hS (fun H locs _ _ hS => ?_)
      refine lv_lor hx hb dX3_withSignOf_47 ?_
      rw [hZ]
      exact pm_lret (w := s_X3_withSignOf p0 p1) hx hb hr hlocks hS (by exact (hK_36.trans rfl).symm) dX3_withSignOf_48
    refine lv_if_eq (tgt := 31) hx hb dX3_withSignOf_24 (by decide) (fun c_24 => ?_) (fun c_24 => ?_)
    ·
      refine lv_lload_n hx hb dX3_withSignOf_31 rfl (lv_at hl 1 rfl) ?_
      refine lv_ldc2 (v := (-9223372036854775808)) hx hb hown (hts _ (List.mem_of_getElem? (i := 2) rfl)) dX3_withSignOf_32 ?_
      refine lv_land hx hb dX3_withSignOf_35 ?_
      exact K_36 (p1 &&& (-9223372036854775808)) _ _ hS ls (lv_sub hl [0] rfl) (((if_pos c_7).trans (if_pos c_24)))
    ·
      refine lv_lconst (v := 0) hx hb dX3_withSignOf_27 (by decide) ?_
      refine lv_goto (tgt := 36) hx hb dX3_withSignOf_28 (by decide) ?_
      exact K_36 0 _ _ hS ls (lv_sub hl [0] rfl) (((if_pos c_7).trans (if_neg c_24)))
  ·
    refine va_gets hx hb hF.1 hS hown (hts _ (List.mem_of_getElem? (i := 1) rfl)) (fun _ h9 => h9) dX3_withSignOf_10 ?_
    refine pm_callL (va_runV (As := []) (rest := []) ⟨hx, hb, hml, hown, hts⟩ (pm_X0_plainNaN l 52 (-1074) 9218868437227405312 (-9223372036854775808) dD) (cwV 0 hts gX3_withSignOf_X0_plainNaN rfl rfl rfl hdv_X0_plainNaN ⟨Nat.le_of_ble_eq_true rfl, Nat.le_of_ble_eq_true rfl⟩) ⟨KQ.fb, va_Orecv hF.2.2.1.1 hS, fun U hU hW => ⟨rfl, (KQ.call hF.2.2.1 hS U hU hW)⟩⟩ rfl rfl hl.1 rfl (lv_room (Nat.le_of_ble_eq_true rfl)) dX3_withSignOf_13 ⟨Nat.le_refl 0, Nat.le_refl 0⟩) hS (fun H locs _ _ hS => ?_)
    rw [hZ]
    exact pm_lret (w := s_X3_withSignOf p0 p1) hx hb hr hlocks hS (by exact ((if_neg c_7)).symm) dX3_withSignOf_16
theorem hd_X3_isTrue : yX3_isTrue.cls ≠ "java/lang/invoke/MethodHandle" ∧ yX3_isTrue.cls ≠ "java/lang/invoke/VarHandle" ∧ (parseMethodDescriptor yX3_isTrue.desc).map (fun d => d.parameters.length) = some 3 := by decide +kernel
def s_X3_isTrue_j20 (p0 : Int32) (p1 : Int64) (p2 : Int64) : Int32 :=
  if p0 = 5 then 1
  else 0
def s_X3_isTrue (p0 : Int32) (p1 : Int64) (p2 : Int64) : Int32 :=
  if (s_X0_isNaN 52 (-1074) 9218868437227405312 (-9223372036854775808) p1) = 0 then if (s_X0_isNaN 52 (-1074) 9218868437227405312 (-9223372036854775808) p2) = 0 then if p0 = 0 then if (s_X3_rank p2) ≤ (s_X3_rank p1) then 0
  else 1
  else if p0 = 1 then if (s_X3_rank p2) < (s_X3_rank p1) then 0
  else 1
  else if p0 = 2 then if (s_X3_rank p1) ≤ (s_X3_rank p2) then 0
  else 1
  else if p0 = 3 then if (s_X3_rank p1) < (s_X3_rank p2) then 0
  else 1
  else if p0 = 4 then if (s_X3_rank p1) = (s_X3_rank p2) then 1
  else 0
  else if (s_X3_rank p1) = (s_X3_rank p2) then 0
  else 1
  else s_X3_isTrue_j20 p0 p1 p2
  else s_X3_isTrue_j20 p0 p1 p2
set_option maxHeartbeats 4000000 in
set_option maxRecDepth 100000 in
theorem pm_X3_isTrue (l : Launch) (dD dF : Nat) (p0 : Int32) (p1 : Int64) (p2 : Int64) : PmI l yX3_isTrue wsX3_isTrue 2 44 [.int p0, .long p1, .long p2] (fun U => KF dD dF pv_N U U.heap) (s_X3_isTrue p0 p1 p2) := by
  refine Met.ofW (cc := cX3_isTrue) (maxL := 9) (ret := (some .boolean)) (by decide) rfl ?_
  intro p e s m args below meth c s₁ B hml hv
  obtain ⟨rfl, hF⟩ := hv
  have hx := B.exec
  have hb := B.bytes
  have hr := B.returns
  have hts := atoms_spec (ws := wsX3_isTrue) B.pre
  have hown : s.vm.findClass RX3 = some m.cls := findClass_of_methodNamed B.named
  have hlocks := B.notSynchronized
  have hS : va_S pv_N s.heap s.heap [] := va_S.rf
  have hl := lv_entry ([.int p0, .long p1, .long p2]) (n := 9) (Nat.le_of_ble_eq_true rfl)
  rw [lg_entry_eq]
  generalize (lg_sl ([.int p0, .long p1, .long p2]) ++ List.replicate (9 - (lg_sl ([.int p0, .long p1, .long p2])).length) Slot.unset).toArray = ls at hl ⊢
  have hl : lv_has ls 9 [(0, .int p0), (1, .long p1), (3, .long p2)] := hl
  obtain ⟨Z, hZ⟩ : ∃ z, z = MQ below (pm_QI (s_X3_isTrue p0 p1 p2)) ([.int p0, .long p1, .long p2] : List Value).toArray s 0 0 pv_N := ⟨_, rfl⟩
  rw [← hZ]
  obtain ⟨Y, hY⟩ : ∃ y, y = s_X3_isTrue p0 p1 p2 := ⟨_, rfl⟩
  refine va_gets hx hb hF.1 hS hown (hts _ (List.mem_of_getElem? (i := 1) rfl)) (fun _ h9 => h9) dX3_isTrue_0 ?_
  refine lv_lload_n hx hb dX3_isTrue_3 rfl (lv_at hl 1 rfl) ?_
  refine pm_callI (va_runV (As := [.long p1]) (rest := []) ⟨hx, hb, hml, hown, hts⟩ (pm_X0_isNaN l 52 (-1074) 9218868437227405312 (-9223372036854775808) dD p1) (cwV 1 hts gX3_isTrue_X0_isNaN rfl rfl rfl hdv_X0_isNaN ⟨Nat.le_of_ble_eq_true rfl, Nat.le_of_ble_eq_true rfl⟩) ⟨KQ.fb, va_Orecv hF.2.2.1.1 hS, fun U hU hW => ⟨rfl, (KQ.call hF.2.2.1 hS U hU hW)⟩⟩ rfl rfl hl.1 rfl (lv_room (Nat.le_of_ble_eq_true rfl)) dX3_isTrue_4 ⟨Nat.le_refl 0, Nat.le_refl 0⟩) hS (fun H locs _ _ hS => ?_)
  have K_20 : ∀ (H : Heap) (locs : List Loc), va_S pv_N s.heap H locs → ∀ (ls : Array Slot), lv_has ls 9 [(0, .int p0)] → s_X3_isTrue p0 p1 p2 = s_X3_isTrue_j20 p0 p1 p2 → W p l e (pm_R 2 44) s m ([.int p0, .long p1, .long p2] : List Value).toArray below meth c H locs 0 0 Z (F0 m 20 ls []) := by
    intro H locs hS ls hl hK_20
    refine lv_iload_n hx hb dX3_isTrue_20 rfl (lv_at hl 0 rfl) ?_
    refine lv_iconst (v := 5) hx hb dX3_isTrue_21 (by decide) ?_
    refine lv_icmp_ne (tgt := 29) hx hb dX3_isTrue_22 (by decide) (fun c_22 => ?_) (fun c_22 => ?_)
    ·
      refine lv_iconst (v := 0) hx hb dX3_isTrue_29 (by decide) ?_
      rw [hZ]
      exact pm_zret (w := s_X3_isTrue p0 p1 p2) hx hb hr hlocks hS (nz_0) (by exact (hK_20.trans (if_neg c_22)).symm) dX3_isTrue_30
    ·
      refine lv_iconst (v := 1) hx hb dX3_isTrue_25 (by decide) ?_
      refine lv_goto (tgt := 30) hx hb dX3_isTrue_26 (by decide) ?_
      rw [hZ]
      exact pm_zret (w := s_X3_isTrue p0 p1 p2) hx hb hr hlocks hS (nz_1) (by exact (hK_20.trans (if_pos c_22)).symm) dX3_isTrue_30
  refine lv_if_ne (tgt := 20) hx hb dX3_isTrue_7 (by decide) (fun c_7 => ?_) (fun c_7 => ?_)
  ·
    exact K_20 _ _ hS ls (lv_sub hl [0] rfl) ((if_neg c_7))
  ·
    refine va_gets hx hb hF.1 hS hown (hts _ (List.mem_of_getElem? (i := 1) rfl)) (fun _ h9 => h9) dX3_isTrue_10 ?_
    refine lv_lload_n hx hb dX3_isTrue_13 rfl (lv_at hl 2 rfl) ?_
    refine pm_callI (va_runV (As := [.long p2]) (rest := []) ⟨hx, hb, hml, hown, hts⟩ (pm_X0_isNaN l 52 (-1074) 9218868437227405312 (-9223372036854775808) dD p2) (cwV 1 hts gX3_isTrue_X0_isNaN rfl rfl rfl hdv_X0_isNaN ⟨Nat.le_of_ble_eq_true rfl, Nat.le_of_ble_eq_true rfl⟩) ⟨KQ.fb, va_Orecv hF.2.2.1.1 hS, fun U hU hW => ⟨rfl, (KQ.call hF.2.2.1 hS U hU hW)⟩⟩ rfl rfl hl.1 rfl (lv_room (Nat.le_of_ble_eq_true rfl)) dX3_isTrue_14 ⟨Nat.le_refl 0, Nat.le_refl 0⟩) hS (fun H locs _ _ hS => ?_)
    refine lv_if_eq (tgt := 31) hx hb dX3_isTrue_17 (by decide) (fun c_17 => ?_) (fun c_17 => ?_)
    ·
      refine lv_lload_n hx hb dX3_isTrue_31 rfl (lv_at hl 1 rfl) ?_
      refine pm_callL (va_runS (As := [.long p1]) (rest := []) ⟨hx, hb, hml, hown, hts⟩ (pm_X3_rank l dD dF p1) (va_cwS 1 hts gX3_isTrue_X3_rank rfl rfl rfl hd_X3_rank ⟨Nat.le_of_ble_eq_true rfl, Nat.le_of_ble_eq_true rfl⟩) ⟨KF.fb, fun U hU hW => ⟨rfl, (KF.call hF hS U hU hW)⟩⟩ rfl rfl hl.1 rfl (lv_room (Nat.le_of_ble_eq_true rfl)) dX3_isTrue_32 ⟨Nat.le_refl 0, Nat.le_refl 0⟩) hS (fun H locs _ _ hS => ?_)
      refine lv_topl (fun x_35 ex_35 => ?_)
      refine lv_lstore (lv' := [(5, .long x_35), (0, .int p0), (1, .long p1), (3, .long p2)]) hx hb dX3_isTrue_35 hl (by decide) rfl (fun ls hl => ?_)
      refine lv_lload_n hx hb dX3_isTrue_37 rfl (lv_at hl 3 rfl) ?_
      refine pm_callL (va_runS (As := [.long p2]) (rest := []) ⟨hx, hb, hml, hown, hts⟩ (pm_X3_rank l dD dF p2) (va_cwS 1 hts gX3_isTrue_X3_rank rfl rfl rfl hd_X3_rank ⟨Nat.le_of_ble_eq_true rfl, Nat.le_of_ble_eq_true rfl⟩) ⟨KF.fb, fun U hU hW => ⟨rfl, (KF.call hF hS U hU hW)⟩⟩ rfl rfl hl.1 rfl (lv_room (Nat.le_of_ble_eq_true rfl)) dX3_isTrue_38 ⟨Nat.le_refl 0, Nat.le_refl 0⟩) hS (fun H locs _ _ hS => ?_)
      refine lv_topl (fun x_41 ex_41 => ?_)
      refine lv_lstore (lv' := [(7, .long x_41), (5, .long x_35), (0, .int p0), (1, .long p1), (3, .long p2)]) hx hb dX3_isTrue_41 hl (by decide) rfl (fun ls hl => ?_)
      refine lv_iload_n hx hb dX3_isTrue_43 rfl (lv_at hl 2 rfl) ?_
      by_cases c_44_0 : p0 = 0
      · refine lv_tableIn (off := 36) (tgt := 80) hx hb dX3_isTrue_44 (by rw [c_44_0]; decide) (by rw [c_44_0]; decide) (by rw [c_44_0]; decide) (by decide) ?_
        refine lv_lload hx hb dX3_isTrue_80 (lv_at hl 1 rfl) ?_
        refine lv_lload hx hb dX3_isTrue_82 (lv_at hl 0 rfl) ?_
        refine lp_ge (tgt := 92) hx hb dX3_isTrue_84 dX3_isTrue_85 (by decide) (fun c_84 => ?_) (fun c_84 => ?_)
        ·
          refine lv_iconst (v := 0) hx hb dX3_isTrue_92 (by decide) ?_
          rw [hZ]
          exact pm_zret (w := s_X3_isTrue p0 p1 p2) hx hb hr hlocks hS (nz_0) (by subst ex_41 ex_35; exact (((((if_pos c_7).trans (if_pos c_17)).trans (if_pos c_44_0)).trans (if_pos c_84))).symm) dX3_isTrue_93
        ·
          refine lv_iconst (v := 1) hx hb dX3_isTrue_88 (by decide) ?_
          refine lv_goto (tgt := 93) hx hb dX3_isTrue_89 (by decide) ?_
          rw [hZ]
          exact pm_zret (w := s_X3_isTrue p0 p1 p2) hx hb hr hlocks hS (nz_1) (by subst ex_41 ex_35; exact (((((if_pos c_7).trans (if_pos c_17)).trans (if_pos c_44_0)).trans (if_neg c_84))).symm) dX3_isTrue_93
      ·
        by_cases c_44_1 : p0 = 1
        · refine lv_tableIn (off := 50) (tgt := 94) hx hb dX3_isTrue_44 (by rw [c_44_1]; decide) (by rw [c_44_1]; decide) (by rw [c_44_1]; decide) (by decide) ?_
          refine lv_lload hx hb dX3_isTrue_94 (lv_at hl 1 rfl) ?_
          refine lv_lload hx hb dX3_isTrue_96 (lv_at hl 0 rfl) ?_
          refine lp_gt (tgt := 106) hx hb dX3_isTrue_98 dX3_isTrue_99 (by decide) (fun c_98 => ?_) (fun c_98 => ?_)
          ·
            refine lv_iconst (v := 0) hx hb dX3_isTrue_106 (by decide) ?_
            rw [hZ]
            exact pm_zret (w := s_X3_isTrue p0 p1 p2) hx hb hr hlocks hS (nz_0) (by subst ex_41 ex_35; exact ((((((if_pos c_7).trans (if_pos c_17)).trans (if_neg c_44_0)).trans (if_pos c_44_1)).trans (if_pos c_98))).symm) dX3_isTrue_107
          ·
            refine lv_iconst (v := 1) hx hb dX3_isTrue_102 (by decide) ?_
            refine lv_goto (tgt := 107) hx hb dX3_isTrue_103 (by decide) ?_
            rw [hZ]
            exact pm_zret (w := s_X3_isTrue p0 p1 p2) hx hb hr hlocks hS (nz_1) (by subst ex_41 ex_35; exact ((((((if_pos c_7).trans (if_pos c_17)).trans (if_neg c_44_0)).trans (if_pos c_44_1)).trans (if_neg c_98))).symm) dX3_isTrue_107
        ·
          by_cases c_44_2 : p0 = 2
          · refine lv_tableIn (off := 64) (tgt := 108) hx hb dX3_isTrue_44 (by rw [c_44_2]; decide) (by rw [c_44_2]; decide) (by rw [c_44_2]; decide) (by decide) ?_
            refine lv_lload hx hb dX3_isTrue_108 (lv_at hl 1 rfl) ?_
            refine lv_lload hx hb dX3_isTrue_110 (lv_at hl 0 rfl) ?_
            refine lp_le (tgt := 120) hx hb dX3_isTrue_112 dX3_isTrue_113 (by decide) (fun c_112 => ?_) (fun c_112 => ?_)
            ·
              refine lv_iconst (v := 0) hx hb dX3_isTrue_120 (by decide) ?_
              rw [hZ]
              exact pm_zret (w := s_X3_isTrue p0 p1 p2) hx hb hr hlocks hS (nz_0) (by subst ex_41 ex_35; exact (((((((if_pos c_7).trans (if_pos c_17)).trans (if_neg c_44_0)).trans (if_neg c_44_1)).trans (if_pos c_44_2)).trans (if_pos c_112))).symm) dX3_isTrue_121
            ·
              refine lv_iconst (v := 1) hx hb dX3_isTrue_116 (by decide) ?_
              refine lv_goto (tgt := 121) hx hb dX3_isTrue_117 (by decide) ?_
              rw [hZ]
              exact pm_zret (w := s_X3_isTrue p0 p1 p2) hx hb hr hlocks hS (nz_1) (by subst ex_41 ex_35; exact (((((((if_pos c_7).trans (if_pos c_17)).trans (if_neg c_44_0)).trans (if_neg c_44_1)).trans (if_pos c_44_2)).trans (if_neg c_112))).symm) dX3_isTrue_121
          ·
            by_cases c_44_3 : p0 = 3
            · refine lv_tableIn (off := 78) (tgt := 122) hx hb dX3_isTrue_44 (by rw [c_44_3]; decide) (by rw [c_44_3]; decide) (by rw [c_44_3]; decide) (by decide) ?_
              refine lv_lload hx hb dX3_isTrue_122 (lv_at hl 1 rfl) ?_
              refine lv_lload hx hb dX3_isTrue_124 (lv_at hl 0 rfl) ?_
              refine lp_lt (tgt := 134) hx hb dX3_isTrue_126 dX3_isTrue_127 (by decide) (fun c_126 => ?_) (fun c_126 => ?_)
              ·
                refine lv_iconst (v := 0) hx hb dX3_isTrue_134 (by decide) ?_
                rw [hZ]
                exact pm_zret (w := s_X3_isTrue p0 p1 p2) hx hb hr hlocks hS (nz_0) (by subst ex_41 ex_35; exact ((((((((if_pos c_7).trans (if_pos c_17)).trans (if_neg c_44_0)).trans (if_neg c_44_1)).trans (if_neg c_44_2)).trans (if_pos c_44_3)).trans (if_pos c_126))).symm) dX3_isTrue_135
              ·
                refine lv_iconst (v := 1) hx hb dX3_isTrue_130 (by decide) ?_
                refine lv_goto (tgt := 135) hx hb dX3_isTrue_131 (by decide) ?_
                rw [hZ]
                exact pm_zret (w := s_X3_isTrue p0 p1 p2) hx hb hr hlocks hS (nz_1) (by subst ex_41 ex_35; exact ((((((((if_pos c_7).trans (if_pos c_17)).trans (if_neg c_44_0)).trans (if_neg c_44_1)).trans (if_neg c_44_2)).trans (if_pos c_44_3)).trans (if_neg c_126))).symm) dX3_isTrue_135
            ·
              by_cases c_44_4 : p0 = 4
              · refine lv_tableIn (off := 92) (tgt := 136) hx hb dX3_isTrue_44 (by rw [c_44_4]; decide) (by rw [c_44_4]; decide) (by rw [c_44_4]; decide) (by decide) ?_
                refine lv_lload hx hb dX3_isTrue_136 (lv_at hl 1 rfl) ?_
                refine lv_lload hx hb dX3_isTrue_138 (lv_at hl 0 rfl) ?_
                refine lp_ne (tgt := 148) hx hb dX3_isTrue_140 dX3_isTrue_141 (by decide) (fun c_140 => ?_) (fun c_140 => ?_)
                ·
                  refine lv_iconst (v := 0) hx hb dX3_isTrue_148 (by decide) ?_
                  rw [hZ]
                  exact pm_zret (w := s_X3_isTrue p0 p1 p2) hx hb hr hlocks hS (nz_0) (by subst ex_41 ex_35; exact (((((((((if_pos c_7).trans (if_pos c_17)).trans (if_neg c_44_0)).trans (if_neg c_44_1)).trans (if_neg c_44_2)).trans (if_neg c_44_3)).trans (if_pos c_44_4)).trans (if_neg c_140))).symm) dX3_isTrue_149
                ·
                  refine lv_iconst (v := 1) hx hb dX3_isTrue_144 (by decide) ?_
                  refine lv_goto (tgt := 149) hx hb dX3_isTrue_145 (by decide) ?_
                  rw [hZ]
                  exact pm_zret (w := s_X3_isTrue p0 p1 p2) hx hb hr hlocks hS (nz_1) (by subst ex_41 ex_35; exact (((((((((if_pos c_7).trans (if_pos c_17)).trans (if_neg c_44_0)).trans (if_neg c_44_1)).trans (if_neg c_44_2)).trans (if_neg c_44_3)).trans (if_pos c_44_4)).trans (if_pos c_140))).symm) dX3_isTrue_149
              ·
                have nc_44_0 : (p0).toInt ≠ 0 := fun h => c_44_0 (Int32.toInt.inj (h.trans (by decide)))
                have nc_44_1 : (p0).toInt ≠ 1 := fun h => c_44_1 (Int32.toInt.inj (h.trans (by decide)))
                have nc_44_2 : (p0).toInt ≠ 2 := fun h => c_44_2 (Int32.toInt.inj (h.trans (by decide)))
                have nc_44_3 : (p0).toInt ≠ 3 := fun h => c_44_3 (Int32.toInt.inj (h.trans (by decide)))
                have nc_44_4 : (p0).toInt ≠ 4 := fun h => c_44_4 (Int32.toInt.inj (h.trans (by decide)))
                refine lv_tableOut (tgt := 150) hx hb dX3_isTrue_44 (by omega) (by decide) ?_
                refine lv_lload hx hb dX3_isTrue_150 (lv_at hl 1 rfl) ?_
                refine lv_lload hx hb dX3_isTrue_152 (lv_at hl 0 rfl) ?_
                refine lp_eq (tgt := 162) hx hb dX3_isTrue_154 dX3_isTrue_155 (by decide) (fun c_154 => ?_) (fun c_154 => ?_)
                ·
                  refine lv_iconst (v := 0) hx hb dX3_isTrue_162 (by decide) ?_
                  rw [hZ]
                  exact pm_zret (w := s_X3_isTrue p0 p1 p2) hx hb hr hlocks hS (nz_0) (by subst ex_41 ex_35; exact (((((((((if_pos c_7).trans (if_pos c_17)).trans (if_neg c_44_0)).trans (if_neg c_44_1)).trans (if_neg c_44_2)).trans (if_neg c_44_3)).trans (if_neg c_44_4)).trans (if_pos c_154))).symm) dX3_isTrue_163
                ·
                  refine lv_iconst (v := 1) hx hb dX3_isTrue_158 (by decide) ?_
                  refine lv_goto (tgt := 163) hx hb dX3_isTrue_159 (by decide) ?_
                  rw [hZ]
                  exact pm_zret (w := s_X3_isTrue p0 p1 p2) hx hb hr hlocks hS (nz_1) (by subst ex_41 ex_35; exact (((((((((if_pos c_7).trans (if_pos c_17)).trans (if_neg c_44_0)).trans (if_neg c_44_1)).trans (if_neg c_44_2)).trans (if_neg c_44_3)).trans (if_neg c_44_4)).trans (if_neg c_154))).symm) dX3_isTrue_163
    ·
      exact K_20 _ _ hS ls (lv_sub hl [0] rfl) (((if_pos c_7).trans (if_neg c_17)))
theorem hd_X3_power : yX3_power.cls ≠ "java/lang/invoke/MethodHandle" ∧ yX3_power.cls ≠ "java/lang/invoke/VarHandle" ∧ (parseMethodDescriptor yX3_power.desc).map (fun d => d.parameters.length) = some 1 := by decide +kernel
def s_X3_power (p0 : Int64) : Int32 :=
  ((lUshr (s_X0_magnitude 52 (-1074) 9218868437227405312 (-9223372036854775808) p0) 52).toInt32) - 1023
set_option maxHeartbeats 4000000 in
set_option maxRecDepth 100000 in
theorem pm_X3_power (l : Launch) (dD dF : Nat) (p0 : Int64) : PmI l yX3_power wsX3_power 1 22 [.long p0] (fun U => KF dD dF pv_N U U.heap) (s_X3_power p0) := by
  refine Met.ofW (cc := cX3_power) (maxL := 2) (ret := (some .int)) (by decide) rfl ?_
  intro p e s m args below meth c s₁ B hml hv
  obtain ⟨rfl, hF⟩ := hv
  have hx := B.exec
  have hb := B.bytes
  have hr := B.returns
  have hts := atoms_spec (ws := wsX3_power) B.pre
  have hown : s.vm.findClass RX3 = some m.cls := findClass_of_methodNamed B.named
  have hlocks := B.notSynchronized
  have hS : va_S pv_N s.heap s.heap [] := va_S.rf
  have hl := lv_entry ([.long p0]) (n := 2) (Nat.le_of_ble_eq_true rfl)
  rw [lg_entry_eq]
  generalize (lg_sl ([.long p0]) ++ List.replicate (2 - (lg_sl ([.long p0])).length) Slot.unset).toArray = ls at hl ⊢
  have hl : lv_has ls 2 [(0, .long p0)] := hl
  obtain ⟨Z, hZ⟩ : ∃ z, z = MQ below (pm_QI (s_X3_power p0)) ([.long p0] : List Value).toArray s 0 0 pv_N := ⟨_, rfl⟩
  rw [← hZ]
  obtain ⟨Y, hY⟩ : ∃ y, y = s_X3_power p0 := ⟨_, rfl⟩
  refine va_gets hx hb hF.1 hS hown (hts _ (List.mem_of_getElem? (i := 1) rfl)) (fun _ h9 => h9) dX3_power_0 ?_
  refine lv_lload_n hx hb dX3_power_3 rfl (lv_at hl 0 rfl) ?_
  refine pm_callL (va_runV (As := [.long p0]) (rest := []) ⟨hx, hb, hml, hown, hts⟩ (pm_X0_magnitude l 52 (-1074) 9218868437227405312 (-9223372036854775808) dD p0) (cwV 1 hts gX3_power_X0_magnitude rfl rfl rfl hdv_X0_magnitude ⟨Nat.le_of_ble_eq_true rfl, Nat.le_of_ble_eq_true rfl⟩) ⟨KQ.fb, va_Orecv hF.2.2.1.1 hS, fun U hU hW => ⟨rfl, (KQ.call hF.2.2.1 hS U hU hW)⟩⟩ rfl rfl hl.1 rfl (lv_room (Nat.le_of_ble_eq_true rfl)) dX3_power_4 ⟨Nat.le_refl 0, Nat.le_refl 0⟩) hS (fun H locs _ _ hS => ?_)
  refine va_gets hx hb hF.1 hS hown (hts _ (List.mem_of_getElem? (i := 1) rfl)) (fun _ h9 => h9) dX3_power_7 ?_
  refine vk_getf hx hb hF.2.2.1.2.1 hS hown (hts _ (List.mem_of_getElem? (i := 2) rfl)) (fun _ h9 => h9) dX3_power_10 ?_
  refine lv_lushr (v := lUshr (s_X0_magnitude 52 (-1074) 9218868437227405312 (-9223372036854775808) p0) 52) hx hb dX3_power_13 rfl ?_
  refine lv_l2i (v := (lUshr (s_X0_magnitude 52 (-1074) 9218868437227405312 (-9223372036854775808) p0) 52).toInt32) hx hb dX3_power_14 rfl ?_
  refine lv_sipush (v := 1023) hx hb dX3_power_15 (by decide) ?_
  refine lv_isub hx hb dX3_power_18 ?_
  rw [hZ]
  exact pm_iret (w := s_X3_power p0) hx hb hr hlocks hS (by exact rfl) dX3_power_19
theorem hd_X3_floor : yX3_floor.cls ≠ "java/lang/invoke/MethodHandle" ∧ yX3_floor.cls ≠ "java/lang/invoke/VarHandle" ∧ (parseMethodDescriptor yX3_floor.desc).map (fun d => d.parameters.length) = some 1 := by decide +kernel
def s_X3_floor_j71 (p0 : Int64) (x_57 : Int64) (z_71_0 : Int64) : Int64 :=
  z_71_0 &&& (x_57 ^^^ (-1))
def s_X3_floor (p0 : Int64) : Int64 :=
  if 52 ≤ (s_X3_power p0) then p0
  else if (s_X0_isZero 52 (-1074) 9218868437227405312 (-9223372036854775808) p0) = 0 then if 0 ≤ (s_X3_power p0) then if 0 ≤ p0 then s_X3_floor_j71 p0 (lUshr ((lShl 1 52) - 1) (s_X3_power p0)) p0
  else s_X3_floor_j71 p0 (lUshr ((lShl 1 52) - 1) (s_X3_power p0)) (p0 + (lUshr ((lShl 1 52) - 1) (s_X3_power p0)))
  else if 0 ≤ p0 then 0
  else (-4616189618054758400)
  else p0
set_option maxHeartbeats 4000000 in
set_option maxRecDepth 100000 in
theorem pm_X3_floor (l : Launch) (dD dF : Nat) (p0 : Int64) : PmL l yX3_floor wsX3_floor 2 44 [.long p0] (fun U => KF dD dF pv_N U U.heap) (s_X3_floor p0) := by
  refine Met.ofW (cc := cX3_floor) (maxL := 7) (ret := (some .long)) (by decide) rfl ?_
  intro p e s m args below meth c s₁ B hml hv
  obtain ⟨rfl, hF⟩ := hv
  have hx := B.exec
  have hb := B.bytes
  have hr := B.returns
  have hts := atoms_spec (ws := wsX3_floor) B.pre
  have hown : s.vm.findClass RX3 = some m.cls := findClass_of_methodNamed B.named
  have hlocks := B.notSynchronized
  have hS : va_S pv_N s.heap s.heap [] := va_S.rf
  have hl := lv_entry ([.long p0]) (n := 7) (Nat.le_of_ble_eq_true rfl)
  rw [lg_entry_eq]
  generalize (lg_sl ([.long p0]) ++ List.replicate (7 - (lg_sl ([.long p0])).length) Slot.unset).toArray = ls at hl ⊢
  have hl : lv_has ls 7 [(0, .long p0)] := hl
  obtain ⟨Z, hZ⟩ : ∃ z, z = MQ below (pm_QL (s_X3_floor p0)) ([.long p0] : List Value).toArray s 0 0 pv_N := ⟨_, rfl⟩
  rw [← hZ]
  obtain ⟨Y, hY⟩ : ∃ y, y = s_X3_floor p0 := ⟨_, rfl⟩
  refine lv_lload_n hx hb dX3_floor_0 rfl (lv_at hl 0 rfl) ?_
  refine pm_callI (va_runS (As := [.long p0]) (rest := []) ⟨hx, hb, hml, hown, hts⟩ (pm_X3_power l dD dF p0) (va_cwS 1 hts gX3_floor_X3_power rfl rfl rfl hd_X3_power ⟨Nat.le_of_ble_eq_true rfl, Nat.le_of_ble_eq_true rfl⟩) ⟨KF.fb, fun U hU hW => ⟨rfl, (KF.call hF hS U hU hW)⟩⟩ rfl rfl hl.1 rfl (lv_room (Nat.le_of_ble_eq_true rfl)) dX3_floor_1 ⟨Nat.le_refl 0, Nat.le_refl 0⟩) hS (fun H locs _ _ hS => ?_)
  refine lv_topi (fun x_4 ex_4 => ?_)
  refine lv_istore_n (lv' := [(2, .int x_4), (0, .long p0)]) hx hb dX3_floor_4 rfl hl (by decide) rfl (fun ls hl => ?_)
  refine lv_iload_n hx hb dX3_floor_5 rfl (lv_at hl 0 rfl) ?_
  refine va_gets hx hb hF.1 hS hown (hts _ (List.mem_of_getElem? (i := 1) rfl)) (fun _ h9 => h9) dX3_floor_6 ?_
  refine vk_getf hx hb hF.2.2.1.2.1 hS hown (hts _ (List.mem_of_getElem? (i := 2) rfl)) (fun _ h9 => h9) dX3_floor_9 ?_
  refine lv_icmp_ge (tgt := 25) hx hb dX3_floor_12 (by decide) (fun c_12 => ?_) (fun c_12 => ?_)
  ·
    refine lv_lload_n hx hb dX3_floor_25 rfl (lv_at hl 1 rfl) ?_
    rw [hZ]
    exact pm_lret (w := s_X3_floor p0) hx hb hr hlocks hS (by subst ex_4; exact ((if_pos c_12)).symm) dX3_floor_26
  ·
    refine va_gets hx hb hF.1 hS hown (hts _ (List.mem_of_getElem? (i := 1) rfl)) (fun _ h9 => h9) dX3_floor_15 ?_
    refine lv_lload_n hx hb dX3_floor_18 rfl (lv_at hl 1 rfl) ?_
    refine pm_callI (va_runV (As := [.long p0]) (rest := []) ⟨hx, hb, hml, hown, hts⟩ (pm_X0_isZero l 52 (-1074) 9218868437227405312 (-9223372036854775808) dD p0) (cwV 1 hts gX3_floor_X0_isZero rfl rfl rfl hdv_X0_isZero ⟨Nat.le_of_ble_eq_true rfl, Nat.le_of_ble_eq_true rfl⟩) ⟨KQ.fb, va_Orecv hF.2.2.1.1 hS, fun U hU hW => ⟨rfl, (KQ.call hF.2.2.1 hS U hU hW)⟩⟩ rfl rfl hl.1 rfl (lv_room (Nat.le_of_ble_eq_true rfl)) dX3_floor_19 ⟨Nat.le_refl 0, Nat.le_refl 0⟩) hS (fun H locs _ _ hS => ?_)
    refine lv_if_eq (tgt := 27) hx hb dX3_floor_22 (by decide) (fun c_22 => ?_) (fun c_22 => ?_)
    ·
      refine lv_iload_n hx hb dX3_floor_27 rfl (lv_at hl 0 rfl) ?_
      refine lv_if_ge (tgt := 45) hx hb dX3_floor_28 (by decide) (fun c_28 => ?_) (fun c_28 => ?_)
      ·
        refine lv_lconst (v := 1) hx hb dX3_floor_45 (by decide) ?_
        refine va_gets hx hb hF.1 hS hown (hts _ (List.mem_of_getElem? (i := 1) rfl)) (fun _ h9 => h9) dX3_floor_46 ?_
        refine vk_getf hx hb hF.2.2.1.2.1 hS hown (hts _ (List.mem_of_getElem? (i := 2) rfl)) (fun _ h9 => h9) dX3_floor_49 ?_
        refine lv_lshl (v := lShl 1 52) hx hb dX3_floor_52 rfl ?_
        refine lv_lconst (v := 1) hx hb dX3_floor_53 (by decide) ?_
        refine lv_lsub hx hb dX3_floor_54 ?_
        refine lv_iload_n hx hb dX3_floor_55 rfl (lv_at hl 0 rfl) ?_
        refine lv_lushr (v := lUshr ((lShl 1 52) - 1) x_4) hx hb dX3_floor_56 rfl ?_
        refine lv_topl (fun x_57 ex_57 => ?_)
        refine lv_lstore_n (lv' := [(3, .long x_57), (2, .int x_4), (0, .long p0)]) hx hb dX3_floor_57 rfl hl (by decide) rfl (fun ls hl => ?_)
        refine lv_lload_n hx hb dX3_floor_58 rfl (lv_at hl 2 rfl) ?_
        refine lv_lconst (v := 0) hx hb dX3_floor_59 (by decide) ?_
        have K_71 : ∀ (z_71_0 : Int64) (H : Heap) (locs : List Loc), va_S pv_N s.heap H locs → ∀ (ls : Array Slot), lv_has ls 7 [(3, .long x_57)] → s_X3_floor p0 = s_X3_floor_j71 p0 x_57 z_71_0 → W p l e (pm_R 2 44) s m ([.long p0] : List Value).toArray below meth c H locs 0 0 Z (F0 m 71 ls [.long z_71_0]) := by
          intro z_71_0 H locs hS ls hl hK_71
          refine lv_lstore (lv' := [(5, .long z_71_0), (3, .long x_57)]) hx hb dX3_floor_71 hl (by decide) rfl (fun ls hl => ?_)
          refine lv_lload hx hb dX3_floor_73 (lv_at hl 0 rfl) ?_
          refine lv_lload_n hx hb dX3_floor_75 rfl (lv_at hl 1 rfl) ?_
          refine lv_ldc2 (v := (-1)) hx hb hown (hts _ (List.mem_of_getElem? (i := 4) rfl)) dX3_floor_76 ?_
          refine lv_lxor hx hb dX3_floor_79 ?_
          refine lv_land hx hb dX3_floor_80 ?_
          rw [hZ]
          exact pm_lret (w := s_X3_floor p0) hx hb hr hlocks hS (by subst ex_57 ex_4; exact (hK_71.trans rfl).symm) dX3_floor_81
        refine lp_ge (tgt := 70) hx hb dX3_floor_60 dX3_floor_61 (by decide) (fun c_60 => ?_) (fun c_60 => ?_)
        ·
          refine lv_lload_n hx hb dX3_floor_70 rfl (lv_at hl 2 rfl) ?_
          exact K_71 p0 _ _ hS ls (lv_sub hl [0] rfl) (by subst ex_57 ex_4; exact ((((if_neg c_12).trans (if_pos c_22)).trans (if_pos c_28)).trans (if_pos c_60)))
        ·
          refine lv_lload_n hx hb dX3_floor_64 rfl (lv_at hl 2 rfl) ?_
          refine lv_lload_n hx hb dX3_floor_65 rfl (lv_at hl 0 rfl) ?_
          refine lv_ladd hx hb dX3_floor_66 ?_
          refine lv_goto (tgt := 71) hx hb dX3_floor_67 (by decide) ?_
          exact K_71 (p0 + x_57) _ _ hS ls (lv_sub hl [0] rfl) (by subst ex_57 ex_4; exact ((((if_neg c_12).trans (if_pos c_22)).trans (if_pos c_28)).trans (if_neg c_60)))
      ·
        refine lv_lload_n hx hb dX3_floor_31 rfl (lv_at hl 1 rfl) ?_
        refine lv_lconst (v := 0) hx hb dX3_floor_32 (by decide) ?_
        refine lp_ge (tgt := 43) hx hb dX3_floor_33 dX3_floor_34 (by decide) (fun c_33 => ?_) (fun c_33 => ?_)
        ·
          refine lv_lconst (v := 0) hx hb dX3_floor_43 (by decide) ?_
          rw [hZ]
          exact pm_lret (w := s_X3_floor p0) hx hb hr hlocks hS (by subst ex_4; exact (((((if_neg c_12).trans (if_pos c_22)).trans (if_neg c_28)).trans (if_pos c_33))).symm) dX3_floor_44
        ·
          refine lv_ldc2 (v := (-4616189618054758400)) hx hb hown (hts _ (List.mem_of_getElem? (i := 3) rfl)) dX3_floor_37 ?_
          refine lv_goto (tgt := 44) hx hb dX3_floor_40 (by decide) ?_
          rw [hZ]
          exact pm_lret (w := s_X3_floor p0) hx hb hr hlocks hS (by subst ex_4; exact (((((if_neg c_12).trans (if_pos c_22)).trans (if_neg c_28)).trans (if_neg c_33))).symm) dX3_floor_44
    ·
      refine lv_lload_n hx hb dX3_floor_25 rfl (lv_at hl 1 rfl) ?_
      rw [hZ]
      exact pm_lret (w := s_X3_floor p0) hx hb hr hlocks hS (by subst ex_4; exact (((if_neg c_12).trans (if_neg c_22))).symm) dX3_floor_26
theorem hd_X3_nearestWhole : yX3_nearestWhole.cls ≠ "java/lang/invoke/MethodHandle" ∧ yX3_nearestWhole.cls ≠ "java/lang/invoke/VarHandle" ∧ (parseMethodDescriptor yX3_nearestWhole.desc).map (fun d => d.parameters.length) = some 1 := by decide +kernel
def s_X3_nearestWhole (p0 : Int64) : Int64 :=
  if (s_X3_power p0) < 52 then if 0 ≤ p0 then s_X0_pack 52 (-1074) 9218868437227405312 (-9223372036854775808) 0 0 (s_X0_rounded (s_X0_significand 52 (-1074) 9218868437227405312 (-9223372036854775808) p0) (-(s_X0_exponent 52 (-1074) 9218868437227405312 (-9223372036854775808) p0)))
  else s_X0_pack 52 (-1074) 9218868437227405312 (-9223372036854775808) 1 0 (s_X0_rounded (s_X0_significand 52 (-1074) 9218868437227405312 (-9223372036854775808) p0) (-(s_X0_exponent 52 (-1074) 9218868437227405312 (-9223372036854775808) p0)))
  else p0
set_option maxHeartbeats 4000000 in
set_option maxRecDepth 100000 in
theorem pm_X3_nearestWhole (l : Launch) (dD dF : Nat) (p0 : Int64) : PmL l yX3_nearestWhole wsX3_nearestWhole 3 73 [.long p0] (fun U => KF dD dF pv_N U U.heap) (s_X3_nearestWhole p0) := by
  refine Met.ofW (cc := cX3_nearestWhole) (maxL := 4) (ret := (some .long)) (by decide) rfl ?_
  intro p e s m args below meth c s₁ B hml hv
  obtain ⟨rfl, hF⟩ := hv
  have hx := B.exec
  have hb := B.bytes
  have hr := B.returns
  have hts := atoms_spec (ws := wsX3_nearestWhole) B.pre
  have hown : s.vm.findClass RX3 = some m.cls := findClass_of_methodNamed B.named
  have hlocks := B.notSynchronized
  have hS : va_S pv_N s.heap s.heap [] := va_S.rf
  have hl := lv_entry ([.long p0]) (n := 4) (Nat.le_of_ble_eq_true rfl)
  rw [lg_entry_eq]
  generalize (lg_sl ([.long p0]) ++ List.replicate (4 - (lg_sl ([.long p0])).length) Slot.unset).toArray = ls at hl ⊢
  have hl : lv_has ls 4 [(0, .long p0)] := hl
  obtain ⟨Z, hZ⟩ : ∃ z, z = MQ below (pm_QL (s_X3_nearestWhole p0)) ([.long p0] : List Value).toArray s 0 0 pv_N := ⟨_, rfl⟩
  rw [← hZ]
  obtain ⟨Y, hY⟩ : ∃ y, y = s_X3_nearestWhole p0 := ⟨_, rfl⟩
  refine lv_lload_n hx hb dX3_nearestWhole_0 rfl (lv_at hl 0 rfl) ?_
  refine pm_callI (va_runS (As := [.long p0]) (rest := []) ⟨hx, hb, hml, hown, hts⟩ (pm_X3_power l dD dF p0) (va_cwS 1 hts gX3_nearestWhole_X3_power rfl rfl rfl hd_X3_power ⟨Nat.le_of_ble_eq_true rfl, Nat.le_of_ble_eq_true rfl⟩) ⟨KF.fb, fun U hU hW => ⟨rfl, (KF.call hF hS U hU hW)⟩⟩ rfl rfl hl.1 rfl (lv_room (Nat.le_of_ble_eq_true rfl)) dX3_nearestWhole_1 ⟨Nat.le_refl 0, Nat.le_refl 0⟩) hS (fun H locs _ _ hS => ?_)
  refine va_gets hx hb hF.1 hS hown (hts _ (List.mem_of_getElem? (i := 1) rfl)) (fun _ h9 => h9) dX3_nearestWhole_4 ?_
  refine vk_getf hx hb hF.2.2.1.2.1 hS hown (hts _ (List.mem_of_getElem? (i := 2) rfl)) (fun _ h9 => h9) dX3_nearestWhole_7 ?_
  refine lv_icmp_lt (tgt := 15) hx hb dX3_nearestWhole_10 (by decide) (fun c_10 => ?_) (fun c_10 => ?_)
  ·
    refine va_gets hx hb hF.1 hS hown (hts _ (List.mem_of_getElem? (i := 1) rfl)) (fun _ h9 => h9) dX3_nearestWhole_15 ?_
    refine lv_lload_n hx hb dX3_nearestWhole_18 rfl (lv_at hl 0 rfl) ?_
    refine pm_callL (va_runV (As := [.long p0]) (rest := []) ⟨hx, hb, hml, hown, hts⟩ (pm_X0_significand l 52 (-1074) 9218868437227405312 (-9223372036854775808) dD p0) (cwV 1 hts gX3_nearestWhole_X0_significand rfl rfl rfl hdv_X0_significand ⟨Nat.le_of_ble_eq_true rfl, Nat.le_of_ble_eq_true rfl⟩) ⟨KQ.fb, va_Orecv hF.2.2.1.1 hS, fun U hU hW => ⟨rfl, (KQ.call hF.2.2.1 hS U hU hW)⟩⟩ rfl rfl hl.1 rfl (lv_room (Nat.le_of_ble_eq_true rfl)) dX3_nearestWhole_19 ⟨Nat.le_refl 0, Nat.le_refl 0⟩) hS (fun H locs _ _ hS => ?_)
    refine va_gets hx hb hF.1 hS hown (hts _ (List.mem_of_getElem? (i := 1) rfl)) (fun _ h9 => h9) dX3_nearestWhole_22 ?_
    refine lv_lload_n hx hb dX3_nearestWhole_25 rfl (lv_at hl 0 rfl) ?_
    refine pm_callI (va_runV (As := [.long p0]) (rest := [.long (s_X0_significand 52 (-1074) 9218868437227405312 (-9223372036854775808) p0)]) ⟨hx, hb, hml, hown, hts⟩ (pm_X0_exponent l 52 (-1074) 9218868437227405312 (-9223372036854775808) dD p0) (cwV 1 hts gX3_nearestWhole_X0_exponent rfl rfl rfl hdv_X0_exponent ⟨Nat.le_of_ble_eq_true rfl, Nat.le_of_ble_eq_true rfl⟩) ⟨KQ.fb, va_Orecv hF.2.2.1.1 hS, fun U hU hW => ⟨rfl, (KQ.call hF.2.2.1 hS U hU hW)⟩⟩ rfl rfl hl.1 rfl (lv_room (Nat.le_of_ble_eq_true rfl)) dX3_nearestWhole_26 ⟨Nat.le_refl 0, Nat.le_refl 0⟩) hS (fun H locs _ _ hS => ?_)
    refine lv_ineg hx hb dX3_nearestWhole_29 ?_
    refine pm_callL (va_runS (As := [.long (s_X0_significand 52 (-1074) 9218868437227405312 (-9223372036854775808) p0), .int (-(s_X0_exponent 52 (-1074) 9218868437227405312 (-9223372036854775808) p0))]) (rest := []) ⟨hx, hb, hml, hown, hts⟩ (pm_X0_rounded l (s_X0_significand 52 (-1074) 9218868437227405312 (-9223372036854775808) p0) (-(s_X0_exponent 52 (-1074) 9218868437227405312 (-9223372036854775808) p0))) (va_cwS 2 hts gX3_nearestWhole_X0_rounded rfl rfl rfl hd_X0_rounded ⟨Nat.le_of_ble_eq_true rfl, Nat.le_of_ble_eq_true rfl⟩) ⟨pm_fbT, fun U hU hW => ⟨rfl, trivial⟩⟩ rfl rfl hl.1 rfl (lv_room (Nat.le_of_ble_eq_true rfl)) dX3_nearestWhole_30 ⟨Nat.le_refl 0, Nat.le_refl 0⟩) hS (fun H locs _ _ hS => ?_)
    refine lv_topl (fun x_33 ex_33 => ?_)
    refine lv_lstore_n (lv' := [(2, .long x_33), (0, .long p0)]) hx hb dX3_nearestWhole_33 rfl hl (by decide) rfl (fun ls hl => ?_)
    refine va_gets hx hb hF.1 hS hown (hts _ (List.mem_of_getElem? (i := 1) rfl)) (fun _ h9 => h9) dX3_nearestWhole_34 ?_
    refine lv_lload_n hx hb dX3_nearestWhole_37 rfl (lv_at hl 1 rfl) ?_
    refine lv_lconst (v := 0) hx hb dX3_nearestWhole_38 (by decide) ?_
    refine lp_ge (tgt := 47) hx hb dX3_nearestWhole_39 dX3_nearestWhole_40 (by decide) (fun c_39 => ?_) (fun c_39 => ?_)
    ·
      refine lv_iconst (v := 0) hx hb dX3_nearestWhole_47 (by decide) ?_
      refine lv_iconst (v := 0) hx hb dX3_nearestWhole_48 (by decide) ?_
      refine lv_lload_n hx hb dX3_nearestWhole_49 rfl (lv_at hl 0 rfl) ?_
      refine pm_callL (va_runV (As := [.int 0, .int 0, .long x_33]) (rest := []) ⟨hx, hb, hml, hown, hts⟩ (pm_X0_pack l 52 (-1074) 9218868437227405312 (-9223372036854775808) dD 0 0 x_33) (cwV 3 hts gX3_nearestWhole_X0_pack rfl rfl rfl hdv_X0_pack ⟨Nat.le_of_ble_eq_true rfl, Nat.le_of_ble_eq_true rfl⟩) ⟨KQ.fb, va_Orecv hF.2.2.1.1 hS, fun U hU hW => ⟨rfl, (KQ.call hF.2.2.1 hS U hU hW)⟩⟩ rfl rfl hl.1 rfl (lv_room (Nat.le_of_ble_eq_true rfl)) dX3_nearestWhole_50 ⟨Nat.le_refl 0, Nat.le_refl 0⟩) hS (fun H locs _ _ hS => ?_)
      rw [hZ]
      exact pm_lret (w := s_X3_nearestWhole p0) hx hb hr hlocks hS (by subst ex_33; exact (((if_pos c_10).trans (if_pos c_39))).symm) dX3_nearestWhole_53
    ·
      refine lv_iconst (v := 1) hx hb dX3_nearestWhole_43 (by decide) ?_
      refine lv_goto (tgt := 48) hx hb dX3_nearestWhole_44 (by decide) ?_
      refine lv_iconst (v := 0) hx hb dX3_nearestWhole_48 (by decide) ?_
      refine lv_lload_n hx hb dX3_nearestWhole_49 rfl (lv_at hl 0 rfl) ?_
      refine pm_callL (va_runV (As := [.int 1, .int 0, .long x_33]) (rest := []) ⟨hx, hb, hml, hown, hts⟩ (pm_X0_pack l 52 (-1074) 9218868437227405312 (-9223372036854775808) dD 1 0 x_33) (cwV 3 hts gX3_nearestWhole_X0_pack rfl rfl rfl hdv_X0_pack ⟨Nat.le_of_ble_eq_true rfl, Nat.le_of_ble_eq_true rfl⟩) ⟨KQ.fb, va_Orecv hF.2.2.1.1 hS, fun U hU hW => ⟨rfl, (KQ.call hF.2.2.1 hS U hU hW)⟩⟩ rfl rfl hl.1 rfl (lv_room (Nat.le_of_ble_eq_true rfl)) dX3_nearestWhole_50 ⟨Nat.le_refl 0, Nat.le_refl 0⟩) hS (fun H locs _ _ hS => ?_)
      rw [hZ]
      exact pm_lret (w := s_X3_nearestWhole p0) hx hb hr hlocks hS (by subst ex_33; exact (((if_pos c_10).trans (if_neg c_39))).symm) dX3_nearestWhole_53
  ·
    refine lv_lload_n hx hb dX3_nearestWhole_13 rfl (lv_at hl 0 rfl) ?_
    rw [hZ]
    exact pm_lret (w := s_X3_nearestWhole p0) hx hb hr hlocks hS (by exact ((if_neg c_10)).symm) dX3_nearestWhole_14
theorem hd_X3_distanceToNext : yX3_distanceToNext.cls ≠ "java/lang/invoke/MethodHandle" ∧ yX3_distanceToNext.cls ≠ "java/lang/invoke/VarHandle" ∧ (parseMethodDescriptor yX3_distanceToNext.desc).map (fun d => d.parameters.length) = some 1 := by decide +kernel
def s_X3_distanceToNext (p0 : Int64) : Int64 :=
  if (s_X0_isInfinite 52 (-1074) 9218868437227405312 (-9223372036854775808) p0) = 0 then s_X0_pack 52 (-1074) 9218868437227405312 (-9223372036854775808) 0 (if (s_X0_exponent 52 (-1074) 9218868437227405312 (-9223372036854775808) p0) < (-1074) then (-1074) else (s_X0_exponent 52 (-1074) 9218868437227405312 (-9223372036854775808) p0)) 1
  else 9218868437227405312
set_option maxHeartbeats 4000000 in
set_option maxRecDepth 100000 in
theorem pm_X3_distanceToNext (l : Launch) (dD dF : Nat) (p0 : Int64) : PmL l yX3_distanceToNext wsX3_distanceToNext 3 70 [.long p0] (fun U => KF dD dF pv_N U U.heap) (s_X3_distanceToNext p0) := by
  refine Met.ofW (cc := cX3_distanceToNext) (maxL := 3) (ret := (some .long)) (by decide) rfl ?_
  intro p e s m args below meth c s₁ B hml hv
  obtain ⟨rfl, hF⟩ := hv
  have hx := B.exec
  have hb := B.bytes
  have hr := B.returns
  have hts := atoms_spec (ws := wsX3_distanceToNext) B.pre
  have hown : s.vm.findClass RX3 = some m.cls := findClass_of_methodNamed B.named
  have hlocks := B.notSynchronized
  have hS : va_S pv_N s.heap s.heap [] := va_S.rf
  have hl := lv_entry ([.long p0]) (n := 3) (Nat.le_of_ble_eq_true rfl)
  rw [lg_entry_eq]
  generalize (lg_sl ([.long p0]) ++ List.replicate (3 - (lg_sl ([.long p0])).length) Slot.unset).toArray = ls at hl ⊢
  have hl : lv_has ls 3 [(0, .long p0)] := hl
  obtain ⟨Z, hZ⟩ : ∃ z, z = MQ below (pm_QL (s_X3_distanceToNext p0)) ([.long p0] : List Value).toArray s 0 0 pv_N := ⟨_, rfl⟩
  rw [← hZ]
  obtain ⟨Y, hY⟩ : ∃ y, y = s_X3_distanceToNext p0 := ⟨_, rfl⟩
  refine va_gets hx hb hF.1 hS hown (hts _ (List.mem_of_getElem? (i := 1) rfl)) (fun _ h9 => h9) dX3_distanceToNext_0 ?_
  refine lv_lload_n hx hb dX3_distanceToNext_3 rfl (lv_at hl 0 rfl) ?_
  refine pm_callI (va_runV (As := [.long p0]) (rest := []) ⟨hx, hb, hml, hown, hts⟩ (pm_X0_isInfinite l 52 (-1074) 9218868437227405312 (-9223372036854775808) dD p0) (cwV 1 hts gX3_distanceToNext_X0_isInfinite rfl rfl rfl hdv_X0_isInfinite ⟨Nat.le_of_ble_eq_true rfl, Nat.le_of_ble_eq_true rfl⟩) ⟨KQ.fb, va_Orecv hF.2.2.1.1 hS, fun U hU hW => ⟨rfl, (KQ.call hF.2.2.1 hS U hU hW)⟩⟩ rfl rfl hl.1 rfl (lv_room (Nat.le_of_ble_eq_true rfl)) dX3_distanceToNext_4 ⟨Nat.le_refl 0, Nat.le_refl 0⟩) hS (fun H locs _ _ hS => ?_)
  refine lv_if_eq (tgt := 17) hx hb dX3_distanceToNext_7 (by decide) (fun c_7 => ?_) (fun c_7 => ?_)
  ·
    refine va_gets hx hb hF.1 hS hown (hts _ (List.mem_of_getElem? (i := 1) rfl)) (fun _ h9 => h9) dX3_distanceToNext_17 ?_
    refine lv_lload_n hx hb dX3_distanceToNext_20 rfl (lv_at hl 0 rfl) ?_
    refine pm_callI (va_runV (As := [.long p0]) (rest := []) ⟨hx, hb, hml, hown, hts⟩ (pm_X0_exponent l 52 (-1074) 9218868437227405312 (-9223372036854775808) dD p0) (cwV 1 hts gX3_distanceToNext_X0_exponent rfl rfl rfl hdv_X0_exponent ⟨Nat.le_of_ble_eq_true rfl, Nat.le_of_ble_eq_true rfl⟩) ⟨KQ.fb, va_Orecv hF.2.2.1.1 hS, fun U hU hW => ⟨rfl, (KQ.call hF.2.2.1 hS U hU hW)⟩⟩ rfl rfl hl.1 rfl (lv_room (Nat.le_of_ble_eq_true rfl)) dX3_distanceToNext_21 ⟨Nat.le_refl 0, Nat.le_refl 0⟩) hS (fun H locs _ _ hS => ?_)
    refine va_gets hx hb hF.1 hS hown (hts _ (List.mem_of_getElem? (i := 1) rfl)) (fun _ h9 => h9) dX3_distanceToNext_24 ?_
    refine vk_getf hx hb hF.2.2.1.2.2.1 hS hown (hts _ (List.mem_of_getElem? (i := 3) rfl)) (fun _ h9 => h9) dX3_distanceToNext_27 ?_
    refine va_mmax hx hb (hml.trans hl.1.symm) hown (hts _ (List.mem_of_getElem? (i := 4) rfl)) (hts _ (List.mem_of_getElem? (i := 5) rfl)) (hts _ (List.mem_of_getElem? (i := 6) rfl)) (hts _ (List.mem_of_getElem? (i := 7) rfl)) (Nat.le_of_ble_eq_true rfl) (Nat.le_of_ble_eq_true rfl) (Nat.le_refl 0) (Nat.le_refl 0) dX3_distanceToNext_30 ?_
    refine lv_topi (fun x_33 ex_33 => ?_)
    refine lv_istore_n (lv' := [(2, .int x_33), (0, .long p0)]) hx hb dX3_distanceToNext_33 rfl hl (by decide) rfl (fun ls hl => ?_)
    refine va_gets hx hb hF.1 hS hown (hts _ (List.mem_of_getElem? (i := 1) rfl)) (fun _ h9 => h9) dX3_distanceToNext_34 ?_
    refine lv_iconst (v := 0) hx hb dX3_distanceToNext_37 (by decide) ?_
    refine lv_iload_n hx hb dX3_distanceToNext_38 rfl (lv_at hl 0 rfl) ?_
    refine lv_lconst (v := 1) hx hb dX3_distanceToNext_39 (by decide) ?_
    refine pm_callL (va_runV (As := [.int 0, .int x_33, .long 1]) (rest := []) ⟨hx, hb, hml, hown, hts⟩ (pm_X0_pack l 52 (-1074) 9218868437227405312 (-9223372036854775808) dD 0 x_33 1) (cwV 3 hts gX3_distanceToNext_X0_pack rfl rfl rfl hdv_X0_pack ⟨Nat.le_of_ble_eq_true rfl, Nat.le_of_ble_eq_true rfl⟩) ⟨KQ.fb, va_Orecv hF.2.2.1.1 hS, fun U hU hW => ⟨rfl, (KQ.call hF.2.2.1 hS U hU hW)⟩⟩ rfl rfl hl.1 rfl (lv_room (Nat.le_of_ble_eq_true rfl)) dX3_distanceToNext_40 ⟨Nat.le_refl 0, Nat.le_refl 0⟩) hS (fun H locs _ _ hS => ?_)
    rw [hZ]
    exact pm_lret (w := s_X3_distanceToNext p0) hx hb hr hlocks hS (by subst ex_33; exact ((if_pos c_7)).symm) dX3_distanceToNext_43
  ·
    refine va_gets hx hb hF.1 hS hown (hts _ (List.mem_of_getElem? (i := 1) rfl)) (fun _ h9 => h9) dX3_distanceToNext_10 ?_
    refine vk_getf hx hb hF.2.2.1.2.2.2.1 hS hown (hts _ (List.mem_of_getElem? (i := 2) rfl)) (fun _ h9 => h9) dX3_distanceToNext_13 ?_
    rw [hZ]
    exact pm_lret (w := s_X3_distanceToNext p0) hx hb hr hlocks hS (by exact ((if_neg c_7)).symm) dX3_distanceToNext_16
theorem hd_X3_nextUp : yX3_nextUp.cls ≠ "java/lang/invoke/MethodHandle" ∧ yX3_nextUp.cls ≠ "java/lang/invoke/VarHandle" ∧ (parseMethodDescriptor yX3_nextUp.desc).map (fun d => d.parameters.length) = some 1 := by decide +kernel
def s_X3_nextUp (p0 : Int64) : Int64 :=
  if (s_X0_isZero 52 (-1074) 9218868437227405312 (-9223372036854775808) p0) = 0 then if 0 ≤ p0 then if (s_X0_isInfinite 52 (-1074) 9218868437227405312 (-9223372036854775808) p0) = 0 then p0 + 1
  else p0
  else p0 - 1
  else 1
set_option maxHeartbeats 4000000 in
set_option maxRecDepth 100000 in
theorem pm_X3_nextUp (l : Launch) (dD dF : Nat) (p0 : Int64) : PmL l yX3_nextUp wsX3_nextUp 2 44 [.long p0] (fun U => KF dD dF pv_N U U.heap) (s_X3_nextUp p0) := by
  refine Met.ofW (cc := cX3_nextUp) (maxL := 2) (ret := (some .long)) (by decide) rfl ?_
  intro p e s m args below meth c s₁ B hml hv
  obtain ⟨rfl, hF⟩ := hv
  have hx := B.exec
  have hb := B.bytes
  have hr := B.returns
  have hts := atoms_spec (ws := wsX3_nextUp) B.pre
  have hown : s.vm.findClass RX3 = some m.cls := findClass_of_methodNamed B.named
  have hlocks := B.notSynchronized
  have hS : va_S pv_N s.heap s.heap [] := va_S.rf
  have hl := lv_entry ([.long p0]) (n := 2) (Nat.le_of_ble_eq_true rfl)
  rw [lg_entry_eq]
  generalize (lg_sl ([.long p0]) ++ List.replicate (2 - (lg_sl ([.long p0])).length) Slot.unset).toArray = ls at hl ⊢
  have hl : lv_has ls 2 [(0, .long p0)] := hl
  obtain ⟨Z, hZ⟩ : ∃ z, z = MQ below (pm_QL (s_X3_nextUp p0)) ([.long p0] : List Value).toArray s 0 0 pv_N := ⟨_, rfl⟩
  rw [← hZ]
  obtain ⟨Y, hY⟩ : ∃ y, y = s_X3_nextUp p0 := ⟨_, rfl⟩
  refine va_gets hx hb hF.1 hS hown (hts _ (List.mem_of_getElem? (i := 1) rfl)) (fun _ h9 => h9) dX3_nextUp_0 ?_
  refine lv_lload_n hx hb dX3_nextUp_3 rfl (lv_at hl 0 rfl) ?_
  refine pm_callI (va_runV (As := [.long p0]) (rest := []) ⟨hx, hb, hml, hown, hts⟩ (pm_X0_isZero l 52 (-1074) 9218868437227405312 (-9223372036854775808) dD p0) (cwV 1 hts gX3_nextUp_X0_isZero rfl rfl rfl hdv_X0_isZero ⟨Nat.le_of_ble_eq_true rfl, Nat.le_of_ble_eq_true rfl⟩) ⟨KQ.fb, va_Orecv hF.2.2.1.1 hS, fun U hU hW => ⟨rfl, (KQ.call hF.2.2.1 hS U hU hW)⟩⟩ rfl rfl hl.1 rfl (lv_room (Nat.le_of_ble_eq_true rfl)) dX3_nextUp_4 ⟨Nat.le_refl 0, Nat.le_refl 0⟩) hS (fun H locs _ _ hS => ?_)
  refine lv_if_eq (tgt := 12) hx hb dX3_nextUp_7 (by decide) (fun c_7 => ?_) (fun c_7 => ?_)
  ·
    refine lv_lload_n hx hb dX3_nextUp_12 rfl (lv_at hl 0 rfl) ?_
    refine lv_lconst (v := 0) hx hb dX3_nextUp_13 (by decide) ?_
    refine lp_ge (tgt := 22) hx hb dX3_nextUp_14 dX3_nextUp_15 (by decide) (fun c_14 => ?_) (fun c_14 => ?_)
    ·
      refine va_gets hx hb hF.1 hS hown (hts _ (List.mem_of_getElem? (i := 1) rfl)) (fun _ h9 => h9) dX3_nextUp_22 ?_
      refine lv_lload_n hx hb dX3_nextUp_25 rfl (lv_at hl 0 rfl) ?_
      refine pm_callI (va_runV (As := [.long p0]) (rest := []) ⟨hx, hb, hml, hown, hts⟩ (pm_X0_isInfinite l 52 (-1074) 9218868437227405312 (-9223372036854775808) dD p0) (cwV 1 hts gX3_nextUp_X0_isInfinite rfl rfl rfl hdv_X0_isInfinite ⟨Nat.le_of_ble_eq_true rfl, Nat.le_of_ble_eq_true rfl⟩) ⟨KQ.fb, va_Orecv hF.2.2.1.1 hS, fun U hU hW => ⟨rfl, (KQ.call hF.2.2.1 hS U hU hW)⟩⟩ rfl rfl hl.1 rfl (lv_room (Nat.le_of_ble_eq_true rfl)) dX3_nextUp_26 ⟨Nat.le_refl 0, Nat.le_refl 0⟩) hS (fun H locs _ _ hS => ?_)
      refine lv_if_eq (tgt := 36) hx hb dX3_nextUp_29 (by decide) (fun c_29 => ?_) (fun c_29 => ?_)
      ·
        refine lv_lload_n hx hb dX3_nextUp_36 rfl (lv_at hl 0 rfl) ?_
        refine lv_lconst (v := 1) hx hb dX3_nextUp_37 (by decide) ?_
        refine lv_ladd hx hb dX3_nextUp_38 ?_
        rw [hZ]
        exact pm_lret (w := s_X3_nextUp p0) hx hb hr hlocks hS (by exact ((((if_pos c_7).trans (if_pos c_14)).trans (if_pos c_29))).symm) dX3_nextUp_39
      ·
        refine lv_lload_n hx hb dX3_nextUp_32 rfl (lv_at hl 0 rfl) ?_
        refine lv_goto (tgt := 39) hx hb dX3_nextUp_33 (by decide) ?_
        rw [hZ]
        exact pm_lret (w := s_X3_nextUp p0) hx hb hr hlocks hS (by exact ((((if_pos c_7).trans (if_pos c_14)).trans (if_neg c_29))).symm) dX3_nextUp_39
    ·
      refine lv_lload_n hx hb dX3_nextUp_18 rfl (lv_at hl 0 rfl) ?_
      refine lv_lconst (v := 1) hx hb dX3_nextUp_19 (by decide) ?_
      refine lv_lsub hx hb dX3_nextUp_20 ?_
      rw [hZ]
      exact pm_lret (w := s_X3_nextUp p0) hx hb hr hlocks hS (by exact (((if_pos c_7).trans (if_neg c_14))).symm) dX3_nextUp_21
  ·
    refine lv_lconst (v := 1) hx hb dX3_nextUp_10 (by decide) ?_
    rw [hZ]
    exact pm_lret (w := s_X3_nextUp p0) hx hb hr hlocks hS (by exact ((if_neg c_7)).symm) dX3_nextUp_11
theorem hd_X3_scaled : yX3_scaled.cls ≠ "java/lang/invoke/MethodHandle" ∧ yX3_scaled.cls ≠ "java/lang/invoke/VarHandle" ∧ (parseMethodDescriptor yX3_scaled.desc).map (fun d => d.parameters.length) = some 2 := by decide +kernel
def s_X3_scaled_j26 (p0 : Int64) (p1 : Int32) (z_26_0 : Int32) : Int64 :=
  s_X0_pack 52 (-1074) 9218868437227405312 (-9223372036854775808) z_26_0 ((s_X0_exponent 52 (-1074) 9218868437227405312 (-9223372036854775808) p0) + p1) (s_X0_significand 52 (-1074) 9218868437227405312 (-9223372036854775808) p0)
def s_X3_scaled (p0 : Int64) (p1 : Int32) : Int64 :=
  if (s_X0_isInfinite 52 (-1074) 9218868437227405312 (-9223372036854775808) p0) = 0 then if 0 ≤ p0 then s_X3_scaled_j26 p0 p1 0
  else s_X3_scaled_j26 p0 p1 1
  else p0
set_option maxHeartbeats 4000000 in
set_option maxRecDepth 100000 in
theorem pm_X3_scaled (l : Launch) (dD dF : Nat) (p0 : Int64) (p1 : Int32) : PmL l yX3_scaled wsX3_scaled 3 73 [.long p0, .int p1] (fun U => KF dD dF pv_N U U.heap) (s_X3_scaled p0 p1) := by
  refine Met.ofW (cc := cX3_scaled) (maxL := 3) (ret := (some .long)) (by decide) rfl ?_
  intro p e s m args below meth c s₁ B hml hv
  obtain ⟨rfl, hF⟩ := hv
  have hx := B.exec
  have hb := B.bytes
  have hr := B.returns
  have hts := atoms_spec (ws := wsX3_scaled) B.pre
  have hown : s.vm.findClass RX3 = some m.cls := findClass_of_methodNamed B.named
  have hlocks := B.notSynchronized
  have hS : va_S pv_N s.heap s.heap [] := va_S.rf
  have hl := lv_entry ([.long p0, .int p1]) (n := 3) (Nat.le_of_ble_eq_true rfl)
  rw [lg_entry_eq]
  generalize (lg_sl ([.long p0, .int p1]) ++ List.replicate (3 - (lg_sl ([.long p0, .int p1])).length) Slot.unset).toArray = ls at hl ⊢
  have hl : lv_has ls 3 [(0, .long p0), (2, .int p1)] := hl
  obtain ⟨Z, hZ⟩ : ∃ z, z = MQ below (pm_QL (s_X3_scaled p0 p1)) ([.long p0, .int p1] : List Value).toArray s 0 0 pv_N := ⟨_, rfl⟩
  rw [← hZ]
  obtain ⟨Y, hY⟩ : ∃ y, y = s_X3_scaled p0 p1 := ⟨_, rfl⟩
  refine va_gets hx hb hF.1 hS hown (hts _ (List.mem_of_getElem? (i := 1) rfl)) (fun _ h9 => h9) dX3_scaled_0 ?_
  refine lv_lload_n hx hb dX3_scaled_3 rfl (lv_at hl 0 rfl) ?_
  refine pm_callI (va_runV (As := [.long p0]) (rest := []) ⟨hx, hb, hml, hown, hts⟩ (pm_X0_isInfinite l 52 (-1074) 9218868437227405312 (-9223372036854775808) dD p0) (cwV 1 hts gX3_scaled_X0_isInfinite rfl rfl rfl hdv_X0_isInfinite ⟨Nat.le_of_ble_eq_true rfl, Nat.le_of_ble_eq_true rfl⟩) ⟨KQ.fb, va_Orecv hF.2.2.1.1 hS, fun U hU hW => ⟨rfl, (KQ.call hF.2.2.1 hS U hU hW)⟩⟩ rfl rfl hl.1 rfl (lv_room (Nat.le_of_ble_eq_true rfl)) dX3_scaled_4 ⟨Nat.le_refl 0, Nat.le_refl 0⟩) hS (fun H locs _ _ hS => ?_)
  refine lv_if_eq (tgt := 12) hx hb dX3_scaled_7 (by decide) (fun c_7 => ?_) (fun c_7 => ?_)
  ·
    refine va_gets hx hb hF.1 hS hown (hts _ (List.mem_of_getElem? (i := 1) rfl)) (fun _ h9 => h9) dX3_scaled_12 ?_
    refine lv_lload_n hx hb dX3_scaled_15 rfl (lv_at hl 0 rfl) ?_
    refine lv_lconst (v := 0) hx hb dX3_scaled_16 (by decide) ?_
    have K_26 : ∀ (z_26_0 : Int32) (H : Heap) (locs : List Loc), va_S pv_N s.heap H locs → ∀ (ls : Array Slot), lv_has ls 3 [(0, .long p0), (2, .int p1)] → s_X3_scaled p0 p1 = s_X3_scaled_j26 p0 p1 z_26_0 → W p l e (pm_R 3 73) s m ([.long p0, .int p1] : List Value).toArray below meth c H locs 0 0 Z (F0 m 26 ls [.int z_26_0, .ref dD]) := by
      intro z_26_0 H locs hS ls hl hK_26
      refine va_gets hx hb hF.1 hS hown (hts _ (List.mem_of_getElem? (i := 1) rfl)) (fun _ h9 => h9) dX3_scaled_26 ?_
      refine lv_lload_n hx hb dX3_scaled_29 rfl (lv_at hl 0 rfl) ?_
      refine pm_callI (va_runV (As := [.long p0]) (rest := [.int z_26_0, .ref dD]) ⟨hx, hb, hml, hown, hts⟩ (pm_X0_exponent l 52 (-1074) 9218868437227405312 (-9223372036854775808) dD p0) (cwV 1 hts gX3_scaled_X0_exponent rfl rfl rfl hdv_X0_exponent ⟨Nat.le_of_ble_eq_true rfl, Nat.le_of_ble_eq_true rfl⟩) ⟨KQ.fb, va_Orecv hF.2.2.1.1 hS, fun U hU hW => ⟨rfl, (KQ.call hF.2.2.1 hS U hU hW)⟩⟩ rfl rfl hl.1 rfl (lv_room (Nat.le_of_ble_eq_true rfl)) dX3_scaled_30 ⟨Nat.le_refl 0, Nat.le_refl 0⟩) hS (fun H locs _ _ hS => ?_)
      refine lv_iload_n hx hb dX3_scaled_33 rfl (lv_at hl 1 rfl) ?_
      refine lv_iadd hx hb dX3_scaled_34 ?_
      refine va_gets hx hb hF.1 hS hown (hts _ (List.mem_of_getElem? (i := 1) rfl)) (fun _ h9 => h9) dX3_scaled_35 ?_
      refine lv_lload_n hx hb dX3_scaled_38 rfl (lv_at hl 0 rfl) ?_
      refine pm_callL (va_runV (As := [.long p0]) (rest := [.int ((s_X0_exponent 52 (-1074) 9218868437227405312 (-9223372036854775808) p0) + p1), .int z_26_0, .ref dD]) ⟨hx, hb, hml, hown, hts⟩ (pm_X0_significand l 52 (-1074) 9218868437227405312 (-9223372036854775808) dD p0) (cwV 1 hts gX3_scaled_X0_significand rfl rfl rfl hdv_X0_significand ⟨Nat.le_of_ble_eq_true rfl, Nat.le_of_ble_eq_true rfl⟩) ⟨KQ.fb, va_Orecv hF.2.2.1.1 hS, fun U hU hW => ⟨rfl, (KQ.call hF.2.2.1 hS U hU hW)⟩⟩ rfl rfl hl.1 rfl (lv_room (Nat.le_of_ble_eq_true rfl)) dX3_scaled_39 ⟨Nat.le_refl 0, Nat.le_refl 0⟩) hS (fun H locs _ _ hS => ?_)
      refine pm_callL (va_runV (As := [.int z_26_0, .int ((s_X0_exponent 52 (-1074) 9218868437227405312 (-9223372036854775808) p0) + p1), .long (s_X0_significand 52 (-1074) 9218868437227405312 (-9223372036854775808) p0)]) (rest := []) ⟨hx, hb, hml, hown, hts⟩ (pm_X0_pack l 52 (-1074) 9218868437227405312 (-9223372036854775808) dD z_26_0 ((s_X0_exponent 52 (-1074) 9218868437227405312 (-9223372036854775808) p0) + p1) (s_X0_significand 52 (-1074) 9218868437227405312 (-9223372036854775808) p0)) (cwV 3 hts gX3_scaled_X0_pack rfl rfl rfl hdv_X0_pack ⟨Nat.le_of_ble_eq_true rfl, Nat.le_of_ble_eq_true rfl⟩) ⟨KQ.fb, va_Orecv hF.2.2.1.1 hS, fun U hU hW => ⟨rfl, (KQ.call hF.2.2.1 hS U hU hW)⟩⟩ rfl rfl hl.1 rfl (lv_room (Nat.le_of_ble_eq_true rfl)) dX3_scaled_42 ⟨Nat.le_refl 0, Nat.le_refl 0⟩) hS (fun H locs _ _ hS => ?_)
      rw [hZ]
      exact pm_lret (w := s_X3_scaled p0 p1) hx hb hr hlocks hS (by exact (hK_26.trans rfl).symm) dX3_scaled_45
    refine lp_ge (tgt := 25) hx hb dX3_scaled_17 dX3_scaled_18 (by decide) (fun c_17 => ?_) (fun c_17 => ?_)
    ·
      refine lv_iconst (v := 0) hx hb dX3_scaled_25 (by decide) ?_
      exact K_26 0 _ _ hS ls (lv_sub hl [0, 1] rfl) (((if_pos c_7).trans (if_pos c_17)))
    ·
      refine lv_iconst (v := 1) hx hb dX3_scaled_21 (by decide) ?_
      refine lv_goto (tgt := 26) hx hb dX3_scaled_22 (by decide) ?_
      exact K_26 1 _ _ hS ls (lv_sub hl [0, 1] rfl) (((if_pos c_7).trans (if_neg c_17)))
  ·
    refine lv_lload_n hx hb dX3_scaled_10 rfl (lv_at hl 0 rfl) ?_
    rw [hZ]
    exact pm_lret (w := s_X3_scaled p0 p1) hx hb hr hlocks hS (by exact ((if_neg c_7)).symm) dX3_scaled_11
theorem hd_X3_converted : yX3_converted.cls ≠ "java/lang/invoke/MethodHandle" ∧ yX3_converted.cls ≠ "java/lang/invoke/VarHandle" ∧ (parseMethodDescriptor yX3_converted.desc).map (fun d => d.parameters.length) = some 3 := by decide +kernel
def s_X3_converted (fb1 le1 : Int32) (inf1 sb1 : Int64) (fb2 le2 : Int32) (inf2 sb2 : Int64) (p2 : Int64) : Int64 :=
  if (s_X0_isNaN fb1 le1 inf1 sb1 p2) = 0 then if (s_X0_isInfinite fb1 le1 inf1 sb1 p2) = 0 then s_X0_pack fb2 le2 inf2 sb2 (s_X0_isNegative fb1 le1 inf1 sb1 p2) (s_X0_exponent fb1 le1 inf1 sb1 p2) (s_X0_significand fb1 le1 inf1 sb1 p2)
  else if (s_X0_isNegative fb1 le1 inf1 sb1 p2) = 0 then inf2
  else sb2 ||| inf2
  else s_X0_plainNaN fb2 le2 inf2 sb2
set_option maxHeartbeats 4000000 in
set_option maxRecDepth 100000 in
theorem pm_X3_converted (l : Launch) (fb1 le1 : Int32) (inf1 sb1 : Int64) (q1 : Nat) (fb2 le2 : Int32) (inf2 sb2 : Int64) (q2 : Nat) (p2 : Int64) : PmL l yX3_converted wsX3_converted 3 73 [.ref q1, .ref q2, .long p2] (fun U => KQ fb1 le1 inf1 sb1 q1 pv_N U U.heap ∧ KQ fb2 le2 inf2 sb2 q2 pv_N U U.heap) (s_X3_converted fb1 le1 inf1 sb1 fb2 le2 inf2 sb2 p2) := by
  refine Met.ofW (cc := cX3_converted) (maxL := 5) (ret := (some .long)) (by decide) rfl ?_
  intro p e s m args below meth c s₁ B hml hv
  obtain ⟨rfl, hq1, hq2⟩ := hv
  have hx := B.exec
  have hb := B.bytes
  have hr := B.returns
  have hts := atoms_spec (ws := wsX3_converted) B.pre
  have hown : s.vm.findClass RX3 = some m.cls := findClass_of_methodNamed B.named
  have hlocks := B.notSynchronized
  have hS : va_S pv_N s.heap s.heap [] := va_S.rf
  have hl := lv_entry ([.ref q1, .ref q2, .long p2]) (n := 5) (Nat.le_of_ble_eq_true rfl)
  rw [lg_entry_eq]
  generalize (lg_sl ([.ref q1, .ref q2, .long p2]) ++ List.replicate (5 - (lg_sl ([.ref q1, .ref q2, .long p2])).length) Slot.unset).toArray = ls at hl ⊢
  have hl : lv_has ls 5 [(0, .ref q1), (1, .ref q2), (2, .long p2)] := hl
  obtain ⟨Z, hZ⟩ : ∃ z, z = MQ below (pm_QL (s_X3_converted fb1 le1 inf1 sb1 fb2 le2 inf2 sb2 p2)) ([.ref q1, .ref q2, .long p2] : List Value).toArray s 0 0 pv_N := ⟨_, rfl⟩
  rw [← hZ]
  obtain ⟨Y, hY⟩ : ∃ y, y = s_X3_converted fb1 le1 inf1 sb1 fb2 le2 inf2 sb2 p2 := ⟨_, rfl⟩
  refine lv_aload_n hx hb dX3_converted_0 rfl (lv_at hl 0 rfl) ?_
  refine lv_lload_n hx hb dX3_converted_1 rfl (lv_at hl 2 rfl) ?_
  refine pm_callI (va_runV (As := [.long p2]) (rest := []) ⟨hx, hb, hml, hown, hts⟩ (pm_X0_isNaN l fb1 le1 inf1 sb1 q1 p2) (cwV 1 hts gX3_converted_X0_isNaN rfl rfl rfl hdv_X0_isNaN ⟨Nat.le_of_ble_eq_true rfl, Nat.le_of_ble_eq_true rfl⟩) ⟨KQ.fb, va_Orecv hq1.1 hS, fun U hU hW => ⟨rfl, (KQ.call hq1 hS U hU hW)⟩⟩ rfl rfl hl.1 rfl (lv_room (Nat.le_of_ble_eq_true rfl)) dX3_converted_2 ⟨Nat.le_refl 0, Nat.le_refl 0⟩) hS (fun H locs _ _ hS => ?_)
  refine lv_if_eq (tgt := 13) hx hb dX3_converted_5 (by decide) (fun c_5 => ?_) (fun c_5 => ?_)
  ·
    refine lv_aload_n hx hb dX3_converted_13 rfl (lv_at hl 0 rfl) ?_
    refine lv_lload_n hx hb dX3_converted_14 rfl (lv_at hl 2 rfl) ?_
    refine pm_callI (va_runV (As := [.long p2]) (rest := []) ⟨hx, hb, hml, hown, hts⟩ (pm_X0_isNegative l fb1 le1 inf1 sb1 q1 p2) (cwV 1 hts gX3_converted_X0_isNegative rfl rfl rfl hdv_X0_isNegative ⟨Nat.le_of_ble_eq_true rfl, Nat.le_of_ble_eq_true rfl⟩) ⟨KQ.fb, va_Orecv hq1.1 hS, fun U hU hW => ⟨rfl, (KQ.call hq1 hS U hU hW)⟩⟩ rfl rfl hl.1 rfl (lv_room (Nat.le_of_ble_eq_true rfl)) dX3_converted_15 ⟨Nat.le_refl 0, Nat.le_refl 0⟩) hS (fun H locs _ _ hS => ?_)
    refine lv_topi (fun x_18 ex_18 => ?_)
    refine lv_istore (lv' := [(4, .int x_18), (0, .ref q1), (1, .ref q2), (2, .long p2)]) hx hb dX3_converted_18 hl (by decide) rfl (fun ls hl => ?_)
    refine lv_aload_n hx hb dX3_converted_20 rfl (lv_at hl 1 rfl) ?_
    refine lv_lload_n hx hb dX3_converted_21 rfl (lv_at hl 3 rfl) ?_
    refine pm_callI (va_runV (As := [.long p2]) (rest := []) ⟨hx, hb, hml, hown, hts⟩ (pm_X0_isInfinite l fb1 le1 inf1 sb1 q1 p2) (cwV 1 hts gX3_converted_X0_isInfinite rfl rfl rfl hdv_X0_isInfinite ⟨Nat.le_of_ble_eq_true rfl, Nat.le_of_ble_eq_true rfl⟩) ⟨KQ.fb, va_Orecv hq1.1 hS, fun U hU hW => ⟨rfl, (KQ.call hq1 hS U hU hW)⟩⟩ rfl rfl hl.1 rfl (lv_room (Nat.le_of_ble_eq_true rfl)) dX3_converted_22 ⟨Nat.le_refl 0, Nat.le_refl 0⟩) hS (fun H locs _ _ hS => ?_)
    refine lv_if_eq (tgt := 50) hx hb dX3_converted_25 (by decide) (fun c_25 => ?_) (fun c_25 => ?_)
    ·
      refine lv_aload_n hx hb dX3_converted_50 rfl (lv_at hl 2 rfl) ?_
      refine lv_iload hx hb dX3_converted_51 (lv_at hl 0 rfl) ?_
      refine lv_aload_n hx hb dX3_converted_53 rfl (lv_at hl 1 rfl) ?_
      refine lv_lload_n hx hb dX3_converted_54 rfl (lv_at hl 3 rfl) ?_
      refine pm_callI (va_runV (As := [.long p2]) (rest := [.int x_18, .ref q2]) ⟨hx, hb, hml, hown, hts⟩ (pm_X0_exponent l fb1 le1 inf1 sb1 q1 p2) (cwV 1 hts gX3_converted_X0_exponent rfl rfl rfl hdv_X0_exponent ⟨Nat.le_of_ble_eq_true rfl, Nat.le_of_ble_eq_true rfl⟩) ⟨KQ.fb, va_Orecv hq1.1 hS, fun U hU hW => ⟨rfl, (KQ.call hq1 hS U hU hW)⟩⟩ rfl rfl hl.1 rfl (lv_room (Nat.le_of_ble_eq_true rfl)) dX3_converted_55 ⟨Nat.le_refl 0, Nat.le_refl 0⟩) hS (fun H locs _ _ hS => ?_)
      refine lv_aload_n hx hb dX3_converted_58 rfl (lv_at hl 1 rfl) ?_
      refine lv_lload_n hx hb dX3_converted_59 rfl (lv_at hl 3 rfl) ?_
      refine pm_callL (va_runV (As := [.long p2]) (rest := [.int (s_X0_exponent fb1 le1 inf1 sb1 p2), .int x_18, .ref q2]) ⟨hx, hb, hml, hown, hts⟩ (pm_X0_significand l fb1 le1 inf1 sb1 q1 p2) (cwV 1 hts gX3_converted_X0_significand rfl rfl rfl hdv_X0_significand ⟨Nat.le_of_ble_eq_true rfl, Nat.le_of_ble_eq_true rfl⟩) ⟨KQ.fb, va_Orecv hq1.1 hS, fun U hU hW => ⟨rfl, (KQ.call hq1 hS U hU hW)⟩⟩ rfl rfl hl.1 rfl (lv_room (Nat.le_of_ble_eq_true rfl)) dX3_converted_60 ⟨Nat.le_refl 0, Nat.le_refl 0⟩) hS (fun H locs _ _ hS => ?_)
      refine pm_callL (va_runV (As := [.int x_18, .int (s_X0_exponent fb1 le1 inf1 sb1 p2), .long (s_X0_significand fb1 le1 inf1 sb1 p2)]) (rest := []) ⟨hx, hb, hml, hown, hts⟩ (pm_X0_pack l fb2 le2 inf2 sb2 q2 x_18 (s_X0_exponent fb1 le1 inf1 sb1 p2) (s_X0_significand fb1 le1 inf1 sb1 p2)) (cwV 3 hts gX3_converted_X0_pack rfl rfl rfl hdv_X0_pack ⟨Nat.le_of_ble_eq_true rfl, Nat.le_of_ble_eq_true rfl⟩) ⟨KQ.fb, va_Orecv hq2.1 hS, fun U hU hW => ⟨rfl, (KQ.call hq2 hS U hU hW)⟩⟩ rfl rfl hl.1 rfl (lv_room (Nat.le_of_ble_eq_true rfl)) dX3_converted_63 ⟨Nat.le_refl 0, Nat.le_refl 0⟩) hS (fun H locs _ _ hS => ?_)
      rw [hZ]
      exact pm_lret (w := s_X3_converted fb1 le1 inf1 sb1 fb2 le2 inf2 sb2 p2) hx hb hr hlocks hS (by subst ex_18; exact (((if_pos c_5).trans (if_pos c_25))).symm) dX3_converted_66
    ·
      refine lv_iload hx hb dX3_converted_28 (lv_at hl 0 rfl) ?_
      refine lv_if_eq (tgt := 45) hx hb dX3_converted_30 (by decide) (fun c_30 => ?_) (fun c_30 => ?_)
      ·
        refine lv_aload_n hx hb dX3_converted_45 rfl (lv_at hl 2 rfl) ?_
        refine vk_getf hx hb hq2.2.2.2.1 hS hown (hts _ (List.mem_of_getElem? (i := 2) rfl)) (fun _ h9 => h9) dX3_converted_46 ?_
        rw [hZ]
        exact pm_lret (w := s_X3_converted fb1 le1 inf1 sb1 fb2 le2 inf2 sb2 p2) hx hb hr hlocks hS (by subst ex_18; exact ((((if_pos c_5).trans (if_neg c_25)).trans (if_pos c_30))).symm) dX3_converted_49
      ·
        refine lv_aload_n hx hb dX3_converted_33 rfl (lv_at hl 2 rfl) ?_
        refine vk_getf hx hb hq2.2.2.2.2 hS hown (hts _ (List.mem_of_getElem? (i := 1) rfl)) (fun _ h9 => h9) dX3_converted_34 ?_
        refine lv_aload_n hx hb dX3_converted_37 rfl (lv_at hl 2 rfl) ?_
        refine vk_getf hx hb hq2.2.2.2.1 hS hown (hts _ (List.mem_of_getElem? (i := 2) rfl)) (fun _ h9 => h9) dX3_converted_38 ?_
        refine lv_lor hx hb dX3_converted_41 ?_
        refine lv_goto (tgt := 49) hx hb dX3_converted_42 (by decide) ?_
        rw [hZ]
        exact pm_lret (w := s_X3_converted fb1 le1 inf1 sb1 fb2 le2 inf2 sb2 p2) hx hb hr hlocks hS (by subst ex_18; exact ((((if_pos c_5).trans (if_neg c_25)).trans (if_neg c_30))).symm) dX3_converted_49
  ·
    refine lv_aload_n hx hb dX3_converted_8 rfl (lv_at hl 1 rfl) ?_
    refine pm_callL (va_runV (As := []) (rest := []) ⟨hx, hb, hml, hown, hts⟩ (pm_X0_plainNaN l fb2 le2 inf2 sb2 q2) (cwV 0 hts gX3_converted_X0_plainNaN rfl rfl rfl hdv_X0_plainNaN ⟨Nat.le_of_ble_eq_true rfl, Nat.le_of_ble_eq_true rfl⟩) ⟨KQ.fb, va_Orecv hq2.1 hS, fun U hU hW => ⟨rfl, (KQ.call hq2 hS U hU hW)⟩⟩ rfl rfl hl.1 rfl (lv_room (Nat.le_of_ble_eq_true rfl)) dX3_converted_9 ⟨Nat.le_refl 0, Nat.le_refl 0⟩) hS (fun H locs _ _ hS => ?_)
    rw [hZ]
    exact pm_lret (w := s_X3_converted fb1 le1 inf1 sb1 fb2 le2 inf2 sb2 p2) hx hb hr hlocks hS (by exact ((if_neg c_5)).symm) dX3_converted_12
theorem hd_X3_fromLong : yX3_fromLong.cls ≠ "java/lang/invoke/MethodHandle" ∧ yX3_fromLong.cls ≠ "java/lang/invoke/VarHandle" ∧ (parseMethodDescriptor yX3_fromLong.desc).map (fun d => d.parameters.length) = some 2 := by decide +kernel
def s_X3_fromLong_j30 (fb1 le1 : Int32) (inf1 sb1 : Int64) (p1 : Int64) (z_30_0 : Int32) : Int64 :=
  s_X0_pack fb1 le1 inf1 sb1 z_30_0 0 (if 0 < p1 then p1 else -p1)
def s_X3_fromLong (fb1 le1 : Int32) (inf1 sb1 : Int64) (p1 : Int64) : Int64 :=
  if p1 = (-9223372036854775808) then s_X0_pack fb1 le1 inf1 sb1 1 1 (4611686018427387904)
  else if 0 ≤ p1 then s_X3_fromLong_j30 fb1 le1 inf1 sb1 p1 0
  else s_X3_fromLong_j30 fb1 le1 inf1 sb1 p1 1
set_option maxHeartbeats 4000000 in
set_option maxRecDepth 100000 in
theorem pm_X3_fromLong (l : Launch) (fb1 le1 : Int32) (inf1 sb1 : Int64) (q1 : Nat) (p1 : Int64) : PmL l yX3_fromLong wsX3_fromLong 2 58 [.ref q1, .long p1] (fun U => KQ fb1 le1 inf1 sb1 q1 pv_N U U.heap) (s_X3_fromLong fb1 le1 inf1 sb1 p1) := by
  refine Met.ofW (cc := cX3_fromLong) (maxL := 3) (ret := (some .long)) (by decide) rfl ?_
  intro p e s m args below meth c s₁ B hml hv
  obtain ⟨rfl, hq1⟩ := hv
  have hx := B.exec
  have hb := B.bytes
  have hr := B.returns
  have hts := atoms_spec (ws := wsX3_fromLong) B.pre
  have hown : s.vm.findClass RX3 = some m.cls := findClass_of_methodNamed B.named
  have hlocks := B.notSynchronized
  have hS : va_S pv_N s.heap s.heap [] := va_S.rf
  have hl := lv_entry ([.ref q1, .long p1]) (n := 3) (Nat.le_of_ble_eq_true rfl)
  rw [lg_entry_eq]
  generalize (lg_sl ([.ref q1, .long p1]) ++ List.replicate (3 - (lg_sl ([.ref q1, .long p1])).length) Slot.unset).toArray = ls at hl ⊢
  have hl : lv_has ls 3 [(0, .ref q1), (1, .long p1)] := hl
  obtain ⟨Z, hZ⟩ : ∃ z, z = MQ below (pm_QL (s_X3_fromLong fb1 le1 inf1 sb1 p1)) ([.ref q1, .long p1] : List Value).toArray s 0 0 pv_N := ⟨_, rfl⟩
  rw [← hZ]
  obtain ⟨Y, hY⟩ : ∃ y, y = s_X3_fromLong fb1 le1 inf1 sb1 p1 := ⟨_, rfl⟩
  refine lv_lload_n hx hb dX3_fromLong_0 rfl (lv_at hl 1 rfl) ?_
  refine lv_ldc2 (v := (-9223372036854775808)) hx hb hown (hts _ (List.mem_of_getElem? (i := 1) rfl)) dX3_fromLong_1 ?_
  refine lp_ne (tgt := 18) hx hb dX3_fromLong_4 dX3_fromLong_5 (by decide) (fun c_4 => ?_) (fun c_4 => ?_)
  ·
    refine lv_aload_n hx hb dX3_fromLong_18 rfl (lv_at hl 0 rfl) ?_
    refine lv_lload_n hx hb dX3_fromLong_19 rfl (lv_at hl 1 rfl) ?_
    refine lv_lconst (v := 0) hx hb dX3_fromLong_20 (by decide) ?_
    have K_30 : ∀ (z_30_0 : Int32) (H : Heap) (locs : List Loc), va_S pv_N s.heap H locs → ∀ (ls : Array Slot), lv_has ls 3 [(1, .long p1)] → s_X3_fromLong fb1 le1 inf1 sb1 p1 = s_X3_fromLong_j30 fb1 le1 inf1 sb1 p1 z_30_0 → W p l e (pm_R 2 58) s m ([.ref q1, .long p1] : List Value).toArray below meth c H locs 0 0 Z (F0 m 30 ls [.int z_30_0, .ref q1]) := by
      intro z_30_0 H locs hS ls hl hK_30
      refine lv_iconst (v := 0) hx hb dX3_fromLong_30 (by decide) ?_
      refine lv_lload_n hx hb dX3_fromLong_31 rfl (lv_at hl 0 rfl) ?_
      refine va_mabs_long hx hb (hml.trans hl.1.symm) hown (hts _ (List.mem_of_getElem? (i := 3) rfl)) (hts _ (List.mem_of_getElem? (i := 4) rfl)) (hts _ (List.mem_of_getElem? (i := 5) rfl)) (hts _ (List.mem_of_getElem? (i := 6) rfl)) (Nat.le_of_ble_eq_true rfl) (Nat.le_of_ble_eq_true rfl) (Nat.le_refl 0) (Nat.le_refl 0) dX3_fromLong_32 ?_
      refine pm_callL (va_runV (As := [.int z_30_0, .int 0, .long (if 0 < p1 then p1 else -p1)]) (rest := []) ⟨hx, hb, hml, hown, hts⟩ (pm_X0_pack l fb1 le1 inf1 sb1 q1 z_30_0 0 (if 0 < p1 then p1 else -p1)) (cwV 3 hts gX3_fromLong_X0_pack rfl rfl rfl hdv_X0_pack ⟨Nat.le_of_ble_eq_true rfl, Nat.le_of_ble_eq_true rfl⟩) ⟨KQ.fb, va_Orecv hq1.1 hS, fun U hU hW => ⟨rfl, (KQ.call hq1 hS U hU hW)⟩⟩ rfl rfl hl.1 rfl (lv_room (Nat.le_of_ble_eq_true rfl)) dX3_fromLong_35 ⟨Nat.le_refl 0, Nat.le_refl 0⟩) hS (fun H locs _ _ hS => ?_)
      rw [hZ]
      exact pm_lret (w := s_X3_fromLong fb1 le1 inf1 sb1 p1) hx hb hr hlocks hS (by exact (hK_30.trans rfl).symm) dX3_fromLong_38
    refine lp_ge (tgt := 29) hx hb dX3_fromLong_21 dX3_fromLong_22 (by decide) (fun c_21 => ?_) (fun c_21 => ?_)
    ·
      refine lv_iconst (v := 0) hx hb dX3_fromLong_29 (by decide) ?_
      exact K_30 0 _ _ hS ls (lv_sub hl [1] rfl) (((if_neg c_4).trans (if_pos c_21)))
    ·
      refine lv_iconst (v := 1) hx hb dX3_fromLong_25 (by decide) ?_
      refine lv_goto (tgt := 30) hx hb dX3_fromLong_26 (by decide) ?_
      exact K_30 1 _ _ hS ls (lv_sub hl [1] rfl) (((if_neg c_4).trans (if_neg c_21)))
  ·
    refine lv_aload_n hx hb dX3_fromLong_8 rfl (lv_at hl 0 rfl) ?_
    refine lv_iconst (v := 1) hx hb dX3_fromLong_9 (by decide) ?_
    refine lv_iconst (v := 1) hx hb dX3_fromLong_10 (by decide) ?_
    refine lv_ldc2 (v := (4611686018427387904)) hx hb hown (hts _ (List.mem_of_getElem? (i := 2) rfl)) dX3_fromLong_11 ?_
    refine pm_callL (va_runV (As := [.int 1, .int 1, .long (4611686018427387904)]) (rest := []) ⟨hx, hb, hml, hown, hts⟩ (pm_X0_pack l fb1 le1 inf1 sb1 q1 1 1 (4611686018427387904)) (cwV 3 hts gX3_fromLong_X0_pack rfl rfl rfl hdv_X0_pack ⟨Nat.le_of_ble_eq_true rfl, Nat.le_of_ble_eq_true rfl⟩) ⟨KQ.fb, va_Orecv hq1.1 hS, fun U hU hW => ⟨rfl, (KQ.call hq1 hS U hU hW)⟩⟩ rfl rfl hl.1 rfl (lv_room (Nat.le_of_ble_eq_true rfl)) dX3_fromLong_14 ⟨Nat.le_refl 0, Nat.le_refl 0⟩) hS (fun H locs _ _ hS => ?_)
    rw [hZ]
    exact pm_lret (w := s_X3_fromLong fb1 le1 inf1 sb1 p1) hx hb hr hlocks hS (by exact ((if_pos c_4)).symm) dX3_fromLong_17
theorem hd_X3_toLong : yX3_toLong.cls ≠ "java/lang/invoke/MethodHandle" ∧ yX3_toLong.cls ≠ "java/lang/invoke/VarHandle" ∧ (parseMethodDescriptor yX3_toLong.desc).map (fun d => d.parameters.length) = some 1 := by decide +kernel
def s_X3_toLong_j72 (p0 : Int64) (z_72_0 : Int64) : Int64 :=
  if 0 ≤ p0 then z_72_0
  else -z_72_0
def s_X3_toLong (p0 : Int64) : Int64 :=
  if (s_X0_isNaN 52 (-1074) 9218868437227405312 (-9223372036854775808) p0) = 0 then if (s_X3_power p0) < 63 then if (s_X0_exponent 52 (-1074) 9218868437227405312 (-9223372036854775808) p0) < 0 then s_X3_toLong_j72 p0 (lUshr (s_X0_significand 52 (-1074) 9218868437227405312 (-9223372036854775808) p0) (if 63 < (-(s_X0_exponent 52 (-1074) 9218868437227405312 (-9223372036854775808) p0)) then 63 else (-(s_X0_exponent 52 (-1074) 9218868437227405312 (-9223372036854775808) p0))))
  else s_X3_toLong_j72 p0 (lShl (s_X0_significand 52 (-1074) 9218868437227405312 (-9223372036854775808) p0) (s_X0_exponent 52 (-1074) 9218868437227405312 (-9223372036854775808) p0))
  else if 0 ≤ p0 then (9223372036854775807)
  else (-9223372036854775808)
  else 0
set_option maxHeartbeats 4000000 in
set_option maxRecDepth 100000 in
theorem pm_X3_toLong (l : Launch) (dD dF : Nat) (p0 : Int64) : PmL l yX3_toLong wsX3_toLong 3 73 [.long p0] (fun U => KF dD dF pv_N U U.heap) (s_X3_toLong p0) := by
  refine Met.ofW (cc := cX3_toLong) (maxL := 7) (ret := (some .long)) (by decide) rfl ?_
  intro p e s m args below meth c s₁ B hml hv
  obtain ⟨rfl, hF⟩ := hv
  have hx := B.exec
  have hb := B.bytes
  have hr := B.returns
  have hts := atoms_spec (ws := wsX3_toLong) B.pre
  have hown : s.vm.findClass RX3 = some m.cls := findClass_of_methodNamed B.named
  have hlocks := B.notSynchronized
  have hS : va_S pv_N s.heap s.heap [] := va_S.rf
  have hl := lv_entry ([.long p0]) (n := 7) (Nat.le_of_ble_eq_true rfl)
  rw [lg_entry_eq]
  generalize (lg_sl ([.long p0]) ++ List.replicate (7 - (lg_sl ([.long p0])).length) Slot.unset).toArray = ls at hl ⊢
  have hl : lv_has ls 7 [(0, .long p0)] := hl
  obtain ⟨Z, hZ⟩ : ∃ z, z = MQ below (pm_QL (s_X3_toLong p0)) ([.long p0] : List Value).toArray s 0 0 pv_N := ⟨_, rfl⟩
  rw [← hZ]
  obtain ⟨Y, hY⟩ : ∃ y, y = s_X3_toLong p0 := ⟨_, rfl⟩
  refine va_gets hx hb hF.1 hS hown (hts _ (List.mem_of_getElem? (i := 1) rfl)) (fun _ h9 => h9) dX3_toLong_0 ?_
  refine lv_lload_n hx hb dX3_toLong_3 rfl (lv_at hl 0 rfl) ?_
  refine pm_callI (va_runV (As := [.long p0]) (rest := []) ⟨hx, hb, hml, hown, hts⟩ (pm_X0_isNaN l 52 (-1074) 9218868437227405312 (-9223372036854775808) dD p0) (cwV 1 hts gX3_toLong_X0_isNaN rfl rfl rfl hdv_X0_isNaN ⟨Nat.le_of_ble_eq_true rfl, Nat.le_of_ble_eq_true rfl⟩) ⟨KQ.fb, va_Orecv hF.2.2.1.1 hS, fun U hU hW => ⟨rfl, (KQ.call hF.2.2.1 hS U hU hW)⟩⟩ rfl rfl hl.1 rfl (lv_room (Nat.le_of_ble_eq_true rfl)) dX3_toLong_4 ⟨Nat.le_refl 0, Nat.le_refl 0⟩) hS (fun H locs _ _ hS => ?_)
  refine lv_if_eq (tgt := 12) hx hb dX3_toLong_7 (by decide) (fun c_7 => ?_) (fun c_7 => ?_)
  ·
    refine lv_lload_n hx hb dX3_toLong_12 rfl (lv_at hl 0 rfl) ?_
    refine pm_callI (va_runS (As := [.long p0]) (rest := []) ⟨hx, hb, hml, hown, hts⟩ (pm_X3_power l dD dF p0) (va_cwS 1 hts gX3_toLong_X3_power rfl rfl rfl hd_X3_power ⟨Nat.le_of_ble_eq_true rfl, Nat.le_of_ble_eq_true rfl⟩) ⟨KF.fb, fun U hU hW => ⟨rfl, (KF.call hF hS U hU hW)⟩⟩ rfl rfl hl.1 rfl (lv_room (Nat.le_of_ble_eq_true rfl)) dX3_toLong_13 ⟨Nat.le_refl 0, Nat.le_refl 0⟩) hS (fun H locs _ _ hS => ?_)
    refine lv_bipush (v := 63) hx hb dX3_toLong_16 (by decide) ?_
    refine lv_icmp_lt (tgt := 37) hx hb dX3_toLong_18 (by decide) (fun c_18 => ?_) (fun c_18 => ?_)
    ·
      refine va_gets hx hb hF.1 hS hown (hts _ (List.mem_of_getElem? (i := 1) rfl)) (fun _ h9 => h9) dX3_toLong_37 ?_
      refine lv_lload_n hx hb dX3_toLong_40 rfl (lv_at hl 0 rfl) ?_
      refine pm_callI (va_runV (As := [.long p0]) (rest := []) ⟨hx, hb, hml, hown, hts⟩ (pm_X0_exponent l 52 (-1074) 9218868437227405312 (-9223372036854775808) dD p0) (cwV 1 hts gX3_toLong_X0_exponent rfl rfl rfl hdv_X0_exponent ⟨Nat.le_of_ble_eq_true rfl, Nat.le_of_ble_eq_true rfl⟩) ⟨KQ.fb, va_Orecv hF.2.2.1.1 hS, fun U hU hW => ⟨rfl, (KQ.call hF.2.2.1 hS U hU hW)⟩⟩ rfl rfl hl.1 rfl (lv_room (Nat.le_of_ble_eq_true rfl)) dX3_toLong_41 ⟨Nat.le_refl 0, Nat.le_refl 0⟩) hS (fun H locs _ _ hS => ?_)
      refine lv_topi (fun x_44 ex_44 => ?_)
      refine lv_istore_n (lv' := [(2, .int x_44), (0, .long p0)]) hx hb dX3_toLong_44 rfl hl (by decide) rfl (fun ls hl => ?_)
      refine va_gets hx hb hF.1 hS hown (hts _ (List.mem_of_getElem? (i := 1) rfl)) (fun _ h9 => h9) dX3_toLong_45 ?_
      refine lv_lload_n hx hb dX3_toLong_48 rfl (lv_at hl 1 rfl) ?_
      refine pm_callL (va_runV (As := [.long p0]) (rest := []) ⟨hx, hb, hml, hown, hts⟩ (pm_X0_significand l 52 (-1074) 9218868437227405312 (-9223372036854775808) dD p0) (cwV 1 hts gX3_toLong_X0_significand rfl rfl rfl hdv_X0_significand ⟨Nat.le_of_ble_eq_true rfl, Nat.le_of_ble_eq_true rfl⟩) ⟨KQ.fb, va_Orecv hF.2.2.1.1 hS, fun U hU hW => ⟨rfl, (KQ.call hF.2.2.1 hS U hU hW)⟩⟩ rfl rfl hl.1 rfl (lv_room (Nat.le_of_ble_eq_true rfl)) dX3_toLong_49 ⟨Nat.le_refl 0, Nat.le_refl 0⟩) hS (fun H locs _ _ hS => ?_)
      refine lv_topl (fun x_52 ex_52 => ?_)
      refine lv_lstore_n (lv' := [(3, .long x_52), (2, .int x_44), (0, .long p0)]) hx hb dX3_toLong_52 rfl hl (by decide) rfl (fun ls hl => ?_)
      refine lv_iload_n hx hb dX3_toLong_53 rfl (lv_at hl 1 rfl) ?_
      have K_72 : ∀ (z_72_0 : Int64) (H : Heap) (locs : List Loc), va_S pv_N s.heap H locs → ∀ (ls : Array Slot), lv_has ls 7 [(0, .long p0)] → s_X3_toLong p0 = s_X3_toLong_j72 p0 z_72_0 → W p l e (pm_R 3 73) s m ([.long p0] : List Value).toArray below meth c H locs 0 0 Z (F0 m 72 ls [.long z_72_0]) := by
        intro z_72_0 H locs hS ls hl hK_72
        refine lv_lstore (lv' := [(5, .long z_72_0), (0, .long p0)]) hx hb dX3_toLong_72 hl (by decide) rfl (fun ls hl => ?_)
        refine lv_lload_n hx hb dX3_toLong_74 rfl (lv_at hl 1 rfl) ?_
        refine lv_lconst (v := 0) hx hb dX3_toLong_75 (by decide) ?_
        refine lp_ge (tgt := 86) hx hb dX3_toLong_76 dX3_toLong_77 (by decide) (fun c_76 => ?_) (fun c_76 => ?_)
        ·
          refine lv_lload hx hb dX3_toLong_86 (lv_at hl 0 rfl) ?_
          rw [hZ]
          exact pm_lret (w := s_X3_toLong p0) hx hb hr hlocks hS (by subst ex_52 ex_44; exact (hK_72.trans (if_pos c_76)).symm) dX3_toLong_88
        ·
          refine lv_lload hx hb dX3_toLong_80 (lv_at hl 0 rfl) ?_
          refine lv_lneg hx hb dX3_toLong_82 ?_
          refine lv_goto (tgt := 88) hx hb dX3_toLong_83 (by decide) ?_
          rw [hZ]
          exact pm_lret (w := s_X3_toLong p0) hx hb hr hlocks hS (by subst ex_52 ex_44; exact (hK_72.trans (if_neg c_76)).symm) dX3_toLong_88
      refine lv_if_lt (tgt := 63) hx hb dX3_toLong_54 (by decide) (fun c_54 => ?_) (fun c_54 => ?_)
      ·
        refine lv_lload_n hx hb dX3_toLong_63 rfl (lv_at hl 0 rfl) ?_
        refine lv_iload_n hx hb dX3_toLong_64 rfl (lv_at hl 1 rfl) ?_
        refine lv_ineg hx hb dX3_toLong_65 ?_
        refine lv_bipush (v := 63) hx hb dX3_toLong_66 (by decide) ?_
        refine va_mmin hx hb (hml.trans hl.1.symm) hown (hts _ (List.mem_of_getElem? (i := 4) rfl)) (hts _ (List.mem_of_getElem? (i := 5) rfl)) (hts _ (List.mem_of_getElem? (i := 6) rfl)) (hts _ (List.mem_of_getElem? (i := 7) rfl)) (Nat.le_of_ble_eq_true rfl) (Nat.le_of_ble_eq_true rfl) (Nat.le_refl 0) (Nat.le_refl 0) dX3_toLong_68 ?_
        refine lv_lushr (v := lUshr x_52 (if 63 < (-x_44) then 63 else (-x_44))) hx hb dX3_toLong_71 rfl ?_
        exact K_72 (lUshr x_52 (if 63 < (-x_44) then 63 else (-x_44))) _ _ hS ls (lv_sub hl [2] rfl) (by subst ex_52 ex_44; exact (((if_pos c_7).trans (if_pos c_18)).trans (if_pos c_54)))
      ·
        refine lv_lload_n hx hb dX3_toLong_57 rfl (lv_at hl 0 rfl) ?_
        refine lv_iload_n hx hb dX3_toLong_58 rfl (lv_at hl 1 rfl) ?_
        refine lv_lshl (v := lShl x_52 x_44) hx hb dX3_toLong_59 rfl ?_
        refine lv_goto (tgt := 72) hx hb dX3_toLong_60 (by decide) ?_
        exact K_72 (lShl x_52 x_44) _ _ hS ls (lv_sub hl [2] rfl) (by subst ex_52 ex_44; exact (((if_pos c_7).trans (if_pos c_18)).trans (if_neg c_54)))
    ·
      refine lv_lload_n hx hb dX3_toLong_21 rfl (lv_at hl 0 rfl) ?_
      refine lv_lconst (v := 0) hx hb dX3_toLong_22 (by decide) ?_
      refine lp_ge (tgt := 33) hx hb dX3_toLong_23 dX3_toLong_24 (by decide) (fun c_23 => ?_) (fun c_23 => ?_)
      ·
        refine lv_ldc2 (v := (9223372036854775807)) hx hb hown (hts _ (List.mem_of_getElem? (i := 3) rfl)) dX3_toLong_33 ?_
        rw [hZ]
        exact pm_lret (w := s_X3_toLong p0) hx hb hr hlocks hS (by exact ((((if_pos c_7).trans (if_neg c_18)).trans (if_pos c_23))).symm) dX3_toLong_36
      ·
        refine lv_ldc2 (v := (-9223372036854775808)) hx hb hown (hts _ (List.mem_of_getElem? (i := 2) rfl)) dX3_toLong_27 ?_
        refine lv_goto (tgt := 36) hx hb dX3_toLong_30 (by decide) ?_
        rw [hZ]
        exact pm_lret (w := s_X3_toLong p0) hx hb hr hlocks hS (by exact ((((if_pos c_7).trans (if_neg c_18)).trans (if_neg c_23))).symm) dX3_toLong_36
  ·
    refine lv_lconst (v := 0) hx hb dX3_toLong_10 (by decide) ?_
    rw [hZ]
    exact pm_lret (w := s_X3_toLong p0) hx hb hr hlocks hS (by exact ((if_neg c_7)).symm) dX3_toLong_11
theorem hd_X3_toInt : yX3_toInt.cls ≠ "java/lang/invoke/MethodHandle" ∧ yX3_toInt.cls ≠ "java/lang/invoke/VarHandle" ∧ (parseMethodDescriptor yX3_toInt.desc).map (fun d => d.parameters.length) = some 1 := by decide +kernel
def s_X3_toInt (p0 : Int64) : Int32 :=
  (if (-2147483648) < (if (2147483647) < (s_X3_toLong p0) then (2147483647) else (s_X3_toLong p0)) then (if (2147483647) < (s_X3_toLong p0) then (2147483647) else (s_X3_toLong p0)) else (-2147483648)).toInt32
set_option maxHeartbeats 4000000 in
set_option maxRecDepth 100000 in
theorem pm_X3_toInt (l : Launch) (dD dF : Nat) (p0 : Int64) : PmI l yX3_toInt wsX3_toInt 4 99 [.long p0] (fun U => KF dD dF pv_N U U.heap) (s_X3_toInt p0) := by
  refine Met.ofW (cc := cX3_toInt) (maxL := 2) (ret := (some .int)) (by decide) rfl ?_
  intro p e s m args below meth c s₁ B hml hv
  obtain ⟨rfl, hF⟩ := hv
  have hx := B.exec
  have hb := B.bytes
  have hr := B.returns
  have hts := atoms_spec (ws := wsX3_toInt) B.pre
  have hown : s.vm.findClass RX3 = some m.cls := findClass_of_methodNamed B.named
  have hlocks := B.notSynchronized
  have hS : va_S pv_N s.heap s.heap [] := va_S.rf
  have hl := lv_entry ([.long p0]) (n := 2) (Nat.le_of_ble_eq_true rfl)
  rw [lg_entry_eq]
  generalize (lg_sl ([.long p0]) ++ List.replicate (2 - (lg_sl ([.long p0])).length) Slot.unset).toArray = ls at hl ⊢
  have hl : lv_has ls 2 [(0, .long p0)] := hl
  obtain ⟨Z, hZ⟩ : ∃ z, z = MQ below (pm_QI (s_X3_toInt p0)) ([.long p0] : List Value).toArray s 0 0 pv_N := ⟨_, rfl⟩
  rw [← hZ]
  obtain ⟨Y, hY⟩ : ∃ y, y = s_X3_toInt p0 := ⟨_, rfl⟩
  refine lv_lload_n hx hb dX3_toInt_0 rfl (lv_at hl 0 rfl) ?_
  refine pm_callL (va_runS (As := [.long p0]) (rest := []) ⟨hx, hb, hml, hown, hts⟩ (pm_X3_toLong l dD dF p0) (va_cwS 1 hts gX3_toInt_X3_toLong rfl rfl rfl hd_X3_toLong ⟨Nat.le_of_ble_eq_true rfl, Nat.le_of_ble_eq_true rfl⟩) ⟨KF.fb, fun U hU hW => ⟨rfl, (KF.call hF hS U hU hW)⟩⟩ rfl rfl hl.1 rfl (lv_room (Nat.le_of_ble_eq_true rfl)) dX3_toInt_1 ⟨Nat.le_refl 0, Nat.le_refl 0⟩) hS (fun H locs _ _ hS => ?_)
  refine lv_ldc2 (v := (2147483647)) hx hb hown (hts _ (List.mem_of_getElem? (i := 1) rfl)) dX3_toInt_4 ?_
  refine va_mmin_long hx hb (hml.trans hl.1.symm) hown (hts _ (List.mem_of_getElem? (i := 2) rfl)) (hts _ (List.mem_of_getElem? (i := 3) rfl)) (hts _ (List.mem_of_getElem? (i := 4) rfl)) (hts _ (List.mem_of_getElem? (i := 5) rfl)) (Nat.le_of_ble_eq_true rfl) (Nat.le_of_ble_eq_true rfl) (Nat.le_refl 0) (Nat.le_refl 0) dX3_toInt_7 ?_
  refine lv_ldc2 (v := (-2147483648)) hx hb hown (hts _ (List.mem_of_getElem? (i := 6) rfl)) dX3_toInt_10 ?_
  refine va_mmax_long hx hb (hml.trans hl.1.symm) hown (hts _ (List.mem_of_getElem? (i := 7) rfl)) (hts _ (List.mem_of_getElem? (i := 8) rfl)) (hts _ (List.mem_of_getElem? (i := 4) rfl)) (hts _ (List.mem_of_getElem? (i := 9) rfl)) (Nat.le_of_ble_eq_true rfl) (Nat.le_of_ble_eq_true rfl) (Nat.le_refl 0) (Nat.le_refl 0) dX3_toInt_13 ?_
  refine lv_l2i (v := (if (-2147483648) < (if (2147483647) < (s_X3_toLong p0) then (2147483647) else (s_X3_toLong p0)) then (if (2147483647) < (s_X3_toLong p0) then (2147483647) else (s_X3_toLong p0)) else (-2147483648)).toInt32) hx hb dX3_toInt_16 rfl ?_
  rw [hZ]
  exact pm_iret (w := s_X3_toInt p0) hx hb hr hlocks hS (by exact rfl) dX3_toInt_17
theorem hd_X3_mathOfNumber : yX3_mathOfNumber.cls ≠ "java/lang/invoke/MethodHandle" ∧ yX3_mathOfNumber.cls ≠ "java/lang/invoke/VarHandle" ∧ (parseMethodDescriptor yX3_mathOfNumber.desc).map (fun d => d.parameters.length) = some 2 := by decide +kernel
def s_X3_mathOfNumber (p0 : Int32) (p1 : Int64) : Int64 :=
  if p0 = 0 then s_X3_floor p1
  else if p0 = 1 then (s_X3_floor (p1 ^^^ (-9223372036854775808))) ^^^ (-9223372036854775808)
  else if p0 = 2 then s_X3_nearestWhole p1
  else if p0 = 3 then if (s_X0_isZero 52 (-1074) 9218868437227405312 (-9223372036854775808) p1) = 0 then (p1 &&& (-9223372036854775808)) ||| (4607182418800017408)
  else p1
  else if p0 = 4 then s_X0_magnitude 52 (-1074) 9218868437227405312 (-9223372036854775808) p1
  else if p0 = 5 then s_X3_distanceToNext p1
  else if p0 = 6 then s_X3_nextUp p1
  else if p0 = 7 then s_X3_scaled p1 3
  else s_X3_scaled p1 (-3)
set_option maxHeartbeats 4000000 in
set_option maxRecDepth 100000 in
theorem pm_X3_mathOfNumber (l : Launch) (dD dF : Nat) (p0 : Int32) (p1 : Int64) : PmL l yX3_mathOfNumber wsX3_mathOfNumber 4 96 [.int p0, .long p1] (fun U => KF dD dF pv_N U U.heap) (s_X3_mathOfNumber p0 p1) := by
  refine Met.ofW (cc := cX3_mathOfNumber) (maxL := 3) (ret := (some .long)) (by decide) rfl ?_
  intro p e s m args below meth c s₁ B hml hv
  obtain ⟨rfl, hF⟩ := hv
  have hx := B.exec
  have hb := B.bytes
  have hr := B.returns
  have hts := atoms_spec (ws := wsX3_mathOfNumber) B.pre
  have hown : s.vm.findClass RX3 = some m.cls := findClass_of_methodNamed B.named
  have hlocks := B.notSynchronized
  have hS : va_S pv_N s.heap s.heap [] := va_S.rf
  have hl := lv_entry ([.int p0, .long p1]) (n := 3) (Nat.le_of_ble_eq_true rfl)
  rw [lg_entry_eq]
  generalize (lg_sl ([.int p0, .long p1]) ++ List.replicate (3 - (lg_sl ([.int p0, .long p1])).length) Slot.unset).toArray = ls at hl ⊢
  have hl : lv_has ls 3 [(0, .int p0), (1, .long p1)] := hl
  obtain ⟨Z, hZ⟩ : ∃ z, z = MQ below (pm_QL (s_X3_mathOfNumber p0 p1)) ([.int p0, .long p1] : List Value).toArray s 0 0 pv_N := ⟨_, rfl⟩
  rw [← hZ]
  obtain ⟨Y, hY⟩ : ∃ y, y = s_X3_mathOfNumber p0 p1 := ⟨_, rfl⟩
  refine lv_iload_n hx hb dX3_mathOfNumber_0 rfl (lv_at hl 0 rfl) ?_
  by_cases c_1_0 : p0 = 0
  · refine lv_tableIn (off := 47) (tgt := 48) hx hb dX3_mathOfNumber_1 (by rw [c_1_0]; decide) (by rw [c_1_0]; decide) (by rw [c_1_0]; decide) (by decide) ?_
    refine lv_lload_n hx hb dX3_mathOfNumber_48 rfl (lv_at hl 1 rfl) ?_
    refine pm_callL (va_runS (As := [.long p1]) (rest := []) ⟨hx, hb, hml, hown, hts⟩ (pm_X3_floor l dD dF p1) (va_cwS 1 hts gX3_mathOfNumber_X3_floor rfl rfl rfl hd_X3_floor ⟨Nat.le_of_ble_eq_true rfl, Nat.le_of_ble_eq_true rfl⟩) ⟨KF.fb, fun U hU hW => ⟨rfl, (KF.call hF hS U hU hW)⟩⟩ rfl rfl hl.1 rfl (lv_room (Nat.le_of_ble_eq_true rfl)) dX3_mathOfNumber_49 ⟨Nat.le_refl 0, Nat.le_refl 0⟩) hS (fun H locs _ _ hS => ?_)
    rw [hZ]
    exact pm_lret (w := s_X3_mathOfNumber p0 p1) hx hb hr hlocks hS (by exact ((if_pos c_1_0)).symm) dX3_mathOfNumber_52
  ·
    by_cases c_1_1 : p0 = 1
    · refine lv_tableIn (off := 52) (tgt := 53) hx hb dX3_mathOfNumber_1 (by rw [c_1_1]; decide) (by rw [c_1_1]; decide) (by rw [c_1_1]; decide) (by decide) ?_
      refine lv_lload_n hx hb dX3_mathOfNumber_53 rfl (lv_at hl 1 rfl) ?_
      refine lv_ldc2 (v := (-9223372036854775808)) hx hb hown (hts _ (List.mem_of_getElem? (i := 1) rfl)) dX3_mathOfNumber_54 ?_
      refine lv_lxor hx hb dX3_mathOfNumber_57 ?_
      refine pm_callL (va_runS (As := [.long (p1 ^^^ (-9223372036854775808))]) (rest := []) ⟨hx, hb, hml, hown, hts⟩ (pm_X3_floor l dD dF (p1 ^^^ (-9223372036854775808))) (va_cwS 1 hts gX3_mathOfNumber_X3_floor rfl rfl rfl hd_X3_floor ⟨Nat.le_of_ble_eq_true rfl, Nat.le_of_ble_eq_true rfl⟩) ⟨KF.fb, fun U hU hW => ⟨rfl, (KF.call hF hS U hU hW)⟩⟩ rfl rfl hl.1 rfl (lv_room (Nat.le_of_ble_eq_true rfl)) dX3_mathOfNumber_58 ⟨Nat.le_refl 0, Nat.le_refl 0⟩) hS (fun H locs _ _ hS => ?_)
      refine lv_ldc2 (v := (-9223372036854775808)) hx hb hown (hts _ (List.mem_of_getElem? (i := 1) rfl)) dX3_mathOfNumber_61 ?_
      refine lv_lxor hx hb dX3_mathOfNumber_64 ?_
      rw [hZ]
      exact pm_lret (w := s_X3_mathOfNumber p0 p1) hx hb hr hlocks hS (by exact (((if_neg c_1_0).trans (if_pos c_1_1))).symm) dX3_mathOfNumber_65
    ·
      by_cases c_1_2 : p0 = 2
      · refine lv_tableIn (off := 65) (tgt := 66) hx hb dX3_mathOfNumber_1 (by rw [c_1_2]; decide) (by rw [c_1_2]; decide) (by rw [c_1_2]; decide) (by decide) ?_
        refine lv_lload_n hx hb dX3_mathOfNumber_66 rfl (lv_at hl 1 rfl) ?_
        refine pm_callL (va_runS (As := [.long p1]) (rest := []) ⟨hx, hb, hml, hown, hts⟩ (pm_X3_nearestWhole l dD dF p1) (va_cwS 1 hts gX3_mathOfNumber_X3_nearestWhole rfl rfl rfl hd_X3_nearestWhole ⟨Nat.le_of_ble_eq_true rfl, Nat.le_of_ble_eq_true rfl⟩) ⟨KF.fb, fun U hU hW => ⟨rfl, (KF.call hF hS U hU hW)⟩⟩ rfl rfl hl.1 rfl (lv_room (Nat.le_of_ble_eq_true rfl)) dX3_mathOfNumber_67 ⟨Nat.le_refl 0, Nat.le_refl 0⟩) hS (fun H locs _ _ hS => ?_)
        rw [hZ]
        exact pm_lret (w := s_X3_mathOfNumber p0 p1) hx hb hr hlocks hS (by exact ((((if_neg c_1_0).trans (if_neg c_1_1)).trans (if_pos c_1_2))).symm) dX3_mathOfNumber_70
      ·
        by_cases c_1_3 : p0 = 3
        · refine lv_tableIn (off := 70) (tgt := 71) hx hb dX3_mathOfNumber_1 (by rw [c_1_3]; decide) (by rw [c_1_3]; decide) (by rw [c_1_3]; decide) (by decide) ?_
          refine va_gets hx hb hF.1 hS hown (hts _ (List.mem_of_getElem? (i := 2) rfl)) (fun _ h9 => h9) dX3_mathOfNumber_71 ?_
          refine lv_lload_n hx hb dX3_mathOfNumber_74 rfl (lv_at hl 1 rfl) ?_
          refine pm_callI (va_runV (As := [.long p1]) (rest := []) ⟨hx, hb, hml, hown, hts⟩ (pm_X0_isZero l 52 (-1074) 9218868437227405312 (-9223372036854775808) dD p1) (cwV 1 hts gX3_mathOfNumber_X0_isZero rfl rfl rfl hdv_X0_isZero ⟨Nat.le_of_ble_eq_true rfl, Nat.le_of_ble_eq_true rfl⟩) ⟨KQ.fb, va_Orecv hF.2.2.1.1 hS, fun U hU hW => ⟨rfl, (KQ.call hF.2.2.1 hS U hU hW)⟩⟩ rfl rfl hl.1 rfl (lv_room (Nat.le_of_ble_eq_true rfl)) dX3_mathOfNumber_75 ⟨Nat.le_refl 0, Nat.le_refl 0⟩) hS (fun H locs _ _ hS => ?_)
          refine lv_if_eq (tgt := 85) hx hb dX3_mathOfNumber_78 (by decide) (fun c_78 => ?_) (fun c_78 => ?_)
          ·
            refine lv_lload_n hx hb dX3_mathOfNumber_85 rfl (lv_at hl 1 rfl) ?_
            refine lv_ldc2 (v := (-9223372036854775808)) hx hb hown (hts _ (List.mem_of_getElem? (i := 1) rfl)) dX3_mathOfNumber_86 ?_
            refine lv_land hx hb dX3_mathOfNumber_89 ?_
            refine lv_ldc2 (v := (4607182418800017408)) hx hb hown (hts _ (List.mem_of_getElem? (i := 3) rfl)) dX3_mathOfNumber_90 ?_
            refine lv_lor hx hb dX3_mathOfNumber_93 ?_
            rw [hZ]
            exact pm_lret (w := s_X3_mathOfNumber p0 p1) hx hb hr hlocks hS (by exact ((((((if_neg c_1_0).trans (if_neg c_1_1)).trans (if_neg c_1_2)).trans (if_pos c_1_3)).trans (if_pos c_78))).symm) dX3_mathOfNumber_94
          ·
            refine lv_lload_n hx hb dX3_mathOfNumber_81 rfl (lv_at hl 1 rfl) ?_
            refine lv_goto (tgt := 94) hx hb dX3_mathOfNumber_82 (by decide) ?_
            rw [hZ]
            exact pm_lret (w := s_X3_mathOfNumber p0 p1) hx hb hr hlocks hS (by exact ((((((if_neg c_1_0).trans (if_neg c_1_1)).trans (if_neg c_1_2)).trans (if_pos c_1_3)).trans (if_neg c_78))).symm) dX3_mathOfNumber_94
        ·
          by_cases c_1_4 : p0 = 4
          · refine lv_tableIn (off := 94) (tgt := 95) hx hb dX3_mathOfNumber_1 (by rw [c_1_4]; decide) (by rw [c_1_4]; decide) (by rw [c_1_4]; decide) (by decide) ?_
            refine va_gets hx hb hF.1 hS hown (hts _ (List.mem_of_getElem? (i := 2) rfl)) (fun _ h9 => h9) dX3_mathOfNumber_95 ?_
            refine lv_lload_n hx hb dX3_mathOfNumber_98 rfl (lv_at hl 1 rfl) ?_
            refine pm_callL (va_runV (As := [.long p1]) (rest := []) ⟨hx, hb, hml, hown, hts⟩ (pm_X0_magnitude l 52 (-1074) 9218868437227405312 (-9223372036854775808) dD p1) (cwV 1 hts gX3_mathOfNumber_X0_magnitude rfl rfl rfl hdv_X0_magnitude ⟨Nat.le_of_ble_eq_true rfl, Nat.le_of_ble_eq_true rfl⟩) ⟨KQ.fb, va_Orecv hF.2.2.1.1 hS, fun U hU hW => ⟨rfl, (KQ.call hF.2.2.1 hS U hU hW)⟩⟩ rfl rfl hl.1 rfl (lv_room (Nat.le_of_ble_eq_true rfl)) dX3_mathOfNumber_99 ⟨Nat.le_refl 0, Nat.le_refl 0⟩) hS (fun H locs _ _ hS => ?_)
            rw [hZ]
            exact pm_lret (w := s_X3_mathOfNumber p0 p1) hx hb hr hlocks hS (by exact ((((((if_neg c_1_0).trans (if_neg c_1_1)).trans (if_neg c_1_2)).trans (if_neg c_1_3)).trans (if_pos c_1_4))).symm) dX3_mathOfNumber_102
          ·
            by_cases c_1_5 : p0 = 5
            · refine lv_tableIn (off := 102) (tgt := 103) hx hb dX3_mathOfNumber_1 (by rw [c_1_5]; decide) (by rw [c_1_5]; decide) (by rw [c_1_5]; decide) (by decide) ?_
              refine lv_lload_n hx hb dX3_mathOfNumber_103 rfl (lv_at hl 1 rfl) ?_
              refine pm_callL (va_runS (As := [.long p1]) (rest := []) ⟨hx, hb, hml, hown, hts⟩ (pm_X3_distanceToNext l dD dF p1) (va_cwS 1 hts gX3_mathOfNumber_X3_distanceToNext rfl rfl rfl hd_X3_distanceToNext ⟨Nat.le_of_ble_eq_true rfl, Nat.le_of_ble_eq_true rfl⟩) ⟨KF.fb, fun U hU hW => ⟨rfl, (KF.call hF hS U hU hW)⟩⟩ rfl rfl hl.1 rfl (lv_room (Nat.le_of_ble_eq_true rfl)) dX3_mathOfNumber_104 ⟨Nat.le_refl 0, Nat.le_refl 0⟩) hS (fun H locs _ _ hS => ?_)
              rw [hZ]
              exact pm_lret (w := s_X3_mathOfNumber p0 p1) hx hb hr hlocks hS (by exact (((((((if_neg c_1_0).trans (if_neg c_1_1)).trans (if_neg c_1_2)).trans (if_neg c_1_3)).trans (if_neg c_1_4)).trans (if_pos c_1_5))).symm) dX3_mathOfNumber_107
            ·
              by_cases c_1_6 : p0 = 6
              · refine lv_tableIn (off := 107) (tgt := 108) hx hb dX3_mathOfNumber_1 (by rw [c_1_6]; decide) (by rw [c_1_6]; decide) (by rw [c_1_6]; decide) (by decide) ?_
                refine lv_lload_n hx hb dX3_mathOfNumber_108 rfl (lv_at hl 1 rfl) ?_
                refine pm_callL (va_runS (As := [.long p1]) (rest := []) ⟨hx, hb, hml, hown, hts⟩ (pm_X3_nextUp l dD dF p1) (va_cwS 1 hts gX3_mathOfNumber_X3_nextUp rfl rfl rfl hd_X3_nextUp ⟨Nat.le_of_ble_eq_true rfl, Nat.le_of_ble_eq_true rfl⟩) ⟨KF.fb, fun U hU hW => ⟨rfl, (KF.call hF hS U hU hW)⟩⟩ rfl rfl hl.1 rfl (lv_room (Nat.le_of_ble_eq_true rfl)) dX3_mathOfNumber_109 ⟨Nat.le_refl 0, Nat.le_refl 0⟩) hS (fun H locs _ _ hS => ?_)
                rw [hZ]
                exact pm_lret (w := s_X3_mathOfNumber p0 p1) hx hb hr hlocks hS (by exact ((((((((if_neg c_1_0).trans (if_neg c_1_1)).trans (if_neg c_1_2)).trans (if_neg c_1_3)).trans (if_neg c_1_4)).trans (if_neg c_1_5)).trans (if_pos c_1_6))).symm) dX3_mathOfNumber_112
              ·
                by_cases c_1_7 : p0 = 7
                · refine lv_tableIn (off := 112) (tgt := 113) hx hb dX3_mathOfNumber_1 (by rw [c_1_7]; decide) (by rw [c_1_7]; decide) (by rw [c_1_7]; decide) (by decide) ?_
                  refine lv_lload_n hx hb dX3_mathOfNumber_113 rfl (lv_at hl 1 rfl) ?_
                  refine lv_iconst (v := 3) hx hb dX3_mathOfNumber_114 (by decide) ?_
                  refine pm_callL (va_runS (As := [.long p1, .int 3]) (rest := []) ⟨hx, hb, hml, hown, hts⟩ (pm_X3_scaled l dD dF p1 3) (va_cwS 2 hts gX3_mathOfNumber_X3_scaled rfl rfl rfl hd_X3_scaled ⟨Nat.le_of_ble_eq_true rfl, Nat.le_of_ble_eq_true rfl⟩) ⟨KF.fb, fun U hU hW => ⟨rfl, (KF.call hF hS U hU hW)⟩⟩ rfl rfl hl.1 rfl (lv_room (Nat.le_of_ble_eq_true rfl)) dX3_mathOfNumber_115 ⟨Nat.le_refl 0, Nat.le_refl 0⟩) hS (fun H locs _ _ hS => ?_)
                  rw [hZ]
                  exact pm_lret (w := s_X3_mathOfNumber p0 p1) hx hb hr hlocks hS (by exact (((((((((if_neg c_1_0).trans (if_neg c_1_1)).trans (if_neg c_1_2)).trans (if_neg c_1_3)).trans (if_neg c_1_4)).trans (if_neg c_1_5)).trans (if_neg c_1_6)).trans (if_pos c_1_7))).symm) dX3_mathOfNumber_118
                ·
                  have nc_1_0 : (p0).toInt ≠ 0 := fun h => c_1_0 (Int32.toInt.inj (h.trans (by decide)))
                  have nc_1_1 : (p0).toInt ≠ 1 := fun h => c_1_1 (Int32.toInt.inj (h.trans (by decide)))
                  have nc_1_2 : (p0).toInt ≠ 2 := fun h => c_1_2 (Int32.toInt.inj (h.trans (by decide)))
                  have nc_1_3 : (p0).toInt ≠ 3 := fun h => c_1_3 (Int32.toInt.inj (h.trans (by decide)))
                  have nc_1_4 : (p0).toInt ≠ 4 := fun h => c_1_4 (Int32.toInt.inj (h.trans (by decide)))
                  have nc_1_5 : (p0).toInt ≠ 5 := fun h => c_1_5 (Int32.toInt.inj (h.trans (by decide)))
                  have nc_1_6 : (p0).toInt ≠ 6 := fun h => c_1_6 (Int32.toInt.inj (h.trans (by decide)))
                  have nc_1_7 : (p0).toInt ≠ 7 := fun h => c_1_7 (Int32.toInt.inj (h.trans (by decide)))
                  refine lv_tableOut (tgt := 119) hx hb dX3_mathOfNumber_1 (by omega) (by decide) ?_
                  refine lv_lload_n hx hb dX3_mathOfNumber_119 rfl (lv_at hl 1 rfl) ?_
                  refine lv_bipush (v := (-3)) hx hb dX3_mathOfNumber_120 (by decide) ?_
                  refine pm_callL (va_runS (As := [.long p1, .int (-3)]) (rest := []) ⟨hx, hb, hml, hown, hts⟩ (pm_X3_scaled l dD dF p1 (-3)) (va_cwS 2 hts gX3_mathOfNumber_X3_scaled rfl rfl rfl hd_X3_scaled ⟨Nat.le_of_ble_eq_true rfl, Nat.le_of_ble_eq_true rfl⟩) ⟨KF.fb, fun U hU hW => ⟨rfl, (KF.call hF hS U hU hW)⟩⟩ rfl rfl hl.1 rfl (lv_room (Nat.le_of_ble_eq_true rfl)) dX3_mathOfNumber_122 ⟨Nat.le_refl 0, Nat.le_refl 0⟩) hS (fun H locs _ _ hS => ?_)
                  rw [hZ]
                  exact pm_lret (w := s_X3_mathOfNumber p0 p1) hx hb hr hlocks hS (by exact (((((((((if_neg c_1_0).trans (if_neg c_1_1)).trans (if_neg c_1_2)).trans (if_neg c_1_3)).trans (if_neg c_1_4)).trans (if_neg c_1_5)).trans (if_neg c_1_6)).trans (if_neg c_1_7))).symm) dX3_mathOfNumber_125
end
