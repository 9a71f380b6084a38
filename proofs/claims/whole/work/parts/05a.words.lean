/-! ===== longs as natural numbers of 64 bits ===== -/
def uN (x : Int64) : Nat := x.toBitVec.toNat
theorem uN_lt (x : Int64) : uN x < 2 ^ 64 := x.toBitVec.isLt
theorem uN_u (x : Int64) : x.toUInt64.toNat = uN x := rfl
theorem uN_inj {x y : Int64} (h : uN x = uN y) : x = y := Int64.toBitVec_inj.mp (BitVec.eq_of_toNat_eq h)
theorem uN_ofu (x : UInt64) : uN x.toInt64 = x.toNat := rfl
theorem toInt_uN (x : Int64) : x.toInt = if uN x < 2 ^ 63 then (uN x : Int) else (uN x : Int) - 2 ^ 64 := by
  show x.toBitVec.toInt = _
  rw [BitVec.toInt_eq_toNat_cond]
  unfold uN
  by_cases h : x.toBitVec.toNat < 2 ^ 63
  · rw [if_pos h, if_pos (by omega)]
  · rw [if_neg h, if_neg (by omega)]; rfl
theorem uN_pos {x : Int64} (h : uN x < 2 ^ 63) : x.toInt = (uN x : Int) := by rw [toInt_uN, if_pos h]
theorem uN_neg {x : Int64} (h : 2 ^ 63 ≤ uN x) : x.toInt = (uN x : Int) - 2 ^ 64 := by rw [toInt_uN, if_neg (by omega)]
theorem uN_and (x y : Int64) : uN (x &&& y) = uN x &&& uN y := by unfold uN; rw [Int64.toBitVec_and, BitVec.toNat_and]
theorem uN_or (x y : Int64) : uN (x ||| y) = uN x ||| uN y := by unfold uN; rw [Int64.toBitVec_or, BitVec.toNat_or]
theorem uN_xor (x y : Int64) : uN (x ^^^ y) = uN x ^^^ uN y := by unfold uN; rw [Int64.toBitVec_xor, BitVec.toNat_xor]
theorem uN_add (x y : Int64) : uN (x + y) = (uN x + uN y) % 2 ^ 64 := by unfold uN; rw [Int64.toBitVec_add, BitVec.toNat_add]
theorem uN_sub (x y : Int64) : uN (x - y) = (2 ^ 64 - uN y + uN x) % 2 ^ 64 := by unfold uN; rw [Int64.toBitVec_sub, BitVec.toNat_sub]
theorem uN_mul (x y : Int64) : uN (x * y) = uN x * uN y % 2 ^ 64 := by unfold uN; rw [Int64.toBitVec_mul, BitVec.toNat_mul]
theorem uN_neg1 (x : Int64) : uN (-x) = (2 ^ 64 - uN x) % 2 ^ 64 := by unfold uN; rw [Int64.toBitVec_neg, BitVec.toNat_neg]
theorem uN_0 : uN 0 = 0 := rfl
theorem uN_1 : uN 1 = 1 := rfl
theorem uN_63 : uN 9223372036854775807 = 2 ^ 63 - 1 := by decide
theorem uN_min : uN (-9223372036854775808) = 2 ^ 63 := by decide
theorem uN_and63 (x : Int64) : uN (x &&& 9223372036854775807) = uN x % 2 ^ 63 := by rw [uN_and, uN_63, Nat.and_two_pow_sub_one_eq_mod]
theorem lt_toInt {x y : Int64} : x < y ↔ x.toInt < y.toInt := Int64.lt_iff_toInt_lt
theorem le_toInt {x y : Int64} : x ≤ y ↔ x.toInt ≤ y.toInt := Int64.le_iff_toInt_le
theorem lt0_uN (x : Int64) : x < 0 ↔ 2 ^ 63 ≤ uN x := by
  have h := uN_lt x
  rw [lt_toInt, toInt_uN, show (0 : Int64).toInt = 0 from rfl]
  split <;> omega
theorem ge0_uN (x : Int64) : 0 ≤ x ↔ uN x < 2 ^ 63 := by
  have h := uN_lt x
  rw [le_toInt, show (0 : Int64).toInt = 0 from rfl, toInt_uN]
  split <;> omega
theorem le_uN {x y : Int64} (hx : uN x < 2 ^ 63) (hy : uN y < 2 ^ 63) : x ≤ y ↔ uN x ≤ uN y := by rw [le_toInt, uN_pos hx, uN_pos hy]; omega
theorem lt_uN {x y : Int64} (hx : uN x < 2 ^ 63) (hy : uN y < 2 ^ 63) : x < y ↔ uN x < uN y := by rw [lt_toInt, uN_pos hx, uN_pos hy]; omega
theorem eq_uN {x y : Int64} : x = y ↔ uN x = uN y := ⟨fun h => by rw [h], uN_inj⟩
/-! ===== doubles that are no NaN ===== -/
theorem vf_of {r : UInt64} (h : FP.Core.dIsNaN r = false) : vf_n64 r := by
  have h1 := (FP.Core.ne_nan r).mp ((FP.Core.notNaN_iff r).mp h)
  unfold vf_n64
  rw [UInt64.le_iff_toNat_le, FP.Core.mask_toNat]
  exact h1
theorem vf_of32 {r : UInt32} (h : FP.Core.fIsNaN r = false) : vf_n32 r := by
  have h1 := (FP.Core.ne_nan32 r).mp ((FP.Core.notNaN_iff32 r).mp h)
  unfold vf_n32
  rw [UInt32.le_iff_toNat_le, FP.Core.mask_toNat32]
  exact h1
theorem of_dEq {x : UInt64} (h : dEq x x) : FP.Core.dIsNaN x = false := FP.Core.notNaN_of_dcmp (Or.inl h)
theorem of_fEq {x : UInt32} (h : fEq x x) : FP.Core.fIsNaN x = false := FP.Core.notNaN_of_fcmp (Or.inl h)
theorem dEq_of {x : UInt64} (h : FP.Core.dIsNaN x = false) : dEq x x := FP.Core.dcmp_refl h
theorem fEq_of {x : UInt32} (h : FP.Core.fIsNaN x = false) : fEq x x := FP.Core.fcmp_refl h
theorem snl_d {a : Int64} (h : (a &&& 9223372036854775807) ≤ 9218868437227405312) : vn_snl2d a = false := by
  have h2 : uN a % 2 ^ 63 < 2 ^ 63 := Nat.mod_lt _ (by decide)
  rw [le_uN (by rw [uN_and63]; exact h2) (by decide), uN_and63] at h
  have h1 : ¬ (a.toUInt64 &&& 0x7fffffffffffffff > 0x7ff0000000000000) := by
    rw [gt_iff_lt, UInt64.lt_iff_toNat_lt, FP.Core.mask_toNat, uN_u]
    exact Nat.not_lt.mpr h
  unfold vn_snl2d
  simp [h1]
theorem u32_lt (x : Int32) : x.toBitVec.toNat < 2 ^ 32 := x.toBitVec.isLt
theorem i32_toInt (x : Int32) : x.toInt = if x.toBitVec.toNat < 2 ^ 31 then (x.toBitVec.toNat : Int) else (x.toBitVec.toNat : Int) - 2 ^ 32 := by
  show x.toBitVec.toInt = _
  rw [BitVec.toInt_eq_toNat_cond]
  by_cases h : x.toBitVec.toNat < 2 ^ 31
  · rw [if_pos h, if_pos (by omega)]
  · rw [if_neg h, if_neg (by omega)]; rfl
theorem i32_and31 (x : Int32) : (x &&& 2147483647).toBitVec.toNat = x.toBitVec.toNat % 2 ^ 31 := by
  rw [Int32.toBitVec_and, BitVec.toNat_and, show (2147483647 : Int32).toBitVec.toNat = 2 ^ 31 - 1 from by decide, Nat.and_two_pow_sub_one_eq_mod]
theorem snl_f {a : Int32} (h : (a &&& 2147483647) ≤ 2139095040) : vn_sni2f a = false := by
  have h2 : a.toBitVec.toNat % 2 ^ 31 < 2 ^ 31 := Nat.mod_lt _ (by decide)
  have h3 : (a &&& 2147483647).toInt = ((a.toBitVec.toNat % 2 ^ 31 : Nat) : Int) := by rw [i32_toInt, i32_and31, if_pos h2]
  rw [Int32.le_iff_toInt_le, h3, show (2139095040 : Int32).toInt = 2139095040 from by decide] at h
  have h1 : ¬ (a.toUInt32 &&& 0x7fffffff > 0x7f800000) := by
    rw [gt_iff_lt, UInt32.lt_iff_toNat_lt, FP.Core.mask_toNat32, show a.toUInt32.toNat = a.toBitVec.toNat from rfl]
    exact Nat.not_lt.mpr (by have h9 : (0x7f800000 : UInt32).toNat = 2139095040 := rfl; omega)
  unfold vn_sni2f
  simp [h1]
/-- as Met.ofW, of a class some of whose methods have rows of their own, for one that has none -/
theorem met_ofWF {l : Launch} {y : MethodName} {ws ws' : List Cond} {rm : Room} {Pc : Array Value → State → Prop} {Qc : Array Value → State → Outcome → State → Prop} {mc ms : Nat} {free : Addr → Prop} {cc : ByteArray} {maxL : Nat} {ret : Option FieldType}
    (hy : plainFor y = true) (hw : ws = Cond.code y cc maxL ret :: ws')
    (body : ∀ p e s m args below meth c s₁, BodyLoose p l y (headSpec ws rm) cc maxL ret e s m args below meth c s₁ → c.maxLocals = maxL → Pc args s →
      W p l e (headSpec ws rm).room s m args below meth c s.heap [] 0 0 (MQ below Qc args s mc ms free) (entryFrame m args maxL)) : Met l y ws rm Pc Qc mc ms free := by
  refine MetFree.of_bodySF (code := cc) (maxLocals := maxL) (ret := ret) hy ?_ ?_
  · intro args s m h hn
    obtain ⟨meth, c, h1, h2, h3, h4, h5, h6, -, -⟩ := Cond.code_spec hn (atoms_spec (ws := ws) h _ (by rw [hw]; exact List.mem_cons_self))
    exact ⟨meth, c, h1, h2, h3, h4, h5, h6⟩
  · intro p e s m args below meth c s₁ B hml hP _
    have hh0 : s₁.heap = s.heap := by rw [B.state]; rfl
    obtain ⟨t, a1, o, b1, b2, b3⟩ := body p e s m args below meth c s₁ B hml hP s₁ hh0 (Stand.of_body B)
    exact ⟨t, o, a1, b1, b2, ⟨b3.1, b3.2⟩⟩
