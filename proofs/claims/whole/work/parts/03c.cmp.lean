/-! ===== doubles and floats compared, with the branch behind ===== -/
abbrev dLt (x y : UInt64) : Prop := FP.dcmp x y = some .lt
abbrev dGt (x y : UInt64) : Prop := FP.dcmp x y = some .gt
abbrev dEq (x y : UInt64) : Prop := FP.dcmp x y = some .eq
abbrev dGe (x y : UInt64) : Prop := FP.dcmp x y = some .gt ∨ FP.dcmp x y = some .eq
abbrev dLe (x y : UInt64) : Prop := FP.dcmp x y = some .lt ∨ FP.dcmp x y = some .eq
abbrev fLt (x y : UInt32) : Prop := FP.fcmp x y = some .lt
abbrev fGt (x y : UInt32) : Prop := FP.fcmp x y = some .gt
abbrev fEq (x y : UInt32) : Prop := FP.fcmp x y = some .eq
abbrev fGe (x y : UInt32) : Prop := FP.fcmp x y = some .gt ∨ FP.fcmp x y = some .eq
abbrev fLe (x y : UInt32) : Prop := FP.fcmp x y = some .lt ∨ FP.fcmp x y = some .eq
theorem cv_gge (o : Option Ordering) : (0 ≤ Op.cmpValue o CmpOp.g) ↔ ¬ o = some .lt := by
  rcases o with _ | o
  · simp [Op.cmpValue]
  · cases o <;> simp [Op.cmpValue]
theorem cv_glt (o : Option Ordering) : (Op.cmpValue o CmpOp.g < 0) ↔ o = some .lt := by
  rcases o with _ | o
  · simp [Op.cmpValue]
  · cases o <;> simp [Op.cmpValue]
theorem cv_lle (o : Option Ordering) : (Op.cmpValue o CmpOp.l ≤ 0) ↔ ¬ o = some .gt := by
  rcases o with _ | o
  · simp [Op.cmpValue]
  · cases o <;> simp [Op.cmpValue]
theorem cv_lgt (o : Option Ordering) : (0 < Op.cmpValue o CmpOp.l) ↔ o = some .gt := by
  rcases o with _ | o
  · simp [Op.cmpValue]
  · cases o <;> simp [Op.cmpValue]
theorem cv_lne (o : Option Ordering) : (Op.cmpValue o CmpOp.l = 0) ↔ o = some .eq := by
  rcases o with _ | o
  · simp [Op.cmpValue]
  · cases o <;> simp [Op.cmpValue]
theorem cv_leq (o : Option Ordering) : (Op.cmpValue o CmpOp.l = 0) ↔ o = some .eq := by
  rcases o with _ | o
  · simp [Op.cmpValue]
  · cases o <;> simp [Op.cmpValue]
theorem cv_llt (o : Option Ordering) : (Op.cmpValue o CmpOp.l < 0) ↔ ¬ (o = some .gt ∨ o = some .eq) := by
  rcases o with _ | o
  · simp [Op.cmpValue]
  · cases o <;> simp [Op.cmpValue]
theorem cv_lge (o : Option Ordering) : (0 ≤ Op.cmpValue o CmpOp.l) ↔ (o = some .gt ∨ o = some .eq) := by
  rcases o with _ | o
  · simp [Op.cmpValue]
  · cases o <;> simp [Op.cmpValue]
theorem cv_ggt (o : Option Ordering) : (0 < Op.cmpValue o CmpOp.g) ↔ ¬ (o = some .lt ∨ o = some .eq) := by
  rcases o with _ | o
  · simp [Op.cmpValue]
  · cases o <;> simp [Op.cmpValue]
theorem cv_gle (o : Option Ordering) : (Op.cmpValue o CmpOp.g ≤ 0) ↔ (o = some .lt ∨ o = some .eq) := by
  rcases o with _ | o
  · simp [Op.cmpValue]
  · cases o <;> simp [Op.cmpValue]
section LFC
variable {p : Program} {l : Launch} {e : Env} {R : Room} {s : State} {m : MethodId} {args : Array Value} {below : List Frame} {meth : Method} {c : Code} {H : Heap} {locs : List Loc} {cells slots : Nat} {Q : State → Prop}
variable {pc : Nat} {ls : Array Slot} {rest : List Value}
theorem lf_d_gge {cc : ByteArray} (hx : p.tables.exec = Jvm.exec) (hb : c.code = cc) {x y : UInt64} {off : Int} {tgt : Nat} (d1 : decode cc pc = .ok (.dcmp .g, 1)) (d2 : decode cc (pc + 1) = .ok (.ifCond .ge off, 3)) (ht : ((pc + 1 : Nat) : Int) + off = (tgt : Int))
    (kt : ¬ dLt x y → W p l e R s m args below meth c H locs cells slots Q (F0 m tgt ls rest)) (kf : dLt x y → W p l e R s m args below meth c H locs cells slots Q (F0 m (pc + 1 + 3) ls rest)) : W p l e R s m args below meth c H locs cells slots Q (F0 m pc ls (.double y :: .double x :: rest)) :=
  lv_dcmp hx hb d1 (lv_if_ge hx hb d2 ht (fun h => kt ((cv_gge (FP.dcmp x y)).mp h)) (fun h => kf (Classical.byContradiction (fun z => h ((cv_gge (FP.dcmp x y)).mpr z)))))
theorem lf_d_glt {cc : ByteArray} (hx : p.tables.exec = Jvm.exec) (hb : c.code = cc) {x y : UInt64} {off : Int} {tgt : Nat} (d1 : decode cc pc = .ok (.dcmp .g, 1)) (d2 : decode cc (pc + 1) = .ok (.ifCond .lt off, 3)) (ht : ((pc + 1 : Nat) : Int) + off = (tgt : Int))
    (kt : dLt x y → W p l e R s m args below meth c H locs cells slots Q (F0 m tgt ls rest)) (kf : ¬ dLt x y → W p l e R s m args below meth c H locs cells slots Q (F0 m (pc + 1 + 3) ls rest)) : W p l e R s m args below meth c H locs cells slots Q (F0 m pc ls (.double y :: .double x :: rest)) :=
  lv_dcmp hx hb d1 (lv_if_lt hx hb d2 ht (fun h => kt ((cv_glt (FP.dcmp x y)).mp h)) (fun h => kf (fun z => h ((cv_glt (FP.dcmp x y)).mpr z))))
theorem lf_d_lle {cc : ByteArray} (hx : p.tables.exec = Jvm.exec) (hb : c.code = cc) {x y : UInt64} {off : Int} {tgt : Nat} (d1 : decode cc pc = .ok (.dcmp .l, 1)) (d2 : decode cc (pc + 1) = .ok (.ifCond .le off, 3)) (ht : ((pc + 1 : Nat) : Int) + off = (tgt : Int))
    (kt : ¬ dGt x y → W p l e R s m args below meth c H locs cells slots Q (F0 m tgt ls rest)) (kf : dGt x y → W p l e R s m args below meth c H locs cells slots Q (F0 m (pc + 1 + 3) ls rest)) : W p l e R s m args below meth c H locs cells slots Q (F0 m pc ls (.double y :: .double x :: rest)) :=
  lv_dcmp hx hb d1 (lv_if_le hx hb d2 ht (fun h => kt ((cv_lle (FP.dcmp x y)).mp h)) (fun h => kf (Classical.byContradiction (fun z => h ((cv_lle (FP.dcmp x y)).mpr z)))))
theorem lf_d_lgt {cc : ByteArray} (hx : p.tables.exec = Jvm.exec) (hb : c.code = cc) {x y : UInt64} {off : Int} {tgt : Nat} (d1 : decode cc pc = .ok (.dcmp .l, 1)) (d2 : decode cc (pc + 1) = .ok (.ifCond .gt off, 3)) (ht : ((pc + 1 : Nat) : Int) + off = (tgt : Int))
    (kt : dGt x y → W p l e R s m args below meth c H locs cells slots Q (F0 m tgt ls rest)) (kf : ¬ dGt x y → W p l e R s m args below meth c H locs cells slots Q (F0 m (pc + 1 + 3) ls rest)) : W p l e R s m args below meth c H locs cells slots Q (F0 m pc ls (.double y :: .double x :: rest)) :=
  lv_dcmp hx hb d1 (lv_if_gt hx hb d2 ht (fun h => kt ((cv_lgt (FP.dcmp x y)).mp h)) (fun h => kf (fun z => h ((cv_lgt (FP.dcmp x y)).mpr z))))
theorem lf_d_lne {cc : ByteArray} (hx : p.tables.exec = Jvm.exec) (hb : c.code = cc) {x y : UInt64} {off : Int} {tgt : Nat} (d1 : decode cc pc = .ok (.dcmp .l, 1)) (d2 : decode cc (pc + 1) = .ok (.ifCond .ne off, 3)) (ht : ((pc + 1 : Nat) : Int) + off = (tgt : Int))
    (kt : ¬ dEq x y → W p l e R s m args below meth c H locs cells slots Q (F0 m tgt ls rest)) (kf : dEq x y → W p l e R s m args below meth c H locs cells slots Q (F0 m (pc + 1 + 3) ls rest)) : W p l e R s m args below meth c H locs cells slots Q (F0 m pc ls (.double y :: .double x :: rest)) :=
  lv_dcmp hx hb d1 (lv_if_ne hx hb d2 ht (fun h => kt (fun z => h ((cv_lne (FP.dcmp x y)).mpr z))) (fun h => kf ((cv_lne (FP.dcmp x y)).mp h)))
theorem lf_d_leq {cc : ByteArray} (hx : p.tables.exec = Jvm.exec) (hb : c.code = cc) {x y : UInt64} {off : Int} {tgt : Nat} (d1 : decode cc pc = .ok (.dcmp .l, 1)) (d2 : decode cc (pc + 1) = .ok (.ifCond .eq off, 3)) (ht : ((pc + 1 : Nat) : Int) + off = (tgt : Int))
    (kt : dEq x y → W p l e R s m args below meth c H locs cells slots Q (F0 m tgt ls rest)) (kf : ¬ dEq x y → W p l e R s m args below meth c H locs cells slots Q (F0 m (pc + 1 + 3) ls rest)) : W p l e R s m args below meth c H locs cells slots Q (F0 m pc ls (.double y :: .double x :: rest)) :=
  lv_dcmp hx hb d1 (lv_if_eq hx hb d2 ht (fun h => kt ((cv_leq (FP.dcmp x y)).mp h)) (fun h => kf (fun z => h ((cv_leq (FP.dcmp x y)).mpr z))))
theorem lf_d_llt {cc : ByteArray} (hx : p.tables.exec = Jvm.exec) (hb : c.code = cc) {x y : UInt64} {off : Int} {tgt : Nat} (d1 : decode cc pc = .ok (.dcmp .l, 1)) (d2 : decode cc (pc + 1) = .ok (.ifCond .lt off, 3)) (ht : ((pc + 1 : Nat) : Int) + off = (tgt : Int))
    (kt : ¬ dGe x y → W p l e R s m args below meth c H locs cells slots Q (F0 m tgt ls rest)) (kf : dGe x y → W p l e R s m args below meth c H locs cells slots Q (F0 m (pc + 1 + 3) ls rest)) : W p l e R s m args below meth c H locs cells slots Q (F0 m pc ls (.double y :: .double x :: rest)) :=
  lv_dcmp hx hb d1 (lv_if_lt hx hb d2 ht (fun h => kt ((cv_llt (FP.dcmp x y)).mp h)) (fun h => kf (Classical.byContradiction (fun z => h ((cv_llt (FP.dcmp x y)).mpr z)))))
theorem lf_d_lge {cc : ByteArray} (hx : p.tables.exec = Jvm.exec) (hb : c.code = cc) {x y : UInt64} {off : Int} {tgt : Nat} (d1 : decode cc pc = .ok (.dcmp .l, 1)) (d2 : decode cc (pc + 1) = .ok (.ifCond .ge off, 3)) (ht : ((pc + 1 : Nat) : Int) + off = (tgt : Int))
    (kt : dGe x y → W p l e R s m args below meth c H locs cells slots Q (F0 m tgt ls rest)) (kf : ¬ dGe x y → W p l e R s m args below meth c H locs cells slots Q (F0 m (pc + 1 + 3) ls rest)) : W p l e R s m args below meth c H locs cells slots Q (F0 m pc ls (.double y :: .double x :: rest)) :=
  lv_dcmp hx hb d1 (lv_if_ge hx hb d2 ht (fun h => kt ((cv_lge (FP.dcmp x y)).mp h)) (fun h => kf (fun z => h ((cv_lge (FP.dcmp x y)).mpr z))))
theorem lf_d_ggt {cc : ByteArray} (hx : p.tables.exec = Jvm.exec) (hb : c.code = cc) {x y : UInt64} {off : Int} {tgt : Nat} (d1 : decode cc pc = .ok (.dcmp .g, 1)) (d2 : decode cc (pc + 1) = .ok (.ifCond .gt off, 3)) (ht : ((pc + 1 : Nat) : Int) + off = (tgt : Int))
    (kt : ¬ dLe x y → W p l e R s m args below meth c H locs cells slots Q (F0 m tgt ls rest)) (kf : dLe x y → W p l e R s m args below meth c H locs cells slots Q (F0 m (pc + 1 + 3) ls rest)) : W p l e R s m args below meth c H locs cells slots Q (F0 m pc ls (.double y :: .double x :: rest)) :=
  lv_dcmp hx hb d1 (lv_if_gt hx hb d2 ht (fun h => kt ((cv_ggt (FP.dcmp x y)).mp h)) (fun h => kf (Classical.byContradiction (fun z => h ((cv_ggt (FP.dcmp x y)).mpr z)))))
theorem lf_d_gle {cc : ByteArray} (hx : p.tables.exec = Jvm.exec) (hb : c.code = cc) {x y : UInt64} {off : Int} {tgt : Nat} (d1 : decode cc pc = .ok (.dcmp .g, 1)) (d2 : decode cc (pc + 1) = .ok (.ifCond .le off, 3)) (ht : ((pc + 1 : Nat) : Int) + off = (tgt : Int))
    (kt : dLe x y → W p l e R s m args below meth c H locs cells slots Q (F0 m tgt ls rest)) (kf : ¬ dLe x y → W p l e R s m args below meth c H locs cells slots Q (F0 m (pc + 1 + 3) ls rest)) : W p l e R s m args below meth c H locs cells slots Q (F0 m pc ls (.double y :: .double x :: rest)) :=
  lv_dcmp hx hb d1 (lv_if_le hx hb d2 ht (fun h => kt ((cv_gle (FP.dcmp x y)).mp h)) (fun h => kf (fun z => h ((cv_gle (FP.dcmp x y)).mpr z))))
theorem lf_f_gge {cc : ByteArray} (hx : p.tables.exec = Jvm.exec) (hb : c.code = cc) {x y : UInt32} {off : Int} {tgt : Nat} (d1 : decode cc pc = .ok (.fcmp .g, 1)) (d2 : decode cc (pc + 1) = .ok (.ifCond .ge off, 3)) (ht : ((pc + 1 : Nat) : Int) + off = (tgt : Int))
    (kt : ¬ fLt x y → W p l e R s m args below meth c H locs cells slots Q (F0 m tgt ls rest)) (kf : fLt x y → W p l e R s m args below meth c H locs cells slots Q (F0 m (pc + 1 + 3) ls rest)) : W p l e R s m args below meth c H locs cells slots Q (F0 m pc ls (.float y :: .float x :: rest)) :=
  lv_fcmp hx hb d1 (lv_if_ge hx hb d2 ht (fun h => kt ((cv_gge (FP.fcmp x y)).mp h)) (fun h => kf (Classical.byContradiction (fun z => h ((cv_gge (FP.fcmp x y)).mpr z)))))
theorem lf_f_glt {cc : ByteArray} (hx : p.tables.exec = Jvm.exec) (hb : c.code = cc) {x y : UInt32} {off : Int} {tgt : Nat} (d1 : decode cc pc = .ok (.fcmp .g, 1)) (d2 : decode cc (pc + 1) = .ok (.ifCond .lt off, 3)) (ht : ((pc + 1 : Nat) : Int) + off = (tgt : Int))
    (kt : fLt x y → W p l e R s m args below meth c H locs cells slots Q (F0 m tgt ls rest)) (kf : ¬ fLt x y → W p l e R s m args below meth c H locs cells slots Q (F0 m (pc + 1 + 3) ls rest)) : W p l e R s m args below meth c H locs cells slots Q (F0 m pc ls (.float y :: .float x :: rest)) :=
  lv_fcmp hx hb d1 (lv_if_lt hx hb d2 ht (fun h => kt ((cv_glt (FP.fcmp x y)).mp h)) (fun h => kf (fun z => h ((cv_glt (FP.fcmp x y)).mpr z))))
theorem lf_f_lle {cc : ByteArray} (hx : p.tables.exec = Jvm.exec) (hb : c.code = cc) {x y : UInt32} {off : Int} {tgt : Nat} (d1 : decode cc pc = .ok (.fcmp .l, 1)) (d2 : decode cc (pc + 1) = .ok (.ifCond .le off, 3)) (ht : ((pc + 1 : Nat) : Int) + off = (tgt : Int))
    (kt : ¬ fGt x y → W p l e R s m args below meth c H locs cells slots Q (F0 m tgt ls rest)) (kf : fGt x y → W p l e R s m args below meth c H locs cells slots Q (F0 m (pc + 1 + 3) ls rest)) : W p l e R s m args below meth c H locs cells slots Q (F0 m pc ls (.float y :: .float x :: rest)) :=
  lv_fcmp hx hb d1 (lv_if_le hx hb d2 ht (fun h => kt ((cv_lle (FP.fcmp x y)).mp h)) (fun h => kf (Classical.byContradiction (fun z => h ((cv_lle (FP.fcmp x y)).mpr z)))))
theorem lf_f_lgt {cc : ByteArray} (hx : p.tables.exec = Jvm.exec) (hb : c.code = cc) {x y : UInt32} {off : Int} {tgt : Nat} (d1 : decode cc pc = .ok (.fcmp .l, 1)) (d2 : decode cc (pc + 1) = .ok (.ifCond .gt off, 3)) (ht : ((pc + 1 : Nat) : Int) + off = (tgt : Int))
    (kt : fGt x y → W p l e R s m args below meth c H locs cells slots Q (F0 m tgt ls rest)) (kf : ¬ fGt x y → W p l e R s m args below meth c H locs cells slots Q (F0 m (pc + 1 + 3) ls rest)) : W p l e R s m args below meth c H locs cells slots Q (F0 m pc ls (.float y :: .float x :: rest)) :=
  lv_fcmp hx hb d1 (lv_if_gt hx hb d2 ht (fun h => kt ((cv_lgt (FP.fcmp x y)).mp h)) (fun h => kf (fun z => h ((cv_lgt (FP.fcmp x y)).mpr z))))
theorem lf_f_lne {cc : ByteArray} (hx : p.tables.exec = Jvm.exec) (hb : c.code = cc) {x y : UInt32} {off : Int} {tgt : Nat} (d1 : decode cc pc = .ok (.fcmp .l, 1)) (d2 : decode cc (pc + 1) = .ok (.ifCond .ne off, 3)) (ht : ((pc + 1 : Nat) : Int) + off = (tgt : Int))
    (kt : ¬ fEq x y → W p l e R s m args below meth c H locs cells slots Q (F0 m tgt ls rest)) (kf : fEq x y → W p l e R s m args below meth c H locs cells slots Q (F0 m (pc + 1 + 3) ls rest)) : W p l e R s m args below meth c H locs cells slots Q (F0 m pc ls (.float y :: .float x :: rest)) :=
  lv_fcmp hx hb d1 (lv_if_ne hx hb d2 ht (fun h => kt (fun z => h ((cv_lne (FP.fcmp x y)).mpr z))) (fun h => kf ((cv_lne (FP.fcmp x y)).mp h)))
theorem lf_f_leq {cc : ByteArray} (hx : p.tables.exec = Jvm.exec) (hb : c.code = cc) {x y : UInt32} {off : Int} {tgt : Nat} (d1 : decode cc pc = .ok (.fcmp .l, 1)) (d2 : decode cc (pc + 1) = .ok (.ifCond .eq off, 3)) (ht : ((pc + 1 : Nat) : Int) + off = (tgt : Int))
    (kt : fEq x y → W p l e R s m args below meth c H locs cells slots Q (F0 m tgt ls rest)) (kf : ¬ fEq x y → W p l e R s m args below meth c H locs cells slots Q (F0 m (pc + 1 + 3) ls rest)) : W p l e R s m args below meth c H locs cells slots Q (F0 m pc ls (.float y :: .float x :: rest)) :=
  lv_fcmp hx hb d1 (lv_if_eq hx hb d2 ht (fun h => kt ((cv_leq (FP.fcmp x y)).mp h)) (fun h => kf (fun z => h ((cv_leq (FP.fcmp x y)).mpr z))))
theorem lf_f_llt {cc : ByteArray} (hx : p.tables.exec = Jvm.exec) (hb : c.code = cc) {x y : UInt32} {off : Int} {tgt : Nat} (d1 : decode cc pc = .ok (.fcmp .l, 1)) (d2 : decode cc (pc + 1) = .ok (.ifCond .lt off, 3)) (ht : ((pc + 1 : Nat) : Int) + off = (tgt : Int))
    (kt : ¬ fGe x y → W p l e R s m args below meth c H locs cells slots Q (F0 m tgt ls rest)) (kf : fGe x y → W p l e R s m args below meth c H locs cells slots Q (F0 m (pc + 1 + 3) ls rest)) : W p l e R s m args below meth c H locs cells slots Q (F0 m pc ls (.float y :: .float x :: rest)) :=
  lv_fcmp hx hb d1 (lv_if_lt hx hb d2 ht (fun h => kt ((cv_llt (FP.fcmp x y)).mp h)) (fun h => kf (Classical.byContradiction (fun z => h ((cv_llt (FP.fcmp x y)).mpr z)))))
theorem lf_f_lge {cc : ByteArray} (hx : p.tables.exec = Jvm.exec) (hb : c.code = cc) {x y : UInt32} {off : Int} {tgt : Nat} (d1 : decode cc pc = .ok (.fcmp .l, 1)) (d2 : decode cc (pc + 1) = .ok (.ifCond .ge off, 3)) (ht : ((pc + 1 : Nat) : Int) + off = (tgt : Int))
    (kt : fGe x y → W p l e R s m args below meth c H locs cells slots Q (F0 m tgt ls rest)) (kf : ¬ fGe x y → W p l e R s m args below meth c H locs cells slots Q (F0 m (pc + 1 + 3) ls rest)) : W p l e R s m args below meth c H locs cells slots Q (F0 m pc ls (.float y :: .float x :: rest)) :=
  lv_fcmp hx hb d1 (lv_if_ge hx hb d2 ht (fun h => kt ((cv_lge (FP.fcmp x y)).mp h)) (fun h => kf (fun z => h ((cv_lge (FP.fcmp x y)).mpr z))))
theorem lf_f_ggt {cc : ByteArray} (hx : p.tables.exec = Jvm.exec) (hb : c.code = cc) {x y : UInt32} {off : Int} {tgt : Nat} (d1 : decode cc pc = .ok (.fcmp .g, 1)) (d2 : decode cc (pc + 1) = .ok (.ifCond .gt off, 3)) (ht : ((pc + 1 : Nat) : Int) + off = (tgt : Int))
    (kt : ¬ fLe x y → W p l e R s m args below meth c H locs cells slots Q (F0 m tgt ls rest)) (kf : fLe x y → W p l e R s m args below meth c H locs cells slots Q (F0 m (pc + 1 + 3) ls rest)) : W p l e R s m args below meth c H locs cells slots Q (F0 m pc ls (.float y :: .float x :: rest)) :=
  lv_fcmp hx hb d1 (lv_if_gt hx hb d2 ht (fun h => kt ((cv_ggt (FP.fcmp x y)).mp h)) (fun h => kf (Classical.byContradiction (fun z => h ((cv_ggt (FP.fcmp x y)).mpr z)))))
theorem lf_f_gle {cc : ByteArray} (hx : p.tables.exec = Jvm.exec) (hb : c.code = cc) {x y : UInt32} {off : Int} {tgt : Nat} (d1 : decode cc pc = .ok (.fcmp .g, 1)) (d2 : decode cc (pc + 1) = .ok (.ifCond .le off, 3)) (ht : ((pc + 1 : Nat) : Int) + off = (tgt : Int))
    (kt : fLe x y → W p l e R s m args below meth c H locs cells slots Q (F0 m tgt ls rest)) (kf : ¬ fLe x y → W p l e R s m args below meth c H locs cells slots Q (F0 m (pc + 1 + 3) ls rest)) : W p l e R s m args below meth c H locs cells slots Q (F0 m pc ls (.float y :: .float x :: rest)) :=
  lv_fcmp hx hb d1 (lv_if_le hx hb d2 ht (fun h => kt ((cv_gle (FP.fcmp x y)).mp h)) (fun h => kf (fun z => h ((cv_gle (FP.fcmp x y)).mpr z))))
end LFC
