/-! ===== base: contracts of methods that change nothing and answer one number; the two constants of Format; compares with their branches ===== -/
def pv_N : Nat → Prop := fun _ => False
abbrev pm_R (fr lo : Nat) : Room := { frames := fr, cells := 0, slots := 0, locals := lo }
abbrev pm_QI (v : Int32) : Array Value → State → Outcome → State → Prop := va_Qi (fun (r : Int32) (_ : Unit) => r = v) (fun _ _ => True) pv_N
abbrev pm_QL (v : Int64) : Array Value → State → Outcome → State → Prop := va_Ql (fun (r : Int64) (_ : Unit) => r = v) (fun _ _ => True) pv_N
abbrev pm_QD (v : UInt64) : Array Value → State → Outcome → State → Prop := va_Qd (fun (r : UInt64) (_ : Unit) => r = v) (fun _ _ => True) pv_N
abbrev pm_QF (v : UInt32) : Array Value → State → Outcome → State → Prop := va_Qf (fun (r : UInt32) (_ : Unit) => r = v) (fun _ _ => True) pv_N
def PmI (l : Launch) (y : MethodName) (ws : List Cond) (fr lo : Nat) (as : List Value) (B : State → Prop) (v : Int32) : Prop := Met l y ws (pm_R fr lo) (va_Pc as B) (pm_QI v) 0 0 pv_N
def PmL (l : Launch) (y : MethodName) (ws : List Cond) (fr lo : Nat) (as : List Value) (B : State → Prop) (v : Int64) : Prop := Met l y ws (pm_R fr lo) (va_Pc as B) (pm_QL v) 0 0 pv_N
def PmD (l : Launch) (y : MethodName) (ws : List Cond) (fr lo : Nat) (as : List Value) (B : State → Prop) (v : UInt64) : Prop := Met l y ws (pm_R fr lo) (va_Pc as B) (pm_QD v) 0 0 pv_N
def PmF (l : Launch) (y : MethodName) (ws : List Cond) (fr lo : Nat) (as : List Value) (B : State → Prop) (v : UInt32) : Prop := Met l y ws (pm_R fr lo) (va_Pc as B) (pm_QF v) 0 0 pv_N
theorem pm_fb {as : List Value} {B : State → Prop} (h : ∀ (U : State) (g : JFrame) (mk : MethodId) (a : Array Value), B U → B (U.calling g mk a)) : FrameBlind (va_Pc as B) := fun a U g mk q => ⟨q.1, h U g mk a q.2⟩
theorem pm_fbT {as : List Value} : FrameBlind (va_Pc as (fun _ => True)) := fun _ _ _ _ q => ⟨q.1, trivial⟩
section PMC
variable {p : Program} {l : Launch} {e : Env} {R : Room} {s : State} {m : MethodId} {args : Array Value} {below : List Frame} {meth : Method} {c : Code} {H : Heap} {locs : List Loc} {cells slots : Nat} {Q : State → Prop}
variable {pc : Nat} {ls : Array Slot} {rest st0 : List Value} {a : Array Value} {A0 : Nat → Prop} {H0 : Heap}
theorem pm_callI {v : Int32} (hr : va_Run p l e R s m args below meth c H locs cells slots 0 0 (F0 m pc ls st0) rest (pm_QI v a) pv_N) (hS : va_S A0 H0 H locs)
    (kk : ∀ (H1 : Heap) (locs1 : List Loc), H.size ≤ H1.size → (∀ q : Nat, q < H.size → H1[q]? = H[q]?) → va_S A0 H0 H1 locs1 → W p l e R s m args below meth c H1 locs1 cells slots Q (F0 m (pc + 3) ls (.int v :: rest))) : W p l e R s m args below meth c H locs cells slots Q (F0 m pc ls st0) :=
  va_calli hr hS (fun _ _ h => h.elim) (fun _ h => h.elim) (fun _ _ _ H1 locs1 _ _ hw _ hz hk hS => by subst hw; exact kk H1 locs1 hz (fun q h => hk q h (fun z => z)) hS)
theorem pm_callL {v : Int64} (hr : va_Run p l e R s m args below meth c H locs cells slots 0 0 (F0 m pc ls st0) rest (pm_QL v a) pv_N) (hS : va_S A0 H0 H locs)
    (kk : ∀ (H1 : Heap) (locs1 : List Loc), H.size ≤ H1.size → (∀ q : Nat, q < H.size → H1[q]? = H[q]?) → va_S A0 H0 H1 locs1 → W p l e R s m args below meth c H1 locs1 cells slots Q (F0 m (pc + 3) ls (.long v :: rest))) : W p l e R s m args below meth c H locs cells slots Q (F0 m pc ls st0) :=
  va_calll hr hS (fun _ _ h => h.elim) (fun _ h => h.elim) (fun _ _ _ H1 locs1 _ _ hw _ hz hk hS => by subst hw; exact kk H1 locs1 hz (fun q h => hk q h (fun z => z)) hS)
theorem pm_callD {v : UInt64} (hr : va_Run p l e R s m args below meth c H locs cells slots 0 0 (F0 m pc ls st0) rest (pm_QD v a) pv_N) (hS : va_S A0 H0 H locs)
    (kk : ∀ (H1 : Heap) (locs1 : List Loc), H.size ≤ H1.size → (∀ q : Nat, q < H.size → H1[q]? = H[q]?) → va_S A0 H0 H1 locs1 → W p l e R s m args below meth c H1 locs1 cells slots Q (F0 m (pc + 3) ls (.double v :: rest))) : W p l e R s m args below meth c H locs cells slots Q (F0 m pc ls st0) :=
  va_calld hr hS (fun _ _ h => h.elim) (fun _ h => h.elim) (fun _ _ _ H1 locs1 _ _ hw _ hz hk hS => by subst hw; exact kk H1 locs1 hz (fun q h => hk q h (fun z => z)) hS)
theorem pm_callF {v : UInt32} (hr : va_Run p l e R s m args below meth c H locs cells slots 0 0 (F0 m pc ls st0) rest (pm_QF v a) pv_N) (hS : va_S A0 H0 H locs)
    (kk : ∀ (H1 : Heap) (locs1 : List Loc), H.size ≤ H1.size → (∀ q : Nat, q < H.size → H1[q]? = H[q]?) → va_S A0 H0 H1 locs1 → W p l e R s m args below meth c H1 locs1 cells slots Q (F0 m (pc + 3) ls (.float v :: rest))) : W p l e R s m args below meth c H locs cells slots Q (F0 m pc ls st0) :=
  va_callf hr hS (fun _ _ h => h.elim) (fun _ h => h.elim) (fun _ _ _ H1 locs1 _ _ hw _ hz hk hS => by subst hw; exact kk H1 locs1 hz (fun q h => hk q h (fun z => z)) hS)
-- the ends of such methods
theorem pm_iret {cc : ByteArray} {v w : Int32} (hx : p.tables.exec = Jvm.exec) (hb : c.code = cc) (hr : meth.sig.returnType = some .int) (hlocks : meth.locks = false) (hS : va_S pv_N s.heap H locs) (hv : v = w)
    (hdg : decode cc pc = .ok (.ireturn, 1)) : W p l e R s m args below meth c H locs cells slots (MQ below (pm_QI w) args s cells slots pv_N) (F0 m pc ls [.int v]) :=
  W.iret (v := v) hx hb hr (fun _ ht _ => ⟨⟨v, (), rfl, hv, trivial⟩, hS.F ht⟩) hS.2.2 hdg
theorem pm_zret {cc : ByteArray} {v w : Int32} {ty : FieldType} (hx : p.tables.exec = Jvm.exec) (hb : c.code = cc) (hr : meth.sig.returnType = some ty) (hlocks : meth.locks = false) (hS : va_S pv_N s.heap H locs) (hn : narrow ty (.int v) = .int v) (hv : v = w)
    (hdg : decode cc pc = .ok (.ireturn, 1)) : W p l e R s m args below meth c H locs cells slots (MQ below (pm_QI w) args s cells slots pv_N) (F0 m pc ls [.int v]) :=
  W.zret (v := v) hx hb hr hn (fun _ ht _ => ⟨⟨v, (), rfl, hv, trivial⟩, hS.F ht⟩) hS.2.2 hdg
theorem pm_lret {cc : ByteArray} {v w : Int64} (hx : p.tables.exec = Jvm.exec) (hb : c.code = cc) (hr : meth.sig.returnType = some .long) (hlocks : meth.locks = false) (hS : va_S pv_N s.heap H locs) (hv : v = w)
    (hdg : decode cc pc = .ok (.lreturn, 1)) : W p l e R s m args below meth c H locs cells slots (MQ below (pm_QL w) args s cells slots pv_N) (F0 m pc ls [.long v]) :=
  W.lret (v := v) hx hb hr (fun _ ht _ => ⟨⟨v, (), rfl, hv, trivial⟩, hS.F ht⟩) hS.2.2 hdg
theorem pm_dret {cc : ByteArray} {v w : UInt64} (hx : p.tables.exec = Jvm.exec) (hb : c.code = cc) (hr : meth.sig.returnType = some .double) (hlocks : meth.locks = false) (hS : va_S pv_N s.heap H locs) (hv : v = w)
    (hdg : decode cc pc = .ok (.dreturn, 1)) : W p l e R s m args below meth c H locs cells slots (MQ below (pm_QD w) args s cells slots pv_N) (F0 m pc ls [.double v]) :=
  W.dret hx hb hr (fun _ ht _ => ⟨⟨v, (), rfl, hv, trivial⟩, hS.F ht⟩) hS.2.2 hdg
theorem pm_fret {cc : ByteArray} {v w : UInt32} (hx : p.tables.exec = Jvm.exec) (hb : c.code = cc) (hr : meth.sig.returnType = some .float) (hlocks : meth.locks = false) (hS : va_S pv_N s.heap H locs) (hv : v = w)
    (hdg : decode cc pc = .ok (.freturn, 1)) : W p l e R s m args below meth c H locs cells slots (MQ below (pm_QF w) args s cells slots pv_N) (F0 m pc ls [.float v]) :=
  W.fret hx hb hr (fun _ ht _ => ⟨⟨v, (), rfl, hv, trivial⟩, hS.F ht⟩) hS.2.2 hdg
-- longs compared and branched
theorem lp_lt {cc : ByteArray} (hx : p.tables.exec = Jvm.exec) (hb : c.code = cc) {x y : Int64} {off : Int} {tgt : Nat} (d1 : decode cc pc = .ok (.lcmp, 1)) (d2 : decode cc (pc + 1) = .ok (.ifCond .lt off, 3)) (ht : ((pc + 1 : Nat) : Int) + off = (tgt : Int))
    (kt : x < y → W p l e R s m args below meth c H locs cells slots Q (F0 m tgt ls rest)) (kf : ¬ x < y → W p l e R s m args below meth c H locs cells slots Q (F0 m (pc + 1 + 3) ls rest)) : W p l e R s m args below meth c H locs cells slots Q (F0 m pc ls (.long y :: .long x :: rest)) :=
  W.lcmp hx hb d1 (lv_if_lt hx hb d2 ht (fun h => kt ((lg_cmp_lt x y).mp h)) (fun h => kf (fun z => h ((lg_cmp_lt x y).mpr z))))
theorem lp_le {cc : ByteArray} (hx : p.tables.exec = Jvm.exec) (hb : c.code = cc) {x y : Int64} {off : Int} {tgt : Nat} (d1 : decode cc pc = .ok (.lcmp, 1)) (d2 : decode cc (pc + 1) = .ok (.ifCond .le off, 3)) (ht : ((pc + 1 : Nat) : Int) + off = (tgt : Int))
    (kt : x ≤ y → W p l e R s m args below meth c H locs cells slots Q (F0 m tgt ls rest)) (kf : ¬ x ≤ y → W p l e R s m args below meth c H locs cells slots Q (F0 m (pc + 1 + 3) ls rest)) : W p l e R s m args below meth c H locs cells slots Q (F0 m pc ls (.long y :: .long x :: rest)) :=
  W.lcmp hx hb d1 (lv_if_le hx hb d2 ht (fun h => kt ((lg_cmp_le x y).mp h)) (fun h => kf (fun z => h ((lg_cmp_le x y).mpr z))))
theorem lp_gt {cc : ByteArray} (hx : p.tables.exec = Jvm.exec) (hb : c.code = cc) {x y : Int64} {off : Int} {tgt : Nat} (d1 : decode cc pc = .ok (.lcmp, 1)) (d2 : decode cc (pc + 1) = .ok (.ifCond .gt off, 3)) (ht : ((pc + 1 : Nat) : Int) + off = (tgt : Int))
    (kt : y < x → W p l e R s m args below meth c H locs cells slots Q (F0 m tgt ls rest)) (kf : ¬ y < x → W p l e R s m args below meth c H locs cells slots Q (F0 m (pc + 1 + 3) ls rest)) : W p l e R s m args below meth c H locs cells slots Q (F0 m pc ls (.long y :: .long x :: rest)) :=
  W.lcmp hx hb d1 (lv_if_gt hx hb d2 ht (fun h => kt ((lg_cmp_gt x y).mp h)) (fun h => kf (fun z => h ((lg_cmp_gt x y).mpr z))))
theorem lp_ge {cc : ByteArray} (hx : p.tables.exec = Jvm.exec) (hb : c.code = cc) {x y : Int64} {off : Int} {tgt : Nat} (d1 : decode cc pc = .ok (.lcmp, 1)) (d2 : decode cc (pc + 1) = .ok (.ifCond .ge off, 3)) (ht : ((pc + 1 : Nat) : Int) + off = (tgt : Int))
    (kt : y ≤ x → W p l e R s m args below meth c H locs cells slots Q (F0 m tgt ls rest)) (kf : ¬ y ≤ x → W p l e R s m args below meth c H locs cells slots Q (F0 m (pc + 1 + 3) ls rest)) : W p l e R s m args below meth c H locs cells slots Q (F0 m pc ls (.long y :: .long x :: rest)) :=
  W.lcmp hx hb d1 (lv_if_ge hx hb d2 ht (fun h => kt ((lg_cmp_ge x y).mp h)) (fun h => kf (fun z => h ((lg_cmp_ge x y).mpr z))))
theorem lp_eq {cc : ByteArray} (hx : p.tables.exec = Jvm.exec) (hb : c.code = cc) {x y : Int64} {off : Int} {tgt : Nat} (d1 : decode cc pc = .ok (.lcmp, 1)) (d2 : decode cc (pc + 1) = .ok (.ifCond .eq off, 3)) (ht : ((pc + 1 : Nat) : Int) + off = (tgt : Int))
    (kt : x = y → W p l e R s m args below meth c H locs cells slots Q (F0 m tgt ls rest)) (kf : ¬ x = y → W p l e R s m args below meth c H locs cells slots Q (F0 m (pc + 1 + 3) ls rest)) : W p l e R s m args below meth c H locs cells slots Q (F0 m pc ls (.long y :: .long x :: rest)) :=
  W.lcmp hx hb d1 (lv_if_eq hx hb d2 ht (fun h => kt ((lg_cmp_eq x y).mp h)) (fun h => kf (fun z => h ((lg_cmp_eq x y).mpr z))))
theorem lp_ne {cc : ByteArray} (hx : p.tables.exec = Jvm.exec) (hb : c.code = cc) {x y : Int64} {off : Int} {tgt : Nat} (d1 : decode cc pc = .ok (.lcmp, 1)) (d2 : decode cc (pc + 1) = .ok (.ifCond .ne off, 3)) (ht : ((pc + 1 : Nat) : Int) + off = (tgt : Int))
    (kt : ¬ x = y → W p l e R s m args below meth c H locs cells slots Q (F0 m tgt ls rest)) (kf : x = y → W p l e R s m args below meth c H locs cells slots Q (F0 m (pc + 1 + 3) ls rest)) : W p l e R s m args below meth c H locs cells slots Q (F0 m pc ls (.long y :: .long x :: rest)) :=
  W.lcmp hx hb d1 (lv_if_ne hx hb d2 ht (fun h => kt (fun z => h ((lg_cmp_eq x y).mpr z))) (fun h => kf ((lg_cmp_eq x y).mp h)))
end PMC
-- the two constants of Format
def KQ (fb le : Int32) (inf sb : Int64) (q : Nat) (A : Nat → Prop) (U : State) (H : Heap) : Prop := va_O RX0 q A U H ∧ va_OF "ThrowModels$Format" "fractionBits" "I" (.int fb) q A U H ∧ va_OF "ThrowModels$Format" "lowestExponent" "I" (.int le) q A U H ∧ va_OF "ThrowModels$Format" "infinity" "J" (.long inf) q A U H ∧ va_OF "ThrowModels$Format" "signBit" "J" (.long sb) q A U H
theorem KQ.all {fb le : Int32} {inf sb : Int64} {q : Nat} {A B : Nat → Prop} {s U : State} {H H1 : Heap} (h : KQ fb le inf sb q A s H) (hv : s.vm.Alike U.vm) (hk : ∀ a : Nat, a < H.size → ¬ A a → H1[a]? = H[a]?) (hAB : ∀ q, B q → A q) : KQ fb le inf sb q B U H1 :=
  ⟨((h.1.moved hv).kept hk).narrow hAB, ((h.2.1.moved hv).kept hk).narrow hAB, ((h.2.2.1.moved hv).kept hk).narrow hAB, ((h.2.2.2.1.moved hv).kept hk).narrow hAB, ((h.2.2.2.2.moved hv).kept hk).narrow hAB⟩
def KF (dD dF : Nat) (A : Nat → Prop) (U : State) (H : Heap) : Prop := va_Z "ThrowModels$Format" "DOUBLE" "LThrowModels$Format;" (.ref dD) A U H ∧ va_Z "ThrowModels$Format" "FLOAT" "LThrowModels$Format;" (.ref dF) A U H ∧ KQ 52 (-1074) 9218868437227405312 (-9223372036854775808) dD A U H ∧ KQ 23 (-149) 2139095040 2147483648 dF A U H
theorem KF.all {dD dF : Nat} {A B : Nat → Prop} {s U : State} {H H1 : Heap} (h : KF dD dF A s H) (hv : s.vm.Alike U.vm) (hk : ∀ a : Nat, a < H.size → ¬ A a → H1[a]? = H[a]?) (hAB : ∀ q, B q → A q) : KF dD dF B U H1 :=
  ⟨((h.1.moved hv).kept hk).narrow hAB, ((h.2.1.moved hv).kept hk).narrow hAB, h.2.2.1.all hv hk hAB, h.2.2.2.all hv hk hAB⟩
theorem pv_in {A : Nat → Prop} : ∀ q, pv_N q → A q := fun _ h => h.elim
theorem KQ.call {fb le : Int32} {inf sb : Int64} {q : Nat} {A : Nat → Prop} {s : State} {H : Heap} {locs : List Loc} (h : KQ fb le inf sb q A s s.heap) (hS : va_S A s.heap H locs) (U : State) (hU : U.heap = H) (hW : s.WarmedH U.vm) : KQ fb le inf sb q pv_N U U.heap :=
  h.all hW.alike (by rw [hU]; exact hS.2.1) pv_in
theorem KF.call {dD dF : Nat} {A : Nat → Prop} {s : State} {H : Heap} {locs : List Loc} (h : KF dD dF A s s.heap) (hS : va_S A s.heap H locs) (U : State) (hU : U.heap = H) (hW : s.WarmedH U.vm) : KF dD dF pv_N U U.heap :=
  h.all hW.alike (by rw [hU]; exact hS.2.1) pv_in
theorem KQ.fb {fb le : Int32} {inf sb : Int64} {q : Nat} {as : List Value} : FrameBlind (va_Pc as (fun U => KQ fb le inf sb q pv_N U U.heap)) := pm_fb (fun U _ _ _ h => KQ.all (s := U) h (Vm.Alike.refl U.vm) (fun _ _ _ => rfl) (fun _ z => z))
theorem KQ.fb2 {fb le : Int32} {inf sb : Int64} {q : Nat} {fb' le' : Int32} {inf' sb' : Int64} {q' : Nat} {as : List Value} : FrameBlind (va_Pc as (fun U => KQ fb le inf sb q pv_N U U.heap ∧ KQ fb' le' inf' sb' q' pv_N U U.heap)) := pm_fb (fun U _ _ _ h => ⟨KQ.all (s := U) h.1 (Vm.Alike.refl U.vm) (fun _ _ _ => rfl) (fun _ z => z), KQ.all (s := U) h.2 (Vm.Alike.refl U.vm) (fun _ _ _ => rfl) (fun _ z => z)⟩)
theorem KF.fb {dD dF : Nat} {as : List Value} : FrameBlind (va_Pc as (fun U => KF dD dF pv_N U U.heap)) := pm_fb (fun U _ _ _ h => KF.all (s := U) h (Vm.Alike.refl U.vm) (fun _ _ _ => rfl) (fun _ z => z))
-- shifts under names
def lUshr (x : Int64) (y : Int32) : Int64 := (x.toUInt64 >>> (y.toInt64.toUInt64 &&& Int64.toUInt64 63)).toInt64
def lShl (x : Int64) (y : Int32) : Int64 := x <<< (y.toInt64 &&& 63)
def lShr (x : Int64) (y : Int32) : Int64 := x >>> (y.toInt64 &&& 63)
def iUshr (x y : Int32) : Int32 := (x.toUInt32 >>> (y.toUInt32 &&& Int32.toUInt32 31)).toInt32
theorem nz_0 : narrow .boolean (.int 0) = .int 0 := by decide
theorem nz_1 : narrow .boolean (.int 1) = .int 1 := by decide
theorem nz_of {v : Int32} (h : v = 0 ∨ v = 1) : narrow .boolean (.int v) = .int v := by rcases h with rfl | rfl <;> decide
