/-! ===== heap: a world is a list of addresses and what stands at each, by functions ===== -/
/-- kinds of cells; int fields; reference fields; lengths; rows of ints, of longs, of references: by address -/
abbrev HS : Type := (Nat → Nat) × (Nat → Nat → Int32) × (Nat → Nat → Option Nat) × (Nat → Nat) × (Nat → Nat → Int32) × (Nat → Nat → Int64) × (Nat → Nat → Option Nat)
abbrev hsK (S : HS) : Nat → Nat := S.1
abbrev hsI (S : HS) : Nat → Nat → Int32 := S.2.1
abbrev hsQ (S : HS) : Nat → Nat → Option Nat := S.2.2.1
abbrev hsN (S : HS) : Nat → Nat := S.2.2.2.1
abbrev hsA (S : HS) : Nat → Nat → Int32 := S.2.2.2.2.1
abbrev hsJ (S : HS) : Nat → Nat → Int64 := S.2.2.2.2.2.1
abbrev hsR (S : HS) : Nat → Nat → Option Nat := S.2.2.2.2.2.2
def up2 {α : Type} (f : Nat → Nat → α) (a k : Nat) (v : α) : Nat → Nat → α := fun b j => if b = a then (if j = k then v else f a j) else f b j
abbrev hwI (S : HS) (a k : Nat) (v : Int32) : HS := (S.1, up2 S.2.1 a k v, S.2.2)
abbrev hwQ (S : HS) (a k : Nat) (v : Option Nat) : HS := (S.1, S.2.1, up2 S.2.2.1 a k v, S.2.2.2)
abbrev hwA (S : HS) (a k : Nat) (v : Int32) : HS := (S.1, S.2.1, S.2.2.1, S.2.2.2.1, up2 S.2.2.2.2.1 a k v, S.2.2.2.2.2)
abbrev hwJ (S : HS) (a k : Nat) (v : Int64) : HS := (S.1, S.2.1, S.2.2.1, S.2.2.2.1, S.2.2.2.2.1, up2 S.2.2.2.2.2.1 a k v, S.2.2.2.2.2.2)
abbrev hwR (S : HS) (a k : Nat) (v : Option Nat) : HS := (S.1, S.2.1, S.2.2.1, S.2.2.2.1, S.2.2.2.2.1, S.2.2.2.2.2.1, up2 S.2.2.2.2.2.2 a k v)
/-- the classes' numbers, the places of their fields, the array classes, the two constants -/
abbrev GE : Type := (Nat → ClassId) × (Nat → Nat → Nat) × ClassId × ClassId × ClassId × Nat × Nat
abbrev gD (G : GE) : va_G := (G.1, G.2.1)
abbrev gI (G : GE) : ClassId := G.2.2.1
abbrev gJ (G : GE) : ClassId := G.2.2.2.1
abbrev gO (G : GE) : ClassId := G.2.2.2.2.1
abbrev gd (G : GE) : Nat := G.2.2.2.2.2.1
abbrev gf (G : GE) : Nat := G.2.2.2.2.2.2
abbrev gT (G : GE) : List (ClassId × FieldType) := [(gI G, .int), (gJ G, .long), (gO G, .object "ThrowModels$Thing")]
/-- what stands at an address. Fields of things: 0 kind, 1 length, 2 value or row, in this order in 'hsI' and 'hsQ' -/
def PF (G : GE) (S : HS) (a : Nat) : va_E := match hsK S a with
  | 1 => .inr (1, [.int (hsI S a 0), .int (hsI S a 1), va_rf (hsQ S a 2)])
  | 2 => .inr (2, [.int (hsI S a 0), .int (hsI S a 1), .int (hsI S a 2)])
  | 3 => .inr (3, [.int (hsI S a 2), .int (hsI S a 0), .int (hsI S a 1)])
  | 4 => .inr (4, [.int (hsI S a 2), .int (hsI S a 0), .int (hsI S a 1)])
  | 5 => .inr (5, [.int (hsI S a 0), .int (hsI S a 1), va_rf (hsQ S a 2)])
  | 6 => .inr (6, [va_rf (hsQ S a 0), va_rf (hsQ S a 1), .int (hsI S a 2), .int (hsI S a 3)])
  | 7 => .inr (7, [va_rf (hsQ S a 0), va_rf (hsQ S a 1), va_rf (hsQ S a 2), .int (hsI S a 3), va_rf (hsQ S a 4), .int (hsI S a 5), va_rf (hsQ S a 6), .int (hsI S a 7), va_rf (hsQ S a 8), .int (hsI S a 9), va_rf (hsQ S a 10), .int (hsI S a 11)])
  | 8 => .inl (gI G, (hsN S a, .inl (hsA S a)))
  | 9 => .inl (gJ G, (hsN S a, .inr (.inl (hsJ S a))))
  | _ => .inl (gO G, (hsN S a, .inr (.inr (.inr (.inr (hsR S a))))))
theorem PF_1 {G : GE} {S : HS} {a : Nat} (h : hsK S a = 1) : PF G S a = .inr (1, [.int (hsI S a 0), .int (hsI S a 1), va_rf (hsQ S a 2)]) := by unfold PF; rw [h]; rfl
theorem PF_2 {G : GE} {S : HS} {a : Nat} (h : hsK S a = 2) : PF G S a = .inr (2, [.int (hsI S a 0), .int (hsI S a 1), .int (hsI S a 2)]) := by unfold PF; rw [h]; rfl
theorem PF_3 {G : GE} {S : HS} {a : Nat} (h : hsK S a = 3) : PF G S a = .inr (3, [.int (hsI S a 2), .int (hsI S a 0), .int (hsI S a 1)]) := by unfold PF; rw [h]; rfl
theorem PF_4 {G : GE} {S : HS} {a : Nat} (h : hsK S a = 4) : PF G S a = .inr (4, [.int (hsI S a 2), .int (hsI S a 0), .int (hsI S a 1)]) := by unfold PF; rw [h]; rfl
theorem PF_5 {G : GE} {S : HS} {a : Nat} (h : hsK S a = 5) : PF G S a = .inr (5, [.int (hsI S a 0), .int (hsI S a 1), va_rf (hsQ S a 2)]) := by unfold PF; rw [h]; rfl
theorem PF_6 {G : GE} {S : HS} {a : Nat} (h : hsK S a = 6) : PF G S a = .inr (6, [va_rf (hsQ S a 0), va_rf (hsQ S a 1), .int (hsI S a 2), .int (hsI S a 3)]) := by unfold PF; rw [h]; rfl
theorem PF_7 {G : GE} {S : HS} {a : Nat} (h : hsK S a = 7) : PF G S a = .inr (7, [va_rf (hsQ S a 0), va_rf (hsQ S a 1), va_rf (hsQ S a 2), .int (hsI S a 3), va_rf (hsQ S a 4), .int (hsI S a 5), va_rf (hsQ S a 6), .int (hsI S a 7), va_rf (hsQ S a 8), .int (hsI S a 9), va_rf (hsQ S a 10), .int (hsI S a 11)]) := by unfold PF; rw [h]; rfl
theorem PF_8 {G : GE} {S : HS} {a : Nat} (h : hsK S a = 8) : PF G S a = .inl (gI G, (hsN S a, .inl (hsA S a))) := by unfold PF; rw [h]; rfl
theorem PF_9 {G : GE} {S : HS} {a : Nat} (h : hsK S a = 9) : PF G S a = .inl (gJ G, (hsN S a, .inr (.inl (hsJ S a)))) := by unfold PF; rw [h]; rfl
theorem PF_10 {G : GE} {S : HS} {a : Nat} (h : hsK S a = 10) : PF G S a = .inl (gO G, (hsN S a, .inr (.inr (.inr (.inr (hsR S a)))))) := by unfold PF; rw [h]; rfl
theorem up2_self {α : Type} (f : Nat → Nat → α) (a k : Nat) (v : α) : up2 f a k v a = fun j => if j = k then v else f a j := by funext j; simp [up2]
theorem up2_at {α : Type} (f : Nat → Nat → α) (a k : Nat) (v : α) : up2 f a k v a k = v := by simp [up2]
theorem up2_ne {α : Type} (f : Nat → Nat → α) {a b : Nat} (k : Nat) (v : α) (h : b ≠ a) : up2 f a k v b = f b := by funext j; simp [up2, h]
theorem up2_nk {α : Type} (f : Nat → Nat → α) (a : Nat) {k j : Nat} (v : α) (h : j ≠ k) : up2 f a k v a j = f a j := by simp [up2, h]
/-- a cell that is another keeps what it holds -/
theorem PF_wI {G : GE} {S : HS} {a k b : Nat} {v : Int32} (h : b ≠ a) : PF G (hwI S a k v) b = PF G S b := by simp only [PF, hsK, hsI, hsQ, hsN, hsA, hsJ, hsR, hwI, up2_ne _ _ _ h]
theorem PF_wQ {G : GE} {S : HS} {a k b : Nat} {v : Option Nat} (h : b ≠ a) : PF G (hwQ S a k v) b = PF G S b := by simp only [PF, hsK, hsI, hsQ, hsN, hsA, hsJ, hsR, hwQ, up2_ne _ _ _ h]
theorem PF_wA {G : GE} {S : HS} {a k b : Nat} {v : Int32} (h : b ≠ a) : PF G (hwA S a k v) b = PF G S b := by simp only [PF, hsK, hsI, hsQ, hsN, hsA, hsJ, hsR, hwA, up2_ne _ _ _ h]
theorem PF_wJ {G : GE} {S : HS} {a k b : Nat} {v : Int64} (h : b ≠ a) : PF G (hwJ S a k v) b = PF G S b := by simp only [PF, hsK, hsI, hsQ, hsN, hsA, hsJ, hsR, hwJ, up2_ne _ _ _ h]
theorem PF_wR {G : GE} {S : HS} {a k b : Nat} {v : Option Nat} (h : b ≠ a) : PF G (hwR S a k v) b = PF G S b := by simp only [PF, hsK, hsI, hsQ, hsN, hsA, hsJ, hsR, hwR, up2_ne _ _ _ h]
theorem PF_up {f g : Nat → va_E} {a : Nat} {e : va_E} (h1 : g a = e) (h2 : ∀ b, b ≠ a → g b = f b) (b : Nat) : va_up f a e b = g b := by
  by_cases hb : b = a
  · subst hb; rw [va_up_self, h1]
  · rw [va_up_ne _ _ hb, h2 b hb]
/-- a choice by a reference that may be null -/
def oq {α β : Type} (o : Option α) (n : β) (s : α → β) : β := match o with
  | none => n
  | some a => s a
theorem oq_none {α β : Type} {o : Option α} {n : β} {s : α → β} (h : o = none) : oq o n s = n := by rw [h]; rfl
theorem oq_some {α β : Type} {o : Option α} {a : α} {n : β} {s : α → β} (h : o = some a) : oq o n s = s a := by rw [h]; rfl
theorem rf_get {o : Option Nat} (h : o ≠ none) : va_rf o = .ref (o.getD 0) := by cases o with
  | none => exact absurd rfl h
  | some a => rfl
theorem some_get {o : Option Nat} (h : o ≠ none) : o = some (o.getD 0) := by cases o with
  | none => exact absurd rfl h
  | some a => rfl
/-- what Square.mark needs: super.mark(), which Round has from Plain -/
def wsMK : List Cond := [.methodLink RX5 15 ⟨"ThrowModels$Round", "mark", "()I"⟩, .sameMethod "ThrowModels$Round" "ThrowModels$Plain" "mark" "()I", .superclass RX5 RX4, .superclass RX4 RX2, .instanceMethod yX2_mark, .initialized RX2] ++ wsX2_mark
theorem wsMK_good : GoodIn wsMK wsMK := goodIn_of _ (by decide +kernel)
def KM (U : State) : Prop := ∀ w ∈ wsMK, ∀ a : Array Value, w.before a U = true
theorem KM.warm {s U : State} (hW : s.WarmedH U.vm) (h : KM s) : KM U := fun w hw a => pay_in (args := #[]) (fun w h9 => h w h9 #[]) wsMK_good w hw a U hW
theorem KM.same {s U : State} (hv : s.vm = U.vm) (h : KM s) : KM U := KM.warm (hv ▸ State.WarmedH.refl s) h
/-- the class tables' facts of casts -/
def KC (U : State) : Prop := (va_Nw (.castable RX1 RX6) U ∧ va_Nw (.castable RX2 RX6) U ∧ va_Nw (.castable RX4 RX6) U ∧ va_Nw (.castable RX5 RX6) U ∧ va_Nw (.castable RX7 RX6) U) ∧ (va_Nw (.castable RX4 RX2) U ∧ va_Nw (.castable RX5 RX2) U) ∧ (va_Nc RX2 RX1 U ∧ va_Nc RX4 RX1 U ∧ va_Nc RX5 RX1 U ∧ va_Nc RX7 RX1 U) ∧ (va_Nc RX1 RX7 U ∧ va_Nc RX2 RX7 U ∧ va_Nc RX4 RX7 U ∧ va_Nc RX5 RX7 U) ∧ (va_Nc RX1 RX2 U ∧ va_Nc RX7 RX2 U) ∧ va_AO "ThrowModels$Thing" U ∧ KM U
theorem KC.warm {s U : State} (hW : s.WarmedH U.vm) (h : KC s) : KC U := by
  obtain ⟨⟨a1, a2, a3, a4, a5⟩, ⟨b1, b2⟩, ⟨c1, c2, c3, c4⟩, ⟨d1, d2, d3, d4⟩, ⟨e1, e2⟩, f, w⟩ := h
  have hv := hW.alike
  exact ⟨⟨va_Nw.warmC hW a1, va_Nw.warmC hW a2, va_Nw.warmC hW a3, va_Nw.warmC hW a4, va_Nw.warmC hW a5⟩, ⟨va_Nw.warmC hW b1, va_Nw.warmC hW b2⟩, ⟨c1.moved hv, c2.moved hv, c3.moved hv, c4.moved hv⟩, ⟨d1.moved hv, d2.moved hv, d3.moved hv, d4.moved hv⟩, ⟨e1.moved hv, e2.moved hv⟩, va_AO.moved hv f, w.warm hW⟩
theorem KC.same {s U : State} (hv : s.vm = U.vm) (h : KC s) : KC U := by
  obtain ⟨⟨a1, a2, a3, a4, a5⟩, ⟨b1, b2⟩, ⟨c1, c2, c3, c4⟩, ⟨d1, d2, d3, d4⟩, ⟨e1, e2⟩, f, w⟩ := h
  have hva : s.vm.Alike U.vm := hv ▸ Vm.Alike.refl s.vm
  exact ⟨⟨va_Nw.same rfl hv a1, va_Nw.same rfl hv a2, va_Nw.same rfl hv a3, va_Nw.same rfl hv a4, va_Nw.same rfl hv a5⟩, ⟨va_Nw.same rfl hv b1, va_Nw.same rfl hv b2⟩, ⟨c1.moved hva, c2.moved hva, c3.moved hva, c4.moved hva⟩, ⟨d1.moved hva, d2.moved hva, d3.moved hva, d4.moved hva⟩, ⟨e1.moved hva, e2.moved hva⟩, va_AO.moved hva f, w.same hv⟩
abbrev AL (L : List Nat) : Nat → Prop := fun q => q ∈ L
def EX (G : GE) (A : Nat → Prop) (U : State) (H : Heap) : Prop := KF (gd G) (gf G) A U H ∧ KC U
theorem nd_D {L : List Nat} (h : L.Nodup) (f : Nat → va_E) : va_D (AL L) (va_pl L f) := by
  have at' : ∀ (k : Nat) (q : Nat × va_E), (va_pl L f)[k]? = some q → L[k]? = some q.1 := by
    intro k q hk
    unfold va_pl at hk
    rw [List.getElem?_map] at hk
    cases hL : L[k]? with
    | none => rw [hL] at hk; cases hk
    | some a => rw [hL] at hk; cases hk; rfl
  refine ⟨fun i j p q hi hj hpq => ?_, fun k q hk => List.mem_of_getElem? (at' k q hk)⟩
  have h1 := at' i p hi
  have h2 := at' j q hj
  rw [hpq, ← h2] at h1
  obtain ⟨hl, -⟩ := List.getElem?_eq_some_iff.mp (h1.trans h2)
  exact (List.getElem?_inj hl h).mp h1
/-- the world of a method: the cells, the tables, the constants -/
def HW (G : GE) (L : List Nat) (S : HS) (U : State) : Prop := va_P (gD G) vwCl (va_pl L (PF G S)) U.heap ∧ va_K (gD G) vwCl (gT G) U ∧ L.Nodup ∧ EX G (AL L) U U.heap
theorem HW.fb {G : GE} {L : List Nat} {S : HS} {as : List Value} : FrameBlind (va_Pc as (HW G L S)) := pm_fb (fun U g mk a h => ⟨h.1, va_K.moved (u := U) (Vm.Alike.refl U.vm) h.2.1, h.2.2.1, KF.all (s := U) h.2.2.2.1 (Vm.Alike.refl U.vm) (fun _ _ _ => rfl) (fun _ z => z), KC.same (s := U) (U := U.calling g mk a) rfl h.2.2.2.2⟩)
theorem HW.call {G : GE} {L : List Nat} {S : HS} {s : State} {H : Heap} {locs : List Loc} (hP : va_P (gD G) vwCl (va_pl L (PF G S)) H) (hK : va_K (gD G) vwCl (gT G) s) (hnd : L.Nodup) (hE : EX G (AL L) s s.heap) (hS : va_S (AL L) s.heap H locs) (U : State) (hU : U.heap = H) (hW : s.WarmedH U.vm) : HW G L S U :=
  ⟨by rw [hU]; exact hP, va_K.moved hW.alike hK, hnd, hE.1.all hW.alike (by rw [hU]; exact hS.2.1) (fun _ z => z), hE.2.warm hW⟩
abbrev hm_QI (G : GE) (L : List Nat) (pr : Int32 × HS) : Array Value → State → Outcome → State → Prop := va_Qi (fun (r : Int32) (_ : Unit) => r = pr.1) (fun _ t => HW G L pr.2 t) (AL L)
abbrev hm_QL (G : GE) (L : List Nat) (pr : Int64 × HS) : Array Value → State → Outcome → State → Prop := va_Ql (fun (r : Int64) (_ : Unit) => r = pr.1) (fun _ t => HW G L pr.2 t) (AL L)
abbrev hm_QV (G : GE) (L : List Nat) (pr : HS) : Array Value → State → Outcome → State → Prop := va_Qv (fun (_ : Unit) => True) (fun _ t => HW G L pr t) (AL L)
abbrev hm_QQ (G : GE) (L : List Nat) (pr : Option Nat × HS) : Array Value → State → Outcome → State → Prop := va_Qq (fun (r : Option Nat) (_ : Unit) => r = pr.1) (fun _ t => HW G L pr.2 t) (AL L)
def HmI (l : Launch) (G : GE) (y : MethodName) (ws : List Cond) (fr lo : Nat) (as : List Value) (L : List Nat) (S : HS) (pr : Int32 × HS) : Prop := Met l y ws (pm_R fr lo) (va_Pc as (HW G L S)) (hm_QI G L pr) 0 0 (AL L)
def HmL (l : Launch) (G : GE) (y : MethodName) (ws : List Cond) (fr lo : Nat) (as : List Value) (L : List Nat) (S : HS) (pr : Int64 × HS) : Prop := Met l y ws (pm_R fr lo) (va_Pc as (HW G L S)) (hm_QL G L pr) 0 0 (AL L)
def HmV (l : Launch) (G : GE) (y : MethodName) (ws : List Cond) (fr lo : Nat) (as : List Value) (L : List Nat) (S : HS) (pr : HS) : Prop := Met l y ws (pm_R fr lo) (va_Pc as (HW G L S)) (hm_QV G L pr) 0 0 (AL L)
def HmQ (l : Launch) (G : GE) (y : MethodName) (ws : List Cond) (fr lo : Nat) (as : List Value) (L : List Nat) (S : HS) (pr : Option Nat × HS) : Prop := Met l y ws (pm_R fr lo) (va_Pc as (HW G L S)) (hm_QQ G L pr) 0 0 (AL L)
section HMC
variable {p : Program} {l : Launch} {e : Env} {R : Room} {s : State} {m : MethodId} {args : Array Value} {below : List Frame} {meth : Method} {c : Code} {H : Heap} {locs : List Loc} {cells slots : Nat} {Q : State → Prop}
variable {pc : Nat} {ls : Array Slot} {rest st0 : List Value} {a : Array Value} {G : GE} {L : List Nat} {S1 : HS}
theorem hm_callI {pr : Int32 × HS} (hr : va_Run p l e R s m args below meth c H locs cells slots 0 0 (F0 m pc ls st0) rest (hm_QI G L pr a) (AL L)) (hS : va_S (AL L) s.heap H locs)
    (kk : ∀ (H1 : Heap) (locs1 : List Loc), va_P (gD G) vwCl (va_pl L (PF G pr.2)) H1 → va_S (AL L) s.heap H1 locs1 → W p l e R s m args below meth c H1 locs1 cells slots Q (F0 m (pc + 3) ls (.int pr.1 :: rest))) : W p l e R s m args below meth c H locs cells slots Q (F0 m pc ls st0) :=
  va_calli hr hS (fun _ _ h => h) (fun _ h => h) (fun _ _ t H1 locs1 ht _ hw hB _ _ hS => by subst hw; exact kk H1 locs1 (by rw [← ht]; exact hB.1) hS)
theorem hm_callL {pr : Int64 × HS} (hr : va_Run p l e R s m args below meth c H locs cells slots 0 0 (F0 m pc ls st0) rest (hm_QL G L pr a) (AL L)) (hS : va_S (AL L) s.heap H locs)
    (kk : ∀ (H1 : Heap) (locs1 : List Loc), va_P (gD G) vwCl (va_pl L (PF G pr.2)) H1 → va_S (AL L) s.heap H1 locs1 → W p l e R s m args below meth c H1 locs1 cells slots Q (F0 m (pc + 3) ls (.long pr.1 :: rest))) : W p l e R s m args below meth c H locs cells slots Q (F0 m pc ls st0) :=
  va_calll hr hS (fun _ _ h => h) (fun _ h => h) (fun _ _ t H1 locs1 ht _ hw hB _ _ hS => by subst hw; exact kk H1 locs1 (by rw [← ht]; exact hB.1) hS)
theorem hm_callV {pr : HS} (hr : va_Run p l e R s m args below meth c H locs cells slots 0 0 (F0 m pc ls st0) rest (hm_QV G L pr a) (AL L)) (hS : va_S (AL L) s.heap H locs)
    (kk : ∀ (H1 : Heap) (locs1 : List Loc), va_P (gD G) vwCl (va_pl L (PF G pr)) H1 → va_S (AL L) s.heap H1 locs1 → W p l e R s m args below meth c H1 locs1 cells slots Q (F0 m (pc + 3) ls rest)) : W p l e R s m args below meth c H locs cells slots Q (F0 m pc ls st0) :=
  va_callv hr hS (fun _ _ h => h) (fun _ h => h) (fun _ t H1 locs1 ht _ _ hB _ _ hS => kk H1 locs1 (by rw [← ht]; exact hB.1) hS)
theorem hm_callQ {pr : Option Nat × HS} (hr : va_Run p l e R s m args below meth c H locs cells slots 0 0 (F0 m pc ls st0) rest (hm_QQ G L pr a) (AL L)) (hS : va_S (AL L) s.heap H locs)
    (kk : ∀ (H1 : Heap) (locs1 : List Loc), va_P (gD G) vwCl (va_pl L (PF G pr.2)) H1 → va_S (AL L) s.heap H1 locs1 → W p l e R s m args below meth c H1 locs1 cells slots Q (F0 m (pc + 3) ls (va_rf pr.1 :: rest))) : W p l e R s m args below meth c H locs cells slots Q (F0 m pc ls st0) :=
  va_callq hr hS (fun _ _ h => h) (fun _ h => h) (fun _ _ t H1 locs1 ht _ hw hB _ _ hS => by subst hw; exact kk H1 locs1 (by rw [← ht]; exact hB.1) hS)
-- the ends
theorem hm_iret {cc : ByteArray} {v : Int32} {pr : Int32 × HS} (hx : p.tables.exec = Jvm.exec) (hb : c.code = cc) (hr : meth.sig.returnType = some .int) (hlocks : meth.locks = false) (hS : va_S (AL L) s.heap H locs) (hP : va_P (gD G) vwCl (va_pl L (PF G S1)) H) (hK : va_K (gD G) vwCl (gT G) s) (hnd : L.Nodup) (hE : EX G (AL L) s s.heap) (heq : pr = (v, S1))
    (hdg : decode cc pc = .ok (.ireturn, 1)) : W p l e R s m args below meth c H locs cells slots (MQ below (hm_QI G L pr) args s cells slots (AL L)) (F0 m pc ls [.int v]) := by
  subst heq
  exact W.iret (v := v) hx hb hr (fun t ht hW => ⟨⟨v, (), rfl, rfl, HW.call hP hK hnd hE hS t ht hW⟩, hS.F ht⟩) hS.2.2 hdg
theorem hm_zret {cc : ByteArray} {v : Int32} {pr : Int32 × HS} {ty : FieldType} (hx : p.tables.exec = Jvm.exec) (hb : c.code = cc) (hr : meth.sig.returnType = some ty) (hlocks : meth.locks = false) (hS : va_S (AL L) s.heap H locs) (hn : narrow ty (.int v) = .int v) (hP : va_P (gD G) vwCl (va_pl L (PF G S1)) H) (hK : va_K (gD G) vwCl (gT G) s) (hnd : L.Nodup) (hE : EX G (AL L) s s.heap) (heq : pr = (v, S1))
    (hdg : decode cc pc = .ok (.ireturn, 1)) : W p l e R s m args below meth c H locs cells slots (MQ below (hm_QI G L pr) args s cells slots (AL L)) (F0 m pc ls [.int v]) := by
  subst heq
  exact W.zret (v := v) hx hb hr hn (fun t ht hW => ⟨⟨v, (), rfl, rfl, HW.call hP hK hnd hE hS t ht hW⟩, hS.F ht⟩) hS.2.2 hdg
theorem hm_lret {cc : ByteArray} {v : Int64} {pr : Int64 × HS} (hx : p.tables.exec = Jvm.exec) (hb : c.code = cc) (hr : meth.sig.returnType = some .long) (hlocks : meth.locks = false) (hS : va_S (AL L) s.heap H locs) (hP : va_P (gD G) vwCl (va_pl L (PF G S1)) H) (hK : va_K (gD G) vwCl (gT G) s) (hnd : L.Nodup) (hE : EX G (AL L) s s.heap) (heq : pr = (v, S1))
    (hdg : decode cc pc = .ok (.lreturn, 1)) : W p l e R s m args below meth c H locs cells slots (MQ below (hm_QL G L pr) args s cells slots (AL L)) (F0 m pc ls [.long v]) := by
  subst heq
  exact W.lret (v := v) hx hb hr (fun t ht hW => ⟨⟨v, (), rfl, rfl, HW.call hP hK hnd hE hS t ht hW⟩, hS.F ht⟩) hS.2.2 hdg
theorem hm_vret {cc : ByteArray} {pr : HS} (hx : p.tables.exec = Jvm.exec) (hb : c.code = cc) (hr : meth.sig.returnType = none) (hlocks : meth.locks = false) (hS : va_S (AL L) s.heap H locs) (hP : va_P (gD G) vwCl (va_pl L (PF G S1)) H) (hK : va_K (gD G) vwCl (gT G) s) (hnd : L.Nodup) (hE : EX G (AL L) s s.heap) (heq : pr = S1)
    (hdg : decode cc pc = .ok (.return_, 1)) : W p l e R s m args below meth c H locs cells slots (MQ below (hm_QV G L pr) args s cells slots (AL L)) (F0 m pc ls []) := by
  subst heq
  exact W.vret hx hb hr (fun t ht hW => ⟨⟨(), rfl, trivial, HW.call hP hK hnd hE hS t ht hW⟩, hS.F ht⟩) hS.2.2 hdg
-- rows over such a world
variable {cc : ByteArray} {D : va_G} {cl : List vw_C} {tys : List (ClassId × FieldType)} {f : Nat → va_E} {x : Nat} {A : Nat → Prop} {H0 : Heap}
theorem hp_get (hexec : p.tables.exec = Jvm.exec) (hb : c.code = cc) {own ref C : String} {T : u_T} {N ci index : Nat} {Ts : List Cond} (hts : ∀ w ∈ Ts, w.before args s = true) (hin : ∀ w ∈ u_ws C T N, w ∈ Ts) (hown : s.vm.findClass own = some m.cls) (hK : va_K D cl tys s) (hP : va_P D cl (va_pl L f) H) (ha : x ∈ L) {fs : List Value} (he : f x = .inr (ci, fs)) (hc : cl[ci]? = some (C, T, N)) (k : Nat) (hk : k < N) (hlink : (Cond.fieldLink own index ref (T k).2.1 (T k).2.2.1).before args s = true) (hsame : ∀ x, s.fieldFound? (T k).1 (T k).2.1 (T k).2.2.1 = some x → s.fieldFound? ref (T k).2.1 (T k).2.2.1 = some x) {v : Value} (hv : fs[k]? = some v) (hdg : decode cc pc = .ok (.getfield index, 3))
    (kk : W p l e R s m args below meth c H locs cells slots Q (F0 m (pc + 3) ls (v :: rest))) : W p l e R s m args below meth c H locs cells slots Q (F0 m pc ls (.ref x :: rest)) := by
  obtain ⟨k0, hk0⟩ := va_pl_get (X := []) (f := f) ha
  exact va_get hexec hb hts hin hown hK hP k0 (by rw [← he]; exact hk0) hc k hk hlink hsame hv hdg kk
theorem hp_put (hexec : p.tables.exec = Jvm.exec) (hb : c.code = cc) {own ref C : String} {T : u_T} {N ci index : Nat} {Ts : List Cond} (hts : ∀ w ∈ Ts, w.before args s = true) (hin : ∀ w ∈ u_ws C T N, w ∈ Ts) (ty0 : Nat → FieldType) (hty : ∀ k, k < N → parseFieldDescriptor (T k).2.2.1 = some (ty0 k)) (hnm : ∀ a, a < N → ∀ b, b < N → a ≠ b → (T a).2.1 ≠ (T b).2.1) (hown : s.vm.findClass own = some m.cls) (hK : va_K D cl tys s) (hP : va_P D cl (va_pl L f) H) (hD : va_D A (va_pl L f)) (hS0 : va_S A H0 H locs) (ha : x ∈ L) {fs : List Value} (he : f x = .inr (ci, fs)) (hc : cl[ci]? = some (C, T, N)) (k : Nat) (hk : k < N) (hlink : (Cond.fieldLink own index ref (T k).2.1 (T k).2.2.1).before args s = true) (hsame : ∀ x, s.fieldFound? (T k).1 (T k).2.1 (T k).2.2.1 = some x → s.fieldFound? ref (T k).2.1 (T k).2.2.1 = some x) (hfin : (T k).2.2.2 = false) {ty : FieldType} {v : Value} (hd : parseFieldDescriptor (T k).2.2.1 = some ty) (hn : narrow ty v = v) (hfit : fits ty v = true) (hl : k < fs.length) {g : Nat → va_E} (h1 : g x = .inr (ci, fs.set k v)) (h2 : ∀ b, b ≠ x → g b = f b)
    (hdg : decode cc pc = .ok (.putfield index, 3)) (kk : ∀ (H1 : Heap) (locs1 : List Loc), va_P D cl (va_pl L g) H1 → va_S A H0 H1 locs1 → W p l e R s m args below meth c H1 locs1 cells slots Q (F0 m (pc + 3) ls rest)) : W p l e R s m args below meth c H locs cells slots Q (F0 m pc ls (v :: .ref x :: rest)) := by
  obtain ⟨k0, hk0⟩ := va_pl_get (X := []) (f := f) ha
  refine va_put hexec hb hts hin ty0 hty hnm hown hK hP hD hS0 k0 (by rw [← he]; exact hk0) hc k hk hlink hsame hfin hd hn hfit hl hdg (fun H1 locs1 q1 _ q3 => kk H1 locs1 ?_ q3)
  have e1 := va_pl_set (X := []) (e := .inr (ci, fs.set k v)) hD ha hk0
  rw [List.nil_append, List.nil_append, va_pl_congr (PF_up h1 h2)] at e1
  rw [e1] at q1
  exact q1
theorem hp_iald (hexec : p.tables.exec = Jvm.exec) (hb : c.code = cc) (hK : va_K D cl tys s) (hP : va_P D cl (va_pl L f) H) (ha : x ∈ L) (t0 : Nat) {cA : ClassId} {n : Nat} {g : Nat → Int32} (he : f x = .inl (cA, n, .inl g)) (ht : tys[t0]? = some (cA, .int)) {i : Int32} (hin : vp_in i n) (hdg : decode cc pc = .ok (.iaload, 1))
    (kk : W p l e R s m args below meth c H locs cells slots Q (F0 m (pc + 1) ls (.int (g i.toNatClampNeg) :: rest))) : W p l e R s m args below meth c H locs cells slots Q (F0 m pc ls (.int i :: .ref x :: rest)) := by
  obtain ⟨k0, hk0⟩ := va_pl_get (X := []) (f := f) ha
  exact va_iald hexec hb hK hP k0 t0 (by rw [← he]; exact hk0) ht hin hdg kk
theorem hp_lald (hexec : p.tables.exec = Jvm.exec) (hb : c.code = cc) (hK : va_K D cl tys s) (hP : va_P D cl (va_pl L f) H) (ha : x ∈ L) (t0 : Nat) {cA : ClassId} {n : Nat} {g : Nat → Int64} (he : f x = .inl (cA, n, .inr (.inl g))) (ht : tys[t0]? = some (cA, .long)) {i : Int32} (hin : vp_in i n) (hdg : decode cc pc = .ok (.laload, 1))
    (kk : W p l e R s m args below meth c H locs cells slots Q (F0 m (pc + 1) ls (.long (g i.toNatClampNeg) :: rest))) : W p l e R s m args below meth c H locs cells slots Q (F0 m pc ls (.int i :: .ref x :: rest)) := by
  obtain ⟨k0, hk0⟩ := va_pl_get (X := []) (f := f) ha
  exact va_lald hexec hb hK hP k0 t0 (by rw [← he]; exact hk0) ht hin hdg kk
theorem hp_aald (hexec : p.tables.exec = Jvm.exec) (hb : c.code = cc) (hK : va_K D cl tys s) (hP : va_P D cl (va_pl L f) H) (ha : x ∈ L) (t0 : Nat) {cA : ClassId} {C : String} {n : Nat} {g : Nat → Option Nat} (he : f x = .inl (cA, n, .inr (.inr (.inr (.inr g))))) (ht : tys[t0]? = some (cA, .object C)) {i : Int32} (hin : vp_in i n) (hdg : decode cc pc = .ok (.aaload, 1))
    (kk : W p l e R s m args below meth c H locs cells slots Q (F0 m (pc + 1) ls (va_rf (g i.toNatClampNeg) :: rest))) : W p l e R s m args below meth c H locs cells slots Q (F0 m pc ls (.int i :: .ref x :: rest)) := by
  obtain ⟨k0, hk0⟩ := va_pl_get (X := []) (f := f) ha
  exact va_aldq hexec hb hK hP k0 t0 (by rw [← he]; exact hk0) ht hin hdg kk
theorem hp_iast (hexec : p.tables.exec = Jvm.exec) (hb : c.code = cc) (hK : va_K D cl tys s) (hP : va_P D cl (va_pl L f) H) (hD : va_D A (va_pl L f)) (hS : va_S A H0 H locs) (ha : x ∈ L) (t0 : Nat) {cA : ClassId} {n : Nat} {g : Nat → Int32} (he : f x = .inl (cA, n, .inl g)) (ht : tys[t0]? = some (cA, .int)) {i v : Int32} (hin : vp_in i n) {g2 : Nat → va_E} (h1 : g2 x = .inl (cA, n, .inl (upd g i.toNatClampNeg v))) (h2 : ∀ b, b ≠ x → g2 b = f b) (hdg : decode cc pc = .ok (.iastore, 1))
    (kk : ∀ (H1 : Heap) (locs1 : List Loc), va_P D cl (va_pl L g2) H1 → va_S A H0 H1 locs1 → W p l e R s m args below meth c H1 locs1 cells slots Q (F0 m (pc + 1) ls rest)) : W p l e R s m args below meth c H locs cells slots Q (F0 m pc ls (.int v :: .int i :: .ref x :: rest)) := by
  obtain ⟨k0, hk0⟩ := va_pl_get (X := []) (f := f) ha
  refine va_iast hexec hb hK hP hD hS k0 t0 (by rw [← he]; exact hk0) ht hin hdg (fun H1 locs1 q1 _ q3 => kk H1 locs1 ?_ q3)
  have e1 := va_pl_set (X := []) (e := .inl (cA, n, .inl (upd g i.toNatClampNeg v))) hD ha hk0
  rw [List.nil_append, List.nil_append, va_pl_congr (PF_up h1 h2)] at e1
  rw [e1] at q1
  exact q1
theorem hp_last (hexec : p.tables.exec = Jvm.exec) (hb : c.code = cc) (hK : va_K D cl tys s) (hP : va_P D cl (va_pl L f) H) (hD : va_D A (va_pl L f)) (hS : va_S A H0 H locs) (ha : x ∈ L) (t0 : Nat) {cA : ClassId} {n : Nat} {g : Nat → Int64} (he : f x = .inl (cA, n, .inr (.inl g))) (ht : tys[t0]? = some (cA, .long)) {i : Int32} {v : Int64} (hin : vp_in i n) {g2 : Nat → va_E} (h1 : g2 x = .inl (cA, n, .inr (.inl (vp_updL g i.toNatClampNeg v)))) (h2 : ∀ b, b ≠ x → g2 b = f b) (hdg : decode cc pc = .ok (.lastore, 1))
    (kk : ∀ (H1 : Heap) (locs1 : List Loc), va_P D cl (va_pl L g2) H1 → va_S A H0 H1 locs1 → W p l e R s m args below meth c H1 locs1 cells slots Q (F0 m (pc + 1) ls rest)) : W p l e R s m args below meth c H locs cells slots Q (F0 m pc ls (.long v :: .int i :: .ref x :: rest)) := by
  obtain ⟨k0, hk0⟩ := va_pl_get (X := []) (f := f) ha
  refine va_last hexec hb hK hP hD hS k0 t0 (by rw [← he]; exact hk0) ht hin hdg (fun H1 locs1 q1 _ q3 => kk H1 locs1 ?_ q3)
  have e1 := va_pl_set (X := []) (e := .inl (cA, n, .inr (.inl (vp_updL g i.toNatClampNeg v)))) hD ha hk0
  rw [List.nil_append, List.nil_append, va_pl_congr (PF_up h1 h2)] at e1
  rw [e1] at q1
  exact q1
theorem hp_aastN (hexec : p.tables.exec = Jvm.exec) (hb : c.code = cc) (hK : va_K D cl tys s) (hP : va_P D cl (va_pl L f) H) (hD : va_D A (va_pl L f)) (hS : va_S A H0 H locs) (ha : x ∈ L) (t0 : Nat) {cA : ClassId} {C : String} {n : Nat} {g : Nat → Option Nat} (he : f x = .inl (cA, n, .inr (.inr (.inr (.inr g))))) (ht : tys[t0]? = some (cA, .object C)) {i : Int32} (hin : vp_in i n) {g2 : Nat → va_E} (h1 : g2 x = .inl (cA, n, .inr (.inr (.inr (.inr (va_up g i.toNatClampNeg none)))))) (h2 : ∀ b, b ≠ x → g2 b = f b) (hdg : decode cc pc = .ok (.aastore, 1))
    (kk : ∀ (H1 : Heap) (locs1 : List Loc), va_P D cl (va_pl L g2) H1 → va_S A H0 H1 locs1 → W p l e R s m args below meth c H1 locs1 cells slots Q (F0 m (pc + 1) ls rest)) : W p l e R s m args below meth c H locs cells slots Q (F0 m pc ls (.null :: .int i :: .ref x :: rest)) := by
  obtain ⟨k0, hk0⟩ := va_pl_get (X := []) (f := f) ha
  refine va_astqN hexec hb hK hP hD hS k0 t0 (by rw [← he]; exact hk0) ht hin hdg (fun H1 locs1 q1 _ q3 => kk H1 locs1 ?_ q3)
  have e1 := va_pl_set (X := []) (e := .inl (cA, n, .inr (.inr (.inr (.inr (va_up g i.toNatClampNeg none)))))) hD ha hk0
  rw [List.nil_append, List.nil_append, va_pl_congr (PF_up h1 h2)] at e1
  rw [e1] at q1
  exact q1
theorem hp_aast (hexec : p.tables.exec = Jvm.exec) (hb : c.code = cc) (hK : va_K D cl tys s) (hP : va_P D cl (va_pl L f) H) (hD : va_D A (va_pl L f)) (hS : va_S A H0 H locs) (ha : x ∈ L) (t0 : Nat) {cA : ClassId} {E : String} {n v ci : Nat} {vs : List Value} {r : vw_C} {g : Nat → Option Nat} (he : f x = .inl (cA, n, .inr (.inr (.inr (.inr g))))) (ht : tys[t0]? = some (cA, .object E)) (hca : va_Nw (.castable r.1 E) s) (hvL : v ∈ L) (hv : f v = .inr (ci, vs)) (hc : cl[ci]? = some r) {i : Int32} (hin : vp_in i n) {g2 : Nat → va_E} (h1 : g2 x = .inl (cA, n, .inr (.inr (.inr (.inr (va_up g i.toNatClampNeg (some v))))))) (h2 : ∀ b, b ≠ x → g2 b = f b) (hdg : decode cc pc = .ok (.aastore, 1))
    (kk : ∀ (H1 : Heap) (locs1 : List Loc), va_P D cl (va_pl L g2) H1 → va_S A H0 H1 locs1 → W p l e R s m args below meth c H1 locs1 cells slots Q (F0 m (pc + 1) ls rest)) : W p l e R s m args below meth c H locs cells slots Q (F0 m pc ls (.ref v :: .int i :: .ref x :: rest)) := by
  obtain ⟨k0, hk0⟩ := va_pl_get (X := []) (f := f) ha
  obtain ⟨k1, hk1⟩ := va_pl_get (X := []) (f := f) hvL
  refine va_astqO hexec hb hK hP hD hS k0 t0 k1 ci (by rw [← he]; exact hk0) ht hca (by rw [← hv]; exact hk1) hc hin hdg (fun H1 locs1 q1 _ q3 => kk H1 locs1 ?_ q3)
  have e1 := va_pl_set (X := []) (e := .inl (cA, n, .inr (.inr (.inr (.inr (va_up g i.toNatClampNeg (some v))))))) hD ha hk0
  rw [List.nil_append, List.nil_append, va_pl_congr (PF_up h1 h2)] at e1
  rw [e1] at q1
  exact q1
theorem hp_recv {ci : Nat} {q : vw_C} {fs : List Value} (hK : va_K D cl tys s) (hP : va_P D cl (va_pl L f) H) (ha : x ∈ L) (he : f x = .inr (ci, fs)) (hc : cl[ci]? = some q) : ∃ cell : Cell, H[x]? = some cell ∧ cell.vm.isStatics = false ∧ s.vm.findClass q.1 = some cell.cls := by
  obtain ⟨k0, hk0⟩ := va_pl_get (X := []) (f := f) ha
  exact va_recv hK hP hc (by rw [← he]; exact hk0)
end HMC
theorem upd_up2 (f : Nat → Nat → Int32) (a k : Nat) (v : Int32) : up2 f a k v a = upd (f a) k v := by rw [up2_self]; rfl
theorem updL_up2 (f : Nat → Nat → Int64) (a k : Nat) (v : Int64) : up2 f a k v a = vp_updL (f a) k v := by rw [up2_self]; rfl
theorem vaup_up2 (f : Nat → Nat → Option Nat) (a k : Nat) (v : Option Nat) : up2 f a k v a = va_up (f a) k v := by rw [up2_self]; rfl
theorem PF_sA {G : GE} {S : HS} {a k : Nat} {v : Int32} (h : hsK S a = 8) : PF G (hwA S a k v) a = .inl (gI G, (hsN S a, .inl (upd (hsA S a) k v))) := by rw [PF_8 (S := hwA S a k v) h, ← upd_up2]
theorem PF_sJ {G : GE} {S : HS} {a k : Nat} {v : Int64} (h : hsK S a = 9) : PF G (hwJ S a k v) a = .inl (gJ G, (hsN S a, .inr (.inl (vp_updL (hsJ S a) k v)))) := by rw [PF_9 (S := hwJ S a k v) h, ← updL_up2]
theorem PF_sR {G : GE} {S : HS} {a k : Nat} {v : Option Nat} (h : hsK S a = 10) : PF G (hwR S a k v) a = .inl (gO G, (hsN S a, .inr (.inr (.inr (.inr (va_up (hsR S a) k v)))))) := by rw [PF_10 (S := hwR S a k v) h, ← vaup_up2]
