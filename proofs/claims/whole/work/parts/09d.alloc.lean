/-! ===== cells that are made: worlds that grow ===== -/
abbrev hnT (S : HS) (q k : Nat) : HS := (va_up S.1 q k, va_up S.2.1 q (fun _ => 0), va_up S.2.2.1 q (fun _ => none), S.2.2.2)
abbrev hnA (S : HS) (q n : Nat) : HS := (va_up S.1 q 8, S.2.1, S.2.2.1, va_up S.2.2.2.1 q n, va_up S.2.2.2.2.1 q (fun _ => 0), S.2.2.2.2.2)
abbrev hnJ (S : HS) (q n : Nat) : HS := (va_up S.1 q 9, S.2.1, S.2.2.1, va_up S.2.2.2.1 q n, S.2.2.2.2.1, va_up S.2.2.2.2.2.1 q (fun _ => 0), S.2.2.2.2.2.2)
abbrev hnR (S : HS) (q n : Nat) : HS := (va_up S.1 q 10, S.2.1, S.2.2.1, va_up S.2.2.2.1 q n, S.2.2.2.2.1, S.2.2.2.2.2.1, va_up S.2.2.2.2.2.2 q (fun _ => none))
theorem PF_nT {G : GE} {S : HS} {q k b : Nat} (h : b ≠ q) : PF G (hnT S q k) b = PF G S b := by simp only [PF, hsK, hsI, hsQ, hsN, hsA, hsJ, hsR, hnT, va_up_ne _ _ h]
theorem PF_nA {G : GE} {S : HS} {q n b : Nat} (h : b ≠ q) : PF G (hnA S q n) b = PF G S b := by simp only [PF, hsK, hsI, hsQ, hsN, hsA, hsJ, hsR, hnA, va_up_ne _ _ h]
theorem PF_nJ {G : GE} {S : HS} {q n b : Nat} (h : b ≠ q) : PF G (hnJ S q n) b = PF G S b := by simp only [PF, hsK, hsI, hsQ, hsN, hsA, hsJ, hsR, hnJ, va_up_ne _ _ h]
theorem PF_nR {G : GE} {S : HS} {q n b : Nat} (h : b ≠ q) : PF G (hnR S q n) b = PF G S b := by simp only [PF, hsK, hsI, hsQ, hsN, hsA, hsJ, hsR, hnR, va_up_ne _ _ h]
theorem PF_nA_self {G : GE} {S : HS} {q n : Nat} : PF G (hnA S q n) q = .inl (gI G, (n, .inl (fun _ => 0))) := by rw [PF_8 (S := hnA S q n) (va_up_self _ _ _)]; simp only [hsN, hsA, hnA, va_up_self]
theorem PF_nJ_self {G : GE} {S : HS} {q n : Nat} : PF G (hnJ S q n) q = .inl (gJ G, (n, .inr (.inl (fun _ => 0)))) := by rw [PF_9 (S := hnJ S q n) (va_up_self _ _ _)]; simp only [hsN, hsJ, hnJ, va_up_self]
theorem PF_nR_self {G : GE} {S : HS} {q n : Nat} : PF G (hnR S q n) q = .inl (gO G, (n, .inr (.inr (.inr (.inr (fun _ => none)))))) := by rw [PF_10 (S := hnR S q n) (va_up_self _ _ _)]; simp only [hsN, hsR, hnR, va_up_self]
theorem PF_nT1 {G : GE} {S : HS} {q : Nat} : PF G (hnT S q 1) q = .inr (1, [.int 0, .int 0, .null]) := by rw [PF_1 (S := hnT S q 1) (va_up_self _ _ _)]; simp only [hsI, hsQ, hnT, va_up_self]; rfl
theorem PF_nT2 {G : GE} {S : HS} {q : Nat} : PF G (hnT S q 2) q = .inr (2, [.int 0, .int 0, .int 0]) := by rw [PF_2 (S := hnT S q 2) (va_up_self _ _ _)]; simp only [hsI, hsQ, hnT, va_up_self]
theorem PF_nT3 {G : GE} {S : HS} {q : Nat} : PF G (hnT S q 3) q = .inr (3, [.int 0, .int 0, .int 0]) := by rw [PF_3 (S := hnT S q 3) (va_up_self _ _ _)]; simp only [hsI, hsQ, hnT, va_up_self]
theorem PF_nT4 {G : GE} {S : HS} {q : Nat} : PF G (hnT S q 4) q = .inr (4, [.int 0, .int 0, .int 0]) := by rw [PF_4 (S := hnT S q 4) (va_up_self _ _ _)]; simp only [hsI, hsQ, hnT, va_up_self]
theorem PF_nT5 {G : GE} {S : HS} {q : Nat} : PF G (hnT S q 5) q = .inr (5, [.int 0, .int 0, .null]) := by rw [PF_5 (S := hnT S q 5) (va_up_self _ _ _)]; simp only [hsI, hsQ, hnT, va_up_self]; rfl
theorem PF_nT6 {G : GE} {S : HS} {q : Nat} : PF G (hnT S q 6) q = .inr (6, [.null, .null, .int 0, .int 0]) := by rw [PF_6 (S := hnT S q 6) (va_up_self _ _ _)]; simp only [hsI, hsQ, hnT, va_up_self]; rfl
theorem PF_nT7 {G : GE} {S : HS} {q : Nat} : PF G (hnT S q 7) q = .inr (7, [.null, .null, .null, .int 0, .null, .int 0, .null, .int 0, .null, .int 0, .null, .int 0]) := by rw [PF_7 (S := hnT S q 7) (va_up_self _ _ _)]; simp only [hsI, hsQ, hnT, va_up_self]; rfl
abbrev AZ (L0 : List Nat) (sz : Nat) : Nat → Prop := fun q => q ∈ L0 ∨ sz ≤ q
abbrev EZ (G : GE) (L0 : List Nat) (sz : Nat) (s : State) : Prop := KF (gd G) (gf G) (AZ L0 sz) s s.heap ∧ KC s
/-- a world whose cells lie in L0 or from sz on, with the constants outside -/
def HZ (G : GE) (L0 : List Nat) (sz : Nat) (L : List Nat) (S : HS) (U : State) : Prop := HW G L S U ∧ (∀ q ∈ L, AZ L0 sz q) ∧ sz ≤ U.heap.size ∧ KF (gd G) (gf G) (AZ L0 sz) U U.heap
theorem HZ.fb {G : GE} {L0 : List Nat} {sz : Nat} {L : List Nat} {S : HS} {as : List Value} : FrameBlind (va_Pc as (HZ G L0 sz L S)) := pm_fb (fun U g mk a h => ⟨(HW.fb (G := G) (L := L) (S := S) (as := a.toList) a U g mk ⟨by simp, h.1⟩).2, h.2.1, h.2.2.1, KF.all (s := U) h.2.2.2 (Vm.Alike.refl U.vm) (fun _ _ _ => rfl) (fun _ z => z)⟩)
theorem HZ.hw {G : GE} {L0 : List Nat} {sz : Nat} {L : List Nat} {S : HS} {s : State} {H : Heap} {locs : List Loc} (hP : va_P (gD G) vwCl (va_pl L (PF G S)) H) (hK : va_K (gD G) vwCl (gT G) s) (hnd : L.Nodup) (hLz : ∀ q ∈ L, AZ L0 sz q) (hE : EZ G L0 sz s) (hS : va_S (AZ L0 sz) s.heap H locs) (U : State) (hU : U.heap = H) (hW : s.WarmedH U.vm) : HW G L S U :=
  ⟨by rw [hU]; exact hP, va_K.moved hW.alike hK, hnd, hE.1.all hW.alike (by rw [hU]; exact hS.2.1) (fun q z => hLz q z), hE.2.warm hW⟩
theorem HZ.of {G : GE} {L0 : List Nat} {sz : Nat} {L : List Nat} {S : HS} {s : State} {H : Heap} {locs : List Loc} (hP : va_P (gD G) vwCl (va_pl L (PF G S)) H) (hK : va_K (gD G) vwCl (gT G) s) (hnd : L.Nodup) (hLz : ∀ q ∈ L, AZ L0 sz q) (hSz : sz ≤ s.heap.size) (hE : EZ G L0 sz s) (hS : va_S (AZ L0 sz) s.heap H locs) (U : State) (hU : U.heap = H) (hW : s.WarmedH U.vm) : HZ G L0 sz L S U :=
  ⟨HZ.hw hP hK hnd hLz hE hS U hU hW, hLz, by rw [hU]; exact Nat.le_trans hSz hS.1, hE.1.all hW.alike (by rw [hU]; exact hS.2.1) (fun _ z => z)⟩
theorem nz_D {L L0 : List Nat} {sz : Nat} {f : Nat → va_E} (h : L.Nodup) (hLz : ∀ q ∈ L, AZ L0 sz q) : va_D (AZ L0 sz) (va_pl L f) := (nd_D h f).weaken (fun _ q _ hq => hLz q.1 hq)
theorem nd_push {L : List Nat} {q : Nat} (h : L.Nodup) (hq : q ∉ L) : (L ++ [q]).Nodup := List.nodup_append.mpr ⟨h, by simp, fun a ha b hb => by
  rw [List.mem_singleton.mp hb]
  exact fun z => hq (z ▸ ha)⟩
theorem lz_push {L L0 : List Nat} {sz q : Nat} (h : ∀ a ∈ L, AZ L0 sz a) (hq : AZ L0 sz q) : ∀ a ∈ L ++ [q], AZ L0 sz a := fun a ha => by
  rcases List.mem_append.mp ha with h1 | h1
  · exact h a h1
  · rw [List.mem_singleton.mp h1]
    exact hq
abbrev hz_QV (G : GE) (L0 : List Nat) (sz : Nat) (post : List Nat → HS → Prop) : Array Value → State → Outcome → State → Prop := va_Qv (fun (u : List Nat × HS) => post u.1 u.2) (fun u t => HZ G L0 sz u.1 u.2 t) (AZ L0 sz)
abbrev hz_QI (G : GE) (L0 : List Nat) (sz : Nat) (post : Int32 → List Nat → HS → Prop) : Array Value → State → Outcome → State → Prop := va_Qi (fun (r : Int32) (u : List Nat × HS) => post r u.1 u.2) (fun u t => HZ G L0 sz u.1 u.2 t) (AZ L0 sz)
abbrev hz_QR (G : GE) (L0 : List Nat) (sz : Nat) (post : Nat → List Nat → HS → Prop) : Array Value → State → Outcome → State → Prop := va_Qr (fun (u : Nat × List Nat × HS) => post u.1 u.2.1 u.2.2) (fun u a t => u.1 = a ∧ HZ G L0 sz u.2.1 u.2.2 t) (AZ L0 sz)
abbrev hz_R (fr lo mc ms : Nat) : Room := { frames := fr, cells := mc, slots := ms, locals := lo }
def HzV (l : Launch) (G : GE) (y : MethodName) (ws : List Cond) (fr lo mc ms : Nat) (as : List Value) (L0 : List Nat) (sz : Nat) (L : List Nat) (S : HS) (post : List Nat → HS → Prop) : Prop := Met l y ws (hz_R fr lo mc ms) (va_Pc as (HZ G L0 sz L S)) (hz_QV G L0 sz post) mc ms (AZ L0 sz)
def HzI (l : Launch) (G : GE) (y : MethodName) (ws : List Cond) (fr lo mc ms : Nat) (as : List Value) (L0 : List Nat) (sz : Nat) (L : List Nat) (S : HS) (post : Int32 → List Nat → HS → Prop) : Prop := Met l y ws (hz_R fr lo mc ms) (va_Pc as (HZ G L0 sz L S)) (hz_QI G L0 sz post) mc ms (AZ L0 sz)
def HzR (l : Launch) (G : GE) (y : MethodName) (ws : List Cond) (fr lo mc ms : Nat) (as : List Value) (L0 : List Nat) (sz : Nat) (L : List Nat) (S : HS) (post : Nat → List Nat → HS → Prop) : Prop := Met l y ws (hz_R fr lo mc ms) (va_Pc as (HZ G L0 sz L S)) (hz_QR G L0 sz post) mc ms (AZ L0 sz)
section HZC
variable {p : Program} {l : Launch} {e : Env} {R : Room} {s : State} {m : MethodId} {args : Array Value} {below : List Frame} {meth : Method} {c : Code} {H : Heap} {locs : List Loc} {cells slots mc ms : Nat} {Q : State → Prop}
variable {pc : Nat} {ls : Array Slot} {rest st0 : List Value} {a : Array Value} {G : GE} {L : List Nat} {S1 : HS} {L0 : List Nat} {sz : Nat} {cc : ByteArray}
theorem hz_callV {post : List Nat → HS → Prop} (hr : va_Run p l e R s m args below meth c H locs cells slots mc ms (F0 m pc ls st0) rest (hz_QV G L0 sz post a) (AZ L0 sz)) (hS : va_S (AZ L0 sz) s.heap H locs)
    (kk : ∀ (L1 : List Nat) (S1 : HS) (H1 : Heap) (locs1 : List Loc), post L1 S1 → va_P (gD G) vwCl (va_pl L1 (PF G S1)) H1 → L1.Nodup → (∀ q ∈ L1, AZ L0 sz q) → va_S (AZ L0 sz) s.heap H1 locs1 → W p l e R s m args below meth c H1 locs1 (cells + mc) (slots + ms) Q (F0 m (pc + 3) ls rest)) : W p l e R s m args below meth c H locs cells slots Q (F0 m pc ls st0) :=
  va_callv hr hS (fun _ _ h => h) (fun _ h => h) (fun u t H1 locs1 ht _ hp hB _ _ hS => kk u.1 u.2 H1 locs1 hp (by rw [← ht]; exact hB.1.1) hB.1.2.2.1 hB.2.1 hS)
theorem hz_callR {post : Nat → List Nat → HS → Prop} (hr : va_Run p l e R s m args below meth c H locs cells slots mc ms (F0 m pc ls st0) rest (hz_QR G L0 sz post a) (AZ L0 sz)) (hS : va_S (AZ L0 sz) s.heap H locs)
    (kk : ∀ (q : Nat) (L1 : List Nat) (S1 : HS) (H1 : Heap) (locs1 : List Loc), post q L1 S1 → va_P (gD G) vwCl (va_pl L1 (PF G S1)) H1 → L1.Nodup → (∀ q ∈ L1, AZ L0 sz q) → va_S (AZ L0 sz) s.heap H1 locs1 → W p l e R s m args below meth c H1 locs1 (cells + mc) (slots + ms) Q (F0 m (pc + 3) ls (.ref q :: rest))) : W p l e R s m args below meth c H locs cells slots Q (F0 m pc ls st0) :=
  va_callr hr hS (fun _ _ h => h) (fun _ h => h) (fun u ra t H1 locs1 ht _ hp hB _ _ hS => by
    obtain ⟨e1, hB⟩ := hB
    subst e1
    exact kk u.1 u.2.1 u.2.2 H1 locs1 hp (by rw [← ht]; exact hB.1.1) hB.1.2.2.1 hB.2.1 hS)
theorem hz_callI {post : Int32 → List Nat → HS → Prop} (hr : va_Run p l e R s m args below meth c H locs cells slots mc ms (F0 m pc ls st0) rest (hz_QI G L0 sz post a) (AZ L0 sz)) (hS : va_S (AZ L0 sz) s.heap H locs)
    (kk : ∀ (r : Int32) (L1 : List Nat) (S1 : HS) (H1 : Heap) (locs1 : List Loc), post r L1 S1 → va_P (gD G) vwCl (va_pl L1 (PF G S1)) H1 → L1.Nodup → (∀ q ∈ L1, AZ L0 sz q) → va_S (AZ L0 sz) s.heap H1 locs1 → W p l e R s m args below meth c H1 locs1 (cells + mc) (slots + ms) Q (F0 m (pc + 3) ls (.int r :: rest))) : W p l e R s m args below meth c H locs cells slots Q (F0 m pc ls st0) :=
  va_calli hr hS (fun _ _ h => h) (fun _ h => h) (fun r u t H1 locs1 ht _ hp hB _ _ hS => kk r u.1 u.2 H1 locs1 hp (by rw [← ht]; exact hB.1.1) hB.1.2.2.1 hB.2.1 hS)
-- calls of methods that make nothing
theorem hz_rV {pr : HS} (hr : va_Run p l e R s m args below meth c H locs cells slots 0 0 (F0 m pc ls st0) rest (hm_QV G L pr a) (AL L)) (hS : va_S (AZ L0 sz) s.heap H locs) (hLz : ∀ q ∈ L, AZ L0 sz q)
    (kk : ∀ (H1 : Heap) (locs1 : List Loc), va_P (gD G) vwCl (va_pl L (PF G pr)) H1 → va_S (AZ L0 sz) s.heap H1 locs1 → W p l e R s m args below meth c H1 locs1 cells slots Q (F0 m (pc + 3) ls rest)) : W p l e R s m args below meth c H locs cells slots Q (F0 m pc ls st0) :=
  va_callv hr hS (fun q _ h => hLz q h) (fun q h => hLz q h) (fun _ t H1 locs1 ht _ _ hB _ _ hS => kk H1 locs1 (by rw [← ht]; exact hB.1) hS)
theorem hz_rI {pr : Int32 × HS} (hr : va_Run p l e R s m args below meth c H locs cells slots 0 0 (F0 m pc ls st0) rest (hm_QI G L pr a) (AL L)) (hS : va_S (AZ L0 sz) s.heap H locs) (hLz : ∀ q ∈ L, AZ L0 sz q)
    (kk : ∀ (H1 : Heap) (locs1 : List Loc), va_P (gD G) vwCl (va_pl L (PF G pr.2)) H1 → va_S (AZ L0 sz) s.heap H1 locs1 → W p l e R s m args below meth c H1 locs1 cells slots Q (F0 m (pc + 3) ls (.int pr.1 :: rest))) : W p l e R s m args below meth c H locs cells slots Q (F0 m pc ls st0) :=
  va_calli hr hS (fun q _ h => hLz q h) (fun q h => hLz q h) (fun _ _ t H1 locs1 ht _ hw hB _ _ hS => by subst hw; exact kk H1 locs1 (by rw [← ht]; exact hB.1) hS)
theorem hz_rIr (v : Int32) (hr : va_Run p l e R s m args below meth c H locs cells slots 0 0 (F0 m pc ls st0) rest (hm_QI G L (v, S1) a) (AL L)) (hS : va_S (AZ L0 sz) s.heap H locs) (hLz : ∀ q ∈ L, AZ L0 sz q)
    (kk : ∀ (H1 : Heap) (locs1 : List Loc), va_P (gD G) vwCl (va_pl L (PF G S1)) H1 → va_S (AZ L0 sz) s.heap H1 locs1 → W p l e R s m args below meth c H1 locs1 cells slots Q (F0 m (pc + 3) ls (.int v :: rest))) : W p l e R s m args below meth c H locs cells slots Q (F0 m pc ls st0) := hz_rI hr hS hLz kk
theorem hz_rL {pr : Int64 × HS} (hr : va_Run p l e R s m args below meth c H locs cells slots 0 0 (F0 m pc ls st0) rest (hm_QL G L pr a) (AL L)) (hS : va_S (AZ L0 sz) s.heap H locs) (hLz : ∀ q ∈ L, AZ L0 sz q)
    (kk : ∀ (H1 : Heap) (locs1 : List Loc), va_P (gD G) vwCl (va_pl L (PF G pr.2)) H1 → va_S (AZ L0 sz) s.heap H1 locs1 → W p l e R s m args below meth c H1 locs1 cells slots Q (F0 m (pc + 3) ls (.long pr.1 :: rest))) : W p l e R s m args below meth c H locs cells slots Q (F0 m pc ls st0) :=
  va_calll hr hS (fun q _ h => hLz q h) (fun q h => hLz q h) (fun _ _ t H1 locs1 ht _ hw hB _ _ hS => by subst hw; exact kk H1 locs1 (by rw [← ht]; exact hB.1) hS)
theorem hz_rLr (v : Int64) (hr : va_Run p l e R s m args below meth c H locs cells slots 0 0 (F0 m pc ls st0) rest (hm_QL G L (v, S1) a) (AL L)) (hS : va_S (AZ L0 sz) s.heap H locs) (hLz : ∀ q ∈ L, AZ L0 sz q)
    (kk : ∀ (H1 : Heap) (locs1 : List Loc), va_P (gD G) vwCl (va_pl L (PF G S1)) H1 → va_S (AZ L0 sz) s.heap H1 locs1 → W p l e R s m args below meth c H1 locs1 cells slots Q (F0 m (pc + 3) ls (.long v :: rest))) : W p l e R s m args below meth c H locs cells slots Q (F0 m pc ls st0) := hz_rL hr hS hLz kk
-- the ends
theorem hz_vret {post : List Nat → HS → Prop} (hx : p.tables.exec = Jvm.exec) (hb : c.code = cc) (hr : meth.sig.returnType = none) (hlocks : meth.locks = false) (hS : va_S (AZ L0 sz) s.heap H locs) (hP : va_P (gD G) vwCl (va_pl L (PF G S1)) H) (hK : va_K (gD G) vwCl (gT G) s) (hnd : L.Nodup) (hLz : ∀ q ∈ L, AZ L0 sz q) (hSz : sz ≤ s.heap.size) (hE : EZ G L0 sz s) (hp : post L S1)
    (hdg : decode cc pc = .ok (.return_, 1)) : W p l e R s m args below meth c H locs cells slots (MQ below (hz_QV G L0 sz post) args s cells slots (AZ L0 sz)) (F0 m pc ls []) :=
  W.vret hx hb hr (fun t ht hW => ⟨⟨(L, S1), rfl, hp, HZ.of hP hK hnd hLz hSz hE hS t ht hW⟩, hS.F ht⟩) hS.2.2 hdg
theorem hz_iret {v : Int32} {post : Int32 → List Nat → HS → Prop} (hx : p.tables.exec = Jvm.exec) (hb : c.code = cc) (hr : meth.sig.returnType = some .int) (hlocks : meth.locks = false) (hS : va_S (AZ L0 sz) s.heap H locs) (hP : va_P (gD G) vwCl (va_pl L (PF G S1)) H) (hK : va_K (gD G) vwCl (gT G) s) (hnd : L.Nodup) (hLz : ∀ q ∈ L, AZ L0 sz q) (hSz : sz ≤ s.heap.size) (hE : EZ G L0 sz s) (hp : post v L S1)
    (hdg : decode cc pc = .ok (.ireturn, 1)) : W p l e R s m args below meth c H locs cells slots (MQ below (hz_QI G L0 sz post) args s cells slots (AZ L0 sz)) (F0 m pc ls [.int v]) :=
  W.iret (v := v) hx hb hr (fun t ht hW => ⟨⟨v, (L, S1), rfl, hp, HZ.of hP hK hnd hLz hSz hE hS t ht hW⟩, hS.F ht⟩) hS.2.2 hdg
theorem hz_aret {q : Nat} {post : Nat → List Nat → HS → Prop} (hx : p.tables.exec = Jvm.exec) (hb : c.code = cc) {ty : FieldType} (hr : meth.sig.returnType = some ty) (hrt : ∃ n, ty = .object n) (hlocks : meth.locks = false) (hS : va_S (AZ L0 sz) s.heap H locs) (hP : va_P (gD G) vwCl (va_pl L (PF G S1)) H) (hK : va_K (gD G) vwCl (gT G) s) (hnd : L.Nodup) (hLz : ∀ q ∈ L, AZ L0 sz q) (hSz : sz ≤ s.heap.size) (hE : EZ G L0 sz s) (hp : post q L S1)
    (hdg : decode cc pc = .ok (.areturn, 1)) : W p l e R s m args below meth c H locs cells slots (MQ below (hz_QR G L0 sz post) args s cells slots (AZ L0 sz)) (F0 m pc ls [.ref q]) :=
  W.aret (v := .ref q) (rt := ty) hx hb hr (Or.inl hrt) (Or.inr ⟨q, rfl⟩) (fun t ht hW => ⟨⟨(q, L, S1), q, rfl, hp, rfl, HZ.of hP hK hnd hLz hSz hE hS t ht hW⟩, hS.F ht⟩) hS.2.2 hdg
-- the making
variable {S : HS}
theorem pl_grown {e : va_E} {f g : Nat → va_E} {q : Nat} (hq : q ∉ L) (h1 : g q = e) (h2 : ∀ b, b ≠ q → g b = f b) : va_pl L f ++ [(q, e)] = va_pl (L ++ [q]) g := by
  rw [va_pl_push hq, va_pl_congr (PF_up h1 h2)]
theorem pl_fresh {A : Nat → Prop} {f : Nat → va_E} {q : Nat} {e : va_E} (hD : va_D A (va_pl L f ++ [(q, e)])) : q ∉ L ∧ A q :=
  ⟨va_pl_fresh2 (X := []) (f := f) hD, hD.2 (va_pl L f).length (q, e) (by rw [List.getElem?_append_right (Nat.le_refl _), Nat.sub_self]; rfl)⟩
theorem hz_new {own C : String} {T : u_T} {N ci k index : Nat} {Ts : List Cond} {fs : List Value} (hexec : p.tables.exec = Jvm.exec) (hb : c.code = cc) (hts : ∀ w ∈ Ts, w.before args s = true) (hin : ∀ w ∈ u_ws C T N, w ∈ Ts) (ty : Nat → FieldType) (hty : ∀ k, k < N → parseFieldDescriptor (T k).2.2.1 = some (ty k)) (hown : s.vm.findClass own = some m.cls) (hcl : (Cond.classLink own index C).before args s = true) (hinst : (Cond.instantiable C N).before args s = true) (hini : (Cond.initialized C).before args s = true)
    (hK : va_K (gD G) vwCl (gT G) s) (hP : va_P (gD G) vwCl (va_pl L (PF G S)) H) (hnd : L.Nodup) (hLz : ∀ q ∈ L, AZ L0 sz q) (hSz : sz ≤ s.heap.size) (hS : va_S (AZ L0 sz) s.heap H locs) (hc : vwCl[ci]? = some (C, T, N)) (hPF : ∀ q, PF G (hnT S q k) q = .inr (ci, fs)) (hfs : ∀ j, j < N → defaultValue (ty j) = vp_V fs j) (hcells : cells + 1 ≤ R.cells) (hslots : slots + N ≤ R.slots) (hdg : decode cc pc = .ok (.new index, 3))
    (kk : ∀ (q : Nat) (H1 : Heap), q ∉ L → va_P (gD G) vwCl (va_pl (L ++ [q]) (PF G (hnT S q k))) H1 → (L ++ [q]).Nodup → (∀ a ∈ L ++ [q], AZ L0 sz a) → va_S (AZ L0 sz) s.heap H1 locs → W p l e R s m args below meth c H1 locs (cells + 1) (slots + N) Q (F0 m (pc + 3) ls (.ref q :: rest))) : W p l e R s m args below meth c H locs cells slots Q (F0 m pc ls rest) := by
  refine va_new hexec hb hts hin ty hty hown hcl hinst hini hK hP (nz_D hnd hLz) hS (fun q h => Or.inr (Nat.le_trans hSz h)) hc hfs hcells hslots hdg (fun q H1 q1 q2 q3 => ?_)
  obtain ⟨hq, hz⟩ := pl_fresh q2
  rw [pl_grown hq (hPF q) (fun b hb => PF_nT hb)] at q1
  exact kk q H1 hq q1 (nd_push hnd hq) (lz_push hLz hz) q3
theorem hz_newJ {n : Int32} {N' : Nat} (hexec : p.tables.exec = Jvm.exec) (hb : c.code = cc) (harr : (Cond.arrayClass (newarray.typeOf .long)).before args s = true)
    (hK : va_K (gD G) vwCl (gT G) s) (hP : va_P (gD G) vwCl (va_pl L (PF G S)) H) (hnd : L.Nodup) (hLz : ∀ q ∈ L, AZ L0 sz q) (hSz : sz ≤ s.heap.size) (hS : va_S (AZ L0 sz) s.heap H locs) (hn : ¬ n < 0) (hN : n.toNatClampNeg = N') (hbytes : N' * componentBytes .long ≤ 536870912) (hcells : cells + 1 ≤ R.cells) (hslots : slots + N' ≤ R.slots) (hdg : decode cc pc = .ok (.newarray .long, 2))
    (kk : ∀ (q : Nat) (H1 : Heap), q ∉ L → va_P (gD G) vwCl (va_pl (L ++ [q]) (PF G (hnJ S q N'))) H1 → (L ++ [q]).Nodup → (∀ a ∈ L ++ [q], AZ L0 sz a) → va_S (AZ L0 sz) s.heap H1 locs → W p l e R s m args below meth c H1 locs (cells + 1) (slots + N') Q (F0 m (pc + 2) ls (.ref q :: rest))) : W p l e R s m args below meth c H locs cells slots Q (F0 m pc ls (.int n :: rest)) := by
  refine va_newa (atype := .long) (ty := .long) (a0 := (N', .inr (.inl (fun _ => 0)))) hexec hb harr rfl hK hP (nz_D hnd hLz) hS (fun q h => Or.inr (Nat.le_trans hSz h)) (fun _ => rfl) hn hN hbytes hcells hslots hdg (fun q cA H1 q0 q1 q2 q3 => ?_)
  obtain ⟨hq, hz⟩ := pl_fresh q2
  have hcA : cA = gJ G := Option.some.inj (((q0.2 3 (cA, .long) rfl).2).symm.trans ((hK.2 1 (gJ G, .long) rfl).2))
  subst hcA
  rw [pl_grown (g := PF G (hnJ S q N')) hq PF_nJ_self (fun b hb => PF_nJ hb)] at q1
  exact kk q H1 hq q1 (nd_push hnd hq) (lz_push hLz hz) q3
theorem hz_newI {n : Int32} {N' : Nat} (hexec : p.tables.exec = Jvm.exec) (hb : c.code = cc) (harr : (Cond.arrayClass (newarray.typeOf .int)).before args s = true)
    (hK : va_K (gD G) vwCl (gT G) s) (hP : va_P (gD G) vwCl (va_pl L (PF G S)) H) (hnd : L.Nodup) (hLz : ∀ q ∈ L, AZ L0 sz q) (hSz : sz ≤ s.heap.size) (hS : va_S (AZ L0 sz) s.heap H locs) (hn : ¬ n < 0) (hN : n.toNatClampNeg = N') (hbytes : N' * componentBytes .int ≤ 536870912) (hcells : cells + 1 ≤ R.cells) (hslots : slots + N' ≤ R.slots) (hdg : decode cc pc = .ok (.newarray .int, 2))
    (kk : ∀ (q : Nat) (H1 : Heap), q ∉ L → va_P (gD G) vwCl (va_pl (L ++ [q]) (PF G (hnA S q N'))) H1 → (L ++ [q]).Nodup → (∀ a ∈ L ++ [q], AZ L0 sz a) → va_S (AZ L0 sz) s.heap H1 locs → W p l e R s m args below meth c H1 locs (cells + 1) (slots + N') Q (F0 m (pc + 2) ls (.ref q :: rest))) : W p l e R s m args below meth c H locs cells slots Q (F0 m pc ls (.int n :: rest)) := by
  refine va_newa (atype := .int) (ty := .int) (a0 := (N', .inl (fun _ => 0))) hexec hb harr rfl hK hP (nz_D hnd hLz) hS (fun q h => Or.inr (Nat.le_trans hSz h)) (fun _ => rfl) hn hN hbytes hcells hslots hdg (fun q cA H1 q0 q1 q2 q3 => ?_)
  obtain ⟨hq, hz⟩ := pl_fresh q2
  have hcA : cA = gI G := Option.some.inj (((q0.2 3 (cA, .int) rfl).2).symm.trans ((hK.2 0 (gI G, .int) rfl).2))
  subst hcA
  rw [pl_grown (g := PF G (hnA S q N')) hq PF_nA_self (fun b hb => PF_nA hb)] at q1
  exact kk q H1 hq q1 (nd_push hnd hq) (lz_push hLz hz) q3
theorem hz_newR {own : String} {index : Nat} {n : Int32} {N' : Nat} (hexec : p.tables.exec = Jvm.exec) (hb : c.code = cc) (hown : s.vm.findClass own = some m.cls) (hclink : (Cond.classLink own index "ThrowModels$Thing").before args s = true) (hover : va_AO "ThrowModels$Thing" s)
    (hK : va_K (gD G) vwCl (gT G) s) (hP : va_P (gD G) vwCl (va_pl L (PF G S)) H) (hnd : L.Nodup) (hLz : ∀ q ∈ L, AZ L0 sz q) (hSz : sz ≤ s.heap.size) (hS : va_S (AZ L0 sz) s.heap H locs) (hn : ¬ n < 0) (hN : n.toNatClampNeg = N') (hbytes : N' * 4 ≤ 536870912) (hcells : cells + 1 ≤ R.cells) (hslots : slots + N' ≤ R.slots) (hdg : decode cc pc = .ok (.anewarray index, 3))
    (kk : ∀ (q : Nat) (H1 : Heap), q ∉ L → va_P (gD G) vwCl (va_pl (L ++ [q]) (PF G (hnR S q N'))) H1 → (L ++ [q]).Nodup → (∀ a ∈ L ++ [q], AZ L0 sz a) → va_S (AZ L0 sz) s.heap H1 locs → W p l e R s m args below meth c H1 locs (cells + 1) (slots + N') Q (F0 m (pc + 3) ls (.ref q :: rest))) : W p l e R s m args below meth c H locs cells slots Q (F0 m pc ls (.int n :: rest)) := by
  refine va_newq (C := "ThrowModels$Thing") hexec hb hown hclink hover hK hP (nz_D hnd hLz) hS (fun q h => Or.inr (Nat.le_trans hSz h)) hn hN hbytes hcells hslots hdg (fun q cA H1 q0 q1 q2 q3 => ?_)
  obtain ⟨hq, hz⟩ := pl_fresh q2
  obtain ⟨_, _, _, _, _, e1⟩ := (q0.2 3 (cA, .object "ThrowModels$Thing") rfl).2
  obtain ⟨_, _, _, _, _, e2⟩ := (hK.2 2 (gO G, .object "ThrowModels$Thing") rfl).2
  have hcA : cA = gO G := Option.some.inj (e1.symm.trans e2)
  subst hcA
  rw [pl_grown (g := PF G (hnR S q N')) hq PF_nR_self (fun b hb => PF_nR hb)] at q1
  exact kk q H1 hq q1 (nd_push hnd hq) (lz_push hLz hz) q3
-- final fields
theorem hp_putF {D : va_G} {cl : List vw_C} {tys : List (ClassId × FieldType)} {f g : Nat → va_E} {x : Nat} {A : Nat → Prop} {H0 : Heap} (hexec : p.tables.exec = Jvm.exec) (hb : c.code = cc) {own ref C : String} {T : u_T} {N ci index : Nat} {Ts : List Cond} (hts : ∀ w ∈ Ts, w.before args s = true) (hin : ∀ w ∈ u_ws C T N, w ∈ Ts) (ty0 : Nat → FieldType) (hty : ∀ k, k < N → parseFieldDescriptor (T k).2.2.1 = some (ty0 k)) (hnm : ∀ a, a < N → ∀ b, b < N → a ≠ b → (T a).2.1 ≠ (T b).2.1) (hown : s.vm.findClass own = some m.cls) (hK : va_K D cl tys s) (hP : va_P D cl (va_pl L f) H) (hD : va_D A (va_pl L f)) (hS0 : va_S A H0 H locs) (ha : x ∈ L) {fs : List Value} (he : f x = .inr (ci, fs)) (hc : cl[ci]? = some (C, T, N)) (k : Nat) (hk : k < N) (hlink : (Cond.fieldLink own index ref (T k).2.1 (T k).2.2.1).before args s = true) (hsame : ∀ x, s.fieldFound? (T k).1 (T k).2.1 (T k).2.2.1 = some x → s.fieldFound? ref (T k).2.1 (T k).2.2.1 = some x) (hfin : (T k).2.2.2 = true) (hin2 : meth.name = "<init>") (hdecl : (T k).1 = own) {ty : FieldType} {v : Value} (hd : parseFieldDescriptor (T k).2.2.1 = some ty) (hn : narrow ty v = v) (hfit : fits ty v = true) (hl : k < fs.length) (h1 : g x = .inr (ci, fs.set k v)) (h2 : ∀ b, b ≠ x → g b = f b)
    (hdg : decode cc pc = .ok (.putfield index, 3)) (kk : ∀ (H1 : Heap) (locs1 : List Loc), va_P D cl (va_pl L g) H1 → va_S A H0 H1 locs1 → W p l e R s m args below meth c H1 locs1 cells slots Q (F0 m (pc + 3) ls rest)) : W p l e R s m args below meth c H locs cells slots Q (F0 m pc ls (v :: .ref x :: rest)) := by
  obtain ⟨k0, hk0⟩ := va_pl_get (X := []) (f := f) ha
  refine va_putF hexec hb hts hin ty0 hty hnm hown hK hP hD hS0 k0 (by rw [← he]; exact hk0) hc k hk hlink hsame hfin hin2 hdecl hd hn hfit hl hdg (fun H1 locs1 q1 _ q3 => kk H1 locs1 ?_ q3)
  have e1 := va_pl_set (X := []) (e := .inr (ci, fs.set k v)) hD ha hk0
  rw [List.nil_append, List.nil_append, va_pl_congr (PF_up h1 h2)] at e1
  rw [e1] at q1
  exact q1
end HZC
