/-! ===== the law: calls with two worlds; the entry ===== -/
theorem pl_in {L : List Nat} {f : Nat → va_E} {k : Nat} {q : Nat × va_E} (h : (va_pl L f)[k]? = some q) : q.1 ∈ L := by
  unfold va_pl at h
  rw [List.getElem?_map] at h
  cases hL : L[k]? with
  | none => rw [hL] at h; cases h
  | some a => rw [hL] at h; cases h; exact List.mem_of_getElem? hL
theorem pl_two {D : va_G} {cl : List vw_C} {L1 L2 : List Nat} {f : Nat → va_E} {H : Heap} (h : va_P D cl (va_pl (L1 ++ L2) f) H) : va_P D cl (va_pl L1 f) H ∧ va_P D cl (va_pl L2 f) H := by
  have e : va_pl (L1 ++ L2) f = va_pl L1 f ++ va_pl L2 f := List.map_append
  rw [e] at h
  refine ⟨fun k q hq => h k q ?_, fun k q hq => h ((va_pl L1 f).length + k) q ?_⟩
  · rw [List.getElem?_append_left (List.getElem?_eq_some_iff.mp hq).1]
    exact hq
  · rw [List.getElem?_append_right (by omega), Nat.add_sub_cancel_left]
    exact hq
theorem HZ.law {G : GE} {L : List Nat} {S : HS} {s : State} {H : Heap} {locs : List Loc} (hP : va_P (gD G) vwCl (va_pl L (PF G S)) H) (hK : va_K (gD G) vwCl (gT G) s) (hnd : L.Nodup) (hLz : ∀ q ∈ L, AZ [] s.heap.size q) (hE : EZ G [] s.heap.size s) (hS : va_S (AZ [] s.heap.size) s.heap H locs) (U : State) (hU : U.heap = H) (hW : s.WarmedH U.vm) : HZ G L H.size L S U :=
  ⟨HZ.hw hP hK hnd hLz hE hS U hU hW, fun q h => Or.inl h, by rw [hU]; exact Nat.le_refl _, hE.1.all hW.alike (by rw [hU]; exact hS.2.1) (fun q z => z.elim (fun y => hLz q y) (fun y => Or.inr (Nat.le_trans hS.1 y)))⟩
section LWK
variable {p : Program} {l : Launch} {e : Env} {R : Room} {s : State} {m : MethodId} {args : Array Value} {below : List Frame} {meth : Method} {c : Code} {H : Heap} {locs : List Loc} {cells slots mc ms : Nat} {Q : State → Prop}
variable {pc : Nat} {ls : Array Slot} {rest st0 : List Value} {a : Array Value} {G : GE} {L L2 : List Nat} {S1 S2 : HS}
theorem lw_rI {pr : Int32 × HS} (hr : va_Run p l e R s m args below meth c H locs cells slots 0 0 (F0 m pc ls st0) rest (hm_QI G L pr a) (AL L)) (hS : va_S (AZ [] s.heap.size) s.heap H locs) (hLz : ∀ q ∈ L, AZ [] s.heap.size q) (hP2 : va_P (gD G) vwCl (va_pl L2 (PF G S2)) H) (hdis : ∀ q ∈ L2, q ∉ L)
    (kk : ∀ (H1 : Heap) (locs1 : List Loc), va_P (gD G) vwCl (va_pl L (PF G pr.2)) H1 → va_P (gD G) vwCl (va_pl L2 (PF G S2)) H1 → va_S (AZ [] s.heap.size) s.heap H1 locs1 → W p l e R s m args below meth c H1 locs1 cells slots Q (F0 m (pc + 3) ls (.int pr.1 :: rest))) : W p l e R s m args below meth c H locs cells slots Q (F0 m pc ls st0) :=
  va_calli hr hS (fun q _ h => hLz q h) (fun q h => hLz q h) (fun _ _ t H1 locs1 ht _ hw hB _ hk hS => by
    subst hw
    exact kk H1 locs1 (by rw [← ht]; exact hB.1) (hP2.kept (fun k q hq => hk q.1 ((hP2 k q hq).lt) (hdis _ (pl_in hq)))) hS)
theorem lw_rL {pr : Int64 × HS} (hr : va_Run p l e R s m args below meth c H locs cells slots 0 0 (F0 m pc ls st0) rest (hm_QL G L pr a) (AL L)) (hS : va_S (AZ [] s.heap.size) s.heap H locs) (hLz : ∀ q ∈ L, AZ [] s.heap.size q) (hP2 : va_P (gD G) vwCl (va_pl L2 (PF G S2)) H) (hdis : ∀ q ∈ L2, q ∉ L)
    (kk : ∀ (H1 : Heap) (locs1 : List Loc), va_P (gD G) vwCl (va_pl L (PF G pr.2)) H1 → va_P (gD G) vwCl (va_pl L2 (PF G S2)) H1 → va_S (AZ [] s.heap.size) s.heap H1 locs1 → W p l e R s m args below meth c H1 locs1 cells slots Q (F0 m (pc + 3) ls (.long pr.1 :: rest))) : W p l e R s m args below meth c H locs cells slots Q (F0 m pc ls st0) :=
  va_calll hr hS (fun q _ h => hLz q h) (fun q h => hLz q h) (fun _ _ t H1 locs1 ht _ hw hB _ hk hS => by
    subst hw
    exact kk H1 locs1 (by rw [← ht]; exact hB.1) (hP2.kept (fun k q hq => hk q.1 ((hP2 k q hq).lt) (hdis _ (pl_in hq)))) hS)
theorem lw_rIr (v : Int32) (hr : va_Run p l e R s m args below meth c H locs cells slots 0 0 (F0 m pc ls st0) rest (hm_QI G L (v, S1) a) (AL L)) (hS : va_S (AZ [] s.heap.size) s.heap H locs) (hLz : ∀ q ∈ L, AZ [] s.heap.size q) (hP2 : va_P (gD G) vwCl (va_pl L2 (PF G S2)) H) (hdis : ∀ q ∈ L2, q ∉ L)
    (kk : ∀ (H1 : Heap) (locs1 : List Loc), va_P (gD G) vwCl (va_pl L (PF G S1)) H1 → va_P (gD G) vwCl (va_pl L2 (PF G S2)) H1 → va_S (AZ [] s.heap.size) s.heap H1 locs1 → W p l e R s m args below meth c H1 locs1 cells slots Q (F0 m (pc + 3) ls (.int v :: rest))) : W p l e R s m args below meth c H locs cells slots Q (F0 m pc ls st0) := lw_rI hr hS hLz hP2 hdis kk
theorem az_up (hS : va_S (AZ [] s.heap.size) s.heap H locs) (hLz : ∀ q ∈ L, AZ [] s.heap.size q) {q : Nat} (h : AZ L H.size q) : AZ [] s.heap.size q := h.elim (fun y => hLz q y) (fun y => Or.inr (Nat.le_trans hS.1 y))
theorem az_dis (hP2 : va_P (gD G) vwCl (va_pl L2 (PF G S2)) H) (hdis : ∀ q ∈ L2, q ∉ L) {q : Nat} (h2 : q ∈ L2) : ¬ AZ L H.size q := fun z => by
  rcases z with z | z
  · exact hdis q h2 z
  · obtain ⟨k0, hk0⟩ := va_pl_get (X := []) (f := PF G S2) h2
    have := (hP2 k0 _ hk0).lt
    have : q < H.size := this
    omega
/-- a call that makes cells -/
theorem lw_cI {post : Int32 → List Nat → HS → Prop} (hr : va_Run p l e R s m args below meth c H locs cells slots mc ms (F0 m pc ls st0) rest (hz_QI G L H.size post a) (AZ L H.size)) (hS : va_S (AZ [] s.heap.size) s.heap H locs) (hLz : ∀ q ∈ L, AZ [] s.heap.size q) (hP2 : va_P (gD G) vwCl (va_pl L2 (PF G S2)) H) (hdis : ∀ q ∈ L2, q ∉ L)
    (kk : ∀ (r : Int32) (L1 : List Nat) (S1 : HS) (H1 : Heap) (locs1 : List Loc), post r L1 S1 → va_P (gD G) vwCl (va_pl L1 (PF G S1)) H1 → va_P (gD G) vwCl (va_pl L2 (PF G S2)) H1 → L1.Nodup → (∀ q ∈ L1, AZ [] s.heap.size q) → (∀ q ∈ L2, q ∉ L1) → va_S (AZ [] s.heap.size) s.heap H1 locs1 → W p l e R s m args below meth c H1 locs1 (cells + mc) (slots + ms) Q (F0 m (pc + 3) ls (.int r :: rest))) : W p l e R s m args below meth c H locs cells slots Q (F0 m pc ls st0) :=
  va_calli hr hS (fun q _ h => az_up hS hLz h) (fun q h => az_up hS hLz h) (fun r u t H1 locs1 ht _ hp hB _ hk hS1 =>
    kk r u.1 u.2 H1 locs1 hp (by rw [← ht]; exact hB.1.1) (hP2.kept (fun k q hq => hk q.1 ((hP2 k q hq).lt) (az_dis hP2 hdis (pl_in hq)))) hB.1.2.2.1 (fun q h => az_up hS hLz (hB.2.1 q h)) (fun q h2 h1 => az_dis hP2 hdis h2 (hB.2.1 q h1)) hS1)
theorem lw_cV {post : List Nat → HS → Prop} (hr : va_Run p l e R s m args below meth c H locs cells slots mc ms (F0 m pc ls st0) rest (hz_QV G L H.size post a) (AZ L H.size)) (hS : va_S (AZ [] s.heap.size) s.heap H locs) (hLz : ∀ q ∈ L, AZ [] s.heap.size q) (hP2 : va_P (gD G) vwCl (va_pl L2 (PF G S2)) H) (hdis : ∀ q ∈ L2, q ∉ L)
    (kk : ∀ (L1 : List Nat) (S1 : HS) (H1 : Heap) (locs1 : List Loc), post L1 S1 → va_P (gD G) vwCl (va_pl L1 (PF G S1)) H1 → va_P (gD G) vwCl (va_pl L2 (PF G S2)) H1 → L1.Nodup → (∀ q ∈ L1, AZ [] s.heap.size q) → (∀ q ∈ L2, q ∉ L1) → va_S (AZ [] s.heap.size) s.heap H1 locs1 → W p l e R s m args below meth c H1 locs1 (cells + mc) (slots + ms) Q (F0 m (pc + 3) ls rest)) : W p l e R s m args below meth c H locs cells slots Q (F0 m pc ls st0) :=
  va_callv hr hS (fun q _ h => az_up hS hLz h) (fun q h => az_up hS hLz h) (fun u t H1 locs1 ht _ hp hB _ hk hS1 =>
    kk u.1 u.2 H1 locs1 hp (by rw [← ht]; exact hB.1.1) (hP2.kept (fun k q hq => hk q.1 ((hP2 k q hq).lt) (az_dis hP2 hdis (pl_in hq)))) hB.1.2.2.1 (fun q h => az_up hS hLz (hB.2.1 q h)) (fun q h2 h1 => az_dis hP2 hdis h2 (hB.2.1 q h1)) hS1)
end LWK
/-- both worlds at the head of the loop, after k calls -/
def LwW (G : GE) (s : State) (k x mm : Nat) (LX LM : List Nat) (SX SM : HS) (H : Heap) : Prop := Rel k LX x LM mm SX SM ∧ va_P (gD G) vwCl (va_pl LX (PF G SX)) H ∧ va_P (gD G) vwCl (va_pl LM (PF G SM)) H ∧ LX.Nodup ∧ LM.Nodup ∧ (∀ q ∈ LX, AZ [] s.heap.size q) ∧ (∀ q ∈ LM, AZ [] s.heap.size q) ∧ (∀ q ∈ LM, q ∉ LX) ∧ ∀ q ∈ LX, q ∉ LM
theorem hdv_X8_make : yX8_make.cls = RX8 ∧ yX8_make.cls ≠ "java/lang/invoke/MethodHandle" ∧ yX8_make.cls ≠ "java/lang/invoke/VarHandle" ∧ (parseMethodDescriptor yX8_make.desc).map (fun d => d.parameters.length) = some 4 := by decide +kernel
theorem hdv_X8_twin : yX8_twin.cls = RX8 ∧ yX8_twin.cls ≠ "java/lang/invoke/MethodHandle" ∧ yX8_twin.cls ≠ "java/lang/invoke/VarHandle" ∧ (parseMethodDescriptor yX8_twin.desc).map (fun d => d.parameters.length) = some 2 := by decide +kernel
theorem w44 : Cond.constantLong RL 44 (4294967295) ∈ wsL_law_r1 := List.mem_of_getElem? (i := 6) rfl
