/-! ===== System.arraycopy between two rows of longs ===== -/
abbrev hwJc (S : HS) (a b : Nat) (sp dp n : Int32) : HS := (S.1, S.2.1, S.2.2.1, S.2.2.2.1, S.2.2.2.2.1, (fun c => if c = b then va_cpy (S.2.2.2.2.2.1 a) (S.2.2.2.2.2.1 b) sp.toNatClampNeg dp.toNatClampNeg n.toNatClampNeg else S.2.2.2.2.2.1 c), S.2.2.2.2.2.2)
section HM3
variable {p : Program} {l : Launch} {e : Env} {R : Room} {s : State} {m : MethodId} {args : Array Value} {below : List Frame} {meth : Method} {c : Code} {H : Heap} {locs : List Loc} {cells slots : Nat} {Q : State → Prop}
variable {pc : Nat} {ls : Array Slot} {rest : List Value} {G : GE} {L : List Nat} {S S1 : HS} {cc : ByteArray} {A : Nat → Prop} {H0 : Heap}
theorem hp_copyl (hexec : p.tables.exec = Jvm.exec) (hb : c.code = cc) (hml : c.maxLocals = ls.size) {own : String} {index : Nat} (hown : s.vm.findClass own = some m.cls) (hlink : (Cond.methodLink own index arraycopyName).before args s = true) (hnat : (Cond.native arraycopyName).before args s = true) (hstat : (Cond.static arraycopyName).before args s = true) (hini : (Cond.initialized "java/lang/System").before args s = true)
    (hK : va_K (gD G) vwCl (gT G) s) (hP : va_P (gD G) vwCl (va_pl L (PF G S)) H) (hD : va_D A (va_pl L (PF G S))) (hS : va_S A H0 H locs) {a b : Nat} {sp dp n : Int32} (h : (a ∈ L ∧ hsK S a = 9) ∧ (b ∈ L ∧ hsK S b = 9) ∧ ¬ sp < 0 ∧ ¬ dp < 0 ∧ ¬ n < 0 ∧ sp.toNatClampNeg + n.toNatClampNeg ≤ hsN S a ∧ dp.toNatClampNeg + n.toNatClampNeg ≤ hsN S b)
    (hframes : 1 ≤ R.frames) (hlocals : (rest.map fun v => v.category).sum + (nativeFrameWords "java/lang/System" "arraycopy" 5 + 11) ≤ R.locals) (hdg : decode cc pc = .ok (.invokestatic index, 3))
    (kk : ∀ (H1 : Heap) (locs1 : List Loc), va_P (gD G) vwCl (va_pl L (PF G (hwJc S a b sp dp n))) H1 → va_S A H0 H1 locs1 → W p l e R s m args below meth c H1 locs1 cells slots Q (F0 m (pc + 3) ls rest)) : W p l e R s m args below meth c H locs cells slots Q (F0 m pc ls (.int n :: .int dp :: .ref b :: .int sp :: .ref a :: rest)) := by
  obtain ⟨⟨ha, ka⟩, ⟨hb9, kb⟩, h1, h2, h3, h4, h5⟩ := h
  obtain ⟨k0, hk0⟩ := va_pl_get (X := []) (f := PF G S) ha
  obtain ⟨k1, hk1⟩ := va_pl_get (X := []) (f := PF G S) hb9
  refine va_copyl hexec hb hml hown hlink hnat hstat hini hK hP hD hS k0 k1 1 1 (ty := .long) (by rw [← PF_9 ka]; exact hk0) (by rw [← PF_9 kb]; exact hk1) rfl rfl rfl h1 h2 h3 h4 h5 (fun _ _ => rfl) hframes hlocals hdg (fun H1 locs1 q1 _ q3 => kk H1 locs1 ?_ q3)
  have e1 := va_pl_set (X := []) (e := .inl (gJ G, (hsN S b, .inr (.inl (va_cpy (hsJ S a) (hsJ S b) sp.toNatClampNeg dp.toNatClampNeg n.toNatClampNeg))))) hD hb9 hk1
  rw [List.nil_append, List.nil_append, va_pl_congr (PF_up (g := PF G (hwJc S a b sp dp n)) ?_ ?_)] at e1
  · rw [e1] at q1
    exact q1
  · rw [PF_9 (S := hwJc S a b sp dp n) kb]
    simp [hsJ, hsN, hwJc]
  · intro z hz
    simp only [PF, hsK, hsI, hsQ, hsN, hsA, hsJ, hsR, hwJc, if_neg hz]
end HM3
/-! ===== Square.mark: super.mark() that Round has from Plain ===== -/
section HM4
variable {p : Program} {l : Launch} {e : Env} {R : Room} {s : State} {m : MethodId} {args : Array Value} {below : List Frame} {meth : Method} {c : Code} {H : Heap} {locs : List Loc} {cells slots : Nat} {Q : State → Prop}
theorem mk_isSub {vm : Vm} {a b : ClassId} {k : Class} (h1 : vm.classes[a]? = some k) (h2 : k.super = some b) : vm.isSubclass a b = true := by
  have hl := (Array.getElem?_eq_some_iff.mp h1).1
  unfold Vm.isSubclass
  obtain ⟨n, hn⟩ : ∃ n, vm.classes.size = n + 1 := ⟨vm.classes.size - 1, by omega⟩
  rw [hn]
  simp [Vm.isSubclassAux, h1, h2]
theorem mk_runSU {cc : ByteArray} {nL : Nat} {rm : Room} {Pc : Array Value → State → Prop} {Qc : Array Value → State → Outcome → State → Prop} {free : Addr → Prop} {C : String} {b : Addr} {rest : List Value} {g : JFrame}
    (hk : KM s) (hx : p.tables.exec = Jvm.exec) (hb : c.code = cc) (hml : c.maxLocals = nL) (ho : s.vm.findClass RX5 = some m.cls) (hat : ∃ (cC : ClassId) (k : Class), s.vm.findClass C = some cC ∧ s.vm.classes[cC]? = some k) (hM : Met l yX2_mark wsX2_mark rm Pc Qc 0 0 free) (hrc : rm.cells = 0) (hrs : rm.slots = 0) (hR : rm.frames + 1 ≤ R.frames ∧ 8 + (1 + 11) + rm.locals ≤ R.locals) (hp : PreV s H C b Pc [])
    (hg : g.method = m) (hsize : g.locals.size = nL) (hstack : g.stack = .ref b :: rest) (hW : 2 * g.monitorRoom + (rest.map fun v => v.category).sum ≤ 8) (hdg : decode cc g.pc = .ok (.invokespecial 15, 3)) (hf : cells + 0 ≤ R.cells ∧ slots + 0 ≤ R.slots) :
    va_Run p l e R s m args below meth c H locs cells slots 0 0 g rest (Qc (#[Value.ref b])) (free) := by
  have hw : ∀ w ∈ wsMK, w.before args s = true := fun w h => hk w h args
  have hG : GoodIn wsMK wsX2_mark := fun w h => wsMK_good w (List.mem_append_right _ h)
  have hcw : Cond.code yX2_mark cX2_mark 1 (some .int) ∈ wsX2_mark := List.mem_cons_self
  have hcode := hw _ (hG _ hcw).1
  have hlink := hw (.methodLink RX5 15 ⟨"ThrowModels$Round", "mark", "()I"⟩) (List.mem_of_getElem? (i := 0) rfl)
  have hsame := hw (.sameMethod "ThrowModels$Round" "ThrowModels$Plain" "mark" "()I") (List.mem_of_getElem? (i := 1) rfl)
  have hsup := hw (.superclass RX5 RX4) (List.mem_of_getElem? (i := 2) rfl)
  have hsup2 := hw (.superclass RX4 RX2) (List.mem_of_getElem? (i := 3) rfl)
  have hinst := hw (.instanceMethod yX2_mark) (List.mem_of_getElem? (i := 4) rfl)
  have hini := hw (.initialized RX2) (List.mem_of_getElem? (i := 5) rfl)
  have hK : Back l R p e below s args yX2_mark 3 8 (PreOf R 0 0 Pc) (PostOf Qc 0 0 free) := back_of (bytes := cX2_mark) (maxL := 1) (ret := some .int) hM hp.1 hrc hrs hR.1 hR.2 (pay_in hw hG) hcw (fun a' U hW => word_at hW (Or.inl (by first | rfl | simp [Cond.onTables, Cond.keeps, Cond.steady])) hini)
  obtain ⟨-, ⟨cellB, hcB, hoB, hclB⟩, hPc⟩ := hp
  obtain ⟨cC, kB, hfc, hkB⟩ := hat
  cases hfc.symm.trans hclB
  obtain ⟨mk, methM, hnamed, hmethM, hstM, habM⟩ := Cond.instanceMethod_spec hinst
  obtain ⟨methM', cM, hmethM', -, -, -, -, -, -, hsigM⟩ := Cond.code_spec hnamed hcode
  cases hmethM.symm.trans hmethM'
  obtain ⟨ps, dk, kp, hps, hdk, hkp, hsuper, -, -, hnid⟩ := Cond.superclass_spec ho hsup
  obtain ⟨ps2, dk2, kp2, hps2, hdk2, hkp2, hsuper2, -, -, -⟩ := Cond.superclass_spec hps hsup2
  have hpm : ps2 = mk.cls := Option.some.inj (hps2.symm.trans (findClass_of_methodNamed hnamed))
  have hsub : s.vm.isSubclass ps mk.cls = true := by rw [← hpm]; exact mk_isSub hdk2 hsuper2
  have h8 : (parseMethodDescriptor yX2_mark.desc).map (fun d => d.parameters.length) = some 0 := by decide +kernel
  rw [hsigM] at h8
  have hlen9 : ([] : List Value).length = methM.sig.parameters.length := (Option.some.inj h8).symm
  intro T hT X
  obtain ⟨vm₁, X₁, hstep₁⟩ := X.invokespecialUp hx ho hlink hsame (show s.methodNamed? ⟨"ThrowModels$Plain", "mark", "()I"⟩ = some mk from hnamed) hmethM hstM habM (by decide) hdk hnid hps hsuper hsub (a := b) (cell := cellB) (by rw [hT]; exact hcB)
    (fun z h => by rw [h] at hoB; cases hoB) hkB (g := g) hg (argsL := []) (rest := rest) hlen9 hstack (by rw [hb]; exact hdg)
  obtain ⟨v, ⟨U', l2, c2, s2⟩, X', ⟨g', mk2, t, L, e1, e2, hq, h1, hL, h2, h3⟩, st⟩ := hK m meth c ⟨T.setVm vm₁, locs, cells, slots⟩ { g with stack := rest } (.invokespecial 15) mk (#[Value.ref b]) X₁ hg (hsize.trans hml.symm) (by rw [hb]; exact hdg) hW (X₁.named hnamed) ⟨hf.1, hf.2, hPc (T.setVm vm₁) hT X₁.warmed⟩
  dsimp only [Pt.U, Pt.locs, Pt.cells, Pt.slots] at X' e1 e2 h1 h2 h3 st
  subst h1; subst h2; subst h3
  exact ⟨v, (T.setVm vm₁).calling g' mk2 (#[Value.ref b]), t, U', L, hT, X', hL, e1, e2, hq, fun target h => hstep₁ _ (by rw [doInvoke_state]; exact st.trans h)⟩
end HM4
