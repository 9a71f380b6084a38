/-! ===== the law, case by case: 1 .. 24 ===== -/
section LCS
variable {p : Program} {l : Launch} {e : Env} {s : State} {m : MethodId} {below : List Frame} {meth : Method} {c : Code} {b L : Nat} {xs : Nat → Int32} {G : GE} {Z : State → Prop}
set_option maxHeartbeats 4000000 in
set_option maxRecDepth 100000 in
/-- case 1: move -/
theorem lc_1 (C0 : lw_At p s m meth c b L xs) (hK : va_K (gD G) vwCl (gT G) s) (hE : EZ G [] s.heap.size s) {k x mm : Nat} {LX LM : List Nat} {SX SM : HS} {H : Heap} {locs : List Loc} {cells slots : Nat} (hW : LwW G s k x mm LX LM SX SM H) (hk : k < 512) (hcs : cells + 130 ≤ room_1.cells ∧ slots + 4355 ≤ room_1.slots) (hS : va_S (AZ [] s.heap.size) s.heap H locs) {i : Int32} (hi : ∀ j : Int32, j = 1 ∨ j = 2 ∨ j = 3 ∨ j = 4 ∨ j = 5 → vp_in (i + j) L) {ls : Array Slot} (hl : lv_has ls 4 [(0, .ref b), (1, .ref x), (2, .ref mm), (3, .int i)])
    (kk : ∀ (LX1 : List Nat) (SX1 SM1 : HS) (H1 : Heap) (locs1 : List Loc), LwW G s (k + 1) x mm LX1 LM SX1 SM1 H1 → va_S (AZ [] s.heap.size) s.heap H1 locs1 → W p l e room_1 s m #[Value.ref b] below meth c H1 locs1 (cells + 130) (slots + 4355) Z (F0 m 1410 ls [])) : W p l e room_1 s m #[Value.ref b] below meth c H locs cells slots Z (F0 m 201 ls []) := by
  obtain ⟨hx, hb, hr, hml, hown, hts0, hX, hbl, hlocks, hgv⟩ := id C0
  have hts : ∀ w ∈ wsL_law, w.before #[Value.ref b] s = true := fun w h => hts0 w (wsL_law_in w h)
  have hown : s.vm.findClass RL = some m.cls := hown
  have h44 : (Cond.constantLong RL 44 4294967295).before #[Value.ref b] s = true := hts0 _ (in_wsL_law_r1 _ w44)
  have hbA : ¬ AZ [] s.heap.size b := fun z => z.elim (fun y => absurd y List.not_mem_nil) (fun y => absurd y (Nat.not_le.mpr hbl))
  have h1 := hi 1 (Or.inl rfl)
  have h2 := hi 2 (Or.inr (Or.inl rfl))
  have h3 := hi 3 (Or.inr (Or.inr (Or.inl rfl)))
  have h4 := hi 4 (Or.inr (Or.inr (Or.inr (Or.inl rfl))))
  have h5 := hi 5 (Or.inr (Or.inr (Or.inr (Or.inr rfl))))
  obtain ⟨hR, hPX, hPM, hnX, hnM, hLX, hLM, hdis, hdis2⟩ := hW
  obtain ⟨o1, o2, oe, hR1⟩ := st_move hR (xs (i + 1).toNatClampNeg) (xs (i + 2).toNatClampNeg)
  refine lv_aload_n hx hb dL_law_201 rfl (lv_at hl 1 rfl) ?_
  refine lv_aload_n hx hb dL_law_202 rfl (lv_at hl 0 rfl) ?_
  refine lv_iload_n hx hb dL_law_203 rfl (lv_at hl 3 rfl) ?_
  refine lv_iconst (v := 1) hx hb dL_law_204 (by decide) ?_
  refine lv_iadd hx hb dL_law_205 ?_
  refine va_sld hx hb hX hbl hbA hS h1 dL_law_206 ?_
  refine lv_aload_n hx hb dL_law_207 rfl (lv_at hl 0 rfl) ?_
  refine lv_iload_n hx hb dL_law_208 rfl (lv_at hl 3 rfl) ?_
  refine lv_iconst (v := 2) hx hb dL_law_209 (by decide) ?_
  refine lv_iadd hx hb dL_law_210 ?_
  refine va_sld hx hb hX hbl hbA hS h2 dL_law_211 ?_
  refine lw_rI (va_runV (As := [.int (xs (i + 1).toNatClampNeg), .int (xs (i + 2).toNatClampNeg)]) (rest := []) ⟨hx, hb, hml, hown, hts⟩ (hm_X8_move l G LX SX x (xs (i + 1).toNatClampNeg) (xs (i + 2).toNatClampNeg) o1) (cwV 2 hts gL_law_X8_move rfl rfl rfl hdv_X8_move ⟨Nat.le_of_ble_eq_true rfl, Nat.le_of_ble_eq_true rfl⟩) ⟨HW.fb, hp_recv hK hPX hR.okx.1 (PF_6 hR.okx.2) rfl, fun U hU hW => ⟨rfl, HZ.hw hPX hK hnX hLX hE hS U hU hW⟩⟩ rfl rfl hl.1 rfl (lv_room (Nat.le_of_ble_eq_true rfl)) dL_law_212 ⟨(show cells + 0 ≤ room_1.cells by omega), (show slots + 0 ≤ room_1.slots by omega)⟩) hS hLX hPM hdis (fun H locs hPX hPM hS => ?_)
  refine lv_aload_n hx hb dL_law_215 rfl (lv_at hl 2 rfl) ?_
  refine lv_aload_n hx hb dL_law_216 rfl (lv_at hl 0 rfl) ?_
  refine lv_iload_n hx hb dL_law_217 rfl (lv_at hl 3 rfl) ?_
  refine lv_iconst (v := 1) hx hb dL_law_218 (by decide) ?_
  refine lv_iadd hx hb dL_law_219 ?_
  refine va_sld hx hb hX hbl hbA hS h1 dL_law_220 ?_
  refine lv_aload_n hx hb dL_law_221 rfl (lv_at hl 0 rfl) ?_
  refine lv_iload_n hx hb dL_law_222 rfl (lv_at hl 3 rfl) ?_
  refine lv_iconst (v := 2) hx hb dL_law_223 (by decide) ?_
  refine lv_iadd hx hb dL_law_224 ?_
  refine va_sld hx hb hX hbl hbA hS h2 dL_law_225 ?_
  refine lw_rI (va_runV (As := [.int (xs (i + 1).toNatClampNeg), .int (xs (i + 2).toNatClampNeg)]) (rest := [.int ((h_X8_move x (xs (i + 1).toNatClampNeg) (xs (i + 2).toNatClampNeg) SX).1)]) ⟨hx, hb, hml, hown, hts⟩ (hm_X9_move l G LM SM mm (xs (i + 1).toNatClampNeg) (xs (i + 2).toNatClampNeg) o2) (cwV 2 hts gL_law_X9_move rfl rfl rfl hdv_X9_move ⟨Nat.le_of_ble_eq_true rfl, Nat.le_of_ble_eq_true rfl⟩) ⟨HW.fb, hp_recv hK hPM hR.okm.1 (PF_7 hR.okm.2) rfl, fun U hU hW => ⟨rfl, HZ.hw hPM hK hnM hLM hE hS U hU hW⟩⟩ rfl rfl hl.1 rfl (lv_room (Nat.le_of_ble_eq_true rfl)) dL_law_226 ⟨(show cells + 0 ≤ room_1.cells by omega), (show slots + 0 ≤ room_1.slots by omega)⟩) hS hLM hPX hdis2 (fun H locs hPM hPX hS => ?_)
  refine lv_icmp_eq (tgt := 1410) hx hb dL_law_229 (by decide) (fun _ => ?_) (fun z => absurd oe z)
  refine W.widen (k := cells + 130) (n := slots + 4355) (by omega) (by omega) ?_
  exact kk LX _ _ H locs ⟨(hR1.next hk), hPX, hPM, hnX, hnM, hLX, hLM, hdis, hdis2⟩ hS
set_option maxHeartbeats 4000000 in
set_option maxRecDepth 100000 in
/-- case 4: same -/
theorem lc_4 (C0 : lw_At p s m meth c b L xs) (hK : va_K (gD G) vwCl (gT G) s) (hE : EZ G [] s.heap.size s) {k x mm : Nat} {LX LM : List Nat} {SX SM : HS} {H : Heap} {locs : List Loc} {cells slots : Nat} (hW : LwW G s k x mm LX LM SX SM H) (hk : k < 512) (hcs : cells + 130 ≤ room_1.cells ∧ slots + 4355 ≤ room_1.slots) (hS : va_S (AZ [] s.heap.size) s.heap H locs) {i : Int32} (hi : ∀ j : Int32, j = 1 ∨ j = 2 ∨ j = 3 ∨ j = 4 ∨ j = 5 → vp_in (i + j) L) {ls : Array Slot} (hl : lv_has ls 4 [(0, .ref b), (1, .ref x), (2, .ref mm), (3, .int i)])
    (kk : ∀ (LX1 : List Nat) (SX1 SM1 : HS) (H1 : Heap) (locs1 : List Loc), LwW G s (k + 1) x mm LX1 LM SX1 SM1 H1 → va_S (AZ [] s.heap.size) s.heap H1 locs1 → W p l e room_1 s m #[Value.ref b] below meth c H1 locs1 (cells + 130) (slots + 4355) Z (F0 m 1410 ls [])) : W p l e room_1 s m #[Value.ref b] below meth c H locs cells slots Z (F0 m 300 ls []) := by
  obtain ⟨hx, hb, hr, hml, hown, hts0, hX, hbl, hlocks, hgv⟩ := id C0
  have hts : ∀ w ∈ wsL_law, w.before #[Value.ref b] s = true := fun w h => hts0 w (wsL_law_in w h)
  have hown : s.vm.findClass RL = some m.cls := hown
  have h44 : (Cond.constantLong RL 44 4294967295).before #[Value.ref b] s = true := hts0 _ (in_wsL_law_r1 _ w44)
  have hbA : ¬ AZ [] s.heap.size b := fun z => z.elim (fun y => absurd y List.not_mem_nil) (fun y => absurd y (Nat.not_le.mpr hbl))
  have h1 := hi 1 (Or.inl rfl)
  have h2 := hi 2 (Or.inr (Or.inl rfl))
  have h3 := hi 3 (Or.inr (Or.inr (Or.inl rfl)))
  have h4 := hi 4 (Or.inr (Or.inr (Or.inr (Or.inl rfl))))
  have h5 := hi 5 (Or.inr (Or.inr (Or.inr (Or.inr rfl))))
  obtain ⟨hR, hPX, hPM, hnX, hnM, hLX, hLM, hdis, hdis2⟩ := hW
  obtain ⟨o1, o2, oe⟩ := st_same hR (xs (i + 1).toNatClampNeg) (xs (i + 2).toNatClampNeg)
  refine lv_aload_n hx hb dL_law_300 rfl (lv_at hl 1 rfl) ?_
  refine lv_aload_n hx hb dL_law_301 rfl (lv_at hl 0 rfl) ?_
  refine lv_iload_n hx hb dL_law_302 rfl (lv_at hl 3 rfl) ?_
  refine lv_iconst (v := 1) hx hb dL_law_303 (by decide) ?_
  refine lv_iadd hx hb dL_law_304 ?_
  refine va_sld hx hb hX hbl hbA hS h1 dL_law_305 ?_
  refine lv_aload_n hx hb dL_law_306 rfl (lv_at hl 0 rfl) ?_
  refine lv_iload_n hx hb dL_law_307 rfl (lv_at hl 3 rfl) ?_
  refine lv_iconst (v := 2) hx hb dL_law_308 (by decide) ?_
  refine lv_iadd hx hb dL_law_309 ?_
  refine va_sld hx hb hX hbl hbA hS h2 dL_law_310 ?_
  refine lw_rIr (h_X8_same x (xs (i + 1).toNatClampNeg) (xs (i + 2).toNatClampNeg) SX) (va_runV (As := [.int (xs (i + 1).toNatClampNeg), .int (xs (i + 2).toNatClampNeg)]) (rest := []) ⟨hx, hb, hml, hown, hts⟩ (hm_X8_same l G LX SX x (xs (i + 1).toNatClampNeg) (xs (i + 2).toNatClampNeg) o1) (cwV 2 hts gL_law_X8_same rfl rfl rfl hdv_X8_same ⟨Nat.le_of_ble_eq_true rfl, Nat.le_of_ble_eq_true rfl⟩) ⟨HW.fb, hp_recv hK hPX hR.okx.1 (PF_6 hR.okx.2) rfl, fun U hU hW => ⟨rfl, HZ.hw hPX hK hnX hLX hE hS U hU hW⟩⟩ rfl rfl hl.1 rfl (lv_room (Nat.le_of_ble_eq_true rfl)) dL_law_311 ⟨(show cells + 0 ≤ room_1.cells by omega), (show slots + 0 ≤ room_1.slots by omega)⟩) hS hLX hPM hdis (fun H locs hPX hPM hS => ?_)
  refine lv_aload_n hx hb dL_law_314 rfl (lv_at hl 2 rfl) ?_
  refine lv_aload_n hx hb dL_law_315 rfl (lv_at hl 0 rfl) ?_
  refine lv_iload_n hx hb dL_law_316 rfl (lv_at hl 3 rfl) ?_
  refine lv_iconst (v := 1) hx hb dL_law_317 (by decide) ?_
  refine lv_iadd hx hb dL_law_318 ?_
  refine va_sld hx hb hX hbl hbA hS h1 dL_law_319 ?_
  refine lv_aload_n hx hb dL_law_320 rfl (lv_at hl 0 rfl) ?_
  refine lv_iload_n hx hb dL_law_321 rfl (lv_at hl 3 rfl) ?_
  refine lv_iconst (v := 2) hx hb dL_law_322 (by decide) ?_
  refine lv_iadd hx hb dL_law_323 ?_
  refine va_sld hx hb hX hbl hbA hS h2 dL_law_324 ?_
  refine lw_rIr (h_X9_same mm (xs (i + 1).toNatClampNeg) (xs (i + 2).toNatClampNeg) SM) (va_runV (As := [.int (xs (i + 1).toNatClampNeg), .int (xs (i + 2).toNatClampNeg)]) (rest := [.int (h_X8_same x (xs (i + 1).toNatClampNeg) (xs (i + 2).toNatClampNeg) SX)]) ⟨hx, hb, hml, hown, hts⟩ (hm_X9_same l G LM SM mm (xs (i + 1).toNatClampNeg) (xs (i + 2).toNatClampNeg) o2) (cwV 2 hts gL_law_X9_same rfl rfl rfl hdv_X9_same ⟨Nat.le_of_ble_eq_true rfl, Nat.le_of_ble_eq_true rfl⟩) ⟨HW.fb, hp_recv hK hPM hR.okm.1 (PF_7 hR.okm.2) rfl, fun U hU hW => ⟨rfl, HZ.hw hPM hK hnM hLM hE hS U hU hW⟩⟩ rfl rfl hl.1 rfl (lv_room (Nat.le_of_ble_eq_true rfl)) dL_law_325 ⟨(show cells + 0 ≤ room_1.cells by omega), (show slots + 0 ≤ room_1.slots by omega)⟩) hS hLM hPX hdis2 (fun H locs hPM hPX hS => ?_)
  refine lv_icmp_eq (tgt := 1410) hx hb dL_law_328 (by decide) (fun _ => ?_) (fun z => absurd oe z)
  refine W.widen (k := cells + 130) (n := slots + 4355) (by omega) (by omega) ?_
  exact kk LX SX SM H locs ⟨(hR.next hk), hPX, hPM, hnX, hnM, hLX, hLM, hdis, hdis2⟩ hS
set_option maxHeartbeats 4000000 in
set_option maxRecDepth 100000 in
/-- case 5: length -/
theorem lc_5 (C0 : lw_At p s m meth c b L xs) (hK : va_K (gD G) vwCl (gT G) s) (hE : EZ G [] s.heap.size s) {k x mm : Nat} {LX LM : List Nat} {SX SM : HS} {H : Heap} {locs : List Loc} {cells slots : Nat} (hW : LwW G s k x mm LX LM SX SM H) (hk : k < 512) (hcs : cells + 130 ≤ room_1.cells ∧ slots + 4355 ≤ room_1.slots) (hS : va_S (AZ [] s.heap.size) s.heap H locs) {i : Int32} (hi : ∀ j : Int32, j = 1 ∨ j = 2 ∨ j = 3 ∨ j = 4 ∨ j = 5 → vp_in (i + j) L) {ls : Array Slot} (hl : lv_has ls 4 [(0, .ref b), (1, .ref x), (2, .ref mm), (3, .int i)])
    (kk : ∀ (LX1 : List Nat) (SX1 SM1 : HS) (H1 : Heap) (locs1 : List Loc), LwW G s (k + 1) x mm LX1 LM SX1 SM1 H1 → va_S (AZ [] s.heap.size) s.heap H1 locs1 → W p l e room_1 s m #[Value.ref b] below meth c H1 locs1 (cells + 130) (slots + 4355) Z (F0 m 1410 ls [])) : W p l e room_1 s m #[Value.ref b] below meth c H locs cells slots Z (F0 m 333 ls []) := by
  obtain ⟨hx, hb, hr, hml, hown, hts0, hX, hbl, hlocks, hgv⟩ := id C0
  have hts : ∀ w ∈ wsL_law, w.before #[Value.ref b] s = true := fun w h => hts0 w (wsL_law_in w h)
  have hown : s.vm.findClass RL = some m.cls := hown
  have h44 : (Cond.constantLong RL 44 4294967295).before #[Value.ref b] s = true := hts0 _ (in_wsL_law_r1 _ w44)
  have hbA : ¬ AZ [] s.heap.size b := fun z => z.elim (fun y => absurd y List.not_mem_nil) (fun y => absurd y (Nat.not_le.mpr hbl))
  have h1 := hi 1 (Or.inl rfl)
  have h2 := hi 2 (Or.inr (Or.inl rfl))
  have h3 := hi 3 (Or.inr (Or.inr (Or.inl rfl)))
  have h4 := hi 4 (Or.inr (Or.inr (Or.inr (Or.inl rfl))))
  have h5 := hi 5 (Or.inr (Or.inr (Or.inr (Or.inr rfl))))
  obtain ⟨hR, hPX, hPM, hnX, hnM, hLX, hLM, hdis, hdis2⟩ := hW
  obtain ⟨o1, o2, oe, hR1⟩ := st_length hR (xs (i + 1).toNatClampNeg) (xs (i + 2).toNatClampNeg)
  refine lv_aload_n hx hb dL_law_333 rfl (lv_at hl 1 rfl) ?_
  refine lv_aload_n hx hb dL_law_334 rfl (lv_at hl 0 rfl) ?_
  refine lv_iload_n hx hb dL_law_335 rfl (lv_at hl 3 rfl) ?_
  refine lv_iconst (v := 1) hx hb dL_law_336 (by decide) ?_
  refine lv_iadd hx hb dL_law_337 ?_
  refine va_sld hx hb hX hbl hbA hS h1 dL_law_338 ?_
  refine lv_aload_n hx hb dL_law_339 rfl (lv_at hl 0 rfl) ?_
  refine lv_iload_n hx hb dL_law_340 rfl (lv_at hl 3 rfl) ?_
  refine lv_iconst (v := 2) hx hb dL_law_341 (by decide) ?_
  refine lv_iadd hx hb dL_law_342 ?_
  refine va_sld hx hb hX hbl hbA hS h2 dL_law_343 ?_
  refine lw_rI (va_runV (As := [.int (xs (i + 1).toNatClampNeg), .int (xs (i + 2).toNatClampNeg)]) (rest := []) ⟨hx, hb, hml, hown, hts⟩ (hm_X8_length l G LX SX x (xs (i + 1).toNatClampNeg) (xs (i + 2).toNatClampNeg) o1) (cwV 2 hts gL_law_X8_length rfl rfl rfl hdv_X8_length ⟨Nat.le_of_ble_eq_true rfl, Nat.le_of_ble_eq_true rfl⟩) ⟨HW.fb, hp_recv hK hPX hR.okx.1 (PF_6 hR.okx.2) rfl, fun U hU hW => ⟨rfl, HZ.hw hPX hK hnX hLX hE hS U hU hW⟩⟩ rfl rfl hl.1 rfl (lv_room (Nat.le_of_ble_eq_true rfl)) dL_law_344 ⟨(show cells + 0 ≤ room_1.cells by omega), (show slots + 0 ≤ room_1.slots by omega)⟩) hS hLX hPM hdis (fun H locs hPX hPM hS => ?_)
  refine lv_aload_n hx hb dL_law_347 rfl (lv_at hl 2 rfl) ?_
  refine lv_aload_n hx hb dL_law_348 rfl (lv_at hl 0 rfl) ?_
  refine lv_iload_n hx hb dL_law_349 rfl (lv_at hl 3 rfl) ?_
  refine lv_iconst (v := 1) hx hb dL_law_350 (by decide) ?_
  refine lv_iadd hx hb dL_law_351 ?_
  refine va_sld hx hb hX hbl hbA hS h1 dL_law_352 ?_
  refine lv_aload_n hx hb dL_law_353 rfl (lv_at hl 0 rfl) ?_
  refine lv_iload_n hx hb dL_law_354 rfl (lv_at hl 3 rfl) ?_
  refine lv_iconst (v := 2) hx hb dL_law_355 (by decide) ?_
  refine lv_iadd hx hb dL_law_356 ?_
  refine va_sld hx hb hX hbl hbA hS h2 dL_law_357 ?_
  refine lw_rI (va_runV (As := [.int (xs (i + 1).toNatClampNeg), .int (xs (i + 2).toNatClampNeg)]) (rest := [.int ((h_X8_length x (xs (i + 1).toNatClampNeg) (xs (i + 2).toNatClampNeg) SX).1)]) ⟨hx, hb, hml, hown, hts⟩ (hm_X9_length l G LM SM mm (xs (i + 1).toNatClampNeg) (xs (i + 2).toNatClampNeg) o2) (cwV 2 hts gL_law_X9_length rfl rfl rfl hdv_X9_length ⟨Nat.le_of_ble_eq_true rfl, Nat.le_of_ble_eq_true rfl⟩) ⟨HW.fb, hp_recv hK hPM hR.okm.1 (PF_7 hR.okm.2) rfl, fun U hU hW => ⟨rfl, HZ.hw hPM hK hnM hLM hE hS U hU hW⟩⟩ rfl rfl hl.1 rfl (lv_room (Nat.le_of_ble_eq_true rfl)) dL_law_358 ⟨(show cells + 0 ≤ room_1.cells by omega), (show slots + 0 ≤ room_1.slots by omega)⟩) hS hLM hPX hdis2 (fun H locs hPM hPX hS => ?_)
  refine lv_icmp_eq (tgt := 1410) hx hb dL_law_361 (by decide) (fun _ => ?_) (fun z => absurd oe z)
  refine W.widen (k := cells + 130) (n := slots + 4355) (by omega) (by omega) ?_
  exact kk LX _ _ H locs ⟨(hR1.next hk), hPX, hPM, hnX, hnM, hLX, hLM, hdis, hdis2⟩ hS
set_option maxHeartbeats 4000000 in
set_option maxRecDepth 100000 in
/-- case 6: load -/
theorem lc_6 (C0 : lw_At p s m meth c b L xs) (hK : va_K (gD G) vwCl (gT G) s) (hE : EZ G [] s.heap.size s) {k x mm : Nat} {LX LM : List Nat} {SX SM : HS} {H : Heap} {locs : List Loc} {cells slots : Nat} (hW : LwW G s k x mm LX LM SX SM H) (hk : k < 512) (hcs : cells + 130 ≤ room_1.cells ∧ slots + 4355 ≤ room_1.slots) (hS : va_S (AZ [] s.heap.size) s.heap H locs) {i : Int32} (hi : ∀ j : Int32, j = 1 ∨ j = 2 ∨ j = 3 ∨ j = 4 ∨ j = 5 → vp_in (i + j) L) {ls : Array Slot} (hl : lv_has ls 4 [(0, .ref b), (1, .ref x), (2, .ref mm), (3, .int i)])
    (kk : ∀ (LX1 : List Nat) (SX1 SM1 : HS) (H1 : Heap) (locs1 : List Loc), LwW G s (k + 1) x mm LX1 LM SX1 SM1 H1 → va_S (AZ [] s.heap.size) s.heap H1 locs1 → W p l e room_1 s m #[Value.ref b] below meth c H1 locs1 (cells + 130) (slots + 4355) Z (F0 m 1410 ls [])) : W p l e room_1 s m #[Value.ref b] below meth c H locs cells slots Z (F0 m 366 ls []) := by
  obtain ⟨hx, hb, hr, hml, hown, hts0, hX, hbl, hlocks, hgv⟩ := id C0
  have hts : ∀ w ∈ wsL_law, w.before #[Value.ref b] s = true := fun w h => hts0 w (wsL_law_in w h)
  have hown : s.vm.findClass RL = some m.cls := hown
  have h44 : (Cond.constantLong RL 44 4294967295).before #[Value.ref b] s = true := hts0 _ (in_wsL_law_r1 _ w44)
  have hbA : ¬ AZ [] s.heap.size b := fun z => z.elim (fun y => absurd y List.not_mem_nil) (fun y => absurd y (Nat.not_le.mpr hbl))
  have h1 := hi 1 (Or.inl rfl)
  have h2 := hi 2 (Or.inr (Or.inl rfl))
  have h3 := hi 3 (Or.inr (Or.inr (Or.inl rfl)))
  have h4 := hi 4 (Or.inr (Or.inr (Or.inr (Or.inl rfl))))
  have h5 := hi 5 (Or.inr (Or.inr (Or.inr (Or.inr rfl))))
  obtain ⟨hR, hPX, hPM, hnX, hnM, hLX, hLM, hdis, hdis2⟩ := hW
  obtain ⟨o1, o2, oe, hR1⟩ := st_load hR (xs (i + 1).toNatClampNeg) (xs (i + 2).toNatClampNeg) (xs (i + 3).toNatClampNeg)
  refine lv_aload_n hx hb dL_law_366 rfl (lv_at hl 1 rfl) ?_
  refine lv_aload_n hx hb dL_law_367 rfl (lv_at hl 0 rfl) ?_
  refine lv_iload_n hx hb dL_law_368 rfl (lv_at hl 3 rfl) ?_
  refine lv_iconst (v := 1) hx hb dL_law_369 (by decide) ?_
  refine lv_iadd hx hb dL_law_370 ?_
  refine va_sld hx hb hX hbl hbA hS h1 dL_law_371 ?_
  refine lv_aload_n hx hb dL_law_372 rfl (lv_at hl 0 rfl) ?_
  refine lv_iload_n hx hb dL_law_373 rfl (lv_at hl 3 rfl) ?_
  refine lv_iconst (v := 2) hx hb dL_law_374 (by decide) ?_
  refine lv_iadd hx hb dL_law_375 ?_
  refine va_sld hx hb hX hbl hbA hS h2 dL_law_376 ?_
  refine lv_aload_n hx hb dL_law_377 rfl (lv_at hl 0 rfl) ?_
  refine lv_iload_n hx hb dL_law_378 rfl (lv_at hl 3 rfl) ?_
  refine lv_iconst (v := 3) hx hb dL_law_379 (by decide) ?_
  refine lv_iadd hx hb dL_law_380 ?_
  refine va_sld hx hb hX hbl hbA hS h3 dL_law_381 ?_
  refine lw_rL (va_runV (As := [.int (xs (i + 1).toNatClampNeg), .int (xs (i + 2).toNatClampNeg), .int (xs (i + 3).toNatClampNeg)]) (rest := []) ⟨hx, hb, hml, hown, hts⟩ (hm_X8_load l G LX SX x (xs (i + 1).toNatClampNeg) (xs (i + 2).toNatClampNeg) (xs (i + 3).toNatClampNeg) o1) (cwV 3 hts gL_law_X8_load rfl rfl rfl hdv_X8_load ⟨Nat.le_of_ble_eq_true rfl, Nat.le_of_ble_eq_true rfl⟩) ⟨HW.fb, hp_recv hK hPX hR.okx.1 (PF_6 hR.okx.2) rfl, fun U hU hW => ⟨rfl, HZ.hw hPX hK hnX hLX hE hS U hU hW⟩⟩ rfl rfl hl.1 rfl (lv_room (Nat.le_of_ble_eq_true rfl)) dL_law_382 ⟨(show cells + 0 ≤ room_1.cells by omega), (show slots + 0 ≤ room_1.slots by omega)⟩) hS hLX hPM hdis (fun H locs hPX hPM hS => ?_)
  refine lv_aload_n hx hb dL_law_385 rfl (lv_at hl 2 rfl) ?_
  refine lv_aload_n hx hb dL_law_386 rfl (lv_at hl 0 rfl) ?_
  refine lv_iload_n hx hb dL_law_387 rfl (lv_at hl 3 rfl) ?_
  refine lv_iconst (v := 1) hx hb dL_law_388 (by decide) ?_
  refine lv_iadd hx hb dL_law_389 ?_
  refine va_sld hx hb hX hbl hbA hS h1 dL_law_390 ?_
  refine lv_aload_n hx hb dL_law_391 rfl (lv_at hl 0 rfl) ?_
  refine lv_iload_n hx hb dL_law_392 rfl (lv_at hl 3 rfl) ?_
  refine lv_iconst (v := 2) hx hb dL_law_393 (by decide) ?_
  refine lv_iadd hx hb dL_law_394 ?_
  refine va_sld hx hb hX hbl hbA hS h2 dL_law_395 ?_
  refine lv_aload_n hx hb dL_law_396 rfl (lv_at hl 0 rfl) ?_
  refine lv_iload_n hx hb dL_law_397 rfl (lv_at hl 3 rfl) ?_
  refine lv_iconst (v := 3) hx hb dL_law_398 (by decide) ?_
  refine lv_iadd hx hb dL_law_399 ?_
  refine va_sld hx hb hX hbl hbA hS h3 dL_law_400 ?_
  refine lw_rL (va_runV (As := [.int (xs (i + 1).toNatClampNeg), .int (xs (i + 2).toNatClampNeg), .int (xs (i + 3).toNatClampNeg)]) (rest := [.long ((h_X8_load x (xs (i + 1).toNatClampNeg) (xs (i + 2).toNatClampNeg) (xs (i + 3).toNatClampNeg) SX).1)]) ⟨hx, hb, hml, hown, hts⟩ (hm_X9_load l G LM SM mm (xs (i + 1).toNatClampNeg) (xs (i + 2).toNatClampNeg) (xs (i + 3).toNatClampNeg) o2) (cwV 3 hts gL_law_X9_load rfl rfl rfl hdv_X9_load ⟨Nat.le_of_ble_eq_true rfl, Nat.le_of_ble_eq_true rfl⟩) ⟨HW.fb, hp_recv hK hPM hR.okm.1 (PF_7 hR.okm.2) rfl, fun U hU hW => ⟨rfl, HZ.hw hPM hK hnM hLM hE hS U hU hW⟩⟩ rfl rfl hl.1 rfl (lv_room (Nat.le_of_ble_eq_true rfl)) dL_law_401 ⟨(show cells + 0 ≤ room_1.cells by omega), (show slots + 0 ≤ room_1.slots by omega)⟩) hS hLM hPX hdis2 (fun H locs hPM hPX hS => ?_)
  refine lp_eq (tgt := 1410) hx hb dL_law_404 dL_law_405 (by decide) (fun _ => ?_) (fun z => absurd oe z)
  refine W.widen (k := cells + 130) (n := slots + 4355) (by omega) (by omega) ?_
  exact kk LX _ _ H locs ⟨(hR1.next hk), hPX, hPM, hnX, hnM, hLX, hLM, hdis, hdis2⟩ hS
set_option maxHeartbeats 4000000 in
set_option maxRecDepth 100000 in
/-- case 7: store -/
theorem lc_7 (C0 : lw_At p s m meth c b L xs) (hK : va_K (gD G) vwCl (gT G) s) (hE : EZ G [] s.heap.size s) {k x mm : Nat} {LX LM : List Nat} {SX SM : HS} {H : Heap} {locs : List Loc} {cells slots : Nat} (hW : LwW G s k x mm LX LM SX SM H) (hk : k < 512) (hcs : cells + 130 ≤ room_1.cells ∧ slots + 4355 ≤ room_1.slots) (hS : va_S (AZ [] s.heap.size) s.heap H locs) {i : Int32} (hi : ∀ j : Int32, j = 1 ∨ j = 2 ∨ j = 3 ∨ j = 4 ∨ j = 5 → vp_in (i + j) L) {ls : Array Slot} (hl : lv_has ls 4 [(0, .ref b), (1, .ref x), (2, .ref mm), (3, .int i)])
    (kk : ∀ (LX1 : List Nat) (SX1 SM1 : HS) (H1 : Heap) (locs1 : List Loc), LwW G s (k + 1) x mm LX1 LM SX1 SM1 H1 → va_S (AZ [] s.heap.size) s.heap H1 locs1 → W p l e room_1 s m #[Value.ref b] below meth c H1 locs1 (cells + 130) (slots + 4355) Z (F0 m 1410 ls [])) : W p l e room_1 s m #[Value.ref b] below meth c H locs cells slots Z (F0 m 410 ls []) := by
  obtain ⟨hx, hb, hr, hml, hown, hts0, hX, hbl, hlocks, hgv⟩ := id C0
  have hts : ∀ w ∈ wsL_law, w.before #[Value.ref b] s = true := fun w h => hts0 w (wsL_law_in w h)
  have hown : s.vm.findClass RL = some m.cls := hown
  have h44 : (Cond.constantLong RL 44 4294967295).before #[Value.ref b] s = true := hts0 _ (in_wsL_law_r1 _ w44)
  have hbA : ¬ AZ [] s.heap.size b := fun z => z.elim (fun y => absurd y List.not_mem_nil) (fun y => absurd y (Nat.not_le.mpr hbl))
  have h1 := hi 1 (Or.inl rfl)
  have h2 := hi 2 (Or.inr (Or.inl rfl))
  have h3 := hi 3 (Or.inr (Or.inr (Or.inl rfl)))
  have h4 := hi 4 (Or.inr (Or.inr (Or.inr (Or.inl rfl))))
  have h5 := hi 5 (Or.inr (Or.inr (Or.inr (Or.inr rfl))))
  obtain ⟨hR, hPX, hPM, hnX, hnM, hLX, hLM, hdis, hdis2⟩ := hW
  obtain ⟨o1, o2, oe, hR1⟩ := st_store hR (xs (i + 1).toNatClampNeg) (xs (i + 2).toNatClampNeg) (xs (i + 3).toNatClampNeg) ((lShl ((xs (i + 4).toNatClampNeg).toInt64) 32) ||| (((xs (i + 5).toNatClampNeg).toInt64) &&& 4294967295))
  refine lv_aload_n hx hb dL_law_410 rfl (lv_at hl 1 rfl) ?_
  refine lv_aload_n hx hb dL_law_411 rfl (lv_at hl 0 rfl) ?_
  refine lv_iload_n hx hb dL_law_412 rfl (lv_at hl 3 rfl) ?_
  refine lv_iconst (v := 1) hx hb dL_law_413 (by decide) ?_
  refine lv_iadd hx hb dL_law_414 ?_
  refine va_sld hx hb hX hbl hbA hS h1 dL_law_415 ?_
  refine lv_aload_n hx hb dL_law_416 rfl (lv_at hl 0 rfl) ?_
  refine lv_iload_n hx hb dL_law_417 rfl (lv_at hl 3 rfl) ?_
  refine lv_iconst (v := 2) hx hb dL_law_418 (by decide) ?_
  refine lv_iadd hx hb dL_law_419 ?_
  refine va_sld hx hb hX hbl hbA hS h2 dL_law_420 ?_
  refine lv_aload_n hx hb dL_law_421 rfl (lv_at hl 0 rfl) ?_
  refine lv_iload_n hx hb dL_law_422 rfl (lv_at hl 3 rfl) ?_
  refine lv_iconst (v := 3) hx hb dL_law_423 (by decide) ?_
  refine lv_iadd hx hb dL_law_424 ?_
  refine va_sld hx hb hX hbl hbA hS h3 dL_law_425 ?_
  refine lv_aload_n hx hb dL_law_426 rfl (lv_at hl 0 rfl) ?_
  refine lv_iload_n hx hb dL_law_427 rfl (lv_at hl 3 rfl) ?_
  refine lv_iconst (v := 4) hx hb dL_law_428 (by decide) ?_
  refine lv_iadd hx hb dL_law_429 ?_
  refine va_sld hx hb hX hbl hbA hS h4 dL_law_430 ?_
  refine lv_i2l (v := (xs (i + 4).toNatClampNeg).toInt64) hx hb dL_law_431 rfl ?_
  refine lv_bipush (v := 32) hx hb dL_law_432 (by decide) ?_
  refine lv_lshl (v := lShl ((xs (i + 4).toNatClampNeg).toInt64) 32) hx hb dL_law_434 rfl ?_
  refine lv_aload_n hx hb dL_law_435 rfl (lv_at hl 0 rfl) ?_
  refine lv_iload_n hx hb dL_law_436 rfl (lv_at hl 3 rfl) ?_
  refine lv_iconst (v := 5) hx hb dL_law_437 (by decide) ?_
  refine lv_iadd hx hb dL_law_438 ?_
  refine va_sld hx hb hX hbl hbA hS h5 dL_law_439 ?_
  refine lv_i2l (v := (xs (i + 5).toNatClampNeg).toInt64) hx hb dL_law_440 rfl ?_
  refine lv_ldc2 (v := 4294967295) hx hb hown h44 dL_law_441 ?_
  refine lv_land hx hb dL_law_444 ?_
  refine lv_lor hx hb dL_law_445 ?_
  refine lw_rI (va_runV (As := [.int (xs (i + 1).toNatClampNeg), .int (xs (i + 2).toNatClampNeg), .int (xs (i + 3).toNatClampNeg), .long ((lShl ((xs (i + 4).toNatClampNeg).toInt64) 32) ||| (((xs (i + 5).toNatClampNeg).toInt64) &&& 4294967295))]) (rest := []) ⟨hx, hb, hml, hown, hts⟩ (hm_X8_store l G LX SX x (xs (i + 1).toNatClampNeg) (xs (i + 2).toNatClampNeg) (xs (i + 3).toNatClampNeg) ((lShl ((xs (i + 4).toNatClampNeg).toInt64) 32) ||| (((xs (i + 5).toNatClampNeg).toInt64) &&& 4294967295)) o1) (cwV 4 hts gL_law_X8_store rfl rfl rfl hdv_X8_store ⟨Nat.le_of_ble_eq_true rfl, Nat.le_of_ble_eq_true rfl⟩) ⟨HW.fb, hp_recv hK hPX hR.okx.1 (PF_6 hR.okx.2) rfl, fun U hU hW => ⟨rfl, HZ.hw hPX hK hnX hLX hE hS U hU hW⟩⟩ rfl rfl hl.1 rfl (lv_room (Nat.le_of_ble_eq_true rfl)) dL_law_446 ⟨(show cells + 0 ≤ room_1.cells by omega), (show slots + 0 ≤ room_1.slots by omega)⟩) hS hLX hPM hdis (fun H locs hPX hPM hS => ?_)
  refine lv_aload_n hx hb dL_law_449 rfl (lv_at hl 2 rfl) ?_
  refine lv_aload_n hx hb dL_law_450 rfl (lv_at hl 0 rfl) ?_
  refine lv_iload_n hx hb dL_law_451 rfl (lv_at hl 3 rfl) ?_
  refine lv_iconst (v := 1) hx hb dL_law_452 (by decide) ?_
  refine lv_iadd hx hb dL_law_453 ?_
  refine va_sld hx hb hX hbl hbA hS h1 dL_law_454 ?_
  refine lv_aload_n hx hb dL_law_455 rfl (lv_at hl 0 rfl) ?_
  refine lv_iload_n hx hb dL_law_456 rfl (lv_at hl 3 rfl) ?_
  refine lv_iconst (v := 2) hx hb dL_law_457 (by decide) ?_
  refine lv_iadd hx hb dL_law_458 ?_
  refine va_sld hx hb hX hbl hbA hS h2 dL_law_459 ?_
  refine lv_aload_n hx hb dL_law_460 rfl (lv_at hl 0 rfl) ?_
  refine lv_iload_n hx hb dL_law_461 rfl (lv_at hl 3 rfl) ?_
  refine lv_iconst (v := 3) hx hb dL_law_462 (by decide) ?_
  refine lv_iadd hx hb dL_law_463 ?_
  refine va_sld hx hb hX hbl hbA hS h3 dL_law_464 ?_
  refine lv_aload_n hx hb dL_law_465 rfl (lv_at hl 0 rfl) ?_
  refine lv_iload_n hx hb dL_law_466 rfl (lv_at hl 3 rfl) ?_
  refine lv_iconst (v := 4) hx hb dL_law_467 (by decide) ?_
  refine lv_iadd hx hb dL_law_468 ?_
  refine va_sld hx hb hX hbl hbA hS h4 dL_law_469 ?_
  refine lv_i2l (v := (xs (i + 4).toNatClampNeg).toInt64) hx hb dL_law_470 rfl ?_
  refine lv_bipush (v := 32) hx hb dL_law_471 (by decide) ?_
  refine lv_lshl (v := lShl ((xs (i + 4).toNatClampNeg).toInt64) 32) hx hb dL_law_473 rfl ?_
  refine lv_aload_n hx hb dL_law_474 rfl (lv_at hl 0 rfl) ?_
  refine lv_iload_n hx hb dL_law_475 rfl (lv_at hl 3 rfl) ?_
  refine lv_iconst (v := 5) hx hb dL_law_476 (by decide) ?_
  refine lv_iadd hx hb dL_law_477 ?_
  refine va_sld hx hb hX hbl hbA hS h5 dL_law_478 ?_
  refine lv_i2l (v := (xs (i + 5).toNatClampNeg).toInt64) hx hb dL_law_479 rfl ?_
  refine lv_ldc2 (v := 4294967295) hx hb hown h44 dL_law_480 ?_
  refine lv_land hx hb dL_law_483 ?_
  refine lv_lor hx hb dL_law_484 ?_
  refine lw_rI (va_runV (As := [.int (xs (i + 1).toNatClampNeg), .int (xs (i + 2).toNatClampNeg), .int (xs (i + 3).toNatClampNeg), .long ((lShl ((xs (i + 4).toNatClampNeg).toInt64) 32) ||| (((xs (i + 5).toNatClampNeg).toInt64) &&& 4294967295))]) (rest := [.int ((h_X8_store x (xs (i + 1).toNatClampNeg) (xs (i + 2).toNatClampNeg) (xs (i + 3).toNatClampNeg) ((lShl ((xs (i + 4).toNatClampNeg).toInt64) 32) ||| (((xs (i + 5).toNatClampNeg).toInt64) &&& 4294967295)) SX).1)]) ⟨hx, hb, hml, hown, hts⟩ (hm_X9_store l G LM SM mm (xs (i + 1).toNatClampNeg) (xs (i + 2).toNatClampNeg) (xs (i + 3).toNatClampNeg) ((lShl ((xs (i + 4).toNatClampNeg).toInt64) 32) ||| (((xs (i + 5).toNatClampNeg).toInt64) &&& 4294967295)) o2) (cwV 4 hts gL_law_X9_store rfl rfl rfl hdv_X9_store ⟨Nat.le_of_ble_eq_true rfl, Nat.le_of_ble_eq_true rfl⟩) ⟨HW.fb, hp_recv hK hPM hR.okm.1 (PF_7 hR.okm.2) rfl, fun U hU hW => ⟨rfl, HZ.hw hPM hK hnM hLM hE hS U hU hW⟩⟩ rfl rfl hl.1 rfl (lv_room (Nat.le_of_ble_eq_true rfl)) dL_law_485 ⟨(show cells + 0 ≤ room_1.cells by omega), (show slots + 0 ≤ room_1.slots by omega)⟩) hS hLM hPX hdis2 (fun H locs hPM hPX hS => ?_)
  refine lv_icmp_eq (tgt := 1410) hx hb dL_law_488 (by decide) (fun _ => ?_) (fun z => absurd oe z)
  refine W.widen (k := cells + 130) (n := slots + 4355) (by omega) (by omega) ?_
  exact kk LX _ _ H locs ⟨(hR1.next hk), hPX, hPM, hnX, hnM, hLX, hLM, hdis, hdis2⟩ hS
set_option maxHeartbeats 4000000 in
set_option maxRecDepth 100000 in
/-- case 8: take -/
theorem lc_8 (C0 : lw_At p s m meth c b L xs) (hK : va_K (gD G) vwCl (gT G) s) (hE : EZ G [] s.heap.size s) {k x mm : Nat} {LX LM : List Nat} {SX SM : HS} {H : Heap} {locs : List Loc} {cells slots : Nat} (hW : LwW G s k x mm LX LM SX SM H) (hk : k < 512) (hcs : cells + 130 ≤ room_1.cells ∧ slots + 4355 ≤ room_1.slots) (hS : va_S (AZ [] s.heap.size) s.heap H locs) {i : Int32} (hi : ∀ j : Int32, j = 1 ∨ j = 2 ∨ j = 3 ∨ j = 4 ∨ j = 5 → vp_in (i + j) L) {ls : Array Slot} (hl : lv_has ls 4 [(0, .ref b), (1, .ref x), (2, .ref mm), (3, .int i)])
    (kk : ∀ (LX1 : List Nat) (SX1 SM1 : HS) (H1 : Heap) (locs1 : List Loc), LwW G s (k + 1) x mm LX1 LM SX1 SM1 H1 → va_S (AZ [] s.heap.size) s.heap H1 locs1 → W p l e room_1 s m #[Value.ref b] below meth c H1 locs1 (cells + 130) (slots + 4355) Z (F0 m 1410 ls [])) : W p l e room_1 s m #[Value.ref b] below meth c H locs cells slots Z (F0 m 493 ls []) := by
  obtain ⟨hx, hb, hr, hml, hown, hts0, hX, hbl, hlocks, hgv⟩ := id C0
  have hts : ∀ w ∈ wsL_law, w.before #[Value.ref b] s = true := fun w h => hts0 w (wsL_law_in w h)
  have hown : s.vm.findClass RL = some m.cls := hown
  have h44 : (Cond.constantLong RL 44 4294967295).before #[Value.ref b] s = true := hts0 _ (in_wsL_law_r1 _ w44)
  have hbA : ¬ AZ [] s.heap.size b := fun z => z.elim (fun y => absurd y List.not_mem_nil) (fun y => absurd y (Nat.not_le.mpr hbl))
  have h1 := hi 1 (Or.inl rfl)
  have h2 := hi 2 (Or.inr (Or.inl rfl))
  have h3 := hi 3 (Or.inr (Or.inr (Or.inl rfl)))
  have h4 := hi 4 (Or.inr (Or.inr (Or.inr (Or.inl rfl))))
  have h5 := hi 5 (Or.inr (Or.inr (Or.inr (Or.inr rfl))))
  obtain ⟨hR, hPX, hPM, hnX, hnM, hLX, hLM, hdis, hdis2⟩ := hW
  obtain ⟨o1, o2, oe, hR1⟩ := st_take hR (xs (i + 1).toNatClampNeg) (xs (i + 2).toNatClampNeg) (xs (i + 3).toNatClampNeg) (xs (i + 4).toNatClampNeg)
  refine lv_aload_n hx hb dL_law_493 rfl (lv_at hl 1 rfl) ?_
  refine lv_aload_n hx hb dL_law_494 rfl (lv_at hl 0 rfl) ?_
  refine lv_iload_n hx hb dL_law_495 rfl (lv_at hl 3 rfl) ?_
  refine lv_iconst (v := 1) hx hb dL_law_496 (by decide) ?_
  refine lv_iadd hx hb dL_law_497 ?_
  refine va_sld hx hb hX hbl hbA hS h1 dL_law_498 ?_
  refine lv_aload_n hx hb dL_law_499 rfl (lv_at hl 0 rfl) ?_
  refine lv_iload_n hx hb dL_law_500 rfl (lv_at hl 3 rfl) ?_
  refine lv_iconst (v := 2) hx hb dL_law_501 (by decide) ?_
  refine lv_iadd hx hb dL_law_502 ?_
  refine va_sld hx hb hX hbl hbA hS h2 dL_law_503 ?_
  refine lv_aload_n hx hb dL_law_504 rfl (lv_at hl 0 rfl) ?_
  refine lv_iload_n hx hb dL_law_505 rfl (lv_at hl 3 rfl) ?_
  refine lv_iconst (v := 3) hx hb dL_law_506 (by decide) ?_
  refine lv_iadd hx hb dL_law_507 ?_
  refine va_sld hx hb hX hbl hbA hS h3 dL_law_508 ?_
  refine lv_aload_n hx hb dL_law_509 rfl (lv_at hl 0 rfl) ?_
  refine lv_iload_n hx hb dL_law_510 rfl (lv_at hl 3 rfl) ?_
  refine lv_iconst (v := 4) hx hb dL_law_511 (by decide) ?_
  refine lv_iadd hx hb dL_law_512 ?_
  refine va_sld hx hb hX hbl hbA hS h4 dL_law_513 ?_
  refine lw_rI (va_runV (As := [.int (xs (i + 1).toNatClampNeg), .int (xs (i + 2).toNatClampNeg), .int (xs (i + 3).toNatClampNeg), .int (xs (i + 4).toNatClampNeg)]) (rest := []) ⟨hx, hb, hml, hown, hts⟩ (hm_X8_take l G LX SX x (xs (i + 1).toNatClampNeg) (xs (i + 2).toNatClampNeg) (xs (i + 3).toNatClampNeg) (xs (i + 4).toNatClampNeg) o1) (cwV 4 hts gL_law_X8_take rfl rfl rfl hdv_X8_take ⟨Nat.le_of_ble_eq_true rfl, Nat.le_of_ble_eq_true rfl⟩) ⟨HW.fb, hp_recv hK hPX hR.okx.1 (PF_6 hR.okx.2) rfl, fun U hU hW => ⟨rfl, HZ.hw hPX hK hnX hLX hE hS U hU hW⟩⟩ rfl rfl hl.1 rfl (lv_room (Nat.le_of_ble_eq_true rfl)) dL_law_514 ⟨(show cells + 0 ≤ room_1.cells by omega), (show slots + 0 ≤ room_1.slots by omega)⟩) hS hLX hPM hdis (fun H locs hPX hPM hS => ?_)
  refine lv_aload_n hx hb dL_law_517 rfl (lv_at hl 2 rfl) ?_
  refine lv_aload_n hx hb dL_law_518 rfl (lv_at hl 0 rfl) ?_
  refine lv_iload_n hx hb dL_law_519 rfl (lv_at hl 3 rfl) ?_
  refine lv_iconst (v := 1) hx hb dL_law_520 (by decide) ?_
  refine lv_iadd hx hb dL_law_521 ?_
  refine va_sld hx hb hX hbl hbA hS h1 dL_law_522 ?_
  refine lv_aload_n hx hb dL_law_523 rfl (lv_at hl 0 rfl) ?_
  refine lv_iload_n hx hb dL_law_524 rfl (lv_at hl 3 rfl) ?_
  refine lv_iconst (v := 2) hx hb dL_law_525 (by decide) ?_
  refine lv_iadd hx hb dL_law_526 ?_
  refine va_sld hx hb hX hbl hbA hS h2 dL_law_527 ?_
  refine lv_aload_n hx hb dL_law_528 rfl (lv_at hl 0 rfl) ?_
  refine lv_iload_n hx hb dL_law_529 rfl (lv_at hl 3 rfl) ?_
  refine lv_iconst (v := 3) hx hb dL_law_530 (by decide) ?_
  refine lv_iadd hx hb dL_law_531 ?_
  refine va_sld hx hb hX hbl hbA hS h3 dL_law_532 ?_
  refine lv_aload_n hx hb dL_law_533 rfl (lv_at hl 0 rfl) ?_
  refine lv_iload_n hx hb dL_law_534 rfl (lv_at hl 3 rfl) ?_
  refine lv_iconst (v := 4) hx hb dL_law_535 (by decide) ?_
  refine lv_iadd hx hb dL_law_536 ?_
  refine va_sld hx hb hX hbl hbA hS h4 dL_law_537 ?_
  refine lw_rI (va_runV (As := [.int (xs (i + 1).toNatClampNeg), .int (xs (i + 2).toNatClampNeg), .int (xs (i + 3).toNatClampNeg), .int (xs (i + 4).toNatClampNeg)]) (rest := [.int ((h_X8_take x (xs (i + 1).toNatClampNeg) (xs (i + 2).toNatClampNeg) (xs (i + 3).toNatClampNeg) (xs (i + 4).toNatClampNeg) SX).1)]) ⟨hx, hb, hml, hown, hts⟩ (hm_X9_take l G LM SM mm (xs (i + 1).toNatClampNeg) (xs (i + 2).toNatClampNeg) (xs (i + 3).toNatClampNeg) (xs (i + 4).toNatClampNeg) o2) (cwV 4 hts gL_law_X9_take rfl rfl rfl hdv_X9_take ⟨Nat.le_of_ble_eq_true rfl, Nat.le_of_ble_eq_true rfl⟩) ⟨HW.fb, hp_recv hK hPM hR.okm.1 (PF_7 hR.okm.2) rfl, fun U hU hW => ⟨rfl, HZ.hw hPM hK hnM hLM hE hS U hU hW⟩⟩ rfl rfl hl.1 rfl (lv_room (Nat.le_of_ble_eq_true rfl)) dL_law_538 ⟨(show cells + 0 ≤ room_1.cells by omega), (show slots + 0 ≤ room_1.slots by omega)⟩) hS hLM hPX hdis2 (fun H locs hPM hPX hS => ?_)
  refine lv_icmp_eq (tgt := 1410) hx hb dL_law_541 (by decide) (fun _ => ?_) (fun z => absurd oe z)
  refine W.widen (k := cells + 130) (n := slots + 4355) (by omega) (by omega) ?_
  exact kk LX _ _ H locs ⟨(hR1.next hk), hPX, hPM, hnX, hnM, hLX, hLM, hdis, hdis2⟩ hS
set_option maxHeartbeats 4000000 in
set_option maxRecDepth 100000 in
/-- case 9: put -/
theorem lc_9 (C0 : lw_At p s m meth c b L xs) (hK : va_K (gD G) vwCl (gT G) s) (hE : EZ G [] s.heap.size s) {k x mm : Nat} {LX LM : List Nat} {SX SM : HS} {H : Heap} {locs : List Loc} {cells slots : Nat} (hW : LwW G s k x mm LX LM SX SM H) (hk : k < 512) (hcs : cells + 130 ≤ room_1.cells ∧ slots + 4355 ≤ room_1.slots) (hS : va_S (AZ [] s.heap.size) s.heap H locs) {i : Int32} (hi : ∀ j : Int32, j = 1 ∨ j = 2 ∨ j = 3 ∨ j = 4 ∨ j = 5 → vp_in (i + j) L) {ls : Array Slot} (hl : lv_has ls 4 [(0, .ref b), (1, .ref x), (2, .ref mm), (3, .int i)])
    (kk : ∀ (LX1 : List Nat) (SX1 SM1 : HS) (H1 : Heap) (locs1 : List Loc), LwW G s (k + 1) x mm LX1 LM SX1 SM1 H1 → va_S (AZ [] s.heap.size) s.heap H1 locs1 → W p l e room_1 s m #[Value.ref b] below meth c H1 locs1 (cells + 130) (slots + 4355) Z (F0 m 1410 ls [])) : W p l e room_1 s m #[Value.ref b] below meth c H locs cells slots Z (F0 m 546 ls []) := by
  obtain ⟨hx, hb, hr, hml, hown, hts0, hX, hbl, hlocks, hgv⟩ := id C0
  have hts : ∀ w ∈ wsL_law, w.before #[Value.ref b] s = true := fun w h => hts0 w (wsL_law_in w h)
  have hown : s.vm.findClass RL = some m.cls := hown
  have h44 : (Cond.constantLong RL 44 4294967295).before #[Value.ref b] s = true := hts0 _ (in_wsL_law_r1 _ w44)
  have hbA : ¬ AZ [] s.heap.size b := fun z => z.elim (fun y => absurd y List.not_mem_nil) (fun y => absurd y (Nat.not_le.mpr hbl))
  have h1 := hi 1 (Or.inl rfl)
  have h2 := hi 2 (Or.inr (Or.inl rfl))
  have h3 := hi 3 (Or.inr (Or.inr (Or.inl rfl)))
  have h4 := hi 4 (Or.inr (Or.inr (Or.inr (Or.inl rfl))))
  have h5 := hi 5 (Or.inr (Or.inr (Or.inr (Or.inr rfl))))
  obtain ⟨hR, hPX, hPM, hnX, hnM, hLX, hLM, hdis, hdis2⟩ := hW
  obtain ⟨o1, o2, oe, hR1⟩ := st_put hR (xs (i + 1).toNatClampNeg) (xs (i + 2).toNatClampNeg) (xs (i + 3).toNatClampNeg) (xs (i + 4).toNatClampNeg)
  refine lv_aload_n hx hb dL_law_546 rfl (lv_at hl 1 rfl) ?_
  refine lv_aload_n hx hb dL_law_547 rfl (lv_at hl 0 rfl) ?_
  refine lv_iload_n hx hb dL_law_548 rfl (lv_at hl 3 rfl) ?_
  refine lv_iconst (v := 1) hx hb dL_law_549 (by decide) ?_
  refine lv_iadd hx hb dL_law_550 ?_
  refine va_sld hx hb hX hbl hbA hS h1 dL_law_551 ?_
  refine lv_aload_n hx hb dL_law_552 rfl (lv_at hl 0 rfl) ?_
  refine lv_iload_n hx hb dL_law_553 rfl (lv_at hl 3 rfl) ?_
  refine lv_iconst (v := 2) hx hb dL_law_554 (by decide) ?_
  refine lv_iadd hx hb dL_law_555 ?_
  refine va_sld hx hb hX hbl hbA hS h2 dL_law_556 ?_
  refine lv_aload_n hx hb dL_law_557 rfl (lv_at hl 0 rfl) ?_
  refine lv_iload_n hx hb dL_law_558 rfl (lv_at hl 3 rfl) ?_
  refine lv_iconst (v := 3) hx hb dL_law_559 (by decide) ?_
  refine lv_iadd hx hb dL_law_560 ?_
  refine va_sld hx hb hX hbl hbA hS h3 dL_law_561 ?_
  refine lv_aload_n hx hb dL_law_562 rfl (lv_at hl 0 rfl) ?_
  refine lv_iload_n hx hb dL_law_563 rfl (lv_at hl 3 rfl) ?_
  refine lv_iconst (v := 4) hx hb dL_law_564 (by decide) ?_
  refine lv_iadd hx hb dL_law_565 ?_
  refine va_sld hx hb hX hbl hbA hS h4 dL_law_566 ?_
  refine lw_rI (va_runV (As := [.int (xs (i + 1).toNatClampNeg), .int (xs (i + 2).toNatClampNeg), .int (xs (i + 3).toNatClampNeg), .int (xs (i + 4).toNatClampNeg)]) (rest := []) ⟨hx, hb, hml, hown, hts⟩ (hm_X8_put l G LX SX x (xs (i + 1).toNatClampNeg) (xs (i + 2).toNatClampNeg) (xs (i + 3).toNatClampNeg) (xs (i + 4).toNatClampNeg) o1) (cwV 4 hts gL_law_X8_put rfl rfl rfl hdv_X8_put ⟨Nat.le_of_ble_eq_true rfl, Nat.le_of_ble_eq_true rfl⟩) ⟨HW.fb, hp_recv hK hPX hR.okx.1 (PF_6 hR.okx.2) rfl, fun U hU hW => ⟨rfl, HZ.hw hPX hK hnX hLX hE hS U hU hW⟩⟩ rfl rfl hl.1 rfl (lv_room (Nat.le_of_ble_eq_true rfl)) dL_law_567 ⟨(show cells + 0 ≤ room_1.cells by omega), (show slots + 0 ≤ room_1.slots by omega)⟩) hS hLX hPM hdis (fun H locs hPX hPM hS => ?_)
  refine lv_aload_n hx hb dL_law_570 rfl (lv_at hl 2 rfl) ?_
  refine lv_aload_n hx hb dL_law_571 rfl (lv_at hl 0 rfl) ?_
  refine lv_iload_n hx hb dL_law_572 rfl (lv_at hl 3 rfl) ?_
  refine lv_iconst (v := 1) hx hb dL_law_573 (by decide) ?_
  refine lv_iadd hx hb dL_law_574 ?_
  refine va_sld hx hb hX hbl hbA hS h1 dL_law_575 ?_
  refine lv_aload_n hx hb dL_law_576 rfl (lv_at hl 0 rfl) ?_
  refine lv_iload_n hx hb dL_law_577 rfl (lv_at hl 3 rfl) ?_
  refine lv_iconst (v := 2) hx hb dL_law_578 (by decide) ?_
  refine lv_iadd hx hb dL_law_579 ?_
  refine va_sld hx hb hX hbl hbA hS h2 dL_law_580 ?_
  refine lv_aload_n hx hb dL_law_581 rfl (lv_at hl 0 rfl) ?_
  refine lv_iload_n hx hb dL_law_582 rfl (lv_at hl 3 rfl) ?_
  refine lv_iconst (v := 3) hx hb dL_law_583 (by decide) ?_
  refine lv_iadd hx hb dL_law_584 ?_
  refine va_sld hx hb hX hbl hbA hS h3 dL_law_585 ?_
  refine lv_aload_n hx hb dL_law_586 rfl (lv_at hl 0 rfl) ?_
  refine lv_iload_n hx hb dL_law_587 rfl (lv_at hl 3 rfl) ?_
  refine lv_iconst (v := 4) hx hb dL_law_588 (by decide) ?_
  refine lv_iadd hx hb dL_law_589 ?_
  refine va_sld hx hb hX hbl hbA hS h4 dL_law_590 ?_
  refine lw_rI (va_runV (As := [.int (xs (i + 1).toNatClampNeg), .int (xs (i + 2).toNatClampNeg), .int (xs (i + 3).toNatClampNeg), .int (xs (i + 4).toNatClampNeg)]) (rest := [.int ((h_X8_put x (xs (i + 1).toNatClampNeg) (xs (i + 2).toNatClampNeg) (xs (i + 3).toNatClampNeg) (xs (i + 4).toNatClampNeg) SX).1)]) ⟨hx, hb, hml, hown, hts⟩ (hm_X9_put l G LM SM mm (xs (i + 1).toNatClampNeg) (xs (i + 2).toNatClampNeg) (xs (i + 3).toNatClampNeg) (xs (i + 4).toNatClampNeg) o2) (cwV 4 hts gL_law_X9_put rfl rfl rfl hdv_X9_put ⟨Nat.le_of_ble_eq_true rfl, Nat.le_of_ble_eq_true rfl⟩) ⟨HW.fb, hp_recv hK hPM hR.okm.1 (PF_7 hR.okm.2) rfl, fun U hU hW => ⟨rfl, HZ.hw hPM hK hnM hLM hE hS U hU hW⟩⟩ rfl rfl hl.1 rfl (lv_room (Nat.le_of_ble_eq_true rfl)) dL_law_591 ⟨(show cells + 0 ≤ room_1.cells by omega), (show slots + 0 ≤ room_1.slots by omega)⟩) hS hLM hPX hdis2 (fun H locs hPM hPX hS => ?_)
  refine lv_icmp_eq (tgt := 1410) hx hb dL_law_594 (by decide) (fun _ => ?_) (fun z => absurd oe z)
  refine W.widen (k := cells + 130) (n := slots + 4355) (by omega) (by omega) ?_
  exact kk LX _ _ H locs ⟨(hR1.next hk), hPX, hPM, hnX, hnM, hLX, hLM, hdis, hdis2⟩ hS
set_option maxHeartbeats 4000000 in
set_option maxRecDepth 100000 in
/-- case 10: cross -/
theorem lc_10 (C0 : lw_At p s m meth c b L xs) (hK : va_K (gD G) vwCl (gT G) s) (hE : EZ G [] s.heap.size s) {k x mm : Nat} {LX LM : List Nat} {SX SM : HS} {H : Heap} {locs : List Loc} {cells slots : Nat} (hW : LwW G s k x mm LX LM SX SM H) (hk : k < 512) (hcs : cells + 130 ≤ room_1.cells ∧ slots + 4355 ≤ room_1.slots) (hS : va_S (AZ [] s.heap.size) s.heap H locs) {i : Int32} (hi : ∀ j : Int32, j = 1 ∨ j = 2 ∨ j = 3 ∨ j = 4 ∨ j = 5 → vp_in (i + j) L) {ls : Array Slot} (hl : lv_has ls 4 [(0, .ref b), (1, .ref x), (2, .ref mm), (3, .int i)])
    (kk : ∀ (LX1 : List Nat) (SX1 SM1 : HS) (H1 : Heap) (locs1 : List Loc), LwW G s (k + 1) x mm LX1 LM SX1 SM1 H1 → va_S (AZ [] s.heap.size) s.heap H1 locs1 → W p l e room_1 s m #[Value.ref b] below meth c H1 locs1 (cells + 130) (slots + 4355) Z (F0 m 1410 ls [])) : W p l e room_1 s m #[Value.ref b] below meth c H locs cells slots Z (F0 m 599 ls []) := by
  obtain ⟨hx, hb, hr, hml, hown, hts0, hX, hbl, hlocks, hgv⟩ := id C0
  have hts : ∀ w ∈ wsL_law, w.before #[Value.ref b] s = true := fun w h => hts0 w (wsL_law_in w h)
  have hown : s.vm.findClass RL = some m.cls := hown
  have h44 : (Cond.constantLong RL 44 4294967295).before #[Value.ref b] s = true := hts0 _ (in_wsL_law_r1 _ w44)
  have hbA : ¬ AZ [] s.heap.size b := fun z => z.elim (fun y => absurd y List.not_mem_nil) (fun y => absurd y (Nat.not_le.mpr hbl))
  have h1 := hi 1 (Or.inl rfl)
  have h2 := hi 2 (Or.inr (Or.inl rfl))
  have h3 := hi 3 (Or.inr (Or.inr (Or.inl rfl)))
  have h4 := hi 4 (Or.inr (Or.inr (Or.inr (Or.inl rfl))))
  have h5 := hi 5 (Or.inr (Or.inr (Or.inr (Or.inr rfl))))
  obtain ⟨hR, hPX, hPM, hnX, hnM, hLX, hLM, hdis, hdis2⟩ := hW
  obtain ⟨o1, o2, oe, hR1⟩ := st_cross hR (xs (i + 1).toNatClampNeg) (xs (i + 2).toNatClampNeg) (xs (i + 3).toNatClampNeg)
  refine lv_aload_n hx hb dL_law_599 rfl (lv_at hl 1 rfl) ?_
  refine lv_aload_n hx hb dL_law_600 rfl (lv_at hl 0 rfl) ?_
  refine lv_iload_n hx hb dL_law_601 rfl (lv_at hl 3 rfl) ?_
  refine lv_iconst (v := 1) hx hb dL_law_602 (by decide) ?_
  refine lv_iadd hx hb dL_law_603 ?_
  refine va_sld hx hb hX hbl hbA hS h1 dL_law_604 ?_
  refine lv_aload_n hx hb dL_law_605 rfl (lv_at hl 0 rfl) ?_
  refine lv_iload_n hx hb dL_law_606 rfl (lv_at hl 3 rfl) ?_
  refine lv_iconst (v := 2) hx hb dL_law_607 (by decide) ?_
  refine lv_iadd hx hb dL_law_608 ?_
  refine va_sld hx hb hX hbl hbA hS h2 dL_law_609 ?_
  refine lv_aload_n hx hb dL_law_610 rfl (lv_at hl 0 rfl) ?_
  refine lv_iload_n hx hb dL_law_611 rfl (lv_at hl 3 rfl) ?_
  refine lv_iconst (v := 3) hx hb dL_law_612 (by decide) ?_
  refine lv_iadd hx hb dL_law_613 ?_
  refine va_sld hx hb hX hbl hbA hS h3 dL_law_614 ?_
  refine lw_rI (va_runV (As := [.int (xs (i + 1).toNatClampNeg), .int (xs (i + 2).toNatClampNeg), .int (xs (i + 3).toNatClampNeg)]) (rest := []) ⟨hx, hb, hml, hown, hts⟩ (hm_X8_cross l G LX SX x (xs (i + 1).toNatClampNeg) (xs (i + 2).toNatClampNeg) (xs (i + 3).toNatClampNeg) o1) (cwV 3 hts gL_law_X8_cross rfl rfl rfl hdv_X8_cross ⟨Nat.le_of_ble_eq_true rfl, Nat.le_of_ble_eq_true rfl⟩) ⟨HW.fb, hp_recv hK hPX hR.okx.1 (PF_6 hR.okx.2) rfl, fun U hU hW => ⟨rfl, HZ.hw hPX hK hnX hLX hE hS U hU hW⟩⟩ rfl rfl hl.1 rfl (lv_room (Nat.le_of_ble_eq_true rfl)) dL_law_615 ⟨(show cells + 0 ≤ room_1.cells by omega), (show slots + 0 ≤ room_1.slots by omega)⟩) hS hLX hPM hdis (fun H locs hPX hPM hS => ?_)
  refine lv_aload_n hx hb dL_law_618 rfl (lv_at hl 2 rfl) ?_
  refine lv_aload_n hx hb dL_law_619 rfl (lv_at hl 0 rfl) ?_
  refine lv_iload_n hx hb dL_law_620 rfl (lv_at hl 3 rfl) ?_
  refine lv_iconst (v := 1) hx hb dL_law_621 (by decide) ?_
  refine lv_iadd hx hb dL_law_622 ?_
  refine va_sld hx hb hX hbl hbA hS h1 dL_law_623 ?_
  refine lv_aload_n hx hb dL_law_624 rfl (lv_at hl 0 rfl) ?_
  refine lv_iload_n hx hb dL_law_625 rfl (lv_at hl 3 rfl) ?_
  refine lv_iconst (v := 2) hx hb dL_law_626 (by decide) ?_
  refine lv_iadd hx hb dL_law_627 ?_
  refine va_sld hx hb hX hbl hbA hS h2 dL_law_628 ?_
  refine lv_aload_n hx hb dL_law_629 rfl (lv_at hl 0 rfl) ?_
  refine lv_iload_n hx hb dL_law_630 rfl (lv_at hl 3 rfl) ?_
  refine lv_iconst (v := 3) hx hb dL_law_631 (by decide) ?_
  refine lv_iadd hx hb dL_law_632 ?_
  refine va_sld hx hb hX hbl hbA hS h3 dL_law_633 ?_
  refine lw_rI (va_runV (As := [.int (xs (i + 1).toNatClampNeg), .int (xs (i + 2).toNatClampNeg), .int (xs (i + 3).toNatClampNeg)]) (rest := [.int ((h_X8_cross x (xs (i + 1).toNatClampNeg) (xs (i + 2).toNatClampNeg) (xs (i + 3).toNatClampNeg) SX).1)]) ⟨hx, hb, hml, hown, hts⟩ (hm_X9_cross l G LM SM mm (xs (i + 1).toNatClampNeg) (xs (i + 2).toNatClampNeg) (xs (i + 3).toNatClampNeg) o2) (cwV 3 hts gL_law_X9_cross rfl rfl rfl hdv_X9_cross ⟨Nat.le_of_ble_eq_true rfl, Nat.le_of_ble_eq_true rfl⟩) ⟨HW.fb, hp_recv hK hPM hR.okm.1 (PF_7 hR.okm.2) rfl, fun U hU hW => ⟨rfl, HZ.hw hPM hK hnM hLM hE hS U hU hW⟩⟩ rfl rfl hl.1 rfl (lv_room (Nat.le_of_ble_eq_true rfl)) dL_law_634 ⟨(show cells + 0 ≤ room_1.cells by omega), (show slots + 0 ≤ room_1.slots by omega)⟩) hS hLM hPX hdis2 (fun H locs hPM hPX hS => ?_)
  refine lv_icmp_eq (tgt := 1410) hx hb dL_law_637 (by decide) (fun _ => ?_) (fun z => absurd oe z)
  refine W.widen (k := cells + 130) (n := slots + 4355) (by omega) (by omega) ?_
  exact kk LX _ _ H locs ⟨(hR1.next hk), hPX, hPM, hnX, hnM, hLX, hLM, hdis, hdis2⟩ hS
set_option maxHeartbeats 4000000 in
set_option maxRecDepth 100000 in
/-- case 11: copy -/
theorem lc_11 (C0 : lw_At p s m meth c b L xs) (hK : va_K (gD G) vwCl (gT G) s) (hE : EZ G [] s.heap.size s) {k x mm : Nat} {LX LM : List Nat} {SX SM : HS} {H : Heap} {locs : List Loc} {cells slots : Nat} (hW : LwW G s k x mm LX LM SX SM H) (hk : k < 512) (hcs : cells + 130 ≤ room_1.cells ∧ slots + 4355 ≤ room_1.slots) (hS : va_S (AZ [] s.heap.size) s.heap H locs) {i : Int32} (hi : ∀ j : Int32, j = 1 ∨ j = 2 ∨ j = 3 ∨ j = 4 ∨ j = 5 → vp_in (i + j) L) {ls : Array Slot} (hl : lv_has ls 4 [(0, .ref b), (1, .ref x), (2, .ref mm), (3, .int i)])
    (kk : ∀ (LX1 : List Nat) (SX1 SM1 : HS) (H1 : Heap) (locs1 : List Loc), LwW G s (k + 1) x mm LX1 LM SX1 SM1 H1 → va_S (AZ [] s.heap.size) s.heap H1 locs1 → W p l e room_1 s m #[Value.ref b] below meth c H1 locs1 (cells + 130) (slots + 4355) Z (F0 m 1410 ls [])) : W p l e room_1 s m #[Value.ref b] below meth c H locs cells slots Z (F0 m 642 ls []) := by
  obtain ⟨hx, hb, hr, hml, hown, hts0, hX, hbl, hlocks, hgv⟩ := id C0
  have hts : ∀ w ∈ wsL_law, w.before #[Value.ref b] s = true := fun w h => hts0 w (wsL_law_in w h)
  have hown : s.vm.findClass RL = some m.cls := hown
  have h44 : (Cond.constantLong RL 44 4294967295).before #[Value.ref b] s = true := hts0 _ (in_wsL_law_r1 _ w44)
  have hbA : ¬ AZ [] s.heap.size b := fun z => z.elim (fun y => absurd y List.not_mem_nil) (fun y => absurd y (Nat.not_le.mpr hbl))
  have h1 := hi 1 (Or.inl rfl)
  have h2 := hi 2 (Or.inr (Or.inl rfl))
  have h3 := hi 3 (Or.inr (Or.inr (Or.inl rfl)))
  have h4 := hi 4 (Or.inr (Or.inr (Or.inr (Or.inl rfl))))
  have h5 := hi 5 (Or.inr (Or.inr (Or.inr (Or.inr rfl))))
  obtain ⟨hR, hPX, hPM, hnX, hnM, hLX, hLM, hdis, hdis2⟩ := hW
  obtain ⟨o1, o2, oe, hR1⟩ := st_copy hR (xs (i + 1).toNatClampNeg) (xs (i + 2).toNatClampNeg) (xs (i + 3).toNatClampNeg) (xs (i + 4).toNatClampNeg) (xs (i + 5).toNatClampNeg)
  refine lv_aload_n hx hb dL_law_642 rfl (lv_at hl 1 rfl) ?_
  refine lv_aload_n hx hb dL_law_643 rfl (lv_at hl 0 rfl) ?_
  refine lv_iload_n hx hb dL_law_644 rfl (lv_at hl 3 rfl) ?_
  refine lv_iconst (v := 1) hx hb dL_law_645 (by decide) ?_
  refine lv_iadd hx hb dL_law_646 ?_
  refine va_sld hx hb hX hbl hbA hS h1 dL_law_647 ?_
  refine lv_aload_n hx hb dL_law_648 rfl (lv_at hl 0 rfl) ?_
  refine lv_iload_n hx hb dL_law_649 rfl (lv_at hl 3 rfl) ?_
  refine lv_iconst (v := 2) hx hb dL_law_650 (by decide) ?_
  refine lv_iadd hx hb dL_law_651 ?_
  refine va_sld hx hb hX hbl hbA hS h2 dL_law_652 ?_
  refine lv_aload_n hx hb dL_law_653 rfl (lv_at hl 0 rfl) ?_
  refine lv_iload_n hx hb dL_law_654 rfl (lv_at hl 3 rfl) ?_
  refine lv_iconst (v := 3) hx hb dL_law_655 (by decide) ?_
  refine lv_iadd hx hb dL_law_656 ?_
  refine va_sld hx hb hX hbl hbA hS h3 dL_law_657 ?_
  refine lv_aload_n hx hb dL_law_658 rfl (lv_at hl 0 rfl) ?_
  refine lv_iload_n hx hb dL_law_659 rfl (lv_at hl 3 rfl) ?_
  refine lv_iconst (v := 4) hx hb dL_law_660 (by decide) ?_
  refine lv_iadd hx hb dL_law_661 ?_
  refine va_sld hx hb hX hbl hbA hS h4 dL_law_662 ?_
  refine lv_aload_n hx hb dL_law_663 rfl (lv_at hl 0 rfl) ?_
  refine lv_iload_n hx hb dL_law_664 rfl (lv_at hl 3 rfl) ?_
  refine lv_iconst (v := 5) hx hb dL_law_665 (by decide) ?_
  refine lv_iadd hx hb dL_law_666 ?_
  refine va_sld hx hb hX hbl hbA hS h5 dL_law_667 ?_
  refine lw_rI (va_runV (As := [.int (xs (i + 1).toNatClampNeg), .int (xs (i + 2).toNatClampNeg), .int (xs (i + 3).toNatClampNeg), .int (xs (i + 4).toNatClampNeg), .int (xs (i + 5).toNatClampNeg)]) (rest := []) ⟨hx, hb, hml, hown, hts⟩ (hm_X8_copy l G LX SX x (xs (i + 1).toNatClampNeg) (xs (i + 2).toNatClampNeg) (xs (i + 3).toNatClampNeg) (xs (i + 4).toNatClampNeg) (xs (i + 5).toNatClampNeg) o1) (cwV 5 hts gL_law_X8_copy rfl rfl rfl hdv_X8_copy ⟨Nat.le_of_ble_eq_true rfl, Nat.le_of_ble_eq_true rfl⟩) ⟨HW.fb, hp_recv hK hPX hR.okx.1 (PF_6 hR.okx.2) rfl, fun U hU hW => ⟨rfl, HZ.hw hPX hK hnX hLX hE hS U hU hW⟩⟩ rfl rfl hl.1 rfl (lv_room (Nat.le_of_ble_eq_true rfl)) dL_law_668 ⟨(show cells + 0 ≤ room_1.cells by omega), (show slots + 0 ≤ room_1.slots by omega)⟩) hS hLX hPM hdis (fun H locs hPX hPM hS => ?_)
  refine lv_aload_n hx hb dL_law_671 rfl (lv_at hl 2 rfl) ?_
  refine lv_aload_n hx hb dL_law_672 rfl (lv_at hl 0 rfl) ?_
  refine lv_iload_n hx hb dL_law_673 rfl (lv_at hl 3 rfl) ?_
  refine lv_iconst (v := 1) hx hb dL_law_674 (by decide) ?_
  refine lv_iadd hx hb dL_law_675 ?_
  refine va_sld hx hb hX hbl hbA hS h1 dL_law_676 ?_
  refine lv_aload_n hx hb dL_law_677 rfl (lv_at hl 0 rfl) ?_
  refine lv_iload_n hx hb dL_law_678 rfl (lv_at hl 3 rfl) ?_
  refine lv_iconst (v := 2) hx hb dL_law_679 (by decide) ?_
  refine lv_iadd hx hb dL_law_680 ?_
  refine va_sld hx hb hX hbl hbA hS h2 dL_law_681 ?_
  refine lv_aload_n hx hb dL_law_682 rfl (lv_at hl 0 rfl) ?_
  refine lv_iload_n hx hb dL_law_683 rfl (lv_at hl 3 rfl) ?_
  refine lv_iconst (v := 3) hx hb dL_law_684 (by decide) ?_
  refine lv_iadd hx hb dL_law_685 ?_
  refine va_sld hx hb hX hbl hbA hS h3 dL_law_686 ?_
  refine lv_aload_n hx hb dL_law_687 rfl (lv_at hl 0 rfl) ?_
  refine lv_iload_n hx hb dL_law_688 rfl (lv_at hl 3 rfl) ?_
  refine lv_iconst (v := 4) hx hb dL_law_689 (by decide) ?_
  refine lv_iadd hx hb dL_law_690 ?_
  refine va_sld hx hb hX hbl hbA hS h4 dL_law_691 ?_
  refine lv_aload_n hx hb dL_law_692 rfl (lv_at hl 0 rfl) ?_
  refine lv_iload_n hx hb dL_law_693 rfl (lv_at hl 3 rfl) ?_
  refine lv_iconst (v := 5) hx hb dL_law_694 (by decide) ?_
  refine lv_iadd hx hb dL_law_695 ?_
  refine va_sld hx hb hX hbl hbA hS h5 dL_law_696 ?_
  refine lw_rI (va_runV (As := [.int (xs (i + 1).toNatClampNeg), .int (xs (i + 2).toNatClampNeg), .int (xs (i + 3).toNatClampNeg), .int (xs (i + 4).toNatClampNeg), .int (xs (i + 5).toNatClampNeg)]) (rest := [.int ((h_X8_copy x (xs (i + 1).toNatClampNeg) (xs (i + 2).toNatClampNeg) (xs (i + 3).toNatClampNeg) (xs (i + 4).toNatClampNeg) (xs (i + 5).toNatClampNeg) SX).1)]) ⟨hx, hb, hml, hown, hts⟩ (hm_X9_copy l G LM SM mm (xs (i + 1).toNatClampNeg) (xs (i + 2).toNatClampNeg) (xs (i + 3).toNatClampNeg) (xs (i + 4).toNatClampNeg) (xs (i + 5).toNatClampNeg) o2) (cwV 5 hts gL_law_X9_copy rfl rfl rfl hdv_X9_copy ⟨Nat.le_of_ble_eq_true rfl, Nat.le_of_ble_eq_true rfl⟩) ⟨HW.fb, hp_recv hK hPM hR.okm.1 (PF_7 hR.okm.2) rfl, fun U hU hW => ⟨rfl, HZ.hw hPM hK hnM hLM hE hS U hU hW⟩⟩ rfl rfl hl.1 rfl (lv_room (Nat.le_of_ble_eq_true rfl)) dL_law_697 ⟨(show cells + 0 ≤ room_1.cells by omega), (show slots + 0 ≤ room_1.slots by omega)⟩) hS hLM hPX hdis2 (fun H locs hPM hPX hS => ?_)
  refine lv_icmp_eq (tgt := 1410) hx hb dL_law_700 (by decide) (fun _ => ?_) (fun z => absurd oe z)
  refine W.widen (k := cells + 130) (n := slots + 4355) (by omega) (by omega) ?_
  exact kk LX _ _ H locs ⟨(hR1.next hk), hPX, hPM, hnX, hnM, hLX, hLM, hdis, hdis2⟩ hS
set_option maxHeartbeats 4000000 in
set_option maxRecDepth 100000 in
/-- case 12: field -/
theorem lc_12 (C0 : lw_At p s m meth c b L xs) (hK : va_K (gD G) vwCl (gT G) s) (hE : EZ G [] s.heap.size s) {k x mm : Nat} {LX LM : List Nat} {SX SM : HS} {H : Heap} {locs : List Loc} {cells slots : Nat} (hW : LwW G s k x mm LX LM SX SM H) (hk : k < 512) (hcs : cells + 130 ≤ room_1.cells ∧ slots + 4355 ≤ room_1.slots) (hS : va_S (AZ [] s.heap.size) s.heap H locs) {i : Int32} (hi : ∀ j : Int32, j = 1 ∨ j = 2 ∨ j = 3 ∨ j = 4 ∨ j = 5 → vp_in (i + j) L) {ls : Array Slot} (hl : lv_has ls 4 [(0, .ref b), (1, .ref x), (2, .ref mm), (3, .int i)])
    (kk : ∀ (LX1 : List Nat) (SX1 SM1 : HS) (H1 : Heap) (locs1 : List Loc), LwW G s (k + 1) x mm LX1 LM SX1 SM1 H1 → va_S (AZ [] s.heap.size) s.heap H1 locs1 → W p l e room_1 s m #[Value.ref b] below meth c H1 locs1 (cells + 130) (slots + 4355) Z (F0 m 1410 ls [])) : W p l e room_1 s m #[Value.ref b] below meth c H locs cells slots Z (F0 m 705 ls []) := by
  obtain ⟨hx, hb, hr, hml, hown, hts0, hX, hbl, hlocks, hgv⟩ := id C0
  have hts : ∀ w ∈ wsL_law, w.before #[Value.ref b] s = true := fun w h => hts0 w (wsL_law_in w h)
  have hown : s.vm.findClass RL = some m.cls := hown
  have h44 : (Cond.constantLong RL 44 4294967295).before #[Value.ref b] s = true := hts0 _ (in_wsL_law_r1 _ w44)
  have hbA : ¬ AZ [] s.heap.size b := fun z => z.elim (fun y => absurd y List.not_mem_nil) (fun y => absurd y (Nat.not_le.mpr hbl))
  have h1 := hi 1 (Or.inl rfl)
  have h2 := hi 2 (Or.inr (Or.inl rfl))
  have h3 := hi 3 (Or.inr (Or.inr (Or.inl rfl)))
  have h4 := hi 4 (Or.inr (Or.inr (Or.inr (Or.inl rfl))))
  have h5 := hi 5 (Or.inr (Or.inr (Or.inr (Or.inr rfl))))
  obtain ⟨hR, hPX, hPM, hnX, hnM, hLX, hLM, hdis, hdis2⟩ := hW
  obtain ⟨o1, o2, oe, hR1⟩ := st_field hR (xs (i + 1).toNatClampNeg) (xs (i + 2).toNatClampNeg)
  refine lv_aload_n hx hb dL_law_705 rfl (lv_at hl 1 rfl) ?_
  refine lv_aload_n hx hb dL_law_706 rfl (lv_at hl 0 rfl) ?_
  refine lv_iload_n hx hb dL_law_707 rfl (lv_at hl 3 rfl) ?_
  refine lv_iconst (v := 1) hx hb dL_law_708 (by decide) ?_
  refine lv_iadd hx hb dL_law_709 ?_
  refine va_sld hx hb hX hbl hbA hS h1 dL_law_710 ?_
  refine lv_aload_n hx hb dL_law_711 rfl (lv_at hl 0 rfl) ?_
  refine lv_iload_n hx hb dL_law_712 rfl (lv_at hl 3 rfl) ?_
  refine lv_iconst (v := 2) hx hb dL_law_713 (by decide) ?_
  refine lv_iadd hx hb dL_law_714 ?_
  refine va_sld hx hb hX hbl hbA hS h2 dL_law_715 ?_
  refine lw_rI (va_runV (As := [.int (xs (i + 1).toNatClampNeg), .int (xs (i + 2).toNatClampNeg)]) (rest := []) ⟨hx, hb, hml, hown, hts⟩ (hm_X8_field l G LX SX x (xs (i + 1).toNatClampNeg) (xs (i + 2).toNatClampNeg) o1) (cwV 2 hts gL_law_X8_field rfl rfl rfl hdv_X8_field ⟨Nat.le_of_ble_eq_true rfl, Nat.le_of_ble_eq_true rfl⟩) ⟨HW.fb, hp_recv hK hPX hR.okx.1 (PF_6 hR.okx.2) rfl, fun U hU hW => ⟨rfl, HZ.hw hPX hK hnX hLX hE hS U hU hW⟩⟩ rfl rfl hl.1 rfl (lv_room (Nat.le_of_ble_eq_true rfl)) dL_law_716 ⟨(show cells + 0 ≤ room_1.cells by omega), (show slots + 0 ≤ room_1.slots by omega)⟩) hS hLX hPM hdis (fun H locs hPX hPM hS => ?_)
  refine lv_aload_n hx hb dL_law_719 rfl (lv_at hl 2 rfl) ?_
  refine lv_aload_n hx hb dL_law_720 rfl (lv_at hl 0 rfl) ?_
  refine lv_iload_n hx hb dL_law_721 rfl (lv_at hl 3 rfl) ?_
  refine lv_iconst (v := 1) hx hb dL_law_722 (by decide) ?_
  refine lv_iadd hx hb dL_law_723 ?_
  refine va_sld hx hb hX hbl hbA hS h1 dL_law_724 ?_
  refine lv_aload_n hx hb dL_law_725 rfl (lv_at hl 0 rfl) ?_
  refine lv_iload_n hx hb dL_law_726 rfl (lv_at hl 3 rfl) ?_
  refine lv_iconst (v := 2) hx hb dL_law_727 (by decide) ?_
  refine lv_iadd hx hb dL_law_728 ?_
  refine va_sld hx hb hX hbl hbA hS h2 dL_law_729 ?_
  refine lw_rI (va_runV (As := [.int (xs (i + 1).toNatClampNeg), .int (xs (i + 2).toNatClampNeg)]) (rest := [.int ((h_X8_field x (xs (i + 1).toNatClampNeg) (xs (i + 2).toNatClampNeg) SX).1)]) ⟨hx, hb, hml, hown, hts⟩ (hm_X9_field l G LM SM mm (xs (i + 1).toNatClampNeg) (xs (i + 2).toNatClampNeg) o2) (cwV 2 hts gL_law_X9_field rfl rfl rfl hdv_X9_field ⟨Nat.le_of_ble_eq_true rfl, Nat.le_of_ble_eq_true rfl⟩) ⟨HW.fb, hp_recv hK hPM hR.okm.1 (PF_7 hR.okm.2) rfl, fun U hU hW => ⟨rfl, HZ.hw hPM hK hnM hLM hE hS U hU hW⟩⟩ rfl rfl hl.1 rfl (lv_room (Nat.le_of_ble_eq_true rfl)) dL_law_730 ⟨(show cells + 0 ≤ room_1.cells by omega), (show slots + 0 ≤ room_1.slots by omega)⟩) hS hLM hPX hdis2 (fun H locs hPM hPX hS => ?_)
  refine lv_icmp_eq (tgt := 1410) hx hb dL_law_733 (by decide) (fun _ => ?_) (fun z => absurd oe z)
  refine W.widen (k := cells + 130) (n := slots + 4355) (by omega) (by omega) ?_
  exact kk LX _ _ H locs ⟨(hR1.next hk), hPX, hPM, hnX, hnM, hLX, hLM, hdis, hdis2⟩ hS
set_option maxHeartbeats 4000000 in
set_option maxRecDepth 100000 in
/-- case 13: write -/
theorem lc_13 (C0 : lw_At p s m meth c b L xs) (hK : va_K (gD G) vwCl (gT G) s) (hE : EZ G [] s.heap.size s) {k x mm : Nat} {LX LM : List Nat} {SX SM : HS} {H : Heap} {locs : List Loc} {cells slots : Nat} (hW : LwW G s k x mm LX LM SX SM H) (hk : k < 512) (hcs : cells + 130 ≤ room_1.cells ∧ slots + 4355 ≤ room_1.slots) (hS : va_S (AZ [] s.heap.size) s.heap H locs) {i : Int32} (hi : ∀ j : Int32, j = 1 ∨ j = 2 ∨ j = 3 ∨ j = 4 ∨ j = 5 → vp_in (i + j) L) {ls : Array Slot} (hl : lv_has ls 4 [(0, .ref b), (1, .ref x), (2, .ref mm), (3, .int i)])
    (kk : ∀ (LX1 : List Nat) (SX1 SM1 : HS) (H1 : Heap) (locs1 : List Loc), LwW G s (k + 1) x mm LX1 LM SX1 SM1 H1 → va_S (AZ [] s.heap.size) s.heap H1 locs1 → W p l e room_1 s m #[Value.ref b] below meth c H1 locs1 (cells + 130) (slots + 4355) Z (F0 m 1410 ls [])) : W p l e room_1 s m #[Value.ref b] below meth c H locs cells slots Z (F0 m 738 ls []) := by
  obtain ⟨hx, hb, hr, hml, hown, hts0, hX, hbl, hlocks, hgv⟩ := id C0
  have hts : ∀ w ∈ wsL_law, w.before #[Value.ref b] s = true := fun w h => hts0 w (wsL_law_in w h)
  have hown : s.vm.findClass RL = some m.cls := hown
  have h44 : (Cond.constantLong RL 44 4294967295).before #[Value.ref b] s = true := hts0 _ (in_wsL_law_r1 _ w44)
  have hbA : ¬ AZ [] s.heap.size b := fun z => z.elim (fun y => absurd y List.not_mem_nil) (fun y => absurd y (Nat.not_le.mpr hbl))
  have h1 := hi 1 (Or.inl rfl)
  have h2 := hi 2 (Or.inr (Or.inl rfl))
  have h3 := hi 3 (Or.inr (Or.inr (Or.inl rfl)))
  have h4 := hi 4 (Or.inr (Or.inr (Or.inr (Or.inl rfl))))
  have h5 := hi 5 (Or.inr (Or.inr (Or.inr (Or.inr rfl))))
  obtain ⟨hR, hPX, hPM, hnX, hnM, hLX, hLM, hdis, hdis2⟩ := hW
  obtain ⟨o1, o2, oe, hR1⟩ := st_write hR (xs (i + 1).toNatClampNeg) (xs (i + 2).toNatClampNeg) (xs (i + 3).toNatClampNeg)
  refine lv_aload_n hx hb dL_law_738 rfl (lv_at hl 1 rfl) ?_
  refine lv_aload_n hx hb dL_law_739 rfl (lv_at hl 0 rfl) ?_
  refine lv_iload_n hx hb dL_law_740 rfl (lv_at hl 3 rfl) ?_
  refine lv_iconst (v := 1) hx hb dL_law_741 (by decide) ?_
  refine lv_iadd hx hb dL_law_742 ?_
  refine va_sld hx hb hX hbl hbA hS h1 dL_law_743 ?_
  refine lv_aload_n hx hb dL_law_744 rfl (lv_at hl 0 rfl) ?_
  refine lv_iload_n hx hb dL_law_745 rfl (lv_at hl 3 rfl) ?_
  refine lv_iconst (v := 2) hx hb dL_law_746 (by decide) ?_
  refine lv_iadd hx hb dL_law_747 ?_
  refine va_sld hx hb hX hbl hbA hS h2 dL_law_748 ?_
  refine lv_aload_n hx hb dL_law_749 rfl (lv_at hl 0 rfl) ?_
  refine lv_iload_n hx hb dL_law_750 rfl (lv_at hl 3 rfl) ?_
  refine lv_iconst (v := 3) hx hb dL_law_751 (by decide) ?_
  refine lv_iadd hx hb dL_law_752 ?_
  refine va_sld hx hb hX hbl hbA hS h3 dL_law_753 ?_
  refine lw_rI (va_runV (As := [.int (xs (i + 1).toNatClampNeg), .int (xs (i + 2).toNatClampNeg), .int (xs (i + 3).toNatClampNeg)]) (rest := []) ⟨hx, hb, hml, hown, hts⟩ (hm_X8_write l G LX SX x (xs (i + 1).toNatClampNeg) (xs (i + 2).toNatClampNeg) (xs (i + 3).toNatClampNeg) o1) (cwV 3 hts gL_law_X8_write rfl rfl rfl hdv_X8_write ⟨Nat.le_of_ble_eq_true rfl, Nat.le_of_ble_eq_true rfl⟩) ⟨HW.fb, hp_recv hK hPX hR.okx.1 (PF_6 hR.okx.2) rfl, fun U hU hW => ⟨rfl, HZ.hw hPX hK hnX hLX hE hS U hU hW⟩⟩ rfl rfl hl.1 rfl (lv_room (Nat.le_of_ble_eq_true rfl)) dL_law_754 ⟨(show cells + 0 ≤ room_1.cells by omega), (show slots + 0 ≤ room_1.slots by omega)⟩) hS hLX hPM hdis (fun H locs hPX hPM hS => ?_)
  refine lv_aload_n hx hb dL_law_757 rfl (lv_at hl 2 rfl) ?_
  refine lv_aload_n hx hb dL_law_758 rfl (lv_at hl 0 rfl) ?_
  refine lv_iload_n hx hb dL_law_759 rfl (lv_at hl 3 rfl) ?_
  refine lv_iconst (v := 1) hx hb dL_law_760 (by decide) ?_
  refine lv_iadd hx hb dL_law_761 ?_
  refine va_sld hx hb hX hbl hbA hS h1 dL_law_762 ?_
  refine lv_aload_n hx hb dL_law_763 rfl (lv_at hl 0 rfl) ?_
  refine lv_iload_n hx hb dL_law_764 rfl (lv_at hl 3 rfl) ?_
  refine lv_iconst (v := 2) hx hb dL_law_765 (by decide) ?_
  refine lv_iadd hx hb dL_law_766 ?_
  refine va_sld hx hb hX hbl hbA hS h2 dL_law_767 ?_
  refine lv_aload_n hx hb dL_law_768 rfl (lv_at hl 0 rfl) ?_
  refine lv_iload_n hx hb dL_law_769 rfl (lv_at hl 3 rfl) ?_
  refine lv_iconst (v := 3) hx hb dL_law_770 (by decide) ?_
  refine lv_iadd hx hb dL_law_771 ?_
  refine va_sld hx hb hX hbl hbA hS h3 dL_law_772 ?_
  refine lw_rI (va_runV (As := [.int (xs (i + 1).toNatClampNeg), .int (xs (i + 2).toNatClampNeg), .int (xs (i + 3).toNatClampNeg)]) (rest := [.int ((h_X8_write x (xs (i + 1).toNatClampNeg) (xs (i + 2).toNatClampNeg) (xs (i + 3).toNatClampNeg) SX).1)]) ⟨hx, hb, hml, hown, hts⟩ (hm_X9_write l G LM SM mm (xs (i + 1).toNatClampNeg) (xs (i + 2).toNatClampNeg) (xs (i + 3).toNatClampNeg) o2) (cwV 3 hts gL_law_X9_write rfl rfl rfl hdv_X9_write ⟨Nat.le_of_ble_eq_true rfl, Nat.le_of_ble_eq_true rfl⟩) ⟨HW.fb, hp_recv hK hPM hR.okm.1 (PF_7 hR.okm.2) rfl, fun U hU hW => ⟨rfl, HZ.hw hPM hK hnM hLM hE hS U hU hW⟩⟩ rfl rfl hl.1 rfl (lv_room (Nat.le_of_ble_eq_true rfl)) dL_law_773 ⟨(show cells + 0 ≤ room_1.cells by omega), (show slots + 0 ≤ room_1.slots by omega)⟩) hS hLM hPX hdis2 (fun H locs hPM hPX hS => ?_)
  refine lv_icmp_eq (tgt := 1410) hx hb dL_law_776 (by decide) (fun _ => ?_) (fun z => absurd oe z)
  refine W.widen (k := cells + 130) (n := slots + 4355) (by omega) (by omega) ?_
  exact kk LX _ _ H locs ⟨(hR1.next hk), hPX, hPM, hnX, hnM, hLX, hLM, hdis, hdis2⟩ hS
set_option maxHeartbeats 4000000 in
set_option maxRecDepth 100000 in
/-- case 14: call -/
theorem lc_14 (C0 : lw_At p s m meth c b L xs) (hK : va_K (gD G) vwCl (gT G) s) (hE : EZ G [] s.heap.size s) {k x mm : Nat} {LX LM : List Nat} {SX SM : HS} {H : Heap} {locs : List Loc} {cells slots : Nat} (hW : LwW G s k x mm LX LM SX SM H) (hk : k < 512) (hcs : cells + 130 ≤ room_1.cells ∧ slots + 4355 ≤ room_1.slots) (hS : va_S (AZ [] s.heap.size) s.heap H locs) {i : Int32} (hi : ∀ j : Int32, j = 1 ∨ j = 2 ∨ j = 3 ∨ j = 4 ∨ j = 5 → vp_in (i + j) L) {ls : Array Slot} (hl : lv_has ls 4 [(0, .ref b), (1, .ref x), (2, .ref mm), (3, .int i)])
    (kk : ∀ (LX1 : List Nat) (SX1 SM1 : HS) (H1 : Heap) (locs1 : List Loc), LwW G s (k + 1) x mm LX1 LM SX1 SM1 H1 → va_S (AZ [] s.heap.size) s.heap H1 locs1 → W p l e room_1 s m #[Value.ref b] below meth c H1 locs1 (cells + 130) (slots + 4355) Z (F0 m 1410 ls [])) : W p l e room_1 s m #[Value.ref b] below meth c H locs cells slots Z (F0 m 781 ls []) := by
  obtain ⟨hx, hb, hr, hml, hown, hts0, hX, hbl, hlocks, hgv⟩ := id C0
  have hts : ∀ w ∈ wsL_law, w.before #[Value.ref b] s = true := fun w h => hts0 w (wsL_law_in w h)
  have hown : s.vm.findClass RL = some m.cls := hown
  have h44 : (Cond.constantLong RL 44 4294967295).before #[Value.ref b] s = true := hts0 _ (in_wsL_law_r1 _ w44)
  have hbA : ¬ AZ [] s.heap.size b := fun z => z.elim (fun y => absurd y List.not_mem_nil) (fun y => absurd y (Nat.not_le.mpr hbl))
  have h1 := hi 1 (Or.inl rfl)
  have h2 := hi 2 (Or.inr (Or.inl rfl))
  have h3 := hi 3 (Or.inr (Or.inr (Or.inl rfl)))
  have h4 := hi 4 (Or.inr (Or.inr (Or.inr (Or.inl rfl))))
  have h5 := hi 5 (Or.inr (Or.inr (Or.inr (Or.inr rfl))))
  obtain ⟨hR, hPX, hPM, hnX, hnM, hLX, hLM, hdis, hdis2⟩ := hW
  obtain ⟨o1, o2, oe, hR1⟩ := st_call hR (xs (i + 1).toNatClampNeg) (xs (i + 2).toNatClampNeg)
  refine lv_aload_n hx hb dL_law_781 rfl (lv_at hl 1 rfl) ?_
  refine lv_aload_n hx hb dL_law_782 rfl (lv_at hl 0 rfl) ?_
  refine lv_iload_n hx hb dL_law_783 rfl (lv_at hl 3 rfl) ?_
  refine lv_iconst (v := 1) hx hb dL_law_784 (by decide) ?_
  refine lv_iadd hx hb dL_law_785 ?_
  refine va_sld hx hb hX hbl hbA hS h1 dL_law_786 ?_
  refine lv_aload_n hx hb dL_law_787 rfl (lv_at hl 0 rfl) ?_
  refine lv_iload_n hx hb dL_law_788 rfl (lv_at hl 3 rfl) ?_
  refine lv_iconst (v := 2) hx hb dL_law_789 (by decide) ?_
  refine lv_iadd hx hb dL_law_790 ?_
  refine va_sld hx hb hX hbl hbA hS h2 dL_law_791 ?_
  refine lw_rI (va_runV (As := [.int (xs (i + 1).toNatClampNeg), .int (xs (i + 2).toNatClampNeg)]) (rest := []) ⟨hx, hb, hml, hown, hts⟩ (hm_X8_call l G LX SX x (xs (i + 1).toNatClampNeg) (xs (i + 2).toNatClampNeg) o1) (cwV 2 hts gL_law_X8_call rfl rfl rfl hdv_X8_call ⟨Nat.le_of_ble_eq_true rfl, Nat.le_of_ble_eq_true rfl⟩) ⟨HW.fb, hp_recv hK hPX hR.okx.1 (PF_6 hR.okx.2) rfl, fun U hU hW => ⟨rfl, HZ.hw hPX hK hnX hLX hE hS U hU hW⟩⟩ rfl rfl hl.1 rfl (lv_room (Nat.le_of_ble_eq_true rfl)) dL_law_792 ⟨(show cells + 0 ≤ room_1.cells by omega), (show slots + 0 ≤ room_1.slots by omega)⟩) hS hLX hPM hdis (fun H locs hPX hPM hS => ?_)
  refine lv_aload_n hx hb dL_law_795 rfl (lv_at hl 2 rfl) ?_
  refine lv_aload_n hx hb dL_law_796 rfl (lv_at hl 0 rfl) ?_
  refine lv_iload_n hx hb dL_law_797 rfl (lv_at hl 3 rfl) ?_
  refine lv_iconst (v := 1) hx hb dL_law_798 (by decide) ?_
  refine lv_iadd hx hb dL_law_799 ?_
  refine va_sld hx hb hX hbl hbA hS h1 dL_law_800 ?_
  refine lv_aload_n hx hb dL_law_801 rfl (lv_at hl 0 rfl) ?_
  refine lv_iload_n hx hb dL_law_802 rfl (lv_at hl 3 rfl) ?_
  refine lv_iconst (v := 2) hx hb dL_law_803 (by decide) ?_
  refine lv_iadd hx hb dL_law_804 ?_
  refine va_sld hx hb hX hbl hbA hS h2 dL_law_805 ?_
  refine lw_rI (va_runV (As := [.int (xs (i + 1).toNatClampNeg), .int (xs (i + 2).toNatClampNeg)]) (rest := [.int ((h_X8_call x (xs (i + 1).toNatClampNeg) (xs (i + 2).toNatClampNeg) SX).1)]) ⟨hx, hb, hml, hown, hts⟩ (hm_X9_call l G LM SM mm (xs (i + 1).toNatClampNeg) (xs (i + 2).toNatClampNeg) o2) (cwV 2 hts gL_law_X9_call rfl rfl rfl hdv_X9_call ⟨Nat.le_of_ble_eq_true rfl, Nat.le_of_ble_eq_true rfl⟩) ⟨HW.fb, hp_recv hK hPM hR.okm.1 (PF_7 hR.okm.2) rfl, fun U hU hW => ⟨rfl, HZ.hw hPM hK hnM hLM hE hS U hU hW⟩⟩ rfl rfl hl.1 rfl (lv_room (Nat.le_of_ble_eq_true rfl)) dL_law_806 ⟨(show cells + 0 ≤ room_1.cells by omega), (show slots + 0 ≤ room_1.slots by omega)⟩) hS hLM hPX hdis2 (fun H locs hPM hPX hS => ?_)
  refine lv_icmp_eq (tgt := 1410) hx hb dL_law_809 (by decide) (fun _ => ?_) (fun z => absurd oe z)
  refine W.widen (k := cells + 130) (n := slots + 4355) (by omega) (by omega) ?_
  exact kk LX _ _ H locs ⟨(hR1.next hk), hPX, hPM, hnX, hnM, hLX, hLM, hdis, hdis2⟩ hS
set_option maxHeartbeats 4000000 in
set_option maxRecDepth 100000 in
/-- case 15: divide -/
theorem lc_15 (C0 : lw_At p s m meth c b L xs) (hK : va_K (gD G) vwCl (gT G) s) (hE : EZ G [] s.heap.size s) {k x mm : Nat} {LX LM : List Nat} {SX SM : HS} {H : Heap} {locs : List Loc} {cells slots : Nat} (hW : LwW G s k x mm LX LM SX SM H) (hk : k < 512) (hcs : cells + 130 ≤ room_1.cells ∧ slots + 4355 ≤ room_1.slots) (hS : va_S (AZ [] s.heap.size) s.heap H locs) {i : Int32} (hi : ∀ j : Int32, j = 1 ∨ j = 2 ∨ j = 3 ∨ j = 4 ∨ j = 5 → vp_in (i + j) L) {ls : Array Slot} (hl : lv_has ls 4 [(0, .ref b), (1, .ref x), (2, .ref mm), (3, .int i)])
    (kk : ∀ (LX1 : List Nat) (SX1 SM1 : HS) (H1 : Heap) (locs1 : List Loc), LwW G s (k + 1) x mm LX1 LM SX1 SM1 H1 → va_S (AZ [] s.heap.size) s.heap H1 locs1 → W p l e room_1 s m #[Value.ref b] below meth c H1 locs1 (cells + 130) (slots + 4355) Z (F0 m 1410 ls [])) : W p l e room_1 s m #[Value.ref b] below meth c H locs cells slots Z (F0 m 814 ls []) := by
  obtain ⟨hx, hb, hr, hml, hown, hts0, hX, hbl, hlocks, hgv⟩ := id C0
  have hts : ∀ w ∈ wsL_law, w.before #[Value.ref b] s = true := fun w h => hts0 w (wsL_law_in w h)
  have hown : s.vm.findClass RL = some m.cls := hown
  have h44 : (Cond.constantLong RL 44 4294967295).before #[Value.ref b] s = true := hts0 _ (in_wsL_law_r1 _ w44)
  have hbA : ¬ AZ [] s.heap.size b := fun z => z.elim (fun y => absurd y List.not_mem_nil) (fun y => absurd y (Nat.not_le.mpr hbl))
  have h1 := hi 1 (Or.inl rfl)
  have h2 := hi 2 (Or.inr (Or.inl rfl))
  have h3 := hi 3 (Or.inr (Or.inr (Or.inl rfl)))
  have h4 := hi 4 (Or.inr (Or.inr (Or.inr (Or.inl rfl))))
  have h5 := hi 5 (Or.inr (Or.inr (Or.inr (Or.inr rfl))))
  obtain ⟨hR, hPX, hPM, hnX, hnM, hLX, hLM, hdis, hdis2⟩ := hW
  obtain ⟨o1, o2, oe, hR1⟩ := st_divide hR (xs (i + 1).toNatClampNeg) ((lShl ((xs (i + 2).toNatClampNeg).toInt64) 32) ||| (((xs (i + 3).toNatClampNeg).toInt64) &&& 4294967295)) ((lShl ((xs (i + 4).toNatClampNeg).toInt64) 32) ||| (((xs (i + 5).toNatClampNeg).toInt64) &&& 4294967295))
  refine lv_aload_n hx hb dL_law_814 rfl (lv_at hl 1 rfl) ?_
  refine lv_aload_n hx hb dL_law_815 rfl (lv_at hl 0 rfl) ?_
  refine lv_iload_n hx hb dL_law_816 rfl (lv_at hl 3 rfl) ?_
  refine lv_iconst (v := 1) hx hb dL_law_817 (by decide) ?_
  refine lv_iadd hx hb dL_law_818 ?_
  refine va_sld hx hb hX hbl hbA hS h1 dL_law_819 ?_
  refine lv_aload_n hx hb dL_law_820 rfl (lv_at hl 0 rfl) ?_
  refine lv_iload_n hx hb dL_law_821 rfl (lv_at hl 3 rfl) ?_
  refine lv_iconst (v := 2) hx hb dL_law_822 (by decide) ?_
  refine lv_iadd hx hb dL_law_823 ?_
  refine va_sld hx hb hX hbl hbA hS h2 dL_law_824 ?_
  refine lv_i2l (v := (xs (i + 2).toNatClampNeg).toInt64) hx hb dL_law_825 rfl ?_
  refine lv_bipush (v := 32) hx hb dL_law_826 (by decide) ?_
  refine lv_lshl (v := lShl ((xs (i + 2).toNatClampNeg).toInt64) 32) hx hb dL_law_828 rfl ?_
  refine lv_aload_n hx hb dL_law_829 rfl (lv_at hl 0 rfl) ?_
  refine lv_iload_n hx hb dL_law_830 rfl (lv_at hl 3 rfl) ?_
  refine lv_iconst (v := 3) hx hb dL_law_831 (by decide) ?_
  refine lv_iadd hx hb dL_law_832 ?_
  refine va_sld hx hb hX hbl hbA hS h3 dL_law_833 ?_
  refine lv_i2l (v := (xs (i + 3).toNatClampNeg).toInt64) hx hb dL_law_834 rfl ?_
  refine lv_ldc2 (v := 4294967295) hx hb hown h44 dL_law_835 ?_
  refine lv_land hx hb dL_law_838 ?_
  refine lv_lor hx hb dL_law_839 ?_
  refine lv_aload_n hx hb dL_law_840 rfl (lv_at hl 0 rfl) ?_
  refine lv_iload_n hx hb dL_law_841 rfl (lv_at hl 3 rfl) ?_
  refine lv_iconst (v := 4) hx hb dL_law_842 (by decide) ?_
  refine lv_iadd hx hb dL_law_843 ?_
  refine va_sld hx hb hX hbl hbA hS h4 dL_law_844 ?_
  refine lv_i2l (v := (xs (i + 4).toNatClampNeg).toInt64) hx hb dL_law_845 rfl ?_
  refine lv_bipush (v := 32) hx hb dL_law_846 (by decide) ?_
  refine lv_lshl (v := lShl ((xs (i + 4).toNatClampNeg).toInt64) 32) hx hb dL_law_848 rfl ?_
  refine lv_aload_n hx hb dL_law_849 rfl (lv_at hl 0 rfl) ?_
  refine lv_iload_n hx hb dL_law_850 rfl (lv_at hl 3 rfl) ?_
  refine lv_iconst (v := 5) hx hb dL_law_851 (by decide) ?_
  refine lv_iadd hx hb dL_law_852 ?_
  refine va_sld hx hb hX hbl hbA hS h5 dL_law_853 ?_
  refine lv_i2l (v := (xs (i + 5).toNatClampNeg).toInt64) hx hb dL_law_854 rfl ?_
  refine lv_ldc2 (v := 4294967295) hx hb hown h44 dL_law_855 ?_
  refine lv_land hx hb dL_law_858 ?_
  refine lv_lor hx hb dL_law_859 ?_
  refine lw_rL (va_runV (As := [.int (xs (i + 1).toNatClampNeg), .long ((lShl ((xs (i + 2).toNatClampNeg).toInt64) 32) ||| (((xs (i + 3).toNatClampNeg).toInt64) &&& 4294967295)), .long ((lShl ((xs (i + 4).toNatClampNeg).toInt64) 32) ||| (((xs (i + 5).toNatClampNeg).toInt64) &&& 4294967295))]) (rest := []) ⟨hx, hb, hml, hown, hts⟩ (hm_X8_divide l G LX SX x (xs (i + 1).toNatClampNeg) ((lShl ((xs (i + 2).toNatClampNeg).toInt64) 32) ||| (((xs (i + 3).toNatClampNeg).toInt64) &&& 4294967295)) ((lShl ((xs (i + 4).toNatClampNeg).toInt64) 32) ||| (((xs (i + 5).toNatClampNeg).toInt64) &&& 4294967295)) o1) (cwV 3 hts gL_law_X8_divide rfl rfl rfl hdv_X8_divide ⟨Nat.le_of_ble_eq_true rfl, Nat.le_of_ble_eq_true rfl⟩) ⟨HW.fb, hp_recv hK hPX hR.okx.1 (PF_6 hR.okx.2) rfl, fun U hU hW => ⟨rfl, HZ.hw hPX hK hnX hLX hE hS U hU hW⟩⟩ rfl rfl hl.1 rfl (lv_room (Nat.le_of_ble_eq_true rfl)) dL_law_860 ⟨(show cells + 0 ≤ room_1.cells by omega), (show slots + 0 ≤ room_1.slots by omega)⟩) hS hLX hPM hdis (fun H locs hPX hPM hS => ?_)
  refine lv_aload_n hx hb dL_law_863 rfl (lv_at hl 2 rfl) ?_
  refine lv_aload_n hx hb dL_law_864 rfl (lv_at hl 0 rfl) ?_
  refine lv_iload_n hx hb dL_law_865 rfl (lv_at hl 3 rfl) ?_
  refine lv_iconst (v := 1) hx hb dL_law_866 (by decide) ?_
  refine lv_iadd hx hb dL_law_867 ?_
  refine va_sld hx hb hX hbl hbA hS h1 dL_law_868 ?_
  refine lv_aload_n hx hb dL_law_869 rfl (lv_at hl 0 rfl) ?_
  refine lv_iload_n hx hb dL_law_870 rfl (lv_at hl 3 rfl) ?_
  refine lv_iconst (v := 2) hx hb dL_law_871 (by decide) ?_
  refine lv_iadd hx hb dL_law_872 ?_
  refine va_sld hx hb hX hbl hbA hS h2 dL_law_873 ?_
  refine lv_i2l (v := (xs (i + 2).toNatClampNeg).toInt64) hx hb dL_law_874 rfl ?_
  refine lv_bipush (v := 32) hx hb dL_law_875 (by decide) ?_
  refine lv_lshl (v := lShl ((xs (i + 2).toNatClampNeg).toInt64) 32) hx hb dL_law_877 rfl ?_
  refine lv_aload_n hx hb dL_law_878 rfl (lv_at hl 0 rfl) ?_
  refine lv_iload_n hx hb dL_law_879 rfl (lv_at hl 3 rfl) ?_
  refine lv_iconst (v := 3) hx hb dL_law_880 (by decide) ?_
  refine lv_iadd hx hb dL_law_881 ?_
  refine va_sld hx hb hX hbl hbA hS h3 dL_law_882 ?_
  refine lv_i2l (v := (xs (i + 3).toNatClampNeg).toInt64) hx hb dL_law_883 rfl ?_
  refine lv_ldc2 (v := 4294967295) hx hb hown h44 dL_law_884 ?_
  refine lv_land hx hb dL_law_887 ?_
  refine lv_lor hx hb dL_law_888 ?_
  refine lv_aload_n hx hb dL_law_889 rfl (lv_at hl 0 rfl) ?_
  refine lv_iload_n hx hb dL_law_890 rfl (lv_at hl 3 rfl) ?_
  refine lv_iconst (v := 4) hx hb dL_law_891 (by decide) ?_
  refine lv_iadd hx hb dL_law_892 ?_
  refine va_sld hx hb hX hbl hbA hS h4 dL_law_893 ?_
  refine lv_i2l (v := (xs (i + 4).toNatClampNeg).toInt64) hx hb dL_law_894 rfl ?_
  refine lv_bipush (v := 32) hx hb dL_law_895 (by decide) ?_
  refine lv_lshl (v := lShl ((xs (i + 4).toNatClampNeg).toInt64) 32) hx hb dL_law_897 rfl ?_
  refine lv_aload_n hx hb dL_law_898 rfl (lv_at hl 0 rfl) ?_
  refine lv_iload_n hx hb dL_law_899 rfl (lv_at hl 3 rfl) ?_
  refine lv_iconst (v := 5) hx hb dL_law_900 (by decide) ?_
  refine lv_iadd hx hb dL_law_901 ?_
  refine va_sld hx hb hX hbl hbA hS h5 dL_law_902 ?_
  refine lv_i2l (v := (xs (i + 5).toNatClampNeg).toInt64) hx hb dL_law_903 rfl ?_
  refine lv_ldc2 (v := 4294967295) hx hb hown h44 dL_law_904 ?_
  refine lv_land hx hb dL_law_907 ?_
  refine lv_lor hx hb dL_law_908 ?_
  refine lw_rL (va_runV (As := [.int (xs (i + 1).toNatClampNeg), .long ((lShl ((xs (i + 2).toNatClampNeg).toInt64) 32) ||| (((xs (i + 3).toNatClampNeg).toInt64) &&& 4294967295)), .long ((lShl ((xs (i + 4).toNatClampNeg).toInt64) 32) ||| (((xs (i + 5).toNatClampNeg).toInt64) &&& 4294967295))]) (rest := [.long ((h_X8_divide x (xs (i + 1).toNatClampNeg) ((lShl ((xs (i + 2).toNatClampNeg).toInt64) 32) ||| (((xs (i + 3).toNatClampNeg).toInt64) &&& 4294967295)) ((lShl ((xs (i + 4).toNatClampNeg).toInt64) 32) ||| (((xs (i + 5).toNatClampNeg).toInt64) &&& 4294967295)) SX).1)]) ⟨hx, hb, hml, hown, hts⟩ (hm_X9_divide l G LM SM mm (xs (i + 1).toNatClampNeg) ((lShl ((xs (i + 2).toNatClampNeg).toInt64) 32) ||| (((xs (i + 3).toNatClampNeg).toInt64) &&& 4294967295)) ((lShl ((xs (i + 4).toNatClampNeg).toInt64) 32) ||| (((xs (i + 5).toNatClampNeg).toInt64) &&& 4294967295)) o2) (cwV 3 hts gL_law_X9_divide rfl rfl rfl hdv_X9_divide ⟨Nat.le_of_ble_eq_true rfl, Nat.le_of_ble_eq_true rfl⟩) ⟨HW.fb, hp_recv hK hPM hR.okm.1 (PF_7 hR.okm.2) rfl, fun U hU hW => ⟨rfl, HZ.hw hPM hK hnM hLM hE hS U hU hW⟩⟩ rfl rfl hl.1 rfl (lv_room (Nat.le_of_ble_eq_true rfl)) dL_law_909 ⟨(show cells + 0 ≤ room_1.cells by omega), (show slots + 0 ≤ room_1.slots by omega)⟩) hS hLM hPX hdis2 (fun H locs hPM hPX hS => ?_)
  refine lp_eq (tgt := 1410) hx hb dL_law_912 dL_law_913 (by decide) (fun _ => ?_) (fun z => absurd oe z)
  refine W.widen (k := cells + 130) (n := slots + 4355) (by omega) (by omega) ?_
  exact kk LX _ _ H locs ⟨(hR1.next hk), hPX, hPM, hnX, hnM, hLX, hLM, hdis, hdis2⟩ hS
set_option maxHeartbeats 4000000 in
set_option maxRecDepth 100000 in
/-- case 16: real -/
theorem lc_16 (C0 : lw_At p s m meth c b L xs) (hK : va_K (gD G) vwCl (gT G) s) (hE : EZ G [] s.heap.size s) {k x mm : Nat} {LX LM : List Nat} {SX SM : HS} {H : Heap} {locs : List Loc} {cells slots : Nat} (hW : LwW G s k x mm LX LM SX SM H) (hk : k < 512) (hcs : cells + 130 ≤ room_1.cells ∧ slots + 4355 ≤ room_1.slots) (hS : va_S (AZ [] s.heap.size) s.heap H locs) {i : Int32} (hi : ∀ j : Int32, j = 1 ∨ j = 2 ∨ j = 3 ∨ j = 4 ∨ j = 5 → vp_in (i + j) L) {ls : Array Slot} (hl : lv_has ls 4 [(0, .ref b), (1, .ref x), (2, .ref mm), (3, .int i)])
    (kk : ∀ (LX1 : List Nat) (SX1 SM1 : HS) (H1 : Heap) (locs1 : List Loc), LwW G s (k + 1) x mm LX1 LM SX1 SM1 H1 → va_S (AZ [] s.heap.size) s.heap H1 locs1 → W p l e room_1 s m #[Value.ref b] below meth c H1 locs1 (cells + 130) (slots + 4355) Z (F0 m 1410 ls [])) : W p l e room_1 s m #[Value.ref b] below meth c H locs cells slots Z (F0 m 918 ls []) := by
  obtain ⟨hx, hb, hr, hml, hown, hts0, hX, hbl, hlocks, hgv⟩ := id C0
  have hts : ∀ w ∈ wsL_law, w.before #[Value.ref b] s = true := fun w h => hts0 w (wsL_law_in w h)
  have hown : s.vm.findClass RL = some m.cls := hown
  have h44 : (Cond.constantLong RL 44 4294967295).before #[Value.ref b] s = true := hts0 _ (in_wsL_law_r1 _ w44)
  have hbA : ¬ AZ [] s.heap.size b := fun z => z.elim (fun y => absurd y List.not_mem_nil) (fun y => absurd y (Nat.not_le.mpr hbl))
  have h1 := hi 1 (Or.inl rfl)
  have h2 := hi 2 (Or.inr (Or.inl rfl))
  have h3 := hi 3 (Or.inr (Or.inr (Or.inl rfl)))
  have h4 := hi 4 (Or.inr (Or.inr (Or.inr (Or.inl rfl))))
  have h5 := hi 5 (Or.inr (Or.inr (Or.inr (Or.inr rfl))))
  obtain ⟨hR, hPX, hPM, hnX, hnM, hLX, hLM, hdis, hdis2⟩ := hW
  obtain ⟨o1, o2, oe, hR1⟩ := st_real hR (xs (i + 1).toNatClampNeg) ((lShl ((xs (i + 2).toNatClampNeg).toInt64) 32) ||| (((xs (i + 3).toNatClampNeg).toInt64) &&& 4294967295)) ((lShl ((xs (i + 4).toNatClampNeg).toInt64) 32) ||| (((xs (i + 5).toNatClampNeg).toInt64) &&& 4294967295))
  refine lv_aload_n hx hb dL_law_918 rfl (lv_at hl 1 rfl) ?_
  refine lv_aload_n hx hb dL_law_919 rfl (lv_at hl 0 rfl) ?_
  refine lv_iload_n hx hb dL_law_920 rfl (lv_at hl 3 rfl) ?_
  refine lv_iconst (v := 1) hx hb dL_law_921 (by decide) ?_
  refine lv_iadd hx hb dL_law_922 ?_
  refine va_sld hx hb hX hbl hbA hS h1 dL_law_923 ?_
  refine lv_aload_n hx hb dL_law_924 rfl (lv_at hl 0 rfl) ?_
  refine lv_iload_n hx hb dL_law_925 rfl (lv_at hl 3 rfl) ?_
  refine lv_iconst (v := 2) hx hb dL_law_926 (by decide) ?_
  refine lv_iadd hx hb dL_law_927 ?_
  refine va_sld hx hb hX hbl hbA hS h2 dL_law_928 ?_
  refine lv_i2l (v := (xs (i + 2).toNatClampNeg).toInt64) hx hb dL_law_929 rfl ?_
  refine lv_bipush (v := 32) hx hb dL_law_930 (by decide) ?_
  refine lv_lshl (v := lShl ((xs (i + 2).toNatClampNeg).toInt64) 32) hx hb dL_law_932 rfl ?_
  refine lv_aload_n hx hb dL_law_933 rfl (lv_at hl 0 rfl) ?_
  refine lv_iload_n hx hb dL_law_934 rfl (lv_at hl 3 rfl) ?_
  refine lv_iconst (v := 3) hx hb dL_law_935 (by decide) ?_
  refine lv_iadd hx hb dL_law_936 ?_
  refine va_sld hx hb hX hbl hbA hS h3 dL_law_937 ?_
  refine lv_i2l (v := (xs (i + 3).toNatClampNeg).toInt64) hx hb dL_law_938 rfl ?_
  refine lv_ldc2 (v := 4294967295) hx hb hown h44 dL_law_939 ?_
  refine lv_land hx hb dL_law_942 ?_
  refine lv_lor hx hb dL_law_943 ?_
  refine lv_aload_n hx hb dL_law_944 rfl (lv_at hl 0 rfl) ?_
  refine lv_iload_n hx hb dL_law_945 rfl (lv_at hl 3 rfl) ?_
  refine lv_iconst (v := 4) hx hb dL_law_946 (by decide) ?_
  refine lv_iadd hx hb dL_law_947 ?_
  refine va_sld hx hb hX hbl hbA hS h4 dL_law_948 ?_
  refine lv_i2l (v := (xs (i + 4).toNatClampNeg).toInt64) hx hb dL_law_949 rfl ?_
  refine lv_bipush (v := 32) hx hb dL_law_950 (by decide) ?_
  refine lv_lshl (v := lShl ((xs (i + 4).toNatClampNeg).toInt64) 32) hx hb dL_law_952 rfl ?_
  refine lv_aload_n hx hb dL_law_953 rfl (lv_at hl 0 rfl) ?_
  refine lv_iload_n hx hb dL_law_954 rfl (lv_at hl 3 rfl) ?_
  refine lv_iconst (v := 5) hx hb dL_law_955 (by decide) ?_
  refine lv_iadd hx hb dL_law_956 ?_
  refine va_sld hx hb hX hbl hbA hS h5 dL_law_957 ?_
  refine lv_i2l (v := (xs (i + 5).toNatClampNeg).toInt64) hx hb dL_law_958 rfl ?_
  refine lv_ldc2 (v := 4294967295) hx hb hown h44 dL_law_959 ?_
  refine lv_land hx hb dL_law_962 ?_
  refine lv_lor hx hb dL_law_963 ?_
  refine lw_rL (va_runV (As := [.int (xs (i + 1).toNatClampNeg), .long ((lShl ((xs (i + 2).toNatClampNeg).toInt64) 32) ||| (((xs (i + 3).toNatClampNeg).toInt64) &&& 4294967295)), .long ((lShl ((xs (i + 4).toNatClampNeg).toInt64) 32) ||| (((xs (i + 5).toNatClampNeg).toInt64) &&& 4294967295))]) (rest := []) ⟨hx, hb, hml, hown, hts⟩ (hm_X8_real l G LX SX x (xs (i + 1).toNatClampNeg) ((lShl ((xs (i + 2).toNatClampNeg).toInt64) 32) ||| (((xs (i + 3).toNatClampNeg).toInt64) &&& 4294967295)) ((lShl ((xs (i + 4).toNatClampNeg).toInt64) 32) ||| (((xs (i + 5).toNatClampNeg).toInt64) &&& 4294967295)) o1) (cwV 3 hts gL_law_X8_real rfl rfl rfl hdv_X8_real ⟨Nat.le_of_ble_eq_true rfl, Nat.le_of_ble_eq_true rfl⟩) ⟨HW.fb, hp_recv hK hPX hR.okx.1 (PF_6 hR.okx.2) rfl, fun U hU hW => ⟨rfl, HZ.hw hPX hK hnX hLX hE hS U hU hW⟩⟩ rfl rfl hl.1 rfl (lv_room (Nat.le_of_ble_eq_true rfl)) dL_law_964 ⟨(show cells + 0 ≤ room_1.cells by omega), (show slots + 0 ≤ room_1.slots by omega)⟩) hS hLX hPM hdis (fun H locs hPX hPM hS => ?_)
  refine lv_aload_n hx hb dL_law_967 rfl (lv_at hl 2 rfl) ?_
  refine lv_aload_n hx hb dL_law_968 rfl (lv_at hl 0 rfl) ?_
  refine lv_iload_n hx hb dL_law_969 rfl (lv_at hl 3 rfl) ?_
  refine lv_iconst (v := 1) hx hb dL_law_970 (by decide) ?_
  refine lv_iadd hx hb dL_law_971 ?_
  refine va_sld hx hb hX hbl hbA hS h1 dL_law_972 ?_
  refine lv_aload_n hx hb dL_law_973 rfl (lv_at hl 0 rfl) ?_
  refine lv_iload_n hx hb dL_law_974 rfl (lv_at hl 3 rfl) ?_
  refine lv_iconst (v := 2) hx hb dL_law_975 (by decide) ?_
  refine lv_iadd hx hb dL_law_976 ?_
  refine va_sld hx hb hX hbl hbA hS h2 dL_law_977 ?_
  refine lv_i2l (v := (xs (i + 2).toNatClampNeg).toInt64) hx hb dL_law_978 rfl ?_
  refine lv_bipush (v := 32) hx hb dL_law_979 (by decide) ?_
  refine lv_lshl (v := lShl ((xs (i + 2).toNatClampNeg).toInt64) 32) hx hb dL_law_981 rfl ?_
  refine lv_aload_n hx hb dL_law_982 rfl (lv_at hl 0 rfl) ?_
  refine lv_iload_n hx hb dL_law_983 rfl (lv_at hl 3 rfl) ?_
  refine lv_iconst (v := 3) hx hb dL_law_984 (by decide) ?_
  refine lv_iadd hx hb dL_law_985 ?_
  refine va_sld hx hb hX hbl hbA hS h3 dL_law_986 ?_
  refine lv_i2l (v := (xs (i + 3).toNatClampNeg).toInt64) hx hb dL_law_987 rfl ?_
  refine lv_ldc2 (v := 4294967295) hx hb hown h44 dL_law_988 ?_
  refine lv_land hx hb dL_law_991 ?_
  refine lv_lor hx hb dL_law_992 ?_
  refine lv_aload_n hx hb dL_law_993 rfl (lv_at hl 0 rfl) ?_
  refine lv_iload_n hx hb dL_law_994 rfl (lv_at hl 3 rfl) ?_
  refine lv_iconst (v := 4) hx hb dL_law_995 (by decide) ?_
  refine lv_iadd hx hb dL_law_996 ?_
  refine va_sld hx hb hX hbl hbA hS h4 dL_law_997 ?_
  refine lv_i2l (v := (xs (i + 4).toNatClampNeg).toInt64) hx hb dL_law_998 rfl ?_
  refine lv_bipush (v := 32) hx hb dL_law_999 (by decide) ?_
  refine lv_lshl (v := lShl ((xs (i + 4).toNatClampNeg).toInt64) 32) hx hb dL_law_1001 rfl ?_
  refine lv_aload_n hx hb dL_law_1002 rfl (lv_at hl 0 rfl) ?_
  refine lv_iload_n hx hb dL_law_1003 rfl (lv_at hl 3 rfl) ?_
  refine lv_iconst (v := 5) hx hb dL_law_1004 (by decide) ?_
  refine lv_iadd hx hb dL_law_1005 ?_
  refine va_sld hx hb hX hbl hbA hS h5 dL_law_1006 ?_
  refine lv_i2l (v := (xs (i + 5).toNatClampNeg).toInt64) hx hb dL_law_1007 rfl ?_
  refine lv_ldc2 (v := 4294967295) hx hb hown h44 dL_law_1008 ?_
  refine lv_land hx hb dL_law_1011 ?_
  refine lv_lor hx hb dL_law_1012 ?_
  refine lw_rL (va_runV (As := [.int (xs (i + 1).toNatClampNeg), .long ((lShl ((xs (i + 2).toNatClampNeg).toInt64) 32) ||| (((xs (i + 3).toNatClampNeg).toInt64) &&& 4294967295)), .long ((lShl ((xs (i + 4).toNatClampNeg).toInt64) 32) ||| (((xs (i + 5).toNatClampNeg).toInt64) &&& 4294967295))]) (rest := [.long ((h_X8_real x (xs (i + 1).toNatClampNeg) ((lShl ((xs (i + 2).toNatClampNeg).toInt64) 32) ||| (((xs (i + 3).toNatClampNeg).toInt64) &&& 4294967295)) ((lShl ((xs (i + 4).toNatClampNeg).toInt64) 32) ||| (((xs (i + 5).toNatClampNeg).toInt64) &&& 4294967295)) SX).1)]) ⟨hx, hb, hml, hown, hts⟩ (hm_X9_real l G LM SM mm (xs (i + 1).toNatClampNeg) ((lShl ((xs (i + 2).toNatClampNeg).toInt64) 32) ||| (((xs (i + 3).toNatClampNeg).toInt64) &&& 4294967295)) ((lShl ((xs (i + 4).toNatClampNeg).toInt64) 32) ||| (((xs (i + 5).toNatClampNeg).toInt64) &&& 4294967295)) o2) (cwV 3 hts gL_law_X9_real rfl rfl rfl hdv_X9_real ⟨Nat.le_of_ble_eq_true rfl, Nat.le_of_ble_eq_true rfl⟩) ⟨HW.fb, hp_recv hK hPM hR.okm.1 (PF_7 hR.okm.2) rfl, fun U hU hW => ⟨rfl, HZ.hw hPM hK hnM hLM hE hS U hU hW⟩⟩ rfl rfl hl.1 rfl (lv_room (Nat.le_of_ble_eq_true rfl)) dL_law_1013 ⟨(show cells + 0 ≤ room_1.cells by omega), (show slots + 0 ≤ room_1.slots by omega)⟩) hS hLM hPX hdis2 (fun H locs hPM hPX hS => ?_)
  refine lp_eq (tgt := 1410) hx hb dL_law_1016 dL_law_1017 (by decide) (fun _ => ?_) (fun z => absurd oe z)
  refine W.widen (k := cells + 130) (n := slots + 4355) (by omega) (by omega) ?_
  exact kk LX _ _ H locs ⟨(hR1.next hk), hPX, hPM, hnX, hnM, hLX, hLM, hdis, hdis2⟩ hS
set_option maxHeartbeats 4000000 in
set_option maxRecDepth 100000 in
/-- case 17: math -/
theorem lc_17 (C0 : lw_At p s m meth c b L xs) (hK : va_K (gD G) vwCl (gT G) s) (hE : EZ G [] s.heap.size s) {k x mm : Nat} {LX LM : List Nat} {SX SM : HS} {H : Heap} {locs : List Loc} {cells slots : Nat} (hW : LwW G s k x mm LX LM SX SM H) (hk : k < 512) (hcs : cells + 130 ≤ room_1.cells ∧ slots + 4355 ≤ room_1.slots) (hS : va_S (AZ [] s.heap.size) s.heap H locs) {i : Int32} (hi : ∀ j : Int32, j = 1 ∨ j = 2 ∨ j = 3 ∨ j = 4 ∨ j = 5 → vp_in (i + j) L) {ls : Array Slot} (hl : lv_has ls 4 [(0, .ref b), (1, .ref x), (2, .ref mm), (3, .int i)])
    (kk : ∀ (LX1 : List Nat) (SX1 SM1 : HS) (H1 : Heap) (locs1 : List Loc), LwW G s (k + 1) x mm LX1 LM SX1 SM1 H1 → va_S (AZ [] s.heap.size) s.heap H1 locs1 → W p l e room_1 s m #[Value.ref b] below meth c H1 locs1 (cells + 130) (slots + 4355) Z (F0 m 1410 ls [])) : W p l e room_1 s m #[Value.ref b] below meth c H locs cells slots Z (F0 m 1022 ls []) := by
  obtain ⟨hx, hb, hr, hml, hown, hts0, hX, hbl, hlocks, hgv⟩ := id C0
  have hts : ∀ w ∈ wsL_law, w.before #[Value.ref b] s = true := fun w h => hts0 w (wsL_law_in w h)
  have hown : s.vm.findClass RL = some m.cls := hown
  have h44 : (Cond.constantLong RL 44 4294967295).before #[Value.ref b] s = true := hts0 _ (in_wsL_law_r1 _ w44)
  have hbA : ¬ AZ [] s.heap.size b := fun z => z.elim (fun y => absurd y List.not_mem_nil) (fun y => absurd y (Nat.not_le.mpr hbl))
  have h1 := hi 1 (Or.inl rfl)
  have h2 := hi 2 (Or.inr (Or.inl rfl))
  have h3 := hi 3 (Or.inr (Or.inr (Or.inl rfl)))
  have h4 := hi 4 (Or.inr (Or.inr (Or.inr (Or.inl rfl))))
  have h5 := hi 5 (Or.inr (Or.inr (Or.inr (Or.inr rfl))))
  obtain ⟨hR, hPX, hPM, hnX, hnM, hLX, hLM, hdis, hdis2⟩ := hW
  obtain ⟨o1, o2, oe, hR1⟩ := st_math hR (xs (i + 1).toNatClampNeg) ((lShl ((xs (i + 2).toNatClampNeg).toInt64) 32) ||| (((xs (i + 3).toNatClampNeg).toInt64) &&& 4294967295))
  refine lv_aload_n hx hb dL_law_1022 rfl (lv_at hl 1 rfl) ?_
  refine lv_aload_n hx hb dL_law_1023 rfl (lv_at hl 0 rfl) ?_
  refine lv_iload_n hx hb dL_law_1024 rfl (lv_at hl 3 rfl) ?_
  refine lv_iconst (v := 1) hx hb dL_law_1025 (by decide) ?_
  refine lv_iadd hx hb dL_law_1026 ?_
  refine va_sld hx hb hX hbl hbA hS h1 dL_law_1027 ?_
  refine lv_aload_n hx hb dL_law_1028 rfl (lv_at hl 0 rfl) ?_
  refine lv_iload_n hx hb dL_law_1029 rfl (lv_at hl 3 rfl) ?_
  refine lv_iconst (v := 2) hx hb dL_law_1030 (by decide) ?_
  refine lv_iadd hx hb dL_law_1031 ?_
  refine va_sld hx hb hX hbl hbA hS h2 dL_law_1032 ?_
  refine lv_i2l (v := (xs (i + 2).toNatClampNeg).toInt64) hx hb dL_law_1033 rfl ?_
  refine lv_bipush (v := 32) hx hb dL_law_1034 (by decide) ?_
  refine lv_lshl (v := lShl ((xs (i + 2).toNatClampNeg).toInt64) 32) hx hb dL_law_1036 rfl ?_
  refine lv_aload_n hx hb dL_law_1037 rfl (lv_at hl 0 rfl) ?_
  refine lv_iload_n hx hb dL_law_1038 rfl (lv_at hl 3 rfl) ?_
  refine lv_iconst (v := 3) hx hb dL_law_1039 (by decide) ?_
  refine lv_iadd hx hb dL_law_1040 ?_
  refine va_sld hx hb hX hbl hbA hS h3 dL_law_1041 ?_
  refine lv_i2l (v := (xs (i + 3).toNatClampNeg).toInt64) hx hb dL_law_1042 rfl ?_
  refine lv_ldc2 (v := 4294967295) hx hb hown h44 dL_law_1043 ?_
  refine lv_land hx hb dL_law_1046 ?_
  refine lv_lor hx hb dL_law_1047 ?_
  refine lw_rL (va_runV (As := [.int (xs (i + 1).toNatClampNeg), .long ((lShl ((xs (i + 2).toNatClampNeg).toInt64) 32) ||| (((xs (i + 3).toNatClampNeg).toInt64) &&& 4294967295))]) (rest := []) ⟨hx, hb, hml, hown, hts⟩ (hm_X8_math l G LX SX x (xs (i + 1).toNatClampNeg) ((lShl ((xs (i + 2).toNatClampNeg).toInt64) 32) ||| (((xs (i + 3).toNatClampNeg).toInt64) &&& 4294967295)) o1) (cwV 2 hts gL_law_X8_math rfl rfl rfl hdv_X8_math ⟨Nat.le_of_ble_eq_true rfl, Nat.le_of_ble_eq_true rfl⟩) ⟨HW.fb, hp_recv hK hPX hR.okx.1 (PF_6 hR.okx.2) rfl, fun U hU hW => ⟨rfl, HZ.hw hPX hK hnX hLX hE hS U hU hW⟩⟩ rfl rfl hl.1 rfl (lv_room (Nat.le_of_ble_eq_true rfl)) dL_law_1048 ⟨(show cells + 0 ≤ room_1.cells by omega), (show slots + 0 ≤ room_1.slots by omega)⟩) hS hLX hPM hdis (fun H locs hPX hPM hS => ?_)
  refine lv_aload_n hx hb dL_law_1051 rfl (lv_at hl 2 rfl) ?_
  refine lv_aload_n hx hb dL_law_1052 rfl (lv_at hl 0 rfl) ?_
  refine lv_iload_n hx hb dL_law_1053 rfl (lv_at hl 3 rfl) ?_
  refine lv_iconst (v := 1) hx hb dL_law_1054 (by decide) ?_
  refine lv_iadd hx hb dL_law_1055 ?_
  refine va_sld hx hb hX hbl hbA hS h1 dL_law_1056 ?_
  refine lv_aload_n hx hb dL_law_1057 rfl (lv_at hl 0 rfl) ?_
  refine lv_iload_n hx hb dL_law_1058 rfl (lv_at hl 3 rfl) ?_
  refine lv_iconst (v := 2) hx hb dL_law_1059 (by decide) ?_
  refine lv_iadd hx hb dL_law_1060 ?_
  refine va_sld hx hb hX hbl hbA hS h2 dL_law_1061 ?_
  refine lv_i2l (v := (xs (i + 2).toNatClampNeg).toInt64) hx hb dL_law_1062 rfl ?_
  refine lv_bipush (v := 32) hx hb dL_law_1063 (by decide) ?_
  refine lv_lshl (v := lShl ((xs (i + 2).toNatClampNeg).toInt64) 32) hx hb dL_law_1065 rfl ?_
  refine lv_aload_n hx hb dL_law_1066 rfl (lv_at hl 0 rfl) ?_
  refine lv_iload_n hx hb dL_law_1067 rfl (lv_at hl 3 rfl) ?_
  refine lv_iconst (v := 3) hx hb dL_law_1068 (by decide) ?_
  refine lv_iadd hx hb dL_law_1069 ?_
  refine va_sld hx hb hX hbl hbA hS h3 dL_law_1070 ?_
  refine lv_i2l (v := (xs (i + 3).toNatClampNeg).toInt64) hx hb dL_law_1071 rfl ?_
  refine lv_ldc2 (v := 4294967295) hx hb hown h44 dL_law_1072 ?_
  refine lv_land hx hb dL_law_1075 ?_
  refine lv_lor hx hb dL_law_1076 ?_
  refine lw_rL (va_runV (As := [.int (xs (i + 1).toNatClampNeg), .long ((lShl ((xs (i + 2).toNatClampNeg).toInt64) 32) ||| (((xs (i + 3).toNatClampNeg).toInt64) &&& 4294967295))]) (rest := [.long ((h_X8_math x (xs (i + 1).toNatClampNeg) ((lShl ((xs (i + 2).toNatClampNeg).toInt64) 32) ||| (((xs (i + 3).toNatClampNeg).toInt64) &&& 4294967295)) SX).1)]) ⟨hx, hb, hml, hown, hts⟩ (hm_X9_math l G LM SM mm (xs (i + 1).toNatClampNeg) ((lShl ((xs (i + 2).toNatClampNeg).toInt64) 32) ||| (((xs (i + 3).toNatClampNeg).toInt64) &&& 4294967295)) o2) (cwV 2 hts gL_law_X9_math rfl rfl rfl hdv_X9_math ⟨Nat.le_of_ble_eq_true rfl, Nat.le_of_ble_eq_true rfl⟩) ⟨HW.fb, hp_recv hK hPM hR.okm.1 (PF_7 hR.okm.2) rfl, fun U hU hW => ⟨rfl, HZ.hw hPM hK hnM hLM hE hS U hU hW⟩⟩ rfl rfl hl.1 rfl (lv_room (Nat.le_of_ble_eq_true rfl)) dL_law_1077 ⟨(show cells + 0 ≤ room_1.cells by omega), (show slots + 0 ≤ room_1.slots by omega)⟩) hS hLM hPX hdis2 (fun H locs hPM hPX hS => ?_)
  refine lp_eq (tgt := 1410) hx hb dL_law_1080 dL_law_1081 (by decide) (fun _ => ?_) (fun z => absurd oe z)
  refine W.widen (k := cells + 130) (n := slots + 4355) (by omega) (by omega) ?_
  exact kk LX _ _ H locs ⟨(hR1.next hk), hPX, hPM, hnX, hnM, hLX, hLM, hdis, hdis2⟩ hS
set_option maxHeartbeats 4000000 in
set_option maxRecDepth 100000 in
/-- case 18: narrow -/
theorem lc_18 (C0 : lw_At p s m meth c b L xs) (hK : va_K (gD G) vwCl (gT G) s) (hE : EZ G [] s.heap.size s) {k x mm : Nat} {LX LM : List Nat} {SX SM : HS} {H : Heap} {locs : List Loc} {cells slots : Nat} (hW : LwW G s k x mm LX LM SX SM H) (hk : k < 512) (hcs : cells + 130 ≤ room_1.cells ∧ slots + 4355 ≤ room_1.slots) (hS : va_S (AZ [] s.heap.size) s.heap H locs) {i : Int32} (hi : ∀ j : Int32, j = 1 ∨ j = 2 ∨ j = 3 ∨ j = 4 ∨ j = 5 → vp_in (i + j) L) {ls : Array Slot} (hl : lv_has ls 4 [(0, .ref b), (1, .ref x), (2, .ref mm), (3, .int i)])
    (kk : ∀ (LX1 : List Nat) (SX1 SM1 : HS) (H1 : Heap) (locs1 : List Loc), LwW G s (k + 1) x mm LX1 LM SX1 SM1 H1 → va_S (AZ [] s.heap.size) s.heap H1 locs1 → W p l e room_1 s m #[Value.ref b] below meth c H1 locs1 (cells + 130) (slots + 4355) Z (F0 m 1410 ls [])) : W p l e room_1 s m #[Value.ref b] below meth c H locs cells slots Z (F0 m 1086 ls []) := by
  obtain ⟨hx, hb, hr, hml, hown, hts0, hX, hbl, hlocks, hgv⟩ := id C0
  have hts : ∀ w ∈ wsL_law, w.before #[Value.ref b] s = true := fun w h => hts0 w (wsL_law_in w h)
  have hown : s.vm.findClass RL = some m.cls := hown
  have h44 : (Cond.constantLong RL 44 4294967295).before #[Value.ref b] s = true := hts0 _ (in_wsL_law_r1 _ w44)
  have hbA : ¬ AZ [] s.heap.size b := fun z => z.elim (fun y => absurd y List.not_mem_nil) (fun y => absurd y (Nat.not_le.mpr hbl))
  have h1 := hi 1 (Or.inl rfl)
  have h2 := hi 2 (Or.inr (Or.inl rfl))
  have h3 := hi 3 (Or.inr (Or.inr (Or.inl rfl)))
  have h4 := hi 4 (Or.inr (Or.inr (Or.inr (Or.inl rfl))))
  have h5 := hi 5 (Or.inr (Or.inr (Or.inr (Or.inr rfl))))
  obtain ⟨hR, hPX, hPM, hnX, hnM, hLX, hLM, hdis, hdis2⟩ := hW
  obtain ⟨o1, o2, oe, hR1⟩ := st_narrow hR (xs (i + 1).toNatClampNeg) ((lShl ((xs (i + 2).toNatClampNeg).toInt64) 32) ||| (((xs (i + 3).toNatClampNeg).toInt64) &&& 4294967295))
  refine lv_aload_n hx hb dL_law_1086 rfl (lv_at hl 1 rfl) ?_
  refine lv_aload_n hx hb dL_law_1087 rfl (lv_at hl 0 rfl) ?_
  refine lv_iload_n hx hb dL_law_1088 rfl (lv_at hl 3 rfl) ?_
  refine lv_iconst (v := 1) hx hb dL_law_1089 (by decide) ?_
  refine lv_iadd hx hb dL_law_1090 ?_
  refine va_sld hx hb hX hbl hbA hS h1 dL_law_1091 ?_
  refine lv_aload_n hx hb dL_law_1092 rfl (lv_at hl 0 rfl) ?_
  refine lv_iload_n hx hb dL_law_1093 rfl (lv_at hl 3 rfl) ?_
  refine lv_iconst (v := 2) hx hb dL_law_1094 (by decide) ?_
  refine lv_iadd hx hb dL_law_1095 ?_
  refine va_sld hx hb hX hbl hbA hS h2 dL_law_1096 ?_
  refine lv_i2l (v := (xs (i + 2).toNatClampNeg).toInt64) hx hb dL_law_1097 rfl ?_
  refine lv_bipush (v := 32) hx hb dL_law_1098 (by decide) ?_
  refine lv_lshl (v := lShl ((xs (i + 2).toNatClampNeg).toInt64) 32) hx hb dL_law_1100 rfl ?_
  refine lv_aload_n hx hb dL_law_1101 rfl (lv_at hl 0 rfl) ?_
  refine lv_iload_n hx hb dL_law_1102 rfl (lv_at hl 3 rfl) ?_
  refine lv_iconst (v := 3) hx hb dL_law_1103 (by decide) ?_
  refine lv_iadd hx hb dL_law_1104 ?_
  refine va_sld hx hb hX hbl hbA hS h3 dL_law_1105 ?_
  refine lv_i2l (v := (xs (i + 3).toNatClampNeg).toInt64) hx hb dL_law_1106 rfl ?_
  refine lv_ldc2 (v := 4294967295) hx hb hown h44 dL_law_1107 ?_
  refine lv_land hx hb dL_law_1110 ?_
  refine lv_lor hx hb dL_law_1111 ?_
  refine lw_rL (va_runV (As := [.int (xs (i + 1).toNatClampNeg), .long ((lShl ((xs (i + 2).toNatClampNeg).toInt64) 32) ||| (((xs (i + 3).toNatClampNeg).toInt64) &&& 4294967295))]) (rest := []) ⟨hx, hb, hml, hown, hts⟩ (hm_X8_narrow l G LX SX x (xs (i + 1).toNatClampNeg) ((lShl ((xs (i + 2).toNatClampNeg).toInt64) 32) ||| (((xs (i + 3).toNatClampNeg).toInt64) &&& 4294967295)) o1) (cwV 2 hts gL_law_X8_narrow rfl rfl rfl hdv_X8_narrow ⟨Nat.le_of_ble_eq_true rfl, Nat.le_of_ble_eq_true rfl⟩) ⟨HW.fb, hp_recv hK hPX hR.okx.1 (PF_6 hR.okx.2) rfl, fun U hU hW => ⟨rfl, HZ.hw hPX hK hnX hLX hE hS U hU hW⟩⟩ rfl rfl hl.1 rfl (lv_room (Nat.le_of_ble_eq_true rfl)) dL_law_1112 ⟨(show cells + 0 ≤ room_1.cells by omega), (show slots + 0 ≤ room_1.slots by omega)⟩) hS hLX hPM hdis (fun H locs hPX hPM hS => ?_)
  refine lv_aload_n hx hb dL_law_1115 rfl (lv_at hl 2 rfl) ?_
  refine lv_aload_n hx hb dL_law_1116 rfl (lv_at hl 0 rfl) ?_
  refine lv_iload_n hx hb dL_law_1117 rfl (lv_at hl 3 rfl) ?_
  refine lv_iconst (v := 1) hx hb dL_law_1118 (by decide) ?_
  refine lv_iadd hx hb dL_law_1119 ?_
  refine va_sld hx hb hX hbl hbA hS h1 dL_law_1120 ?_
  refine lv_aload_n hx hb dL_law_1121 rfl (lv_at hl 0 rfl) ?_
  refine lv_iload_n hx hb dL_law_1122 rfl (lv_at hl 3 rfl) ?_
  refine lv_iconst (v := 2) hx hb dL_law_1123 (by decide) ?_
  refine lv_iadd hx hb dL_law_1124 ?_
  refine va_sld hx hb hX hbl hbA hS h2 dL_law_1125 ?_
  refine lv_i2l (v := (xs (i + 2).toNatClampNeg).toInt64) hx hb dL_law_1126 rfl ?_
  refine lv_bipush (v := 32) hx hb dL_law_1127 (by decide) ?_
  refine lv_lshl (v := lShl ((xs (i + 2).toNatClampNeg).toInt64) 32) hx hb dL_law_1129 rfl ?_
  refine lv_aload_n hx hb dL_law_1130 rfl (lv_at hl 0 rfl) ?_
  refine lv_iload_n hx hb dL_law_1131 rfl (lv_at hl 3 rfl) ?_
  refine lv_iconst (v := 3) hx hb dL_law_1132 (by decide) ?_
  refine lv_iadd hx hb dL_law_1133 ?_
  refine va_sld hx hb hX hbl hbA hS h3 dL_law_1134 ?_
  refine lv_i2l (v := (xs (i + 3).toNatClampNeg).toInt64) hx hb dL_law_1135 rfl ?_
  refine lv_ldc2 (v := 4294967295) hx hb hown h44 dL_law_1136 ?_
  refine lv_land hx hb dL_law_1139 ?_
  refine lv_lor hx hb dL_law_1140 ?_
  refine lw_rL (va_runV (As := [.int (xs (i + 1).toNatClampNeg), .long ((lShl ((xs (i + 2).toNatClampNeg).toInt64) 32) ||| (((xs (i + 3).toNatClampNeg).toInt64) &&& 4294967295))]) (rest := [.long ((h_X8_narrow x (xs (i + 1).toNatClampNeg) ((lShl ((xs (i + 2).toNatClampNeg).toInt64) 32) ||| (((xs (i + 3).toNatClampNeg).toInt64) &&& 4294967295)) SX).1)]) ⟨hx, hb, hml, hown, hts⟩ (hm_X9_narrow l G LM SM mm (xs (i + 1).toNatClampNeg) ((lShl ((xs (i + 2).toNatClampNeg).toInt64) 32) ||| (((xs (i + 3).toNatClampNeg).toInt64) &&& 4294967295)) o2) (cwV 2 hts gL_law_X9_narrow rfl rfl rfl hdv_X9_narrow ⟨Nat.le_of_ble_eq_true rfl, Nat.le_of_ble_eq_true rfl⟩) ⟨HW.fb, hp_recv hK hPM hR.okm.1 (PF_7 hR.okm.2) rfl, fun U hU hW => ⟨rfl, HZ.hw hPM hK hnM hLM hE hS U hU hW⟩⟩ rfl rfl hl.1 rfl (lv_room (Nat.le_of_ble_eq_true rfl)) dL_law_1141 ⟨(show cells + 0 ≤ room_1.cells by omega), (show slots + 0 ≤ room_1.slots by omega)⟩) hS hLM hPX hdis2 (fun H locs hPM hPX hS => ?_)
  refine lp_eq (tgt := 1410) hx hb dL_law_1144 dL_law_1145 (by decide) (fun _ => ?_) (fun z => absurd oe z)
  refine W.widen (k := cells + 130) (n := slots + 4355) (by omega) (by omega) ?_
  exact kk LX _ _ H locs ⟨(hR1.next hk), hPX, hPM, hnX, hnM, hLX, hLM, hdis, hdis2⟩ hS
set_option maxHeartbeats 4000000 in
set_option maxRecDepth 100000 in
/-- case 19: widen -/
theorem lc_19 (C0 : lw_At p s m meth c b L xs) (hK : va_K (gD G) vwCl (gT G) s) (hE : EZ G [] s.heap.size s) {k x mm : Nat} {LX LM : List Nat} {SX SM : HS} {H : Heap} {locs : List Loc} {cells slots : Nat} (hW : LwW G s k x mm LX LM SX SM H) (hk : k < 512) (hcs : cells + 130 ≤ room_1.cells ∧ slots + 4355 ≤ room_1.slots) (hS : va_S (AZ [] s.heap.size) s.heap H locs) {i : Int32} (hi : ∀ j : Int32, j = 1 ∨ j = 2 ∨ j = 3 ∨ j = 4 ∨ j = 5 → vp_in (i + j) L) {ls : Array Slot} (hl : lv_has ls 4 [(0, .ref b), (1, .ref x), (2, .ref mm), (3, .int i)])
    (kk : ∀ (LX1 : List Nat) (SX1 SM1 : HS) (H1 : Heap) (locs1 : List Loc), LwW G s (k + 1) x mm LX1 LM SX1 SM1 H1 → va_S (AZ [] s.heap.size) s.heap H1 locs1 → W p l e room_1 s m #[Value.ref b] below meth c H1 locs1 (cells + 130) (slots + 4355) Z (F0 m 1410 ls [])) : W p l e room_1 s m #[Value.ref b] below meth c H locs cells slots Z (F0 m 1150 ls []) := by
  obtain ⟨hx, hb, hr, hml, hown, hts0, hX, hbl, hlocks, hgv⟩ := id C0
  have hts : ∀ w ∈ wsL_law, w.before #[Value.ref b] s = true := fun w h => hts0 w (wsL_law_in w h)
  have hown : s.vm.findClass RL = some m.cls := hown
  have h44 : (Cond.constantLong RL 44 4294967295).before #[Value.ref b] s = true := hts0 _ (in_wsL_law_r1 _ w44)
  have hbA : ¬ AZ [] s.heap.size b := fun z => z.elim (fun y => absurd y List.not_mem_nil) (fun y => absurd y (Nat.not_le.mpr hbl))
  have h1 := hi 1 (Or.inl rfl)
  have h2 := hi 2 (Or.inr (Or.inl rfl))
  have h3 := hi 3 (Or.inr (Or.inr (Or.inl rfl)))
  have h4 := hi 4 (Or.inr (Or.inr (Or.inr (Or.inl rfl))))
  have h5 := hi 5 (Or.inr (Or.inr (Or.inr (Or.inr rfl))))
  obtain ⟨hR, hPX, hPM, hnX, hnM, hLX, hLM, hdis, hdis2⟩ := hW
  obtain ⟨o1, o2, oe, hR1⟩ := st_widen hR (xs (i + 1).toNatClampNeg) ((lShl ((xs (i + 2).toNatClampNeg).toInt64) 32) ||| (((xs (i + 3).toNatClampNeg).toInt64) &&& 4294967295))
  refine lv_aload_n hx hb dL_law_1150 rfl (lv_at hl 1 rfl) ?_
  refine lv_aload_n hx hb dL_law_1151 rfl (lv_at hl 0 rfl) ?_
  refine lv_iload_n hx hb dL_law_1152 rfl (lv_at hl 3 rfl) ?_
  refine lv_iconst (v := 1) hx hb dL_law_1153 (by decide) ?_
  refine lv_iadd hx hb dL_law_1154 ?_
  refine va_sld hx hb hX hbl hbA hS h1 dL_law_1155 ?_
  refine lv_aload_n hx hb dL_law_1156 rfl (lv_at hl 0 rfl) ?_
  refine lv_iload_n hx hb dL_law_1157 rfl (lv_at hl 3 rfl) ?_
  refine lv_iconst (v := 2) hx hb dL_law_1158 (by decide) ?_
  refine lv_iadd hx hb dL_law_1159 ?_
  refine va_sld hx hb hX hbl hbA hS h2 dL_law_1160 ?_
  refine lv_i2l (v := (xs (i + 2).toNatClampNeg).toInt64) hx hb dL_law_1161 rfl ?_
  refine lv_bipush (v := 32) hx hb dL_law_1162 (by decide) ?_
  refine lv_lshl (v := lShl ((xs (i + 2).toNatClampNeg).toInt64) 32) hx hb dL_law_1164 rfl ?_
  refine lv_aload_n hx hb dL_law_1165 rfl (lv_at hl 0 rfl) ?_
  refine lv_iload_n hx hb dL_law_1166 rfl (lv_at hl 3 rfl) ?_
  refine lv_iconst (v := 3) hx hb dL_law_1167 (by decide) ?_
  refine lv_iadd hx hb dL_law_1168 ?_
  refine va_sld hx hb hX hbl hbA hS h3 dL_law_1169 ?_
  refine lv_i2l (v := (xs (i + 3).toNatClampNeg).toInt64) hx hb dL_law_1170 rfl ?_
  refine lv_ldc2 (v := 4294967295) hx hb hown h44 dL_law_1171 ?_
  refine lv_land hx hb dL_law_1174 ?_
  refine lv_lor hx hb dL_law_1175 ?_
  refine lw_rL (va_runV (As := [.int (xs (i + 1).toNatClampNeg), .long ((lShl ((xs (i + 2).toNatClampNeg).toInt64) 32) ||| (((xs (i + 3).toNatClampNeg).toInt64) &&& 4294967295))]) (rest := []) ⟨hx, hb, hml, hown, hts⟩ (hm_X8_widen l G LX SX x (xs (i + 1).toNatClampNeg) ((lShl ((xs (i + 2).toNatClampNeg).toInt64) 32) ||| (((xs (i + 3).toNatClampNeg).toInt64) &&& 4294967295)) o1) (cwV 2 hts gL_law_X8_widen rfl rfl rfl hdv_X8_widen ⟨Nat.le_of_ble_eq_true rfl, Nat.le_of_ble_eq_true rfl⟩) ⟨HW.fb, hp_recv hK hPX hR.okx.1 (PF_6 hR.okx.2) rfl, fun U hU hW => ⟨rfl, HZ.hw hPX hK hnX hLX hE hS U hU hW⟩⟩ rfl rfl hl.1 rfl (lv_room (Nat.le_of_ble_eq_true rfl)) dL_law_1176 ⟨(show cells + 0 ≤ room_1.cells by omega), (show slots + 0 ≤ room_1.slots by omega)⟩) hS hLX hPM hdis (fun H locs hPX hPM hS => ?_)
  refine lv_aload_n hx hb dL_law_1179 rfl (lv_at hl 2 rfl) ?_
  refine lv_aload_n hx hb dL_law_1180 rfl (lv_at hl 0 rfl) ?_
  refine lv_iload_n hx hb dL_law_1181 rfl (lv_at hl 3 rfl) ?_
  refine lv_iconst (v := 1) hx hb dL_law_1182 (by decide) ?_
  refine lv_iadd hx hb dL_law_1183 ?_
  refine va_sld hx hb hX hbl hbA hS h1 dL_law_1184 ?_
  refine lv_aload_n hx hb dL_law_1185 rfl (lv_at hl 0 rfl) ?_
  refine lv_iload_n hx hb dL_law_1186 rfl (lv_at hl 3 rfl) ?_
  refine lv_iconst (v := 2) hx hb dL_law_1187 (by decide) ?_
  refine lv_iadd hx hb dL_law_1188 ?_
  refine va_sld hx hb hX hbl hbA hS h2 dL_law_1189 ?_
  refine lv_i2l (v := (xs (i + 2).toNatClampNeg).toInt64) hx hb dL_law_1190 rfl ?_
  refine lv_bipush (v := 32) hx hb dL_law_1191 (by decide) ?_
  refine lv_lshl (v := lShl ((xs (i + 2).toNatClampNeg).toInt64) 32) hx hb dL_law_1193 rfl ?_
  refine lv_aload_n hx hb dL_law_1194 rfl (lv_at hl 0 rfl) ?_
  refine lv_iload_n hx hb dL_law_1195 rfl (lv_at hl 3 rfl) ?_
  refine lv_iconst (v := 3) hx hb dL_law_1196 (by decide) ?_
  refine lv_iadd hx hb dL_law_1197 ?_
  refine va_sld hx hb hX hbl hbA hS h3 dL_law_1198 ?_
  refine lv_i2l (v := (xs (i + 3).toNatClampNeg).toInt64) hx hb dL_law_1199 rfl ?_
  refine lv_ldc2 (v := 4294967295) hx hb hown h44 dL_law_1200 ?_
  refine lv_land hx hb dL_law_1203 ?_
  refine lv_lor hx hb dL_law_1204 ?_
  refine lw_rL (va_runV (As := [.int (xs (i + 1).toNatClampNeg), .long ((lShl ((xs (i + 2).toNatClampNeg).toInt64) 32) ||| (((xs (i + 3).toNatClampNeg).toInt64) &&& 4294967295))]) (rest := [.long ((h_X8_widen x (xs (i + 1).toNatClampNeg) ((lShl ((xs (i + 2).toNatClampNeg).toInt64) 32) ||| (((xs (i + 3).toNatClampNeg).toInt64) &&& 4294967295)) SX).1)]) ⟨hx, hb, hml, hown, hts⟩ (hm_X9_widen l G LM SM mm (xs (i + 1).toNatClampNeg) ((lShl ((xs (i + 2).toNatClampNeg).toInt64) 32) ||| (((xs (i + 3).toNatClampNeg).toInt64) &&& 4294967295)) o2) (cwV 2 hts gL_law_X9_widen rfl rfl rfl hdv_X9_widen ⟨Nat.le_of_ble_eq_true rfl, Nat.le_of_ble_eq_true rfl⟩) ⟨HW.fb, hp_recv hK hPM hR.okm.1 (PF_7 hR.okm.2) rfl, fun U hU hW => ⟨rfl, HZ.hw hPM hK hnM hLM hE hS U hU hW⟩⟩ rfl rfl hl.1 rfl (lv_room (Nat.le_of_ble_eq_true rfl)) dL_law_1205 ⟨(show cells + 0 ≤ room_1.cells by omega), (show slots + 0 ≤ room_1.slots by omega)⟩) hS hLM hPX hdis2 (fun H locs hPM hPX hS => ?_)
  refine lp_eq (tgt := 1410) hx hb dL_law_1208 dL_law_1209 (by decide) (fun _ => ?_) (fun z => absurd oe z)
  refine W.widen (k := cells + 130) (n := slots + 4355) (by omega) (by omega) ?_
  exact kk LX _ _ H locs ⟨(hR1.next hk), hPX, hPM, hnX, hnM, hLX, hLM, hdis, hdis2⟩ hS
set_option maxHeartbeats 4000000 in
set_option maxRecDepth 100000 in
/-- case 20: compare -/
theorem lc_20 (C0 : lw_At p s m meth c b L xs) (hK : va_K (gD G) vwCl (gT G) s) (hE : EZ G [] s.heap.size s) {k x mm : Nat} {LX LM : List Nat} {SX SM : HS} {H : Heap} {locs : List Loc} {cells slots : Nat} (hW : LwW G s k x mm LX LM SX SM H) (hk : k < 512) (hcs : cells + 130 ≤ room_1.cells ∧ slots + 4355 ≤ room_1.slots) (hS : va_S (AZ [] s.heap.size) s.heap H locs) {i : Int32} (hi : ∀ j : Int32, j = 1 ∨ j = 2 ∨ j = 3 ∨ j = 4 ∨ j = 5 → vp_in (i + j) L) {ls : Array Slot} (hl : lv_has ls 4 [(0, .ref b), (1, .ref x), (2, .ref mm), (3, .int i)])
    (kk : ∀ (LX1 : List Nat) (SX1 SM1 : HS) (H1 : Heap) (locs1 : List Loc), LwW G s (k + 1) x mm LX1 LM SX1 SM1 H1 → va_S (AZ [] s.heap.size) s.heap H1 locs1 → W p l e room_1 s m #[Value.ref b] below meth c H1 locs1 (cells + 130) (slots + 4355) Z (F0 m 1410 ls [])) : W p l e room_1 s m #[Value.ref b] below meth c H locs cells slots Z (F0 m 1214 ls []) := by
  obtain ⟨hx, hb, hr, hml, hown, hts0, hX, hbl, hlocks, hgv⟩ := id C0
  have hts : ∀ w ∈ wsL_law, w.before #[Value.ref b] s = true := fun w h => hts0 w (wsL_law_in w h)
  have hown : s.vm.findClass RL = some m.cls := hown
  have h44 : (Cond.constantLong RL 44 4294967295).before #[Value.ref b] s = true := hts0 _ (in_wsL_law_r1 _ w44)
  have hbA : ¬ AZ [] s.heap.size b := fun z => z.elim (fun y => absurd y List.not_mem_nil) (fun y => absurd y (Nat.not_le.mpr hbl))
  have h1 := hi 1 (Or.inl rfl)
  have h2 := hi 2 (Or.inr (Or.inl rfl))
  have h3 := hi 3 (Or.inr (Or.inr (Or.inl rfl)))
  have h4 := hi 4 (Or.inr (Or.inr (Or.inr (Or.inl rfl))))
  have h5 := hi 5 (Or.inr (Or.inr (Or.inr (Or.inr rfl))))
  obtain ⟨hR, hPX, hPM, hnX, hnM, hLX, hLM, hdis, hdis2⟩ := hW
  obtain ⟨o1, o2, oe, hR1⟩ := st_compare hR (xs (i + 1).toNatClampNeg) ((lShl ((xs (i + 2).toNatClampNeg).toInt64) 32) ||| (((xs (i + 3).toNatClampNeg).toInt64) &&& 4294967295)) ((lShl ((xs (i + 4).toNatClampNeg).toInt64) 32) ||| (((xs (i + 5).toNatClampNeg).toInt64) &&& 4294967295))
  refine lv_aload_n hx hb dL_law_1214 rfl (lv_at hl 1 rfl) ?_
  refine lv_aload_n hx hb dL_law_1215 rfl (lv_at hl 0 rfl) ?_
  refine lv_iload_n hx hb dL_law_1216 rfl (lv_at hl 3 rfl) ?_
  refine lv_iconst (v := 1) hx hb dL_law_1217 (by decide) ?_
  refine lv_iadd hx hb dL_law_1218 ?_
  refine va_sld hx hb hX hbl hbA hS h1 dL_law_1219 ?_
  refine lv_aload_n hx hb dL_law_1220 rfl (lv_at hl 0 rfl) ?_
  refine lv_iload_n hx hb dL_law_1221 rfl (lv_at hl 3 rfl) ?_
  refine lv_iconst (v := 2) hx hb dL_law_1222 (by decide) ?_
  refine lv_iadd hx hb dL_law_1223 ?_
  refine va_sld hx hb hX hbl hbA hS h2 dL_law_1224 ?_
  refine lv_i2l (v := (xs (i + 2).toNatClampNeg).toInt64) hx hb dL_law_1225 rfl ?_
  refine lv_bipush (v := 32) hx hb dL_law_1226 (by decide) ?_
  refine lv_lshl (v := lShl ((xs (i + 2).toNatClampNeg).toInt64) 32) hx hb dL_law_1228 rfl ?_
  refine lv_aload_n hx hb dL_law_1229 rfl (lv_at hl 0 rfl) ?_
  refine lv_iload_n hx hb dL_law_1230 rfl (lv_at hl 3 rfl) ?_
  refine lv_iconst (v := 3) hx hb dL_law_1231 (by decide) ?_
  refine lv_iadd hx hb dL_law_1232 ?_
  refine va_sld hx hb hX hbl hbA hS h3 dL_law_1233 ?_
  refine lv_i2l (v := (xs (i + 3).toNatClampNeg).toInt64) hx hb dL_law_1234 rfl ?_
  refine lv_ldc2 (v := 4294967295) hx hb hown h44 dL_law_1235 ?_
  refine lv_land hx hb dL_law_1238 ?_
  refine lv_lor hx hb dL_law_1239 ?_
  refine lv_aload_n hx hb dL_law_1240 rfl (lv_at hl 0 rfl) ?_
  refine lv_iload_n hx hb dL_law_1241 rfl (lv_at hl 3 rfl) ?_
  refine lv_iconst (v := 4) hx hb dL_law_1242 (by decide) ?_
  refine lv_iadd hx hb dL_law_1243 ?_
  refine va_sld hx hb hX hbl hbA hS h4 dL_law_1244 ?_
  refine lv_i2l (v := (xs (i + 4).toNatClampNeg).toInt64) hx hb dL_law_1245 rfl ?_
  refine lv_bipush (v := 32) hx hb dL_law_1246 (by decide) ?_
  refine lv_lshl (v := lShl ((xs (i + 4).toNatClampNeg).toInt64) 32) hx hb dL_law_1248 rfl ?_
  refine lv_aload_n hx hb dL_law_1249 rfl (lv_at hl 0 rfl) ?_
  refine lv_iload_n hx hb dL_law_1250 rfl (lv_at hl 3 rfl) ?_
  refine lv_iconst (v := 5) hx hb dL_law_1251 (by decide) ?_
  refine lv_iadd hx hb dL_law_1252 ?_
  refine va_sld hx hb hX hbl hbA hS h5 dL_law_1253 ?_
  refine lv_i2l (v := (xs (i + 5).toNatClampNeg).toInt64) hx hb dL_law_1254 rfl ?_
  refine lv_ldc2 (v := 4294967295) hx hb hown h44 dL_law_1255 ?_
  refine lv_land hx hb dL_law_1258 ?_
  refine lv_lor hx hb dL_law_1259 ?_
  refine lw_rI (va_runV (As := [.int (xs (i + 1).toNatClampNeg), .long ((lShl ((xs (i + 2).toNatClampNeg).toInt64) 32) ||| (((xs (i + 3).toNatClampNeg).toInt64) &&& 4294967295)), .long ((lShl ((xs (i + 4).toNatClampNeg).toInt64) 32) ||| (((xs (i + 5).toNatClampNeg).toInt64) &&& 4294967295))]) (rest := []) ⟨hx, hb, hml, hown, hts⟩ (hm_X8_compare l G LX SX x (xs (i + 1).toNatClampNeg) ((lShl ((xs (i + 2).toNatClampNeg).toInt64) 32) ||| (((xs (i + 3).toNatClampNeg).toInt64) &&& 4294967295)) ((lShl ((xs (i + 4).toNatClampNeg).toInt64) 32) ||| (((xs (i + 5).toNatClampNeg).toInt64) &&& 4294967295)) o1) (cwV 3 hts gL_law_X8_compare rfl rfl rfl hdv_X8_compare ⟨Nat.le_of_ble_eq_true rfl, Nat.le_of_ble_eq_true rfl⟩) ⟨HW.fb, hp_recv hK hPX hR.okx.1 (PF_6 hR.okx.2) rfl, fun U hU hW => ⟨rfl, HZ.hw hPX hK hnX hLX hE hS U hU hW⟩⟩ rfl rfl hl.1 rfl (lv_room (Nat.le_of_ble_eq_true rfl)) dL_law_1260 ⟨(show cells + 0 ≤ room_1.cells by omega), (show slots + 0 ≤ room_1.slots by omega)⟩) hS hLX hPM hdis (fun H locs hPX hPM hS => ?_)
  refine lv_aload_n hx hb dL_law_1263 rfl (lv_at hl 2 rfl) ?_
  refine lv_aload_n hx hb dL_law_1264 rfl (lv_at hl 0 rfl) ?_
  refine lv_iload_n hx hb dL_law_1265 rfl (lv_at hl 3 rfl) ?_
  refine lv_iconst (v := 1) hx hb dL_law_1266 (by decide) ?_
  refine lv_iadd hx hb dL_law_1267 ?_
  refine va_sld hx hb hX hbl hbA hS h1 dL_law_1268 ?_
  refine lv_aload_n hx hb dL_law_1269 rfl (lv_at hl 0 rfl) ?_
  refine lv_iload_n hx hb dL_law_1270 rfl (lv_at hl 3 rfl) ?_
  refine lv_iconst (v := 2) hx hb dL_law_1271 (by decide) ?_
  refine lv_iadd hx hb dL_law_1272 ?_
  refine va_sld hx hb hX hbl hbA hS h2 dL_law_1273 ?_
  refine lv_i2l (v := (xs (i + 2).toNatClampNeg).toInt64) hx hb dL_law_1274 rfl ?_
  refine lv_bipush (v := 32) hx hb dL_law_1275 (by decide) ?_
  refine lv_lshl (v := lShl ((xs (i + 2).toNatClampNeg).toInt64) 32) hx hb dL_law_1277 rfl ?_
  refine lv_aload_n hx hb dL_law_1278 rfl (lv_at hl 0 rfl) ?_
  refine lv_iload_n hx hb dL_law_1279 rfl (lv_at hl 3 rfl) ?_
  refine lv_iconst (v := 3) hx hb dL_law_1280 (by decide) ?_
  refine lv_iadd hx hb dL_law_1281 ?_
  refine va_sld hx hb hX hbl hbA hS h3 dL_law_1282 ?_
  refine lv_i2l (v := (xs (i + 3).toNatClampNeg).toInt64) hx hb dL_law_1283 rfl ?_
  refine lv_ldc2 (v := 4294967295) hx hb hown h44 dL_law_1284 ?_
  refine lv_land hx hb dL_law_1287 ?_
  refine lv_lor hx hb dL_law_1288 ?_
  refine lv_aload_n hx hb dL_law_1289 rfl (lv_at hl 0 rfl) ?_
  refine lv_iload_n hx hb dL_law_1290 rfl (lv_at hl 3 rfl) ?_
  refine lv_iconst (v := 4) hx hb dL_law_1291 (by decide) ?_
  refine lv_iadd hx hb dL_law_1292 ?_
  refine va_sld hx hb hX hbl hbA hS h4 dL_law_1293 ?_
  refine lv_i2l (v := (xs (i + 4).toNatClampNeg).toInt64) hx hb dL_law_1294 rfl ?_
  refine lv_bipush (v := 32) hx hb dL_law_1295 (by decide) ?_
  refine lv_lshl (v := lShl ((xs (i + 4).toNatClampNeg).toInt64) 32) hx hb dL_law_1297 rfl ?_
  refine lv_aload_n hx hb dL_law_1298 rfl (lv_at hl 0 rfl) ?_
  refine lv_iload_n hx hb dL_law_1299 rfl (lv_at hl 3 rfl) ?_
  refine lv_iconst (v := 5) hx hb dL_law_1300 (by decide) ?_
  refine lv_iadd hx hb dL_law_1301 ?_
  refine va_sld hx hb hX hbl hbA hS h5 dL_law_1302 ?_
  refine lv_i2l (v := (xs (i + 5).toNatClampNeg).toInt64) hx hb dL_law_1303 rfl ?_
  refine lv_ldc2 (v := 4294967295) hx hb hown h44 dL_law_1304 ?_
  refine lv_land hx hb dL_law_1307 ?_
  refine lv_lor hx hb dL_law_1308 ?_
  refine lw_rI (va_runV (As := [.int (xs (i + 1).toNatClampNeg), .long ((lShl ((xs (i + 2).toNatClampNeg).toInt64) 32) ||| (((xs (i + 3).toNatClampNeg).toInt64) &&& 4294967295)), .long ((lShl ((xs (i + 4).toNatClampNeg).toInt64) 32) ||| (((xs (i + 5).toNatClampNeg).toInt64) &&& 4294967295))]) (rest := [.int ((h_X8_compare x (xs (i + 1).toNatClampNeg) ((lShl ((xs (i + 2).toNatClampNeg).toInt64) 32) ||| (((xs (i + 3).toNatClampNeg).toInt64) &&& 4294967295)) ((lShl ((xs (i + 4).toNatClampNeg).toInt64) 32) ||| (((xs (i + 5).toNatClampNeg).toInt64) &&& 4294967295)) SX).1)]) ⟨hx, hb, hml, hown, hts⟩ (hm_X9_compare l G LM SM mm (xs (i + 1).toNatClampNeg) ((lShl ((xs (i + 2).toNatClampNeg).toInt64) 32) ||| (((xs (i + 3).toNatClampNeg).toInt64) &&& 4294967295)) ((lShl ((xs (i + 4).toNatClampNeg).toInt64) 32) ||| (((xs (i + 5).toNatClampNeg).toInt64) &&& 4294967295)) o2) (cwV 3 hts gL_law_X9_compare rfl rfl rfl hdv_X9_compare ⟨Nat.le_of_ble_eq_true rfl, Nat.le_of_ble_eq_true rfl⟩) ⟨HW.fb, hp_recv hK hPM hR.okm.1 (PF_7 hR.okm.2) rfl, fun U hU hW => ⟨rfl, HZ.hw hPM hK hnM hLM hE hS U hU hW⟩⟩ rfl rfl hl.1 rfl (lv_room (Nat.le_of_ble_eq_true rfl)) dL_law_1309 ⟨(show cells + 0 ≤ room_1.cells by omega), (show slots + 0 ≤ room_1.slots by omega)⟩) hS hLM hPX hdis2 (fun H locs hPM hPX hS => ?_)
  refine lv_icmp_eq (tgt := 1410) hx hb dL_law_1312 (by decide) (fun _ => ?_) (fun z => absurd oe z)
  refine W.widen (k := cells + 130) (n := slots + 4355) (by omega) (by omega) ?_
  exact kk LX _ _ H locs ⟨(hR1.next hk), hPX, hPM, hnX, hnM, hLX, hLM, hdis, hdis2⟩ hS
set_option maxHeartbeats 4000000 in
set_option maxRecDepth 100000 in
/-- case 21: pass -/
theorem lc_21 (C0 : lw_At p s m meth c b L xs) (hK : va_K (gD G) vwCl (gT G) s) (hE : EZ G [] s.heap.size s) {k x mm : Nat} {LX LM : List Nat} {SX SM : HS} {H : Heap} {locs : List Loc} {cells slots : Nat} (hW : LwW G s k x mm LX LM SX SM H) (hk : k < 512) (hcs : cells + 130 ≤ room_1.cells ∧ slots + 4355 ≤ room_1.slots) (hS : va_S (AZ [] s.heap.size) s.heap H locs) {i : Int32} (hi : ∀ j : Int32, j = 1 ∨ j = 2 ∨ j = 3 ∨ j = 4 ∨ j = 5 → vp_in (i + j) L) {ls : Array Slot} (hl : lv_has ls 4 [(0, .ref b), (1, .ref x), (2, .ref mm), (3, .int i)])
    (kk : ∀ (LX1 : List Nat) (SX1 SM1 : HS) (H1 : Heap) (locs1 : List Loc), LwW G s (k + 1) x mm LX1 LM SX1 SM1 H1 → va_S (AZ [] s.heap.size) s.heap H1 locs1 → W p l e room_1 s m #[Value.ref b] below meth c H1 locs1 (cells + 130) (slots + 4355) Z (F0 m 1410 ls [])) : W p l e room_1 s m #[Value.ref b] below meth c H locs cells slots Z (F0 m 1317 ls []) := by
  obtain ⟨hx, hb, hr, hml, hown, hts0, hX, hbl, hlocks, hgv⟩ := id C0
  have hts : ∀ w ∈ wsL_law, w.before #[Value.ref b] s = true := fun w h => hts0 w (wsL_law_in w h)
  have hown : s.vm.findClass RL = some m.cls := hown
  have h44 : (Cond.constantLong RL 44 4294967295).before #[Value.ref b] s = true := hts0 _ (in_wsL_law_r1 _ w44)
  have hbA : ¬ AZ [] s.heap.size b := fun z => z.elim (fun y => absurd y List.not_mem_nil) (fun y => absurd y (Nat.not_le.mpr hbl))
  have h1 := hi 1 (Or.inl rfl)
  have h2 := hi 2 (Or.inr (Or.inl rfl))
  have h3 := hi 3 (Or.inr (Or.inr (Or.inl rfl)))
  have h4 := hi 4 (Or.inr (Or.inr (Or.inr (Or.inl rfl))))
  have h5 := hi 5 (Or.inr (Or.inr (Or.inr (Or.inr rfl))))
  obtain ⟨hR, hPX, hPM, hnX, hnM, hLX, hLM, hdis, hdis2⟩ := hW
  obtain ⟨o1, o2, oe, hR1⟩ := st_pass hR (xs (i + 1).toNatClampNeg) (xs (i + 2).toNatClampNeg) (xs (i + 3).toNatClampNeg)
  refine lv_aload_n hx hb dL_law_1317 rfl (lv_at hl 1 rfl) ?_
  refine lv_aload_n hx hb dL_law_1318 rfl (lv_at hl 0 rfl) ?_
  refine lv_iload_n hx hb dL_law_1319 rfl (lv_at hl 3 rfl) ?_
  refine lv_iconst (v := 1) hx hb dL_law_1320 (by decide) ?_
  refine lv_iadd hx hb dL_law_1321 ?_
  refine va_sld hx hb hX hbl hbA hS h1 dL_law_1322 ?_
  refine lv_aload_n hx hb dL_law_1323 rfl (lv_at hl 0 rfl) ?_
  refine lv_iload_n hx hb dL_law_1324 rfl (lv_at hl 3 rfl) ?_
  refine lv_iconst (v := 2) hx hb dL_law_1325 (by decide) ?_
  refine lv_iadd hx hb dL_law_1326 ?_
  refine va_sld hx hb hX hbl hbA hS h2 dL_law_1327 ?_
  refine lv_aload_n hx hb dL_law_1328 rfl (lv_at hl 0 rfl) ?_
  refine lv_iload_n hx hb dL_law_1329 rfl (lv_at hl 3 rfl) ?_
  refine lv_iconst (v := 3) hx hb dL_law_1330 (by decide) ?_
  refine lv_iadd hx hb dL_law_1331 ?_
  refine va_sld hx hb hX hbl hbA hS h3 dL_law_1332 ?_
  refine lw_rL (va_runV (As := [.int (xs (i + 1).toNatClampNeg), .int (xs (i + 2).toNatClampNeg), .int (xs (i + 3).toNatClampNeg)]) (rest := []) ⟨hx, hb, hml, hown, hts⟩ (hm_X8_pass l G LX SX x (xs (i + 1).toNatClampNeg) (xs (i + 2).toNatClampNeg) (xs (i + 3).toNatClampNeg) o1) (cwV 3 hts gL_law_X8_pass rfl rfl rfl hdv_X8_pass ⟨Nat.le_of_ble_eq_true rfl, Nat.le_of_ble_eq_true rfl⟩) ⟨HW.fb, hp_recv hK hPX hR.okx.1 (PF_6 hR.okx.2) rfl, fun U hU hW => ⟨rfl, HZ.hw hPX hK hnX hLX hE hS U hU hW⟩⟩ rfl rfl hl.1 rfl (lv_room (Nat.le_of_ble_eq_true rfl)) dL_law_1333 ⟨(show cells + 0 ≤ room_1.cells by omega), (show slots + 0 ≤ room_1.slots by omega)⟩) hS hLX hPM hdis (fun H locs hPX hPM hS => ?_)
  refine lv_aload_n hx hb dL_law_1336 rfl (lv_at hl 2 rfl) ?_
  refine lv_aload_n hx hb dL_law_1337 rfl (lv_at hl 0 rfl) ?_
  refine lv_iload_n hx hb dL_law_1338 rfl (lv_at hl 3 rfl) ?_
  refine lv_iconst (v := 1) hx hb dL_law_1339 (by decide) ?_
  refine lv_iadd hx hb dL_law_1340 ?_
  refine va_sld hx hb hX hbl hbA hS h1 dL_law_1341 ?_
  refine lv_aload_n hx hb dL_law_1342 rfl (lv_at hl 0 rfl) ?_
  refine lv_iload_n hx hb dL_law_1343 rfl (lv_at hl 3 rfl) ?_
  refine lv_iconst (v := 2) hx hb dL_law_1344 (by decide) ?_
  refine lv_iadd hx hb dL_law_1345 ?_
  refine va_sld hx hb hX hbl hbA hS h2 dL_law_1346 ?_
  refine lv_aload_n hx hb dL_law_1347 rfl (lv_at hl 0 rfl) ?_
  refine lv_iload_n hx hb dL_law_1348 rfl (lv_at hl 3 rfl) ?_
  refine lv_iconst (v := 3) hx hb dL_law_1349 (by decide) ?_
  refine lv_iadd hx hb dL_law_1350 ?_
  refine va_sld hx hb hX hbl hbA hS h3 dL_law_1351 ?_
  refine lw_rL (va_runV (As := [.int (xs (i + 1).toNatClampNeg), .int (xs (i + 2).toNatClampNeg), .int (xs (i + 3).toNatClampNeg)]) (rest := [.long ((h_X8_pass x (xs (i + 1).toNatClampNeg) (xs (i + 2).toNatClampNeg) (xs (i + 3).toNatClampNeg) SX).1)]) ⟨hx, hb, hml, hown, hts⟩ (hm_X9_pass l G LM SM mm (xs (i + 1).toNatClampNeg) (xs (i + 2).toNatClampNeg) (xs (i + 3).toNatClampNeg) o2) (cwV 3 hts gL_law_X9_pass rfl rfl rfl hdv_X9_pass ⟨Nat.le_of_ble_eq_true rfl, Nat.le_of_ble_eq_true rfl⟩) ⟨HW.fb, hp_recv hK hPM hR.okm.1 (PF_7 hR.okm.2) rfl, fun U hU hW => ⟨rfl, HZ.hw hPM hK hnM hLM hE hS U hU hW⟩⟩ rfl rfl hl.1 rfl (lv_room (Nat.le_of_ble_eq_true rfl)) dL_law_1352 ⟨(show cells + 0 ≤ room_1.cells by omega), (show slots + 0 ≤ room_1.slots by omega)⟩) hS hLM hPX hdis2 (fun H locs hPM hPX hS => ?_)
  refine lp_eq (tgt := 1410) hx hb dL_law_1355 dL_law_1356 (by decide) (fun _ => ?_) (fun z => absurd oe z)
  refine W.widen (k := cells + 130) (n := slots + 4355) (by omega) (by omega) ?_
  exact kk LX _ _ H locs ⟨(hR1.next hk), hPX, hPM, hnX, hnM, hLX, hLM, hdis, hdis2⟩ hS
set_option maxHeartbeats 4000000 in
set_option maxRecDepth 100000 in
/-- case 22: trace -/
theorem lc_22 (C0 : lw_At p s m meth c b L xs) (hK : va_K (gD G) vwCl (gT G) s) (hE : EZ G [] s.heap.size s) {k x mm : Nat} {LX LM : List Nat} {SX SM : HS} {H : Heap} {locs : List Loc} {cells slots : Nat} (hW : LwW G s k x mm LX LM SX SM H) (hk : k < 512) (hcs : cells + 130 ≤ room_1.cells ∧ slots + 4355 ≤ room_1.slots) (hS : va_S (AZ [] s.heap.size) s.heap H locs) {i : Int32} (hi : ∀ j : Int32, j = 1 ∨ j = 2 ∨ j = 3 ∨ j = 4 ∨ j = 5 → vp_in (i + j) L) {ls : Array Slot} (hl : lv_has ls 4 [(0, .ref b), (1, .ref x), (2, .ref mm), (3, .int i)])
    (kk : ∀ (LX1 : List Nat) (SX1 SM1 : HS) (H1 : Heap) (locs1 : List Loc), LwW G s (k + 1) x mm LX1 LM SX1 SM1 H1 → va_S (AZ [] s.heap.size) s.heap H1 locs1 → W p l e room_1 s m #[Value.ref b] below meth c H1 locs1 (cells + 130) (slots + 4355) Z (F0 m 1410 ls [])) : W p l e room_1 s m #[Value.ref b] below meth c H locs cells slots Z (F0 m 1361 ls []) := by
  obtain ⟨hx, hb, hr, hml, hown, hts0, hX, hbl, hlocks, hgv⟩ := id C0
  have hts : ∀ w ∈ wsL_law, w.before #[Value.ref b] s = true := fun w h => hts0 w (wsL_law_in w h)
  have hown : s.vm.findClass RL = some m.cls := hown
  have h44 : (Cond.constantLong RL 44 4294967295).before #[Value.ref b] s = true := hts0 _ (in_wsL_law_r1 _ w44)
  have hbA : ¬ AZ [] s.heap.size b := fun z => z.elim (fun y => absurd y List.not_mem_nil) (fun y => absurd y (Nat.not_le.mpr hbl))
  have h1 := hi 1 (Or.inl rfl)
  have h2 := hi 2 (Or.inr (Or.inl rfl))
  have h3 := hi 3 (Or.inr (Or.inr (Or.inl rfl)))
  have h4 := hi 4 (Or.inr (Or.inr (Or.inr (Or.inl rfl))))
  have h5 := hi 5 (Or.inr (Or.inr (Or.inr (Or.inr rfl))))
  obtain ⟨hR, hPX, hPM, hnX, hnM, hLX, hLM, hdis, hdis2⟩ := hW
  obtain ⟨o1, o2, oe⟩ := st_trace hR
  refine lv_aload_n hx hb dL_law_1361 rfl (lv_at hl 1 rfl) ?_
  refine lw_rIr (h_X8_trace x SX) (va_runV (As := []) (rest := []) ⟨hx, hb, hml, hown, hts⟩ (hm_X8_trace l G LX SX x o1) (cwV 0 hts gL_law_X8_trace rfl rfl rfl hdv_X8_trace ⟨Nat.le_of_ble_eq_true rfl, Nat.le_of_ble_eq_true rfl⟩) ⟨HW.fb, hp_recv hK hPX hR.okx.1 (PF_6 hR.okx.2) rfl, fun U hU hW => ⟨rfl, HZ.hw hPX hK hnX hLX hE hS U hU hW⟩⟩ rfl rfl hl.1 rfl (lv_room (Nat.le_of_ble_eq_true rfl)) dL_law_1362 ⟨(show cells + 0 ≤ room_1.cells by omega), (show slots + 0 ≤ room_1.slots by omega)⟩) hS hLX hPM hdis (fun H locs hPX hPM hS => ?_)
  refine lv_aload_n hx hb dL_law_1365 rfl (lv_at hl 2 rfl) ?_
  refine lw_rIr (h_X9_trace mm SM) (va_runV (As := []) (rest := [.int (h_X8_trace x SX)]) ⟨hx, hb, hml, hown, hts⟩ (hm_X9_trace l G LM SM mm o2) (cwV 0 hts gL_law_X9_trace rfl rfl rfl hdv_X9_trace ⟨Nat.le_of_ble_eq_true rfl, Nat.le_of_ble_eq_true rfl⟩) ⟨HW.fb, hp_recv hK hPM hR.okm.1 (PF_7 hR.okm.2) rfl, fun U hU hW => ⟨rfl, HZ.hw hPM hK hnM hLM hE hS U hU hW⟩⟩ rfl rfl hl.1 rfl (lv_room (Nat.le_of_ble_eq_true rfl)) dL_law_1366 ⟨(show cells + 0 ≤ room_1.cells by omega), (show slots + 0 ≤ room_1.slots by omega)⟩) hS hLM hPX hdis2 (fun H locs hPM hPX hS => ?_)
  refine lv_icmp_eq (tgt := 1410) hx hb dL_law_1369 (by decide) (fun _ => ?_) (fun z => absurd oe z)
  refine W.widen (k := cells + 130) (n := slots + 4355) (by omega) (by omega) ?_
  exact kk LX SX SM H locs ⟨(hR.next hk), hPX, hPM, hnX, hnM, hLX, hLM, hdis, hdis2⟩ hS
set_option maxHeartbeats 4000000 in
set_option maxRecDepth 100000 in
/-- case 23: latest -/
theorem lc_23 (C0 : lw_At p s m meth c b L xs) (hK : va_K (gD G) vwCl (gT G) s) (hE : EZ G [] s.heap.size s) {k x mm : Nat} {LX LM : List Nat} {SX SM : HS} {H : Heap} {locs : List Loc} {cells slots : Nat} (hW : LwW G s k x mm LX LM SX SM H) (hk : k < 512) (hcs : cells + 130 ≤ room_1.cells ∧ slots + 4355 ≤ room_1.slots) (hS : va_S (AZ [] s.heap.size) s.heap H locs) {i : Int32} (hi : ∀ j : Int32, j = 1 ∨ j = 2 ∨ j = 3 ∨ j = 4 ∨ j = 5 → vp_in (i + j) L) {ls : Array Slot} (hl : lv_has ls 4 [(0, .ref b), (1, .ref x), (2, .ref mm), (3, .int i)])
    (kk : ∀ (LX1 : List Nat) (SX1 SM1 : HS) (H1 : Heap) (locs1 : List Loc), LwW G s (k + 1) x mm LX1 LM SX1 SM1 H1 → va_S (AZ [] s.heap.size) s.heap H1 locs1 → W p l e room_1 s m #[Value.ref b] below meth c H1 locs1 (cells + 130) (slots + 4355) Z (F0 m 1410 ls [])) : W p l e room_1 s m #[Value.ref b] below meth c H locs cells slots Z (F0 m 1374 ls []) := by
  obtain ⟨hx, hb, hr, hml, hown, hts0, hX, hbl, hlocks, hgv⟩ := id C0
  have hts : ∀ w ∈ wsL_law, w.before #[Value.ref b] s = true := fun w h => hts0 w (wsL_law_in w h)
  have hown : s.vm.findClass RL = some m.cls := hown
  have h44 : (Cond.constantLong RL 44 4294967295).before #[Value.ref b] s = true := hts0 _ (in_wsL_law_r1 _ w44)
  have hbA : ¬ AZ [] s.heap.size b := fun z => z.elim (fun y => absurd y List.not_mem_nil) (fun y => absurd y (Nat.not_le.mpr hbl))
  have h1 := hi 1 (Or.inl rfl)
  have h2 := hi 2 (Or.inr (Or.inl rfl))
  have h3 := hi 3 (Or.inr (Or.inr (Or.inl rfl)))
  have h4 := hi 4 (Or.inr (Or.inr (Or.inr (Or.inl rfl))))
  have h5 := hi 5 (Or.inr (Or.inr (Or.inr (Or.inr rfl))))
  obtain ⟨hR, hPX, hPM, hnX, hnM, hLX, hLM, hdis, hdis2⟩ := hW
  obtain ⟨o1, o2, oe⟩ := st_latest hR
  refine lv_aload_n hx hb dL_law_1374 rfl (lv_at hl 1 rfl) ?_
  refine lw_rIr (h_X8_latest x SX) (va_runV (As := []) (rest := []) ⟨hx, hb, hml, hown, hts⟩ (hm_X8_latest l G LX SX x o1) (cwV 0 hts gL_law_X8_latest rfl rfl rfl hdv_X8_latest ⟨Nat.le_of_ble_eq_true rfl, Nat.le_of_ble_eq_true rfl⟩) ⟨HW.fb, hp_recv hK hPX hR.okx.1 (PF_6 hR.okx.2) rfl, fun U hU hW => ⟨rfl, HZ.hw hPX hK hnX hLX hE hS U hU hW⟩⟩ rfl rfl hl.1 rfl (lv_room (Nat.le_of_ble_eq_true rfl)) dL_law_1375 ⟨(show cells + 0 ≤ room_1.cells by omega), (show slots + 0 ≤ room_1.slots by omega)⟩) hS hLX hPM hdis (fun H locs hPX hPM hS => ?_)
  refine lv_aload_n hx hb dL_law_1378 rfl (lv_at hl 2 rfl) ?_
  refine lw_rIr (h_X9_latest mm SM) (va_runV (As := []) (rest := [.int (h_X8_latest x SX)]) ⟨hx, hb, hml, hown, hts⟩ (hm_X9_latest l G LM SM mm o2) (cwV 0 hts gL_law_X9_latest rfl rfl rfl hdv_X9_latest ⟨Nat.le_of_ble_eq_true rfl, Nat.le_of_ble_eq_true rfl⟩) ⟨HW.fb, hp_recv hK hPM hR.okm.1 (PF_7 hR.okm.2) rfl, fun U hU hW => ⟨rfl, HZ.hw hPM hK hnM hLM hE hS U hU hW⟩⟩ rfl rfl hl.1 rfl (lv_room (Nat.le_of_ble_eq_true rfl)) dL_law_1379 ⟨(show cells + 0 ≤ room_1.cells by omega), (show slots + 0 ≤ room_1.slots by omega)⟩) hS hLM hPX hdis2 (fun H locs hPM hPX hS => ?_)
  refine lv_icmp_eq (tgt := 1410) hx hb dL_law_1382 (by decide) (fun _ => ?_) (fun z => absurd oe z)
  refine W.widen (k := cells + 130) (n := slots + 4355) (by omega) (by omega) ?_
  exact kk LX SX SM H locs ⟨(hR.next hk), hPX, hPM, hnX, hnM, hLX, hLM, hdis, hdis2⟩ hS
set_option maxHeartbeats 4000000 in
set_option maxRecDepth 100000 in
/-- case 24: thrown -/
theorem lc_24 (C0 : lw_At p s m meth c b L xs) (hK : va_K (gD G) vwCl (gT G) s) (hE : EZ G [] s.heap.size s) {k x mm : Nat} {LX LM : List Nat} {SX SM : HS} {H : Heap} {locs : List Loc} {cells slots : Nat} (hW : LwW G s k x mm LX LM SX SM H) (hk : k < 512) (hcs : cells + 130 ≤ room_1.cells ∧ slots + 4355 ≤ room_1.slots) (hS : va_S (AZ [] s.heap.size) s.heap H locs) {i : Int32} (hi : ∀ j : Int32, j = 1 ∨ j = 2 ∨ j = 3 ∨ j = 4 ∨ j = 5 → vp_in (i + j) L) {ls : Array Slot} (hl : lv_has ls 4 [(0, .ref b), (1, .ref x), (2, .ref mm), (3, .int i)])
    (kk : ∀ (LX1 : List Nat) (SX1 SM1 : HS) (H1 : Heap) (locs1 : List Loc), LwW G s (k + 1) x mm LX1 LM SX1 SM1 H1 → va_S (AZ [] s.heap.size) s.heap H1 locs1 → W p l e room_1 s m #[Value.ref b] below meth c H1 locs1 (cells + 130) (slots + 4355) Z (F0 m 1410 ls [])) : W p l e room_1 s m #[Value.ref b] below meth c H locs cells slots Z (F0 m 1387 ls []) := by
  obtain ⟨hx, hb, hr, hml, hown, hts0, hX, hbl, hlocks, hgv⟩ := id C0
  have hts : ∀ w ∈ wsL_law, w.before #[Value.ref b] s = true := fun w h => hts0 w (wsL_law_in w h)
  have hown : s.vm.findClass RL = some m.cls := hown
  have h44 : (Cond.constantLong RL 44 4294967295).before #[Value.ref b] s = true := hts0 _ (in_wsL_law_r1 _ w44)
  have hbA : ¬ AZ [] s.heap.size b := fun z => z.elim (fun y => absurd y List.not_mem_nil) (fun y => absurd y (Nat.not_le.mpr hbl))
  have h1 := hi 1 (Or.inl rfl)
  have h2 := hi 2 (Or.inr (Or.inl rfl))
  have h3 := hi 3 (Or.inr (Or.inr (Or.inl rfl)))
  have h4 := hi 4 (Or.inr (Or.inr (Or.inr (Or.inl rfl))))
  have h5 := hi 5 (Or.inr (Or.inr (Or.inr (Or.inr rfl))))
  obtain ⟨hR, hPX, hPM, hnX, hnM, hLX, hLM, hdis, hdis2⟩ := hW
  obtain ⟨o1, o2, oe⟩ := st_thrown hR (xs (i + 1).toNatClampNeg)
  refine lv_aload_n hx hb dL_law_1387 rfl (lv_at hl 1 rfl) ?_
  refine lv_aload_n hx hb dL_law_1388 rfl (lv_at hl 0 rfl) ?_
  refine lv_iload_n hx hb dL_law_1389 rfl (lv_at hl 3 rfl) ?_
  refine lv_iconst (v := 1) hx hb dL_law_1390 (by decide) ?_
  refine lv_iadd hx hb dL_law_1391 ?_
  refine va_sld hx hb hX hbl hbA hS h1 dL_law_1392 ?_
  refine lw_rIr (h_X8_thrown x (xs (i + 1).toNatClampNeg) SX) (va_runV (As := [.int (xs (i + 1).toNatClampNeg)]) (rest := []) ⟨hx, hb, hml, hown, hts⟩ (hm_X8_thrown l G LX SX x (xs (i + 1).toNatClampNeg) o1) (cwV 1 hts gL_law_X8_thrown rfl rfl rfl hdv_X8_thrown ⟨Nat.le_of_ble_eq_true rfl, Nat.le_of_ble_eq_true rfl⟩) ⟨HW.fb, hp_recv hK hPX hR.okx.1 (PF_6 hR.okx.2) rfl, fun U hU hW => ⟨rfl, HZ.hw hPX hK hnX hLX hE hS U hU hW⟩⟩ rfl rfl hl.1 rfl (lv_room (Nat.le_of_ble_eq_true rfl)) dL_law_1393 ⟨(show cells + 0 ≤ room_1.cells by omega), (show slots + 0 ≤ room_1.slots by omega)⟩) hS hLX hPM hdis (fun H locs hPX hPM hS => ?_)
  refine lv_aload_n hx hb dL_law_1396 rfl (lv_at hl 2 rfl) ?_
  refine lv_aload_n hx hb dL_law_1397 rfl (lv_at hl 0 rfl) ?_
  refine lv_iload_n hx hb dL_law_1398 rfl (lv_at hl 3 rfl) ?_
  refine lv_iconst (v := 1) hx hb dL_law_1399 (by decide) ?_
  refine lv_iadd hx hb dL_law_1400 ?_
  refine va_sld hx hb hX hbl hbA hS h1 dL_law_1401 ?_
  refine lw_rIr (h_X9_thrown mm (xs (i + 1).toNatClampNeg) SM) (va_runV (As := [.int (xs (i + 1).toNatClampNeg)]) (rest := [.int (h_X8_thrown x (xs (i + 1).toNatClampNeg) SX)]) ⟨hx, hb, hml, hown, hts⟩ (hm_X9_thrown l G LM SM mm (xs (i + 1).toNatClampNeg) o2) (cwV 1 hts gL_law_X9_thrown rfl rfl rfl hdv_X9_thrown ⟨Nat.le_of_ble_eq_true rfl, Nat.le_of_ble_eq_true rfl⟩) ⟨HW.fb, hp_recv hK hPM hR.okm.1 (PF_7 hR.okm.2) rfl, fun U hU hW => ⟨rfl, HZ.hw hPM hK hnM hLM hE hS U hU hW⟩⟩ rfl rfl hl.1 rfl (lv_room (Nat.le_of_ble_eq_true rfl)) dL_law_1402 ⟨(show cells + 0 ≤ room_1.cells by omega), (show slots + 0 ≤ room_1.slots by omega)⟩) hS hLM hPX hdis2 (fun H locs hPM hPX hS => ?_)
  refine lv_icmp_eq (tgt := 1410) hx hb dL_law_1405 (by decide) (fun _ => ?_) (fun z => absurd oe z)
  refine W.widen (k := cells + 130) (n := slots + 4355) (by omega) (by omega) ?_
  exact kk LX SX SM H locs ⟨(hR.next hk), hPX, hPM, hnX, hnM, hLX, hLM, hdis, hdis2⟩ hS
end LCS
