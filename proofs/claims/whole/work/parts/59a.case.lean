/-! ===== the law, case by case: 3 .. 3 ===== -/
section LCS
variable {p : Program} {l : Launch} {e : Env} {s : State} {m : MethodId} {below : List Frame} {meth : Method} {c : Code} {b L : Nat} {xs : Nat → Int32} {G : GE} {Z : State → Prop}
set_option maxHeartbeats 4000000 in
set_option maxRecDepth 100000 in
/-- case 3: is -/
theorem lc_3 (C0 : lw_At p s m meth c b L xs) (hK : va_K (gD G) vwCl (gT G) s) (hE : EZ G [] s.heap.size s) {k x mm : Nat} {LX LM : List Nat} {SX SM : HS} {H : Heap} {locs : List Loc} {cells slots : Nat} (hW : LwW G s k x mm LX LM SX SM H) (hk : k < 512) (hcs : cells + 130 ≤ room_1.cells ∧ slots + 4355 ≤ room_1.slots) (hS : va_S (AZ [] s.heap.size) s.heap H locs) {i : Int32} (hi : ∀ j : Int32, j = 1 ∨ j = 2 ∨ j = 3 ∨ j = 4 ∨ j = 5 → vp_in (i + j) L) {ls : Array Slot} (hl : lv_has ls 4 [(0, .ref b), (1, .ref x), (2, .ref mm), (3, .int i)])
    (kk : ∀ (LX1 : List Nat) (SX1 SM1 : HS) (H1 : Heap) (locs1 : List Loc), LwW G s (k + 1) x mm LX1 LM SX1 SM1 H1 → va_S (AZ [] s.heap.size) s.heap H1 locs1 → W p l e room_1 s m #[Value.ref b] below meth c H1 locs1 (cells + 130) (slots + 4355) Z (F0 m 1410 ls [])) : W p l e room_1 s m #[Value.ref b] below meth c H locs cells slots Z (F0 m 267 ls []) := by
  obtain ⟨hx, hb, hr, hml, hown, hts0, hX, hbl, hlocks, hgv⟩ := id C0
  have hts : ∀ w ∈ wsL_law, w.before #[Value.ref b] s = true := fun w h => hts0 w (wsL_law_in w h)
  have hown : s.vm.findClass RL = some m.cls := hown
  have h44 : (Cond.constantLong RL 44 4294967295).before #[Value.ref b] s = true := hts0 _ (in_wsL_law_r1 _ w44)
  have hbA : ¬ AZ [] s.heap.size b := fun z => z.elim (fun y => absurd y List.not_mem_nil) (fun y => absurd y (Nat.not_le.mpr hbl))
  have h1 := hi 1 (Or.inl rfl)
  have h2 := hi 2 (Or.inr (Or.inl rfl))
  have h3 := hi 3 (Or.inr (Or.inr (Or.inl rfl)))
  have h4 := hi 4 (Or.inr (Or.inr (Or.inr (Or.inl rfl))))
  have h5 := hi 5 (Or.inr (Or.inr (Or.inr (Or.inr rfl))))
  obtain ⟨hR, hPX, hPM, hnX, hnM, hLX, hLM, hdis, hdis2⟩ := hW
  obtain ⟨o1, o2, oe⟩ := st_is hR (xs (i + 1).toNatClampNeg) (xs (i + 2).toNatClampNeg)
  refine lv_aload_n hx hb dL_law_267 rfl (lv_at hl 1 rfl) ?_
  refine lv_aload_n hx hb dL_law_268 rfl (lv_at hl 0 rfl) ?_
  refine lv_iload_n hx hb dL_law_269 rfl (lv_at hl 3 rfl) ?_
  refine lv_iconst (v := 1) hx hb dL_law_270 (by decide) ?_
  refine lv_iadd hx hb dL_law_271 ?_
  refine va_sld hx hb hX hbl hbA hS h1 dL_law_272 ?_
  refine lv_aload_n hx hb dL_law_273 rfl (lv_at hl 0 rfl) ?_
  refine lv_iload_n hx hb dL_law_274 rfl (lv_at hl 3 rfl) ?_
  refine lv_iconst (v := 2) hx hb dL_law_275 (by decide) ?_
  refine lv_iadd hx hb dL_law_276 ?_
  refine va_sld hx hb hX hbl hbA hS h2 dL_law_277 ?_
  refine lw_rIr (h_X8_is x (xs (i + 1).toNatClampNeg) (xs (i + 2).toNatClampNeg) SX) (va_runV (As := [.int (xs (i + 1).toNatClampNeg), .int (xs (i + 2).toNatClampNeg)]) (rest := []) ⟨hx, hb, hml, hown, hts⟩ (hm_X8_is l G LX SX x (xs (i + 1).toNatClampNeg) (xs (i + 2).toNatClampNeg) o1) (cwV 2 hts gL_law_X8_is rfl rfl rfl hdv_X8_is ⟨Nat.le_of_ble_eq_true rfl, Nat.le_of_ble_eq_true rfl⟩) ⟨HW.fb, hp_recv hK hPX hR.okx.1 (PF_6 hR.okx.2) rfl, fun U hU hW => ⟨rfl, HZ.hw hPX hK hnX hLX hE hS U hU hW⟩⟩ rfl rfl hl.1 rfl (lv_room (Nat.le_of_ble_eq_true rfl)) dL_law_278 ⟨(show cells + 0 ≤ room_1.cells by omega), (show slots + 0 ≤ room_1.slots by omega)⟩) hS hLX hPM hdis (fun H locs hPX hPM hS => ?_)
  refine lv_aload_n hx hb dL_law_281 rfl (lv_at hl 2 rfl) ?_
  refine lv_aload_n hx hb dL_law_282 rfl (lv_at hl 0 rfl) ?_
  refine lv_iload_n hx hb dL_law_283 rfl (lv_at hl 3 rfl) ?_
  refine lv_iconst (v := 1) hx hb dL_law_284 (by decide) ?_
  refine lv_iadd hx hb dL_law_285 ?_
  refine va_sld hx hb hX hbl hbA hS h1 dL_law_286 ?_
  refine lv_aload_n hx hb dL_law_287 rfl (lv_at hl 0 rfl) ?_
  refine lv_iload_n hx hb dL_law_288 rfl (lv_at hl 3 rfl) ?_
  refine lv_iconst (v := 2) hx hb dL_law_289 (by decide) ?_
  refine lv_iadd hx hb dL_law_290 ?_
  refine va_sld hx hb hX hbl hbA hS h2 dL_law_291 ?_
  refine lw_rIr (h_X9_is mm (xs (i + 1).toNatClampNeg) (xs (i + 2).toNatClampNeg) SM) (va_runV (As := [.int (xs (i + 1).toNatClampNeg), .int (xs (i + 2).toNatClampNeg)]) (rest := [.int (h_X8_is x (xs (i + 1).toNatClampNeg) (xs (i + 2).toNatClampNeg) SX)]) ⟨hx, hb, hml, hown, hts⟩ (hm_X9_is l G LM SM mm (xs (i + 1).toNatClampNeg) (xs (i + 2).toNatClampNeg) o2) (cwV 2 hts gL_law_X9_is rfl rfl rfl hdv_X9_is ⟨Nat.le_of_ble_eq_true rfl, Nat.le_of_ble_eq_true rfl⟩) ⟨HW.fb, hp_recv hK hPM hR.okm.1 (PF_7 hR.okm.2) rfl, fun U hU hW => ⟨rfl, HZ.hw hPM hK hnM hLM hE hS U hU hW⟩⟩ rfl rfl hl.1 rfl (lv_room (Nat.le_of_ble_eq_true rfl)) dL_law_292 ⟨(show cells + 0 ≤ room_1.cells by omega), (show slots + 0 ≤ room_1.slots by omega)⟩) hS hLM hPX hdis2 (fun H locs hPM hPX hS => ?_)
  refine lv_icmp_eq (tgt := 1410) hx hb dL_law_295 (by decide) (fun _ => ?_) (fun z => absurd oe z)
  refine W.widen (k := cells + 130) (n := slots + 4355) (by omega) (by omega) ?_
  exact kk LX SX SM H locs ⟨(hR.next hk), hPX, hPM, hnX, hnM, hLX, hLM, hdis, hdis2⟩ hS
end LCS
