/-! ===== the law, case by case: 0 .. 2 ===== -/
section LCS
variable {p : Program} {l : Launch} {e : Env} {s : State} {m : MethodId} {below : List Frame} {meth : Method} {c : Code} {b L : Nat} {xs : Nat → Int32} {G : GE} {Z : State → Prop}
set_option maxHeartbeats 4000000 in
set_option maxRecDepth 100000 in
/-- case 0: make -/
theorem lc_0 (C0 : lw_At p s m meth c b L xs) (hK : va_K (gD G) vwCl (gT G) s) (hE : EZ G [] s.heap.size s) {k x mm : Nat} {LX LM : List Nat} {SX SM : HS} {H : Heap} {locs : List Loc} {cells slots : Nat} (hW : LwW G s k x mm LX LM SX SM H) (hk : k < 512) (hcs : cells + 130 ≤ room_1.cells ∧ slots + 4355 ≤ room_1.slots) (hS : va_S (AZ [] s.heap.size) s.heap H locs) {i : Int32} (hi : ∀ j : Int32, j = 1 ∨ j = 2 ∨ j = 3 ∨ j = 4 ∨ j = 5 → vp_in (i + j) L) {ls : Array Slot} (hl : lv_has ls 4 [(0, .ref b), (1, .ref x), (2, .ref mm), (3, .int i)])
    (kk : ∀ (LX1 : List Nat) (SX1 SM1 : HS) (H1 : Heap) (locs1 : List Loc), LwW G s (k + 1) x mm LX1 LM SX1 SM1 H1 → va_S (AZ [] s.heap.size) s.heap H1 locs1 → W p l e room_1 s m #[Value.ref b] below meth c H1 locs1 (cells + 130) (slots + 4355) Z (F0 m 1410 ls [])) : W p l e room_1 s m #[Value.ref b] below meth c H locs cells slots Z (F0 m 148 ls []) := by
  obtain ⟨hx, hb, hr, hml, hown, hts0, hX, hbl, hlocks, hgv⟩ := id C0
  have hts : ∀ w ∈ wsL_law, w.before #[Value.ref b] s = true := fun w h => hts0 w (wsL_law_in w h)
  have hown : s.vm.findClass RL = some m.cls := hown
  have h44 : (Cond.constantLong RL 44 4294967295).before #[Value.ref b] s = true := hts0 _ (in_wsL_law_r1 _ w44)
  have hbA : ¬ AZ [] s.heap.size b := fun z => z.elim (fun y => absurd y List.not_mem_nil) (fun y => absurd y (Nat.not_le.mpr hbl))
  have h1 := hi 1 (Or.inl rfl)
  have h2 := hi 2 (Or.inr (Or.inl rfl))
  have h3 := hi 3 (Or.inr (Or.inr (Or.inl rfl)))
  have h4 := hi 4 (Or.inr (Or.inr (Or.inr (Or.inl rfl))))
  have h5 := hi 5 (Or.inr (Or.inr (Or.inr (Or.inr rfl))))
  obtain ⟨hR, hPX, hPM, hnX, hnM, hLX, hLM, hdis, hdis2⟩ := hW
  obtain ⟨o1, o2, oe⟩ := st_make hR hk (xs (i + 1).toNatClampNeg) (xs (i + 2).toNatClampNeg) (xs (i + 3).toNatClampNeg) (xs (i + 4).toNatClampNeg)
  refine lv_aload_n hx hb dL_law_148 rfl (lv_at hl 1 rfl) ?_
  refine lv_aload_n hx hb dL_law_149 rfl (lv_at hl 0 rfl) ?_
  refine lv_iload_n hx hb dL_law_150 rfl (lv_at hl 3 rfl) ?_
  refine lv_iconst (v := 1) hx hb dL_law_151 (by decide) ?_
  refine lv_iadd hx hb dL_law_152 ?_
  refine va_sld hx hb hX hbl hbA hS h1 dL_law_153 ?_
  refine lv_aload_n hx hb dL_law_154 rfl (lv_at hl 0 rfl) ?_
  refine lv_iload_n hx hb dL_law_155 rfl (lv_at hl 3 rfl) ?_
  refine lv_iconst (v := 2) hx hb dL_law_156 (by decide) ?_
  refine lv_iadd hx hb dL_law_157 ?_
  refine va_sld hx hb hX hbl hbA hS h2 dL_law_158 ?_
  refine lv_aload_n hx hb dL_law_159 rfl (lv_at hl 0 rfl) ?_
  refine lv_iload_n hx hb dL_law_160 rfl (lv_at hl 3 rfl) ?_
  refine lv_iconst (v := 3) hx hb dL_law_161 (by decide) ?_
  refine lv_iadd hx hb dL_law_162 ?_
  refine va_sld hx hb hX hbl hbA hS h3 dL_law_163 ?_
  refine lv_aload_n hx hb dL_law_164 rfl (lv_at hl 0 rfl) ?_
  refine lv_iload_n hx hb dL_law_165 rfl (lv_at hl 3 rfl) ?_
  refine lv_iconst (v := 4) hx hb dL_law_166 (by decide) ?_
  refine lv_iadd hx hb dL_law_167 ?_
  refine va_sld hx hb hX hbl hbA hS h4 dL_law_168 ?_
  refine lw_cI (va_runV (As := [.int (xs (i + 1).toNatClampNeg), .int (xs (i + 2).toNatClampNeg), .int (xs (i + 3).toNatClampNeg), .int (xs (i + 4).toNatClampNeg)]) (rest := []) ⟨hx, hb, hml, hown, hts⟩ (hm_X8_make2 l G LX H.size LX SX x (xs (i + 1).toNatClampNeg) (xs (i + 2).toNatClampNeg) (xs (i + 3).toNatClampNeg) (xs (i + 4).toNatClampNeg) o1) (cwV 4 hts gL_law_X8_make rfl rfl rfl hdv_X8_make ⟨Nat.le_of_ble_eq_true rfl, Nat.le_of_ble_eq_true rfl⟩) ⟨HZ.fb, hp_recv hK hPX hR.okx.1 (PF_6 hR.okx.2) rfl, fun U hU hW => ⟨rfl, HZ.law hPX hK hnX hLX hE hS U hU hW⟩⟩ rfl rfl hl.1 rfl (lv_room (Nat.le_of_ble_eq_true rfl)) dL_law_169 ⟨(show cells + 130 ≤ room_1.cells by omega), (show slots + 4355 ≤ room_1.slots by omega)⟩) hS hLX hPM hdis (fun r LX1 SX1 H locs hpost hPX hPM hnX hLX hdis hS => ?_)
  obtain ⟨oe, hR1⟩ := oe r LX1 SX1 hpost
  have hdis2 : ∀ q ∈ LX1, q ∉ LM := fun q h1 h2 => hdis q h2 h1
  refine lv_aload_n hx hb dL_law_172 rfl (lv_at hl 2 rfl) ?_
  refine lv_aload_n hx hb dL_law_173 rfl (lv_at hl 0 rfl) ?_
  refine lv_iload_n hx hb dL_law_174 rfl (lv_at hl 3 rfl) ?_
  refine lv_iconst (v := 1) hx hb dL_law_175 (by decide) ?_
  refine lv_iadd hx hb dL_law_176 ?_
  refine va_sld hx hb hX hbl hbA hS h1 dL_law_177 ?_
  refine lv_aload_n hx hb dL_law_178 rfl (lv_at hl 0 rfl) ?_
  refine lv_iload_n hx hb dL_law_179 rfl (lv_at hl 3 rfl) ?_
  refine lv_iconst (v := 2) hx hb dL_law_180 (by decide) ?_
  refine lv_iadd hx hb dL_law_181 ?_
  refine va_sld hx hb hX hbl hbA hS h2 dL_law_182 ?_
  refine lv_aload_n hx hb dL_law_183 rfl (lv_at hl 0 rfl) ?_
  refine lv_iload_n hx hb dL_law_184 rfl (lv_at hl 3 rfl) ?_
  refine lv_iconst (v := 3) hx hb dL_law_185 (by decide) ?_
  refine lv_iadd hx hb dL_law_186 ?_
  refine va_sld hx hb hX hbl hbA hS h3 dL_law_187 ?_
  refine lv_aload_n hx hb dL_law_188 rfl (lv_at hl 0 rfl) ?_
  refine lv_iload_n hx hb dL_law_189 rfl (lv_at hl 3 rfl) ?_
  refine lv_iconst (v := 4) hx hb dL_law_190 (by decide) ?_
  refine lv_iadd hx hb dL_law_191 ?_
  refine va_sld hx hb hX hbl hbA hS h4 dL_law_192 ?_
  refine lw_rI (va_runV (As := [.int (xs (i + 1).toNatClampNeg), .int (xs (i + 2).toNatClampNeg), .int (xs (i + 3).toNatClampNeg), .int (xs (i + 4).toNatClampNeg)]) (rest := [.int r]) ⟨hx, hb, hml, hown, hts⟩ (hm_X9_make l G LM SM mm (xs (i + 1).toNatClampNeg) (xs (i + 2).toNatClampNeg) (xs (i + 3).toNatClampNeg) (xs (i + 4).toNatClampNeg) o2) (cwV 4 hts gL_law_X9_make rfl rfl rfl hdv_X9_make ⟨Nat.le_of_ble_eq_true rfl, Nat.le_of_ble_eq_true rfl⟩) ⟨HW.fb, hp_recv hK hPM hR.okm.1 (PF_7 hR.okm.2) rfl, fun U hU hW => ⟨rfl, HZ.hw hPM hK hnM hLM hE hS U hU hW⟩⟩ rfl rfl hl.1 rfl (lv_room (Nat.le_of_ble_eq_true rfl)) dL_law_193 ⟨(show cells + 130 + 0 ≤ room_1.cells by omega), (show slots + 4355 + 0 ≤ room_1.slots by omega)⟩) hS hLM hPX hdis2 (fun H locs hPM hPX hS => ?_)
  refine lv_icmp_eq (tgt := 1410) hx hb dL_law_196 (by decide) (fun _ => ?_) (fun z => absurd oe z)
  refine W.widen (k := cells + 130) (n := slots + 4355) (by omega) (by omega) ?_
  exact kk LX1 SX1 _ H locs ⟨hR1, hPX, hPM, hnX, hnM, hLX, hLM, hdis, (fun q h1 h2 => hdis q h2 h1)⟩ hS
set_option maxHeartbeats 4000000 in
set_option maxRecDepth 100000 in
/-- case 2: twin -/
theorem lc_2 (C0 : lw_At p s m meth c b L xs) (hK : va_K (gD G) vwCl (gT G) s) (hE : EZ G [] s.heap.size s) {k x mm : Nat} {LX LM : List Nat} {SX SM : HS} {H : Heap} {locs : List Loc} {cells slots : Nat} (hW : LwW G s k x mm LX LM SX SM H) (hk : k < 512) (hcs : cells + 130 ≤ room_1.cells ∧ slots + 4355 ≤ room_1.slots) (hS : va_S (AZ [] s.heap.size) s.heap H locs) {i : Int32} (hi : ∀ j : Int32, j = 1 ∨ j = 2 ∨ j = 3 ∨ j = 4 ∨ j = 5 → vp_in (i + j) L) {ls : Array Slot} (hl : lv_has ls 4 [(0, .ref b), (1, .ref x), (2, .ref mm), (3, .int i)])
    (kk : ∀ (LX1 : List Nat) (SX1 SM1 : HS) (H1 : Heap) (locs1 : List Loc), LwW G s (k + 1) x mm LX1 LM SX1 SM1 H1 → va_S (AZ [] s.heap.size) s.heap H1 locs1 → W p l e room_1 s m #[Value.ref b] below meth c H1 locs1 (cells + 130) (slots + 4355) Z (F0 m 1410 ls [])) : W p l e room_1 s m #[Value.ref b] below meth c H locs cells slots Z (F0 m 234 ls []) := by
  obtain ⟨hx, hb, hr, hml, hown, hts0, hX, hbl, hlocks, hgv⟩ := id C0
  have hts : ∀ w ∈ wsL_law, w.before #[Value.ref b] s = true := fun w h => hts0 w (wsL_law_in w h)
  have hown : s.vm.findClass RL = some m.cls := hown
  have h44 : (Cond.constantLong RL 44 4294967295).before #[Value.ref b] s = true := hts0 _ (in_wsL_law_r1 _ w44)
  have hbA : ¬ AZ [] s.heap.size b := fun z => z.elim (fun y => absurd y List.not_mem_nil) (fun y => absurd y (Nat.not_le.mpr hbl))
  have h1 := hi 1 (Or.inl rfl)
  have h2 := hi 2 (Or.inr (Or.inl rfl))
  have h3 := hi 3 (Or.inr (Or.inr (Or.inl rfl)))
  have h4 := hi 4 (Or.inr (Or.inr (Or.inr (Or.inl rfl))))
  have h5 := hi 5 (Or.inr (Or.inr (Or.inr (Or.inr rfl))))
  obtain ⟨hR, hPX, hPM, hnX, hnM, hLX, hLM, hdis, hdis2⟩ := hW
  obtain ⟨o1, o2, oe⟩ := st_twin hR hk (xs (i + 1).toNatClampNeg) (xs (i + 2).toNatClampNeg)
  refine lv_aload_n hx hb dL_law_234 rfl (lv_at hl 1 rfl) ?_
  refine lv_aload_n hx hb dL_law_235 rfl (lv_at hl 0 rfl) ?_
  refine lv_iload_n hx hb dL_law_236 rfl (lv_at hl 3 rfl) ?_
  refine lv_iconst (v := 1) hx hb dL_law_237 (by decide) ?_
  refine lv_iadd hx hb dL_law_238 ?_
  refine va_sld hx hb hX hbl hbA hS h1 dL_law_239 ?_
  refine lv_aload_n hx hb dL_law_240 rfl (lv_at hl 0 rfl) ?_
  refine lv_iload_n hx hb dL_law_241 rfl (lv_at hl 3 rfl) ?_
  refine lv_iconst (v := 2) hx hb dL_law_242 (by decide) ?_
  refine lv_iadd hx hb dL_law_243 ?_
  refine va_sld hx hb hX hbl hbA hS h2 dL_law_244 ?_
  refine lw_cI (va_runV (As := [.int (xs (i + 1).toNatClampNeg), .int (xs (i + 2).toNatClampNeg)]) (rest := []) ⟨hx, hb, hml, hown, hts⟩ (hm_X8_twin l G LX H.size LX SX x (xs (i + 1).toNatClampNeg) (xs (i + 2).toNatClampNeg) o1) (cwV 2 hts gL_law_X8_twin rfl rfl rfl hdv_X8_twin ⟨Nat.le_of_ble_eq_true rfl, Nat.le_of_ble_eq_true rfl⟩) ⟨HZ.fb, hp_recv hK hPX hR.okx.1 (PF_6 hR.okx.2) rfl, fun U hU hW => ⟨rfl, HZ.law hPX hK hnX hLX hE hS U hU hW⟩⟩ rfl rfl hl.1 rfl (lv_room (Nat.le_of_ble_eq_true rfl)) dL_law_245 ⟨(show cells + 2 ≤ room_1.cells by omega), (show slots + 67 ≤ room_1.slots by omega)⟩) hS hLX hPM hdis (fun r LX1 SX1 H locs hpost hPX hPM hnX hLX hdis hS => ?_)
  obtain ⟨oe, hR1⟩ := oe r LX1 SX1 hpost
  have hdis2 : ∀ q ∈ LX1, q ∉ LM := fun q h1 h2 => hdis q h2 h1
  refine lv_aload_n hx hb dL_law_248 rfl (lv_at hl 2 rfl) ?_
  refine lv_aload_n hx hb dL_law_249 rfl (lv_at hl 0 rfl) ?_
  refine lv_iload_n hx hb dL_law_250 rfl (lv_at hl 3 rfl) ?_
  refine lv_iconst (v := 1) hx hb dL_law_251 (by decide) ?_
  refine lv_iadd hx hb dL_law_252 ?_
  refine va_sld hx hb hX hbl hbA hS h1 dL_law_253 ?_
  refine lv_aload_n hx hb dL_law_254 rfl (lv_at hl 0 rfl) ?_
  refine lv_iload_n hx hb dL_law_255 rfl (lv_at hl 3 rfl) ?_
  refine lv_iconst (v := 2) hx hb dL_law_256 (by decide) ?_
  refine lv_iadd hx hb dL_law_257 ?_
  refine va_sld hx hb hX hbl hbA hS h2 dL_law_258 ?_
  refine lw_rI (va_runV (As := [.int (xs (i + 1).toNatClampNeg), .int (xs (i + 2).toNatClampNeg)]) (rest := [.int r]) ⟨hx, hb, hml, hown, hts⟩ (hm_X9_twin l G LM SM mm (xs (i + 1).toNatClampNeg) (xs (i + 2).toNatClampNeg) o2) (cwV 2 hts gL_law_X9_twin rfl rfl rfl hdv_X9_twin ⟨Nat.le_of_ble_eq_true rfl, Nat.le_of_ble_eq_true rfl⟩) ⟨HW.fb, hp_recv hK hPM hR.okm.1 (PF_7 hR.okm.2) rfl, fun U hU hW => ⟨rfl, HZ.hw hPM hK hnM hLM hE hS U hU hW⟩⟩ rfl rfl hl.1 rfl (lv_room (Nat.le_of_ble_eq_true rfl)) dL_law_259 ⟨(show cells + 2 + 0 ≤ room_1.cells by omega), (show slots + 67 + 0 ≤ room_1.slots by omega)⟩) hS hLM hPX hdis2 (fun H locs hPM hPX hS => ?_)
  refine lv_icmp_eq (tgt := 1410) hx hb dL_law_262 (by decide) (fun _ => ?_) (fun z => absurd oe z)
  refine W.widen (k := cells + 130) (n := slots + 4355) (by omega) (by omega) ?_
  exact kk LX1 SX1 _ H locs ⟨hR1, hPX, hPM, hnX, hnM, hLX, hLM, hdis, (fun q h1 h2 => hdis q h2 h1)⟩ hS
end LCS
