/-! ===== the law: its loop, its start ===== -/
section LWL
variable {p : Program} {l : Launch} {e : Env} {s : State} {m : MethodId} {below : List Frame} {meth : Method} {c : Code} {b L : Nat} {xs : Nat → Int32} {G : GE}
theorem six_at (k : Nat) (j : Nat) (hk : 6 * k + j < 3072) : Int32.ofNat (6 * k) + Int32.ofNat j = Int32.ofNat (6 * k + j) := (Int32.ofNat_add (6 * k) j).symm
/-- one turn of the loop, behind its head's test -/
theorem lw_turn (C0 : lw_At p s m meth c b L xs) (hK : va_K (gD G) vwCl (gT G) s) (hE : EZ G [] s.heap.size s) {Z : State → Prop} {k x mm : Nat} {LX LM : List Nat} {SX SM : HS} {H : Heap} {locs : List Loc} {cells slots : Nat} (hW : LwW G s k x mm LX LM SX SM H) (hk : k < 512) (hcs : cells + 130 ≤ room_1.cells ∧ slots + 4355 ≤ room_1.slots) (hS : va_S (AZ [] s.heap.size) s.heap H locs) {i : Int32} (hi0 : vp_in i L) (hi : ∀ j : Int32, j = 1 ∨ j = 2 ∨ j = 3 ∨ j = 4 ∨ j = 5 → vp_in (i + j) L) {ls : Array Slot} (hl : lv_has ls 4 [(0, .ref b), (1, .ref x), (2, .ref mm), (3, .int i)])
    (kk : ∀ (LX1 : List Nat) (SX1 SM1 : HS) (H1 : Heap) (locs1 : List Loc), LwW G s (k + 1) x mm LX1 LM SX1 SM1 H1 → va_S (AZ [] s.heap.size) s.heap H1 locs1 → W p l e room_1 s m #[Value.ref b] below meth c H1 locs1 (cells + 130) (slots + 4355) Z (F0 m 1410 ls [])) : W p l e room_1 s m #[Value.ref b] below meth c H locs cells slots Z (F0 m 27 ls []) := by
  obtain ⟨hx, hb, hr, hml, hown, hts0, hX, hbl, hlocks, hgv⟩ := id C0
  have hbA : ¬ AZ [] s.heap.size b := fun z => z.elim (fun y => absurd y List.not_mem_nil) (fun y => absurd y (Nat.not_le.mpr hbl))
  refine lv_aload_n hx hb dL_law_27 rfl (lv_at hl 0 rfl) ?_
  refine lv_iload_n hx hb dL_law_28 rfl (lv_at hl 3 rfl) ?_
  refine va_sld hx hb hX hbl hbA hS hi0 dL_law_29 ?_
  refine lv_bipush (v := 31) hx hb dL_law_30 (by decide) ?_
  refine lv_iand hx hb dL_law_32 ?_
  refine lv_topi (fun v _ => ?_)
  by_cases c_0 : v = 0
  · refine lv_tableIn (off := 115) (tgt := 148) hx hb dL_law_33 (by rw [c_0]; decide) (by rw [c_0]; decide) (by rw [c_0]; decide) (by decide) ?_
    exact lc_0 C0 hK hE hW hk hcs hS hi hl kk
  by_cases c_1 : v = 1
  · refine lv_tableIn (off := 168) (tgt := 201) hx hb dL_law_33 (by rw [c_1]; decide) (by rw [c_1]; decide) (by rw [c_1]; decide) (by decide) ?_
    exact lc_1 C0 hK hE hW hk hcs hS hi hl kk
  by_cases c_2 : v = 2
  · refine lv_tableIn (off := 201) (tgt := 234) hx hb dL_law_33 (by rw [c_2]; decide) (by rw [c_2]; decide) (by rw [c_2]; decide) (by decide) ?_
    exact lc_2 C0 hK hE hW hk hcs hS hi hl kk
  by_cases c_3 : v = 3
  · refine lv_tableIn (off := 234) (tgt := 267) hx hb dL_law_33 (by rw [c_3]; decide) (by rw [c_3]; decide) (by rw [c_3]; decide) (by decide) ?_
    exact lc_3 C0 hK hE hW hk hcs hS hi hl kk
  by_cases c_4 : v = 4
  · refine lv_tableIn (off := 267) (tgt := 300) hx hb dL_law_33 (by rw [c_4]; decide) (by rw [c_4]; decide) (by rw [c_4]; decide) (by decide) ?_
    exact lc_4 C0 hK hE hW hk hcs hS hi hl kk
  by_cases c_5 : v = 5
  · refine lv_tableIn (off := 300) (tgt := 333) hx hb dL_law_33 (by rw [c_5]; decide) (by rw [c_5]; decide) (by rw [c_5]; decide) (by decide) ?_
    exact lc_5 C0 hK hE hW hk hcs hS hi hl kk
  by_cases c_6 : v = 6
  · refine lv_tableIn (off := 333) (tgt := 366) hx hb dL_law_33 (by rw [c_6]; decide) (by rw [c_6]; decide) (by rw [c_6]; decide) (by decide) ?_
    exact lc_6 C0 hK hE hW hk hcs hS hi hl kk
  by_cases c_7 : v = 7
  · refine lv_tableIn (off := 377) (tgt := 410) hx hb dL_law_33 (by rw [c_7]; decide) (by rw [c_7]; decide) (by rw [c_7]; decide) (by decide) ?_
    exact lc_7 C0 hK hE hW hk hcs hS hi hl kk
  by_cases c_8 : v = 8
  · refine lv_tableIn (off := 460) (tgt := 493) hx hb dL_law_33 (by rw [c_8]; decide) (by rw [c_8]; decide) (by rw [c_8]; decide) (by decide) ?_
    exact lc_8 C0 hK hE hW hk hcs hS hi hl kk
  by_cases c_9 : v = 9
  · refine lv_tableIn (off := 513) (tgt := 546) hx hb dL_law_33 (by rw [c_9]; decide) (by rw [c_9]; decide) (by rw [c_9]; decide) (by decide) ?_
    exact lc_9 C0 hK hE hW hk hcs hS hi hl kk
  by_cases c_10 : v = 10
  · refine lv_tableIn (off := 566) (tgt := 599) hx hb dL_law_33 (by rw [c_10]; decide) (by rw [c_10]; decide) (by rw [c_10]; decide) (by decide) ?_
    exact lc_10 C0 hK hE hW hk hcs hS hi hl kk
  by_cases c_11 : v = 11
  · refine lv_tableIn (off := 609) (tgt := 642) hx hb dL_law_33 (by rw [c_11]; decide) (by rw [c_11]; decide) (by rw [c_11]; decide) (by decide) ?_
    exact lc_11 C0 hK hE hW hk hcs hS hi hl kk
  by_cases c_12 : v = 12
  · refine lv_tableIn (off := 672) (tgt := 705) hx hb dL_law_33 (by rw [c_12]; decide) (by rw [c_12]; decide) (by rw [c_12]; decide) (by decide) ?_
    exact lc_12 C0 hK hE hW hk hcs hS hi hl kk
  by_cases c_13 : v = 13
  · refine lv_tableIn (off := 705) (tgt := 738) hx hb dL_law_33 (by rw [c_13]; decide) (by rw [c_13]; decide) (by rw [c_13]; decide) (by decide) ?_
    exact lc_13 C0 hK hE hW hk hcs hS hi hl kk
  by_cases c_14 : v = 14
  · refine lv_tableIn (off := 748) (tgt := 781) hx hb dL_law_33 (by rw [c_14]; decide) (by rw [c_14]; decide) (by rw [c_14]; decide) (by decide) ?_
    exact lc_14 C0 hK hE hW hk hcs hS hi hl kk
  by_cases c_15 : v = 15
  · refine lv_tableIn (off := 781) (tgt := 814) hx hb dL_law_33 (by rw [c_15]; decide) (by rw [c_15]; decide) (by rw [c_15]; decide) (by decide) ?_
    exact lc_15 C0 hK hE hW hk hcs hS hi hl kk
  by_cases c_16 : v = 16
  · refine lv_tableIn (off := 885) (tgt := 918) hx hb dL_law_33 (by rw [c_16]; decide) (by rw [c_16]; decide) (by rw [c_16]; decide) (by decide) ?_
    exact lc_16 C0 hK hE hW hk hcs hS hi hl kk
  by_cases c_17 : v = 17
  · refine lv_tableIn (off := 989) (tgt := 1022) hx hb dL_law_33 (by rw [c_17]; decide) (by rw [c_17]; decide) (by rw [c_17]; decide) (by decide) ?_
    exact lc_17 C0 hK hE hW hk hcs hS hi hl kk
  by_cases c_18 : v = 18
  · refine lv_tableIn (off := 1053) (tgt := 1086) hx hb dL_law_33 (by rw [c_18]; decide) (by rw [c_18]; decide) (by rw [c_18]; decide) (by decide) ?_
    exact lc_18 C0 hK hE hW hk hcs hS hi hl kk
  by_cases c_19 : v = 19
  · refine lv_tableIn (off := 1117) (tgt := 1150) hx hb dL_law_33 (by rw [c_19]; decide) (by rw [c_19]; decide) (by rw [c_19]; decide) (by decide) ?_
    exact lc_19 C0 hK hE hW hk hcs hS hi hl kk
  by_cases c_20 : v = 20
  · refine lv_tableIn (off := 1181) (tgt := 1214) hx hb dL_law_33 (by rw [c_20]; decide) (by rw [c_20]; decide) (by rw [c_20]; decide) (by decide) ?_
    exact lc_20 C0 hK hE hW hk hcs hS hi hl kk
  by_cases c_21 : v = 21
  · refine lv_tableIn (off := 1284) (tgt := 1317) hx hb dL_law_33 (by rw [c_21]; decide) (by rw [c_21]; decide) (by rw [c_21]; decide) (by decide) ?_
    exact lc_21 C0 hK hE hW hk hcs hS hi hl kk
  by_cases c_22 : v = 22
  · refine lv_tableIn (off := 1328) (tgt := 1361) hx hb dL_law_33 (by rw [c_22]; decide) (by rw [c_22]; decide) (by rw [c_22]; decide) (by decide) ?_
    exact lc_22 C0 hK hE hW hk hcs hS hi hl kk
  by_cases c_23 : v = 23
  · refine lv_tableIn (off := 1341) (tgt := 1374) hx hb dL_law_33 (by rw [c_23]; decide) (by rw [c_23]; decide) (by rw [c_23]; decide) (by decide) ?_
    exact lc_23 C0 hK hE hW hk hcs hS hi hl kk
  by_cases c_24 : v = 24
  · refine lv_tableIn (off := 1354) (tgt := 1387) hx hb dL_law_33 (by rw [c_24]; decide) (by rw [c_24]; decide) (by rw [c_24]; decide) (by decide) ?_
    exact lc_24 C0 hK hE hW hk hcs hS hi hl kk
  have n_0 : v.toInt ≠ 0 := fun h => c_0 (Int32.toInt.inj (h.trans (by decide)))
  have n_1 : v.toInt ≠ 1 := fun h => c_1 (Int32.toInt.inj (h.trans (by decide)))
  have n_2 : v.toInt ≠ 2 := fun h => c_2 (Int32.toInt.inj (h.trans (by decide)))
  have n_3 : v.toInt ≠ 3 := fun h => c_3 (Int32.toInt.inj (h.trans (by decide)))
  have n_4 : v.toInt ≠ 4 := fun h => c_4 (Int32.toInt.inj (h.trans (by decide)))
  have n_5 : v.toInt ≠ 5 := fun h => c_5 (Int32.toInt.inj (h.trans (by decide)))
  have n_6 : v.toInt ≠ 6 := fun h => c_6 (Int32.toInt.inj (h.trans (by decide)))
  have n_7 : v.toInt ≠ 7 := fun h => c_7 (Int32.toInt.inj (h.trans (by decide)))
  have n_8 : v.toInt ≠ 8 := fun h => c_8 (Int32.toInt.inj (h.trans (by decide)))
  have n_9 : v.toInt ≠ 9 := fun h => c_9 (Int32.toInt.inj (h.trans (by decide)))
  have n_10 : v.toInt ≠ 10 := fun h => c_10 (Int32.toInt.inj (h.trans (by decide)))
  have n_11 : v.toInt ≠ 11 := fun h => c_11 (Int32.toInt.inj (h.trans (by decide)))
  have n_12 : v.toInt ≠ 12 := fun h => c_12 (Int32.toInt.inj (h.trans (by decide)))
  have n_13 : v.toInt ≠ 13 := fun h => c_13 (Int32.toInt.inj (h.trans (by decide)))
  have n_14 : v.toInt ≠ 14 := fun h => c_14 (Int32.toInt.inj (h.trans (by decide)))
  have n_15 : v.toInt ≠ 15 := fun h => c_15 (Int32.toInt.inj (h.trans (by decide)))
  have n_16 : v.toInt ≠ 16 := fun h => c_16 (Int32.toInt.inj (h.trans (by decide)))
  have n_17 : v.toInt ≠ 17 := fun h => c_17 (Int32.toInt.inj (h.trans (by decide)))
  have n_18 : v.toInt ≠ 18 := fun h => c_18 (Int32.toInt.inj (h.trans (by decide)))
  have n_19 : v.toInt ≠ 19 := fun h => c_19 (Int32.toInt.inj (h.trans (by decide)))
  have n_20 : v.toInt ≠ 20 := fun h => c_20 (Int32.toInt.inj (h.trans (by decide)))
  have n_21 : v.toInt ≠ 21 := fun h => c_21 (Int32.toInt.inj (h.trans (by decide)))
  have n_22 : v.toInt ≠ 22 := fun h => c_22 (Int32.toInt.inj (h.trans (by decide)))
  have n_23 : v.toInt ≠ 23 := fun h => c_23 (Int32.toInt.inj (h.trans (by decide)))
  have n_24 : v.toInt ≠ 24 := fun h => c_24 (Int32.toInt.inj (h.trans (by decide)))
  refine lv_tableOut (tgt := 1410) hx hb dL_law_33 (by omega) (by decide) ?_
  refine W.widen (k := cells + 130) (n := slots + 4355) (by omega) (by omega) ?_
  exact kk LX SX SM H locs ⟨hW.1.next hk, hW.2⟩ hS
set_option maxHeartbeats 4000000 in
theorem lw_loop (C0 : lw_At p s m meth c b L xs) (hL : L ≤ 3072) (hK : va_K (gD G) vwCl (gT G) s) (hE : EZ G [] s.heap.size s) :
    ∀ (n k x mm : Nat) (LX LM : List Nat) (SX SM : HS) (H : Heap) (locs : List Loc), k ≤ 512 → 512 < k + n → 6 * k ≤ L → LwW G s k x mm LX LM SX SM H → va_S (AZ [] s.heap.size) s.heap H locs → ∀ (ls : Array Slot), lv_has ls 4 [(0, .ref b), (1, .ref x), (2, .ref mm), (3, .int (Int32.ofNat (6 * k)))] → W p l e room_1 s m #[Value.ref b] below meth c H locs (11 + 130 * k) (2263666 + 4355 * k) (lw_Z below #[Value.ref b] s) (F0 m 18 ls []) := by
  obtain ⟨hx, hb, hr, hml, hown, hts0, hX, hbl, hlocks, hgv⟩ := id C0
  have hbA : ¬ AZ [] s.heap.size b := fun z => z.elim (fun y => absurd y List.not_mem_nil) (fun y => absurd y (Nat.not_le.mpr hbl))
  intro n
  induction n with
  | zero =>
    intro k x mm LX LM SX SM H locs hk hn h6 hW hS ls hl
    omega
  | succ n ih =>
    intro k x mm LX LM SX SM H locs hk hn h6 hW hS ls hl
    have n6 : (6 : Int32).toInt = 6 := by decide
    have rC : 67000 ≤ room_1.cells := Nat.le_of_ble_eq_true rfl
    have rS : 4500000 ≤ room_1.slots := Nat.le_of_ble_eq_true rfl
    have eL : (Int32.ofNat L).toInt = L := i_toInt (by omega)
    have e6 : (Int32.ofNat (6 * k)).toInt = (6 * k : Nat) := i_toInt (by omega)
    have eS : (Int32.ofNat L - 6).toInt = (L : Int) - 6 := by rw [i_sub (by rw [n6, eL]; omega) (by rw [n6, eL]; omega), n6, eL]
    refine lv_iload_n hx hb dL_law_18 rfl (lv_at hl 3 rfl) ?_
    refine lv_aload_n hx hb dL_law_19 rfl (lv_at hl 0 rfl) ?_
    refine va_slen hx hb hX hbl hbA hS dL_law_20 ?_
    refine lv_bipush (v := 6) hx hb dL_law_21 (by decide) ?_
    refine lv_isub hx hb dL_law_23 ?_
    refine lv_icmp_gt (tgt := 1416) hx hb dL_law_24 (by decide) (fun _ => ?_) (fun c_24 => ?_)
    · refine lv_iconst (v := 1) hx hb dL_law_1416 (by decide) ?_
      refine va_forget (fun q hq => (hS.2.2 q hq).elim (fun y => absurd y List.not_mem_nil) (fun y => y)) ?_
      refine W.widen (k := room_1.cells) (n := room_1.slots) (by omega) (by omega) ?_
      exact W.base (lw_ret (Drawn.sameBut.refl s.drawn lw_cs) hx hb hr hlocks dL_law_1417)
    · have hroom : 6 * k + 6 ≤ L := by
        rw [Int32.lt_iff_toInt_lt, eS, e6] at c_24
        omega
      have hk5 : k < 512 := by omega
      have hj : ∀ j : Nat, j < 6 → vp_in (Int32.ofNat (6 * k) + Int32.ofNat j) L := fun j hj => by
        rw [six_at k j (by omega)]
        exact vp_n (by omega) (by omega)
      have hi0 : vp_in (Int32.ofNat (6 * k)) L := vp_n (by omega) (by omega)
      refine lw_turn C0 hK hE hW hk5 ⟨by omega, by omega⟩ hS hi0 (fun j hj5 => ?_) hl (fun LX1 SX1 SM1 H1 locs1 hW1 hS1 => ?_)
      · rcases hj5 with rfl | rfl | rfl | rfl | rfl
        · exact hj 1 (by decide)
        · exact hj 2 (by decide)
        · exact hj 3 (by decide)
        · exact hj 4 (by decide)
        · exact hj 5 (by decide)
      · refine lv_iinc (v := Int32.ofNat (6 * (k + 1))) (lv' := [(3, .int (Int32.ofNat (6 * (k + 1)))), (0, .ref b), (1, .ref x), (2, .ref mm)]) hx hb dL_law_1410 hl (k := 3) rfl (Int32.ofNat_add (6 * k) 6).symm (by decide) rfl (fun ls hl => ?_)
        refine lv_goto (tgt := 18) hx hb dL_law_1413 (by decide) ?_
        refine W.widen (k := 11 + 130 * (k + 1)) (n := 2263666 + 4355 * (k + 1)) (by omega) (by omega) ?_
        exact ih (k + 1) x mm LX1 LM SX1 SM1 H1 locs1 (by omega) (by omega) (by omega) hW1 hS1 ls (lv_sub hl [1, 2, 3, 0] rfl)
end LWL
set_option maxRecDepth 100000 in
theorem mL12 : Cond.methodLink RL 12 yX9_init ∈ lw_tbl := List.mem_of_getElem? (i := 558) rfl
set_option maxRecDepth 100000 in
theorem mI9 : Cond.instanceMethod yX9_init ∈ lw_tbl := List.mem_of_getElem? (i := 559) rfl
def hsZero : HS := (fun _ => 0, fun _ _ => 0, fun _ _ => none, fun _ => 0, fun _ _ => 0, fun _ _ => 0, fun _ _ => none)
set_option maxHeartbeats 4000000 in
set_option maxRecDepth 100000 in
/-- THE LAW, from its entry -/
theorem whole_start {p : Program} {e : Env} {s : State} {m : MethodId} {below : List Frame} {meth : Method} {c : Code} (l : Launch) (hflags : l.flags = flags0) {b L : Nat} {xs : Nat → Int32} (hL : L ≤ 3072) (C0 : lw_At p s m meth c b L xs) : W p l e room_1 s m #[Value.ref b] below meth c s.heap [] 0 0 (lw_Z below #[Value.ref b] s) (entryFrame m ([Value.ref b] : List Value).toArray 4) := by
  obtain ⟨hx, hb, hr, hml, hown, hts0, hX, hbl, hlocks, hgv⟩ := id C0
  have hts : ∀ w ∈ wsL_law, w.before #[Value.ref b] s = true := fun w h => hts0 w (wsL_law_in w h)
  have hown : s.vm.findClass RL = some m.cls := hown
  have wr := fun i w (h : wsL_law_r1[i]? = some w) => hts0 w (in_wsL_law_r1 w (List.mem_of_getElem? h))
  obtain ⟨G, hK, hE⟩ := lw_entry hts0 hgv
  have hS : va_S (AZ [] s.heap.size) s.heap s.heap [] := va_S.rf
  have hl := lv_entry ([.ref b]) (n := 4) (Nat.le_of_ble_eq_true rfl)
  rw [lg_entry_eq]
  generalize (lg_sl ([.ref b]) ++ List.replicate (4 - (lg_sl ([.ref b])).length) Slot.unset).toArray = ls at hl ⊢
  have hl : lv_has ls 4 [(0, .ref b)] := hl
  have hP0 : ∀ H : Heap, va_P (gD G) vwCl (va_pl [] (PF G hsZero)) H := fun H k q h => by cases h
  have hZ0 : ∀ q ∈ ([] : List Nat), AZ [] s.heap.size q := fun q h => absurd h List.not_mem_nil
  refine hz_new (L := []) (S := hsZero) (L0 := []) (sz := s.heap.size) (ci := 6) (k := 6) (C := RX8) (T := TX8) (N := 4) (fs := [.null, .null, .int 0, .int 0]) hx hb hts inlX8 tyX8 tyX8_ok hown (wr 0 _ rfl) (wr 1 _ rfl) (wr 2 _ rfl) hK (hP0 _) List.nodup_nil hZ0 (Nat.le_refl _) hS rfl (fun q => PF_nT6) (fun j hj => by rcases (show j = 0 ∨ j = 1 ∨ j = 2 ∨ j = 3 by omega) with rfl | rfl | rfl | rfl <;> rfl) (Nat.le_of_ble_eq_true rfl) (Nat.le_of_ble_eq_true rfl) dL_law_0 (fun x H hxq hPX hnX hLX hS => ?_)
  refine lv_dup hx hb dL_law_3 rfl ?_
  refine lw_cV (L2 := []) (S2 := hsZero) (va_runI (As := []) (rest := [.ref x]) ⟨hx, hb, hml, hown, hts⟩ (hm_X8_init l G ([] ++ [x]) H.size ([] ++ [x]) (hnT hsZero x 6) x ⟨mem_l1, va_up_self _ _ _⟩) (cwI 0 hts gL_law_X8_init rfl rfl rfl (wr 2 _ rfl) (wr 7 _ rfl) (wr 8 _ rfl) rfl (by decide +kernel) ⟨Nat.le_of_ble_eq_true rfl, Nat.le_of_ble_eq_true rfl⟩) ⟨HZ.fb, fun U hU hW => ⟨rfl, HZ.law hPX hK hnX hLX hE hS U hU hW⟩⟩ rfl rfl hl.1 rfl (lv_room (Nat.le_of_ble_eq_true rfl)) dL_law_4 ⟨Nat.le_of_ble_eq_true rfl, Nat.le_of_ble_eq_true rfl⟩) hS hLX (hP0 _) (fun q h => absurd h List.not_mem_nil) (fun L1 S1 H locs hpost hPX _ hnX hLX _ hS => ?_)
  obtain ⟨a0, a1, rfl, rfl⟩ := hpost
  refine lv_astore_n (lv' := [(1, .ref x), (0, .ref b)]) hx hb dL_law_7 rfl hl (by decide) rfl (fun ls hl => ?_)
  refine hz_new (L := ([] ++ [x] ++ [a0]) ++ [a1]) (S := S_X8_init x a0 a1 (hnT hsZero x 6)) (L0 := []) (sz := s.heap.size) (ci := 7) (k := 7) (C := RX9) (T := TX9) (N := 12) (fs := [.null, .null, .null, .int 0, .null, .int 0, .null, .int 0, .null, .int 0, .null, .int 0]) hx hb hts inlX9 tyX9 tyX9_ok hown (wr 3 _ rfl) (wr 4 _ rfl) (wr 5 _ rfl) hK hPX hnX hLX (Nat.le_refl _) hS rfl (fun q => PF_nT7) (fun j hj => by rcases (show j = 0 ∨ j = 1 ∨ j = 2 ∨ j = 3 ∨ j = 4 ∨ j = 5 ∨ j = 6 ∨ j = 7 ∨ j = 8 ∨ j = 9 ∨ j = 10 ∨ j = 11 by omega) with rfl | rfl | rfl | rfl | rfl | rfl | rfl | rfl | rfl | rfl | rfl | rfl <;> rfl) (Nat.le_of_ble_eq_true rfl) (Nat.le_of_ble_eq_true rfl) dL_law_8 (fun mm H hmq hPB hnB hLB hS => ?_)
  obtain ⟨hPX, hPM⟩ := pl_two hPB
  have ePX : va_pl (([] ++ [x] ++ [a0]) ++ [a1]) (PF G (hnT (S_X8_init x a0 a1 (hnT hsZero x 6)) mm 7)) = va_pl (([] ++ [x] ++ [a0]) ++ [a1]) (PF G (S_X8_init x a0 a1 (hnT hsZero x 6))) := List.map_congr_left (fun q hq => by
    have hne : q ≠ mm := fun y => hmq (by rw [← y]; exact hq)
    rw [PF_nT hne])
  rw [ePX] at hPX
  have hnM : ([mm] : List Nat).Nodup := by simp
  have hLM : ∀ q ∈ [mm], AZ [] s.heap.size q := fun q h => hLB q (List.mem_append_right _ h)
  refine lv_dup hx hb dL_law_11 rfl ?_
  refine lw_cV (L := [mm]) (L2 := ([] ++ [x] ++ [a0]) ++ [a1]) (S2 := S_X8_init x a0 a1 (hnT hsZero x 6)) (va_runI (As := []) (rest := [.ref mm]) ⟨hx, hb, hml, hown, hts⟩ (hm_X9_init l G [mm] H.size [mm] (hnT (S_X8_init x a0 a1 (hnT hsZero x 6)) mm 7) mm ⟨List.mem_singleton.mpr rfl, va_up_self _ _ _⟩) (cwI 0 hts gL_law_X9_init rfl rfl rfl (wr 5 _ rfl) (hts0 _ mL12) (hts0 _ mI9) rfl (by decide +kernel) ⟨Nat.le_of_ble_eq_true rfl, Nat.le_of_ble_eq_true rfl⟩) ⟨HZ.fb, fun U hU hW => ⟨rfl, HZ.law hPM hK hnM hLM hE hS U hU hW⟩⟩ rfl rfl hl.1 rfl (lv_room (Nat.le_of_ble_eq_true rfl)) dL_law_12 ⟨Nat.le_of_ble_eq_true rfl, Nat.le_of_ble_eq_true rfl⟩) hS hLM hPX (fun q h z => hmq (List.mem_singleton.mp z ▸ h)) (fun L1 S1 H locs hpost hPM hPX hnM hLM hdis hS => ?_)
  obtain ⟨q0, q1, q2, q3, q4, q5, q6, rfl, rfl⟩ := hpost
  refine lv_astore_n (lv' := [(2, .ref mm), (1, .ref x), (0, .ref b)]) hx hb dL_law_15 rfl hl (by decide) rfl (fun ls hl => ?_)
  refine lv_iconst (v := 0) hx hb dL_law_16 (by decide) ?_
  refine lv_istore_n (lv' := [(3, .int 0), (2, .ref mm), (1, .ref x), (0, .ref b)]) hx hb dL_law_17 rfl hl (by decide) rfl (fun ls hl => ?_)
  refine W.widen (k := 11 + 130 * 0) (n := 2263666 + 4355 * 0) (Nat.le_of_ble_eq_true rfl) (Nat.le_of_ble_eq_true rfl) ?_
  exact lw_loop C0 hL hK hE 513 0 x mm _ _ _ _ H locs (by omega) (by omega) (by omega) ⟨st_start hsZero (S_X8_init x a0 a1 (hnT hsZero x 6)) hnX hnM, hPX, hPM, hnX, hnM, hLX, hLM, (fun q h1 h2 => hdis q h2 h1), hdis⟩ hS ls (lv_sub hl [3, 2, 1, 0] rfl)
