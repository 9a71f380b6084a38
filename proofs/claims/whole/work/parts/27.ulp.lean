/-! ===== the distance to the next ===== -/
set_option maxRecDepth 100000 in
theorem ulp_all : ∀ E, E < 2047 → (1 ≤ E → s_X0_pack 52 (-1074) 9218868437227405312 (-9223372036854775808) 0 (Int32.ofNat E + (-1075)) 1 = (if 2 ≤ Int32.ofNat E then (if Int32.ofNat E ≤ 52 then lShl 1 (Int32.ofNat E - 1) else lShl ((Int32.ofNat E - 52).toInt64) 52) else 1)) := by decide +kernel
