theorem thg_140_144 : ∀ w ∈ (vx_atS RX7 144 "java/lang/IndexOutOfBoundsException" ["java/lang/RuntimeException", "java/lang/Exception"]).filter goodWord, w ∈ BIG := big_sub (by decide +kernel)
theorem thw_140_144 : ∀ w ∈ (vx_atS RX7 144 "java/lang/IndexOutOfBoundsException" ["java/lang/RuntimeException", "java/lang/Exception"]).filter (fun w => !goodWord w), w ∈ lw_tbl ∧ isWarm w = true := by decide +kernel
theorem thv_140_144 : (vx_atS RX7 144 "java/lang/IndexOutOfBoundsException" ["java/lang/RuntimeException", "java/lang/Exception"]).all vx_ot = true := by decide +kernel
theorem thg_55_59 : ∀ w ∈ (vx_atS RX7 59 "java/lang/IllegalArgumentException" ["java/lang/RuntimeException", "java/lang/Exception"]).filter goodWord, w ∈ BIG := big_sub (by decide +kernel)
theorem thw_55_59 : ∀ w ∈ (vx_atS RX7 59 "java/lang/IllegalArgumentException" ["java/lang/RuntimeException", "java/lang/Exception"]).filter (fun w => !goodWord w), w ∈ lw_tbl ∧ isWarm w = true := by decide +kernel
theorem thv_55_59 : (vx_atS RX7 59 "java/lang/IllegalArgumentException" ["java/lang/RuntimeException", "java/lang/Exception"]).all vx_ot = true := by decide +kernel
theorem thg_66_70 : ∀ w ∈ (vx_atS RX7 70 "java/lang/IllegalStateException" ["java/lang/RuntimeException", "java/lang/Exception"]).filter goodWord, w ∈ BIG := big_sub (by decide +kernel)
theorem thw_66_70 : ∀ w ∈ (vx_atS RX7 70 "java/lang/IllegalStateException" ["java/lang/RuntimeException", "java/lang/Exception"]).filter (fun w => !goodWord w), w ∈ lw_tbl ∧ isWarm w = true := by decide +kernel
theorem thv_66_70 : (vx_atS RX7 70 "java/lang/IllegalStateException" ["java/lang/RuntimeException", "java/lang/Exception"]).all vx_ot = true := by decide +kernel
