theorem tb0 {w : Cond} (h : w ∈ k2_sels lw_privs) : w ∈ lw_tbl := List.mem_append_left _ h
theorem tb1 {w : Cond} (h : w ∈ tables_1_1) : w ∈ lw_tbl := List.mem_append_right _ (show w ∈ tables_1 from List.mem_append_left _ h)
theorem tb2 {w : Cond} (h : w ∈ tables_1_2) : w ∈ lw_tbl := List.mem_append_right _ (show w ∈ tables_1 from List.mem_append_right _ (List.mem_append_left _ h))
theorem tb3 {w : Cond} (h : w ∈ tables_1_3) : w ∈ lw_tbl := List.mem_append_right _ (show w ∈ tables_1 from List.mem_append_right _ (List.mem_append_right _ (h)))
theorem bk_0 : Cond.selects RX7 yX7_seenNow yX7_seenNow ∈ BIG := big_in (tb0 (List.mem_of_getElem? (i := 0) rfl)) rfl
theorem bk_2 : Cond.selects RX0 yX0_dropHidden yX0_dropHidden ∈ BIG := big_in (tb0 (List.mem_of_getElem? (i := 2) rfl)) rfl
theorem bk_3 : Cond.selects RX0 yX0_dropNeedless yX0_dropNeedless ∈ BIG := big_in (tb0 (List.mem_of_getElem? (i := 3) rfl)) rfl
theorem bk_4 : Cond.selects RX0 yX0_addRows yX0_addRows ∈ BIG := big_in (tb0 (List.mem_of_getElem? (i := 4) rfl)) rfl
theorem bk_5 : Cond.initialized RL ∈ BIG := big_in (tb1 (List.mem_of_getElem? (i := 0) rfl)) rfl
theorem bk_6 : Cond.initialized RX7 ∈ BIG := big_in (tb1 (List.mem_of_getElem? (i := 1) rfl)) rfl
theorem bk_7 : Cond.initialized RX0 ∈ BIG := big_in (tb1 (List.mem_of_getElem? (i := 2) rfl)) rfl
theorem bk_8 : Cond.initialized RX6 ∈ BIG := big_in (tb1 (List.mem_of_getElem? (i := 3) rfl)) rfl
theorem bk_9 : Cond.initialized RJ9 ∈ BIG := big_in (tb1 (List.mem_of_getElem? (i := 4) rfl)) rfl
theorem bk_10 : Cond.initialized RX2 ∈ BIG := big_in (tb1 (List.mem_of_getElem? (i := 5) rfl)) rfl
theorem bk_11 : Cond.initialized RX4 ∈ BIG := big_in (tb1 (List.mem_of_getElem? (i := 6) rfl)) rfl
theorem bk_12 : Cond.initialized RX3 ∈ BIG := big_in (tb1 (List.mem_of_getElem? (i := 7) rfl)) rfl
theorem bk_13 : Cond.initialized RX1 ∈ BIG := big_in (tb1 (List.mem_of_getElem? (i := 8) rfl)) rfl
theorem bk_14 : Cond.initialized RX5 ∈ BIG := big_in (tb1 (List.mem_of_getElem? (i := 9) rfl)) rfl
theorem bk_15 : Cond.initialized RJ7 ∈ BIG := big_in (tb1 (List.mem_of_getElem? (i := 10) rfl)) rfl
theorem bk_22 : Cond.initialized RJ10 ∈ BIG := big_in (tb1 (List.mem_of_getElem? (i := 17) rfl)) rfl
theorem bk_24 : Cond.classLink RL 9 RX7 ∈ BIG := big_in (tb1 (List.mem_of_getElem? (i := 19) rfl)) rfl
theorem bk_25 : Cond.instantiable RX7 7 ∈ BIG := big_in (tb1 (List.mem_of_getElem? (i := 20) rfl)) rfl
theorem bk_26 : Cond.methodLink RL 78 yX7_init ∈ BIG := big_in (tb1 (List.mem_of_getElem? (i := 21) rfl)) rfl
theorem bk_27 : Cond.instanceMethod yX7_init ∈ BIG := big_in (tb1 (List.mem_of_getElem? (i := 22) rfl)) rfl
theorem bk_28 : Cond.code yX7_init cX7_init 3 none ∈ BIG := big_in (tb1 (List.mem_of_getElem? (i := 23) rfl)) rfl
theorem bk_29 : Cond.methodLink RX7 3 objectInit ∈ BIG := big_in (tb1 (List.mem_of_getElem? (i := 24) rfl)) rfl
theorem bk_30 : Cond.instanceMethod objectInit ∈ BIG := big_in (tb1 (List.mem_of_getElem? (i := 25) rfl)) rfl
theorem bk_31 : Cond.code objectInit ⟨#[0xb1]⟩ 1 none ∈ BIG := big_in (tb1 (List.mem_of_getElem? (i := 26) rfl)) rfl
theorem bk_32 : Cond.classLink RX7 9 RX0 ∈ BIG := big_in (tb1 (List.mem_of_getElem? (i := 27) rfl)) rfl
theorem bk_33 : Cond.instantiable RX0 5 ∈ BIG := big_in (tb1 (List.mem_of_getElem? (i := 28) rfl)) rfl
theorem bk_34 : Cond.methodLink RX7 11 yX0_init ∈ BIG := big_in (tb1 (List.mem_of_getElem? (i := 29) rfl)) rfl
theorem bk_35 : Cond.instanceMethod yX0_init ∈ BIG := big_in (tb1 (List.mem_of_getElem? (i := 30) rfl)) rfl
theorem bk_36 : Cond.code yX0_init cX0_init 2 none ∈ BIG := big_in (tb1 (List.mem_of_getElem? (i := 31) rfl)) rfl
theorem bk_37 : Cond.methodLink RX0 3 objectInit ∈ BIG := big_in (tb1 (List.mem_of_getElem? (i := 32) rfl)) rfl
theorem bk_38 : Cond.classLink RX0 9 RX6 ∈ BIG := big_in (tb1 (List.mem_of_getElem? (i := 33) rfl)) rfl
theorem bk_39 : Cond.instantiable RX6 5 ∈ BIG := big_in (tb1 (List.mem_of_getElem? (i := 34) rfl)) rfl
theorem bk_40 : Cond.methodLink RX0 11 yX6_init ∈ BIG := big_in (tb1 (List.mem_of_getElem? (i := 35) rfl)) rfl
theorem bk_41 : Cond.instanceMethod yX6_init ∈ BIG := big_in (tb1 (List.mem_of_getElem? (i := 36) rfl)) rfl
theorem bk_42 : Cond.code yX6_init cX6_init 3 none ∈ BIG := big_in (tb1 (List.mem_of_getElem? (i := 37) rfl)) rfl
theorem bk_43 : Cond.methodLink RX6 3 objectInit ∈ BIG := big_in (tb1 (List.mem_of_getElem? (i := 38) rfl)) rfl
theorem bk_44 : Cond.methodLink RX6 9 yJ9_max_7cf53 ∈ BIG := big_in (tb1 (List.mem_of_getElem? (i := 39) rfl)) rfl
theorem bk_45 : Cond.static yJ9_max_7cf53 ∈ BIG := big_in (tb1 (List.mem_of_getElem? (i := 40) rfl)) rfl
theorem bk_46 : Cond.code Lib.Math.max.name Lib.Math.max.code 2 (some .int) ∈ BIG := big_in (tb1 (List.mem_of_getElem? (i := 41) rfl)) rfl
theorem bk_47 : Cond.fieldLink RX6 15 RX6 "numbers" "[I" ∈ BIG := big_in (tb1 (List.mem_of_getElem? (i := 42) rfl)) rfl
theorem bk_48 : Cond.fieldLink RX6 21 RX6 "firsts" "[I" ∈ BIG := big_in (tb1 (List.mem_of_getElem? (i := 43) rfl)) rfl
theorem bk_49 : Cond.fieldLink RX6 24 RX6 "lasts" "[I" ∈ BIG := big_in (tb1 (List.mem_of_getElem? (i := 44) rfl)) rfl
theorem bk_50 : Cond.fieldLink RX6 27 RX6 "values" "[I" ∈ BIG := big_in (tb1 (List.mem_of_getElem? (i := 45) rfl)) rfl
theorem bk_51 : Cond.fieldLink RX6 30 RX6 "size" "I" ∈ BIG := big_in (tb1 (List.mem_of_getElem? (i := 46) rfl)) rfl
theorem bk_63 : Cond.arrayClass .int ∈ BIG := big_in (tb1 (List.mem_of_getElem? (i := 58) rfl)) rfl
theorem bk_64 : Cond.classLink RX0 20 RX2 ∈ BIG := big_in (tb1 (List.mem_of_getElem? (i := 59) rfl)) rfl
theorem bk_66 : Cond.instantiable RX2 2 ∈ BIG := big_in (tb1 (List.mem_of_getElem? (i := 61) rfl)) rfl
theorem bk_68 : Cond.instanceMethod yX2_init ∈ BIG := big_in (tb1 (List.mem_of_getElem? (i := 63) rfl)) rfl
theorem bk_69 : Cond.code yX2_init cX2_init 1 none ∈ BIG := big_in (tb1 (List.mem_of_getElem? (i := 64) rfl)) rfl
theorem bk_70 : Cond.methodLink RX2 3 objectInit ∈ BIG := big_in (tb1 (List.mem_of_getElem? (i := 65) rfl)) rfl
theorem bk_71 : Cond.fieldLink RX2 9 RX2 "low" "J" ∈ BIG := big_in (tb1 (List.mem_of_getElem? (i := 66) rfl)) rfl
theorem bk_72 : Cond.fieldLink RX2 15 RX2 "high" "J" ∈ BIG := big_in (tb1 (List.mem_of_getElem? (i := 67) rfl)) rfl
theorem bk_78 : Cond.fieldLink RX0 14 RX0 "result" "LRangeGraves$Writes;" ∈ BIG := big_in (tb1 (List.mem_of_getElem? (i := 73) rfl)) rfl
theorem bk_80 : Cond.fieldLink RX0 22 RX0 "left" "[LRangeGraves$Keys;" ∈ BIG := big_in (tb1 (List.mem_of_getElem? (i := 75) rfl)) rfl
theorem bk_81 : Cond.fieldLink RX0 27 RX0 "newerWrites" "LRangeGraves$Keys;" ∈ BIG := big_in (tb1 (List.mem_of_getElem? (i := 76) rfl)) rfl
theorem bk_82 : Cond.fieldLink RX0 31 RX0 "newerGraves" "LRangeGraves$Keys;" ∈ BIG := big_in (tb1 (List.mem_of_getElem? (i := 77) rfl)) rfl
theorem bk_83 : Cond.fieldLink RX0 34 RX0 "olderEntries" "LRangeGraves$Keys;" ∈ BIG := big_in (tb1 (List.mem_of_getElem? (i := 78) rfl)) rfl
theorem bk_95 : Cond.classLink RX7 12 RX4 ∈ BIG := big_in (tb1 (List.mem_of_getElem? (i := 90) rfl)) rfl
theorem bk_96 : Cond.instantiable RX4 2 ∈ BIG := big_in (tb1 (List.mem_of_getElem? (i := 91) rfl)) rfl
theorem bk_98 : Cond.instanceMethod yX4_init ∈ BIG := big_in (tb1 (List.mem_of_getElem? (i := 93) rfl)) rfl
theorem bk_99 : Cond.code yX4_init cX4_init 1 none ∈ BIG := big_in (tb1 (List.mem_of_getElem? (i := 94) rfl)) rfl
theorem bk_100 : Cond.methodLink RX4 3 objectInit ∈ BIG := big_in (tb1 (List.mem_of_getElem? (i := 95) rfl)) rfl
theorem bk_101 : Cond.fieldLink RX4 9 RX4 "signs" "[I" ∈ BIG := big_in (tb1 (List.mem_of_getElem? (i := 96) rfl)) rfl
theorem bk_107 : Cond.classLink RX7 19 RX3 ∈ BIG := big_in (tb1 (List.mem_of_getElem? (i := 102) rfl)) rfl
theorem bk_108 : Cond.instantiable RX3 8 ∈ BIG := big_in (tb1 (List.mem_of_getElem? (i := 103) rfl)) rfl
theorem bk_109 : Cond.methodLink RX7 21 yX3_init ∈ BIG := big_in (tb1 (List.mem_of_getElem? (i := 104) rfl)) rfl
theorem bk_110 : Cond.instanceMethod yX3_init ∈ BIG := big_in (tb1 (List.mem_of_getElem? (i := 105) rfl)) rfl
theorem bk_111 : Cond.code yX3_init cX3_init 3 none ∈ BIG := big_in (tb1 (List.mem_of_getElem? (i := 106) rfl)) rfl
theorem bk_112 : Cond.methodLink RX3 3 objectInit ∈ BIG := big_in (tb1 (List.mem_of_getElem? (i := 107) rfl)) rfl
theorem bk_113 : Cond.classLink RX3 22 RX6 ∈ BIG := big_in (tb1 (List.mem_of_getElem? (i := 108) rfl)) rfl
theorem bk_114 : Cond.methodLink RX3 24 yX6_init ∈ BIG := big_in (tb1 (List.mem_of_getElem? (i := 109) rfl)) rfl
theorem bk_115 : Cond.fieldLink RX3 18 RX3 "cleaner" "LRangeGraves$Cleaner;" ∈ BIG := big_in (tb1 (List.mem_of_getElem? (i := 110) rfl)) rfl
theorem bk_116 : Cond.fieldLink RX3 27 RX3 "writes" "LRangeGraves$Writes;" ∈ BIG := big_in (tb1 (List.mem_of_getElem? (i := 111) rfl)) rfl
theorem bk_120 : Cond.fieldLink RX3 9 RX3 "ends" "[I" ∈ BIG := big_in (tb1 (List.mem_of_getElem? (i := 115) rfl)) rfl
theorem bk_121 : Cond.fieldLink RX3 15 RX3 "eyeNumbers" "[I" ∈ BIG := big_in (tb1 (List.mem_of_getElem? (i := 116) rfl)) rfl
theorem bk_122 : Cond.fieldLink RX3 34 RX3 "runs" "I" ∈ BIG := big_in (tb1 (List.mem_of_getElem? (i := 117) rfl)) rfl
theorem bk_123 : Cond.fieldLink RX3 38 RX3 "eyes" "I" ∈ BIG := big_in (tb1 (List.mem_of_getElem? (i := 118) rfl)) rfl
theorem bk_124 : Cond.fieldLink RX3 41 RX3 "latest" "I" ∈ BIG := big_in (tb1 (List.mem_of_getElem? (i := 119) rfl)) rfl
theorem bk_125 : Cond.fieldLink RX3 44 RX3 "fewer" "I" ∈ BIG := big_in (tb1 (List.mem_of_getElem? (i := 120) rfl)) rfl
theorem bk_143 : Cond.classLink RX7 31 RX1 ∈ BIG := big_in (tb1 (List.mem_of_getElem? (i := 138) rfl)) rfl
theorem bk_144 : Cond.instantiable RX1 3 ∈ BIG := big_in (tb1 (List.mem_of_getElem? (i := 139) rfl)) rfl
theorem bk_145 : Cond.methodLink RX7 33 yX1_init ∈ BIG := big_in (tb1 (List.mem_of_getElem? (i := 140) rfl)) rfl
theorem bk_146 : Cond.instanceMethod yX1_init ∈ BIG := big_in (tb1 (List.mem_of_getElem? (i := 141) rfl)) rfl
theorem bk_147 : Cond.code yX1_init cX1_init 3 none ∈ BIG := big_in (tb1 (List.mem_of_getElem? (i := 142) rfl)) rfl
theorem bk_148 : Cond.methodLink RX1 3 objectInit ∈ BIG := big_in (tb1 (List.mem_of_getElem? (i := 143) rfl)) rfl
theorem bk_149 : Cond.classLink RX1 9 RX3 ∈ BIG := big_in (tb1 (List.mem_of_getElem? (i := 144) rfl)) rfl
theorem bk_151 : Cond.methodLink RX1 17 yX3_init ∈ BIG := big_in (tb1 (List.mem_of_getElem? (i := 146) rfl)) rfl
theorem bk_152 : Cond.fieldLink RX1 11 RX1 "states" "[LRangeGraves$Store;" ∈ BIG := big_in (tb1 (List.mem_of_getElem? (i := 147) rfl)) rfl
theorem bk_153 : Cond.fieldLink RX1 24 RX1 "oldest" "I" ∈ BIG := big_in (tb1 (List.mem_of_getElem? (i := 148) rfl)) rfl
theorem bk_154 : Cond.fieldLink RX1 20 RX1 "size" "I" ∈ BIG := big_in (tb1 (List.mem_of_getElem? (i := 149) rfl)) rfl
theorem bk_162 : Cond.classLink RX7 48 RX5 ∈ BIG := big_in (tb1 (List.mem_of_getElem? (i := 157) rfl)) rfl
theorem bk_163 : Cond.instantiable RX5 1 ∈ BIG := big_in (tb1 (List.mem_of_getElem? (i := 158) rfl)) rfl
theorem bk_165 : Cond.instanceMethod yX5_init ∈ BIG := big_in (tb1 (List.mem_of_getElem? (i := 160) rfl)) rfl
theorem bk_166 : Cond.code yX5_init cX5_init 1 none ∈ BIG := big_in (tb1 (List.mem_of_getElem? (i := 161) rfl)) rfl
theorem bk_167 : Cond.methodLink RX5 3 objectInit ∈ BIG := big_in (tb1 (List.mem_of_getElem? (i := 162) rfl)) rfl
theorem bk_168 : Cond.fieldLink RX5 9 RX5 "seen" "[I" ∈ BIG := big_in (tb1 (List.mem_of_getElem? (i := 163) rfl)) rfl
theorem bk_172 : Cond.arrayClass .boolean ∈ BIG := big_in (tb1 (List.mem_of_getElem? (i := 167) rfl)) rfl
theorem bk_173 : Cond.fieldLink RX7 15 RX7 "text" "LRangeGraves$Text;" ∈ BIG := big_in (tb1 (List.mem_of_getElem? (i := 168) rfl)) rfl
theorem bk_174 : Cond.fieldLink RX7 24 RX7 "store" "LRangeGraves$Store;" ∈ BIG := big_in (tb1 (List.mem_of_getElem? (i := 169) rfl)) rfl
theorem bk_175 : Cond.fieldLink RX7 28 RX7 "trial" "LRangeGraves$Store;" ∈ BIG := big_in (tb1 (List.mem_of_getElem? (i := 170) rfl)) rfl
theorem bk_176 : Cond.fieldLink RX7 36 RX7 "history" "LRangeGraves$History;" ∈ BIG := big_in (tb1 (List.mem_of_getElem? (i := 171) rfl)) rfl
theorem bk_177 : Cond.fieldLink RX7 40 RX7 "slots" "[LRangeGraves$Store;" ∈ BIG := big_in (tb1 (List.mem_of_getElem? (i := 172) rfl)) rfl
theorem bk_178 : Cond.fieldLink RX7 44 RX7 "filled" "[Z" ∈ BIG := big_in (tb1 (List.mem_of_getElem? (i := 173) rfl)) rfl
theorem bk_179 : Cond.fieldLink RX7 51 RX7 "view" "LRangeGraves$View;" ∈ BIG := big_in (tb1 (List.mem_of_getElem? (i := 174) rfl)) rfl
theorem bk_195 : Cond.methodLink RL 8 yX7_about ∈ BIG := big_in (tb1 (List.mem_of_getElem? (i := 190) rfl)) rfl
theorem bk_196 : Cond.instanceMethod yX7_about ∈ BIG := big_in (tb1 (List.mem_of_getElem? (i := 191) rfl)) rfl
theorem bk_197 : Cond.selects RX7 yX7_about yX7_about ∈ BIG := big_in (tb1 (List.mem_of_getElem? (i := 192) rfl)) rfl
theorem bk_198 : Cond.code yX7_about cX7_about 2 (some .int) ∈ BIG := big_in (tb1 (List.mem_of_getElem? (i := 193) rfl)) rfl
theorem bk_199 : Cond.methodLink RX7 98 yX3_latest ∈ BIG := big_in (tb1 (List.mem_of_getElem? (i := 194) rfl)) rfl
theorem bk_200 : Cond.instanceMethod yX3_latest ∈ BIG := big_in (tb1 (List.mem_of_getElem? (i := 195) rfl)) rfl
theorem bk_201 : Cond.selects RX3 yX3_latest yX3_latest ∈ BIG := big_in (tb1 (List.mem_of_getElem? (i := 196) rfl)) rfl
theorem bk_202 : Cond.code yX3_latest cX3_latest 1 (some .int) ∈ BIG := big_in (tb1 (List.mem_of_getElem? (i := 197) rfl)) rfl
theorem bk_203 : Cond.methodLink RX7 101 yX3_sizeOf ∈ BIG := big_in (tb1 (List.mem_of_getElem? (i := 198) rfl)) rfl
theorem bk_204 : Cond.instanceMethod yX3_sizeOf ∈ BIG := big_in (tb1 (List.mem_of_getElem? (i := 199) rfl)) rfl
theorem bk_205 : Cond.selects RX3 yX3_sizeOf yX3_sizeOf ∈ BIG := big_in (tb1 (List.mem_of_getElem? (i := 200) rfl)) rfl
theorem bk_206 : Cond.code yX3_sizeOf cX3_sizeOf 2 (some .int) ∈ BIG := big_in (tb1 (List.mem_of_getElem? (i := 201) rfl)) rfl
theorem bk_207 : Cond.methodLink RX3 65 yX3_endOf ∈ BIG := big_in (tb1 (List.mem_of_getElem? (i := 202) rfl)) rfl
theorem bk_208 : Cond.instanceMethod yX3_endOf ∈ BIG := big_in (tb1 (List.mem_of_getElem? (i := 203) rfl)) rfl
theorem bk_209 : Cond.selects RX3 yX3_endOf yX3_endOf ∈ BIG := big_in (tb1 (List.mem_of_getElem? (i := 204) rfl)) rfl
theorem bk_210 : Cond.code yX3_endOf cX3_endOf 3 (some .int) ∈ BIG := big_in (tb1 (List.mem_of_getElem? (i := 205) rfl)) rfl
theorem bk_211 : Cond.methodLink RX3 47 yX6_size ∈ BIG := big_in (tb1 (List.mem_of_getElem? (i := 206) rfl)) rfl
theorem bk_212 : Cond.instanceMethod yX6_size ∈ BIG := big_in (tb1 (List.mem_of_getElem? (i := 207) rfl)) rfl
theorem bk_213 : Cond.selects RX6 yX6_size yX6_size ∈ BIG := big_in (tb1 (List.mem_of_getElem? (i := 208) rfl)) rfl
theorem bk_214 : Cond.code yX6_size cX6_size 1 (some .int) ∈ BIG := big_in (tb1 (List.mem_of_getElem? (i := 209) rfl)) rfl
theorem bk_215 : Cond.methodLink RX3 69 yX3_startOf ∈ BIG := big_in (tb1 (List.mem_of_getElem? (i := 210) rfl)) rfl
theorem bk_216 : Cond.instanceMethod yX3_startOf ∈ BIG := big_in (tb1 (List.mem_of_getElem? (i := 211) rfl)) rfl
theorem bk_217 : Cond.selects RX3 yX3_startOf yX3_startOf ∈ BIG := big_in (tb1 (List.mem_of_getElem? (i := 212) rfl)) rfl
theorem bk_218 : Cond.code yX3_startOf cX3_startOf 3 (some .int) ∈ BIG := big_in (tb1 (List.mem_of_getElem? (i := 213) rfl)) rfl
theorem bk_219 : Cond.methodLink RX7 105 yX3_runs ∈ BIG := big_in (tb1 (List.mem_of_getElem? (i := 214) rfl)) rfl
theorem bk_220 : Cond.instanceMethod yX3_runs ∈ BIG := big_in (tb1 (List.mem_of_getElem? (i := 215) rfl)) rfl
theorem bk_221 : Cond.selects RX3 yX3_runs yX3_runs ∈ BIG := big_in (tb1 (List.mem_of_getElem? (i := 216) rfl)) rfl
theorem bk_222 : Cond.code yX3_runs cX3_runs 1 (some .int) ∈ BIG := big_in (tb1 (List.mem_of_getElem? (i := 217) rfl)) rfl
theorem bk_223 : Cond.methodLink RX7 108 yX3_eyes ∈ BIG := big_in (tb1 (List.mem_of_getElem? (i := 218) rfl)) rfl
theorem bk_224 : Cond.instanceMethod yX3_eyes ∈ BIG := big_in (tb1 (List.mem_of_getElem? (i := 219) rfl)) rfl
theorem bk_225 : Cond.selects RX3 yX3_eyes yX3_eyes ∈ BIG := big_in (tb1 (List.mem_of_getElem? (i := 220) rfl)) rfl
theorem bk_226 : Cond.code yX3_eyes cX3_eyes 1 (some .int) ∈ BIG := big_in (tb1 (List.mem_of_getElem? (i := 221) rfl)) rfl
theorem bk_227 : Cond.methodLink RX7 111 yX3_size ∈ BIG := big_in (tb1 (List.mem_of_getElem? (i := 222) rfl)) rfl
theorem bk_228 : Cond.instanceMethod yX3_size ∈ BIG := big_in (tb1 (List.mem_of_getElem? (i := 223) rfl)) rfl
theorem bk_229 : Cond.selects RX3 yX3_size yX3_size ∈ BIG := big_in (tb1 (List.mem_of_getElem? (i := 224) rfl)) rfl
theorem bk_230 : Cond.code yX3_size cX3_size 1 (some .int) ∈ BIG := big_in (tb1 (List.mem_of_getElem? (i := 225) rfl)) rfl
theorem bk_231 : Cond.methodLink RX7 114 yX3_entriesIn ∈ BIG := big_in (tb1 (List.mem_of_getElem? (i := 226) rfl)) rfl
theorem bk_232 : Cond.instanceMethod yX3_entriesIn ∈ BIG := big_in (tb1 (List.mem_of_getElem? (i := 227) rfl)) rfl
theorem bk_233 : Cond.selects RX3 yX3_entriesIn yX3_entriesIn ∈ BIG := big_in (tb1 (List.mem_of_getElem? (i := 228) rfl)) rfl
theorem bk_234 : Cond.code yX3_entriesIn cX3_entriesIn 5 (some .int) ∈ BIG := big_in (tb1 (List.mem_of_getElem? (i := 229) rfl)) rfl
theorem bk_235 : Cond.methodLink RX3 72 yX6_isEntry ∈ BIG := big_in (tb1 (List.mem_of_getElem? (i := 230) rfl)) rfl
theorem bk_236 : Cond.instanceMethod yX6_isEntry ∈ BIG := big_in (tb1 (List.mem_of_getElem? (i := 231) rfl)) rfl
theorem bk_237 : Cond.selects RX6 yX6_isEntry yX6_isEntry ∈ BIG := big_in (tb1 (List.mem_of_getElem? (i := 232) rfl)) rfl
theorem bk_238 : Cond.code yX6_isEntry cX6_isEntry 2 (some .boolean) ∈ BIG := big_in (tb1 (List.mem_of_getElem? (i := 233) rfl)) rfl
theorem bk_239 : Cond.methodLink RX7 118 yX7_seenNow ∈ BIG := big_in (tb1 (List.mem_of_getElem? (i := 234) rfl)) rfl
theorem bk_241 : Cond.instanceMethod yX7_seenNow ∈ BIG := big_in (tb1 (List.mem_of_getElem? (i := 236) rfl)) rfl
theorem bk_242 : Cond.code yX7_seenNow cX7_seenNow 2 (some .int) ∈ BIG := big_in (tb1 (List.mem_of_getElem? (i := 237) rfl)) rfl
theorem bk_243 : Cond.methodLink RX7 122 yX5_look ∈ BIG := big_in (tb1 (List.mem_of_getElem? (i := 238) rfl)) rfl
theorem bk_244 : Cond.instanceMethod yX5_look ∈ BIG := big_in (tb1 (List.mem_of_getElem? (i := 239) rfl)) rfl
theorem bk_245 : Cond.selects RX5 yX5_look yX5_look ∈ BIG := big_in (tb2 (List.mem_of_getElem? (i := 0) rfl)) rfl
theorem bk_246 : Cond.code yX5_look cX5_look 6 none ∈ BIG := big_in (tb2 (List.mem_of_getElem? (i := 1) rfl)) rfl
theorem bk_247 : Cond.methodLink RX5 15 yJ7_fill_53178 ∈ BIG := big_in (tb2 (List.mem_of_getElem? (i := 2) rfl)) rfl
theorem bk_248 : Cond.static yJ7_fill_53178 ∈ BIG := big_in (tb2 (List.mem_of_getElem? (i := 3) rfl)) rfl
theorem bk_249 : Cond.code yJ7_fill_53178 cJ7_fill_53178 4 none ∈ BIG := big_in (tb2 (List.mem_of_getElem? (i := 4) rfl)) rfl
theorem bk_250 : Cond.methodLink RX5 27 yX6_size ∈ BIG := big_in (tb2 (List.mem_of_getElem? (i := 5) rfl)) rfl
theorem bk_251 : Cond.methodLink RX5 33 yX6_numberAt ∈ BIG := big_in (tb2 (List.mem_of_getElem? (i := 6) rfl)) rfl
theorem bk_252 : Cond.instanceMethod yX6_numberAt ∈ BIG := big_in (tb2 (List.mem_of_getElem? (i := 7) rfl)) rfl
theorem bk_253 : Cond.selects RX6 yX6_numberAt yX6_numberAt ∈ BIG := big_in (tb2 (List.mem_of_getElem? (i := 8) rfl)) rfl
theorem bk_254 : Cond.code yX6_numberAt cX6_numberAt 2 (some .int) ∈ BIG := big_in (tb2 (List.mem_of_getElem? (i := 9) rfl)) rfl
theorem bk_255 : Cond.methodLink RX5 37 yX6_firstAt ∈ BIG := big_in (tb2 (List.mem_of_getElem? (i := 10) rfl)) rfl
theorem bk_256 : Cond.instanceMethod yX6_firstAt ∈ BIG := big_in (tb2 (List.mem_of_getElem? (i := 11) rfl)) rfl
theorem bk_257 : Cond.selects RX6 yX6_firstAt yX6_firstAt ∈ BIG := big_in (tb2 (List.mem_of_getElem? (i := 12) rfl)) rfl
theorem bk_258 : Cond.code yX6_firstAt cX6_firstAt 2 (some .int) ∈ BIG := big_in (tb2 (List.mem_of_getElem? (i := 13) rfl)) rfl
theorem bk_259 : Cond.methodLink RX5 40 yJ9_max_7cf53 ∈ BIG := big_in (tb2 (List.mem_of_getElem? (i := 14) rfl)) rfl
theorem bk_260 : Cond.methodLink RX5 46 yX6_lastAt ∈ BIG := big_in (tb2 (List.mem_of_getElem? (i := 15) rfl)) rfl
theorem bk_261 : Cond.instanceMethod yX6_lastAt ∈ BIG := big_in (tb2 (List.mem_of_getElem? (i := 16) rfl)) rfl
theorem bk_262 : Cond.selects RX6 yX6_lastAt yX6_lastAt ∈ BIG := big_in (tb2 (List.mem_of_getElem? (i := 17) rfl)) rfl
theorem bk_263 : Cond.code yX6_lastAt cX6_lastAt 2 (some .int) ∈ BIG := big_in (tb2 (List.mem_of_getElem? (i := 18) rfl)) rfl
theorem bk_264 : Cond.methodLink RX5 49 yX6_valueAt ∈ BIG := big_in (tb2 (List.mem_of_getElem? (i := 19) rfl)) rfl
theorem bk_265 : Cond.instanceMethod yX6_valueAt ∈ BIG := big_in (tb2 (List.mem_of_getElem? (i := 20) rfl)) rfl
theorem bk_266 : Cond.selects RX6 yX6_valueAt yX6_valueAt ∈ BIG := big_in (tb2 (List.mem_of_getElem? (i := 21) rfl)) rfl
theorem bk_267 : Cond.code yX6_valueAt cX6_valueAt 2 (some .int) ∈ BIG := big_in (tb2 (List.mem_of_getElem? (i := 22) rfl)) rfl
theorem bk_268 : Cond.methodLink RX7 212 yX5_seenIn ∈ BIG := big_in (tb2 (List.mem_of_getElem? (i := 23) rfl)) rfl
theorem bk_269 : Cond.instanceMethod yX5_seenIn ∈ BIG := big_in (tb2 (List.mem_of_getElem? (i := 24) rfl)) rfl
theorem bk_270 : Cond.selects RX5 yX5_seenIn yX5_seenIn ∈ BIG := big_in (tb2 (List.mem_of_getElem? (i := 25) rfl)) rfl
theorem bk_271 : Cond.code yX5_seenIn cX5_seenIn 5 (some .int) ∈ BIG := big_in (tb2 (List.mem_of_getElem? (i := 26) rfl)) rfl
theorem bk_272 : Cond.methodLink RX7 126 yX5_sum ∈ BIG := big_in (tb2 (List.mem_of_getElem? (i := 27) rfl)) rfl
theorem bk_273 : Cond.instanceMethod yX5_sum ∈ BIG := big_in (tb2 (List.mem_of_getElem? (i := 28) rfl)) rfl
theorem bk_274 : Cond.selects RX5 yX5_sum yX5_sum ∈ BIG := big_in (tb2 (List.mem_of_getElem? (i := 29) rfl)) rfl
theorem bk_275 : Cond.code yX5_sum cX5_sum 3 (some .int) ∈ BIG := big_in (tb2 (List.mem_of_getElem? (i := 30) rfl)) rfl
theorem bk_276 : Cond.methodLink RX7 129 yX3_fewer ∈ BIG := big_in (tb2 (List.mem_of_getElem? (i := 31) rfl)) rfl
theorem bk_277 : Cond.instanceMethod yX3_fewer ∈ BIG := big_in (tb2 (List.mem_of_getElem? (i := 32) rfl)) rfl
theorem bk_278 : Cond.selects RX3 yX3_fewer yX3_fewer ∈ BIG := big_in (tb2 (List.mem_of_getElem? (i := 33) rfl)) rfl
theorem bk_279 : Cond.code yX3_fewer cX3_fewer 1 (some .int) ∈ BIG := big_in (tb2 (List.mem_of_getElem? (i := 34) rfl)) rfl
theorem bk_348 : Cond.methodLink RL 98 yX7_fewest ∈ BIG := big_in (tb2 (List.mem_of_getElem? (i := 103) rfl)) rfl
theorem bk_349 : Cond.instanceMethod yX7_fewest ∈ BIG := big_in (tb2 (List.mem_of_getElem? (i := 104) rfl)) rfl
theorem bk_350 : Cond.selects RX7 yX7_fewest yX7_fewest ∈ BIG := big_in (tb2 (List.mem_of_getElem? (i := 105) rfl)) rfl
theorem bk_351 : Cond.code yX7_fewest cX7_fewest 2 (some .int) ∈ BIG := big_in (tb2 (List.mem_of_getElem? (i := 106) rfl)) rfl
theorem bk_352 : Cond.methodLink RX7 270 yX3_become ∈ BIG := big_in (tb2 (List.mem_of_getElem? (i := 107) rfl)) rfl
theorem bk_353 : Cond.instanceMethod yX3_become ∈ BIG := big_in (tb2 (List.mem_of_getElem? (i := 108) rfl)) rfl
theorem bk_354 : Cond.selects RX3 yX3_become yX3_become ∈ BIG := big_in (tb2 (List.mem_of_getElem? (i := 109) rfl)) rfl
theorem bk_355 : Cond.code yX3_become cX3_become 2 none ∈ BIG := big_in (tb2 (List.mem_of_getElem? (i := 110) rfl)) rfl
theorem bk_356 : Cond.methodLink RX3 51 yX6_replace ∈ BIG := big_in (tb2 (List.mem_of_getElem? (i := 111) rfl)) rfl
theorem bk_357 : Cond.instanceMethod yX6_replace ∈ BIG := big_in (tb2 (List.mem_of_getElem? (i := 112) rfl)) rfl
theorem bk_358 : Cond.selects RX6 yX6_replace yX6_replace ∈ BIG := big_in (tb2 (List.mem_of_getElem? (i := 113) rfl)) rfl
theorem bk_359 : Cond.code yX6_replace cX6_replace 6 none ∈ BIG := big_in (tb2 (List.mem_of_getElem? (i := 114) rfl)) rfl
theorem bk_360 : Cond.methodLink RX6 34 arraycopyName ∈ BIG := big_in (tb2 (List.mem_of_getElem? (i := 115) rfl)) rfl
theorem bk_361 : Cond.static arraycopyName ∈ BIG := big_in (tb2 (List.mem_of_getElem? (i := 116) rfl)) rfl
theorem bk_362 : Cond.native arraycopyName ∈ BIG := big_in (tb2 (List.mem_of_getElem? (i := 117) rfl)) rfl
theorem bk_363 : Cond.methodLink RX3 55 arraycopyName ∈ BIG := big_in (tb2 (List.mem_of_getElem? (i := 118) rfl)) rfl
theorem bk_364 : Cond.methodLink RX7 273 yX3_dropAllEyes ∈ BIG := big_in (tb2 (List.mem_of_getElem? (i := 119) rfl)) rfl
theorem bk_365 : Cond.instanceMethod yX3_dropAllEyes ∈ BIG := big_in (tb2 (List.mem_of_getElem? (i := 120) rfl)) rfl
theorem bk_366 : Cond.selects RX3 yX3_dropAllEyes yX3_dropAllEyes ∈ BIG := big_in (tb2 (List.mem_of_getElem? (i := 121) rfl)) rfl
theorem bk_367 : Cond.code yX3_dropAllEyes cX3_dropAllEyes 1 none ∈ BIG := big_in (tb2 (List.mem_of_getElem? (i := 122) rfl)) rfl
theorem bk_368 : Cond.methodLink RX7 231 yX3_flushMemory ∈ BIG := big_in (tb2 (List.mem_of_getElem? (i := 123) rfl)) rfl
theorem bk_369 : Cond.instanceMethod yX3_flushMemory ∈ BIG := big_in (tb2 (List.mem_of_getElem? (i := 124) rfl)) rfl
theorem bk_370 : Cond.selects RX3 yX3_flushMemory yX3_flushMemory ∈ BIG := big_in (tb2 (List.mem_of_getElem? (i := 125) rfl)) rfl
theorem bk_371 : Cond.code yX3_flushMemory cX3_flushMemory 2 (some .int) ∈ BIG := big_in (tb2 (List.mem_of_getElem? (i := 126) rfl)) rfl
theorem bk_372 : Cond.methodLink RX3 112 yX0_clean ∈ BIG := big_in (tb2 (List.mem_of_getElem? (i := 127) rfl)) rfl
theorem bk_373 : Cond.instanceMethod yX0_clean ∈ BIG := big_in (tb2 (List.mem_of_getElem? (i := 128) rfl)) rfl
theorem bk_374 : Cond.selects RX0 yX0_clean yX0_clean ∈ BIG := big_in (tb2 (List.mem_of_getElem? (i := 129) rfl)) rfl
theorem bk_375 : Cond.code yX0_clean cX0_clean 7 (some .int) ∈ BIG := big_in (tb2 (List.mem_of_getElem? (i := 130) rfl)) rfl
theorem bk_376 : Cond.methodLink RX0 37 yX6_empty ∈ BIG := big_in (tb2 (List.mem_of_getElem? (i := 131) rfl)) rfl
theorem bk_377 : Cond.instanceMethod yX6_empty ∈ BIG := big_in (tb2 (List.mem_of_getElem? (i := 132) rfl)) rfl
theorem bk_378 : Cond.selects RX6 yX6_empty yX6_empty ∈ BIG := big_in (tb2 (List.mem_of_getElem? (i := 133) rfl)) rfl
theorem bk_379 : Cond.code yX6_empty cX6_empty 1 none ∈ BIG := big_in (tb2 (List.mem_of_getElem? (i := 134) rfl)) rfl
theorem bk_380 : Cond.methodLink RX0 40 yX3_startOf ∈ BIG := big_in (tb2 (List.mem_of_getElem? (i := 135) rfl)) rfl
theorem bk_381 : Cond.methodLink RX0 46 yX3_endOf ∈ BIG := big_in (tb2 (List.mem_of_getElem? (i := 136) rfl)) rfl
theorem bk_382 : Cond.methodLink RX0 49 yX0_dropHidden ∈ BIG := big_in (tb2 (List.mem_of_getElem? (i := 137) rfl)) rfl
theorem bk_384 : Cond.instanceMethod yX0_dropHidden ∈ BIG := big_in (tb2 (List.mem_of_getElem? (i := 139) rfl)) rfl
theorem bk_385 : Cond.code yX0_dropHidden cX0_dropHidden 7 none ∈ BIG := big_in (tb2 (List.mem_of_getElem? (i := 140) rfl)) rfl
theorem bk_386 : Cond.methodLink RX0 71 yX6_numberAt ∈ BIG := big_in (tb2 (List.mem_of_getElem? (i := 141) rfl)) rfl
theorem bk_387 : Cond.methodLink RX0 74 yX3_eyesBefore ∈ BIG := big_in (tb2 (List.mem_of_getElem? (i := 142) rfl)) rfl
theorem bk_388 : Cond.instanceMethod yX3_eyesBefore ∈ BIG := big_in (tb2 (List.mem_of_getElem? (i := 143) rfl)) rfl
theorem bk_389 : Cond.selects RX3 yX3_eyesBefore yX3_eyesBefore ∈ BIG := big_in (tb2 (List.mem_of_getElem? (i := 144) rfl)) rfl
theorem bk_390 : Cond.code yX3_eyesBefore cX3_eyesBefore 4 (some .int) ∈ BIG := big_in (tb2 (List.mem_of_getElem? (i := 145) rfl)) rfl
theorem bk_391 : Cond.methodLink RX0 77 yX2_empty ∈ BIG := big_in (tb2 (List.mem_of_getElem? (i := 146) rfl)) rfl
theorem bk_392 : Cond.instanceMethod yX2_empty ∈ BIG := big_in (tb2 (List.mem_of_getElem? (i := 147) rfl)) rfl
theorem bk_393 : Cond.selects RX2 yX2_empty yX2_empty ∈ BIG := big_in (tb2 (List.mem_of_getElem? (i := 148) rfl)) rfl
theorem bk_394 : Cond.code yX2_empty cX2_empty 1 none ∈ BIG := big_in (tb2 (List.mem_of_getElem? (i := 149) rfl)) rfl
theorem bk_395 : Cond.methodLink RX0 78 yX6_firstAt ∈ BIG := big_in (tb2 (List.mem_of_getElem? (i := 150) rfl)) rfl
theorem bk_396 : Cond.methodLink RX0 81 yX6_lastAt ∈ BIG := big_in (tb2 (List.mem_of_getElem? (i := 151) rfl)) rfl
theorem bk_397 : Cond.methodLink RX0 84 yX2_addRow ∈ BIG := big_in (tb2 (List.mem_of_getElem? (i := 152) rfl)) rfl
theorem bk_398 : Cond.instanceMethod yX2_addRow ∈ BIG := big_in (tb2 (List.mem_of_getElem? (i := 153) rfl)) rfl
theorem bk_399 : Cond.selects RX2 yX2_addRow yX2_addRow ∈ BIG := big_in (tb2 (List.mem_of_getElem? (i := 154) rfl)) rfl
theorem bk_400 : Cond.code yX2_addRow cX2_addRow 3 none ∈ BIG := big_in (tb2 (List.mem_of_getElem? (i := 155) rfl)) rfl
theorem bk_401 : Cond.constantLong RX2 18 (-1) ∈ BIG := big_in (tb2 (List.mem_of_getElem? (i := 156) rfl)) rfl
theorem bk_402 : Cond.methodLink RX2 20 yJ9_min_7cf53 ∈ BIG := big_in (tb2 (List.mem_of_getElem? (i := 157) rfl)) rfl
theorem bk_403 : Cond.static yJ9_min_7cf53 ∈ BIG := big_in (tb2 (List.mem_of_getElem? (i := 158) rfl)) rfl
theorem bk_404 : Cond.code Lib.Math.min.name Lib.Math.min.code 2 (some .int) ∈ BIG := big_in (tb2 (List.mem_of_getElem? (i := 159) rfl)) rfl
theorem bk_405 : Cond.methodLink RX2 26 yJ9_max_7cf53 ∈ BIG := big_in (tb2 (List.mem_of_getElem? (i := 160) rfl)) rfl
theorem bk_406 : Cond.methodLink RX0 88 yX6_isEntry ∈ BIG := big_in (tb2 (List.mem_of_getElem? (i := 161) rfl)) rfl
theorem bk_407 : Cond.methodLink RX0 92 yX2_removeAll ∈ BIG := big_in (tb2 (List.mem_of_getElem? (i := 162) rfl)) rfl
theorem bk_408 : Cond.instanceMethod yX2_removeAll ∈ BIG := big_in (tb2 (List.mem_of_getElem? (i := 163) rfl)) rfl
theorem bk_409 : Cond.selects RX2 yX2_removeAll yX2_removeAll ∈ BIG := big_in (tb2 (List.mem_of_getElem? (i := 164) rfl)) rfl
theorem bk_410 : Cond.code yX2_removeAll cX2_removeAll 2 none ∈ BIG := big_in (tb2 (List.mem_of_getElem? (i := 165) rfl)) rfl
theorem bk_411 : Cond.methodLink RX0 53 yX3_runs ∈ BIG := big_in (tb2 (List.mem_of_getElem? (i := 166) rfl)) rfl
theorem bk_412 : Cond.methodLink RX0 60 yX0_dropNeedless ∈ BIG := big_in (tb2 (List.mem_of_getElem? (i := 167) rfl)) rfl
theorem bk_414 : Cond.instanceMethod yX0_dropNeedless ∈ BIG := big_in (tb2 (List.mem_of_getElem? (i := 169) rfl)) rfl
theorem bk_415 : Cond.code yX0_dropNeedless cX0_dropNeedless 5 none ∈ BIG := big_in (tb2 (List.mem_of_getElem? (i := 170) rfl)) rfl
theorem bk_416 : Cond.methodLink RX0 96 yX2_addAll ∈ BIG := big_in (tb2 (List.mem_of_getElem? (i := 171) rfl)) rfl
theorem bk_417 : Cond.instanceMethod yX2_addAll ∈ BIG := big_in (tb2 (List.mem_of_getElem? (i := 172) rfl)) rfl
theorem bk_418 : Cond.selects RX2 yX2_addAll yX2_addAll ∈ BIG := big_in (tb2 (List.mem_of_getElem? (i := 173) rfl)) rfl
theorem bk_419 : Cond.code yX2_addAll cX2_addAll 2 none ∈ BIG := big_in (tb2 (List.mem_of_getElem? (i := 174) rfl)) rfl
theorem bk_420 : Cond.methodLink RX0 99 yX2_keepOnly ∈ BIG := big_in (tb2 (List.mem_of_getElem? (i := 175) rfl)) rfl
theorem bk_421 : Cond.instanceMethod yX2_keepOnly ∈ BIG := big_in (tb2 (List.mem_of_getElem? (i := 176) rfl)) rfl
theorem bk_422 : Cond.selects RX2 yX2_keepOnly yX2_keepOnly ∈ BIG := big_in (tb2 (List.mem_of_getElem? (i := 177) rfl)) rfl
theorem bk_423 : Cond.code yX2_keepOnly cX2_keepOnly 2 none ∈ BIG := big_in (tb2 (List.mem_of_getElem? (i := 178) rfl)) rfl
theorem bk_424 : Cond.methodLink RX0 64 yX0_addRows ∈ BIG := big_in (tb2 (List.mem_of_getElem? (i := 179) rfl)) rfl
theorem bk_426 : Cond.instanceMethod yX0_addRows ∈ BIG := big_in (tb2 (List.mem_of_getElem? (i := 181) rfl)) rfl
theorem bk_427 : Cond.code yX0_addRows cX0_addRows 7 none ∈ BIG := big_in (tb2 (List.mem_of_getElem? (i := 182) rfl)) rfl
theorem bk_428 : Cond.methodLink RX0 102 yX2_has ∈ BIG := big_in (tb2 (List.mem_of_getElem? (i := 183) rfl)) rfl
theorem bk_429 : Cond.instanceMethod yX2_has ∈ BIG := big_in (tb2 (List.mem_of_getElem? (i := 184) rfl)) rfl
theorem bk_430 : Cond.selects RX2 yX2_has yX2_has ∈ BIG := big_in (tb2 (List.mem_of_getElem? (i := 185) rfl)) rfl
theorem bk_431 : Cond.code yX2_has cX2_has 4 (some .boolean) ∈ BIG := big_in (tb2 (List.mem_of_getElem? (i := 186) rfl)) rfl
theorem bk_432 : Cond.methodLink RX0 105 yX6_valueAt ∈ BIG := big_in (tb2 (List.mem_of_getElem? (i := 187) rfl)) rfl
theorem bk_433 : Cond.methodLink RX0 108 yX6_add ∈ BIG := big_in (tb2 (List.mem_of_getElem? (i := 188) rfl)) rfl
theorem bk_434 : Cond.instanceMethod yX6_add ∈ BIG := big_in (tb2 (List.mem_of_getElem? (i := 189) rfl)) rfl
theorem bk_435 : Cond.selects RX6 yX6_add yX6_add ∈ BIG := big_in (tb2 (List.mem_of_getElem? (i := 190) rfl)) rfl
theorem bk_436 : Cond.code yX6_add cX6_add 5 none ∈ BIG := big_in (tb2 (List.mem_of_getElem? (i := 191) rfl)) rfl
theorem bk_437 : Cond.methodLink RX0 68 yX6_size ∈ BIG := big_in (tb2 (List.mem_of_getElem? (i := 192) rfl)) rfl
theorem bk_438 : Cond.methodLink RX3 109 yX3_sizeOf ∈ BIG := big_in (tb2 (List.mem_of_getElem? (i := 193) rfl)) rfl
theorem bk_439 : Cond.methodLink RX7 242 yX3_mergeRuns ∈ BIG := big_in (tb2 (List.mem_of_getElem? (i := 194) rfl)) rfl
theorem bk_440 : Cond.instanceMethod yX3_mergeRuns ∈ BIG := big_in (tb2 (List.mem_of_getElem? (i := 195) rfl)) rfl
theorem bk_441 : Cond.selects RX3 yX3_mergeRuns yX3_mergeRuns ∈ BIG := big_in (tb2 (List.mem_of_getElem? (i := 196) rfl)) rfl
theorem bk_442 : Cond.code yX3_mergeRuns cX3_mergeRuns 7 (some .int) ∈ BIG := big_in (tb2 (List.mem_of_getElem? (i := 197) rfl)) rfl
theorem bk_443 : Cond.methodLink RL 79 yL_cell ∈ BIG := big_in (tb2 (List.mem_of_getElem? (i := 198) rfl)) rfl
theorem bk_444 : Cond.static yL_cell ∈ BIG := big_in (tb2 (List.mem_of_getElem? (i := 199) rfl)) rfl
theorem bk_445 : Cond.code yL_cell cL_cell 2 (some .int) ∈ BIG := big_in (tb2 (List.mem_of_getElem? (i := 200) rfl)) rfl
theorem bk_446 : Cond.methodLink RL 14 yL_low ∈ BIG := big_in (tb2 (List.mem_of_getElem? (i := 201) rfl)) rfl
theorem bk_447 : Cond.static yL_low ∈ BIG := big_in (tb2 (List.mem_of_getElem? (i := 202) rfl)) rfl
theorem bk_448 : Cond.code yL_low cL_low 2 (some .int) ∈ BIG := big_in (tb2 (List.mem_of_getElem? (i := 203) rfl)) rfl
theorem bk_449 : Cond.constant RL 7 (2147483647) ∈ BIG := big_in (tb2 (List.mem_of_getElem? (i := 204) rfl)) rfl
theorem bk_450 : Cond.methodLink RL 83 yL_does ∈ BIG := big_in (tb2 (List.mem_of_getElem? (i := 205) rfl)) rfl
theorem bk_451 : Cond.static yL_does ∈ BIG := big_in (tb2 (List.mem_of_getElem? (i := 206) rfl)) rfl
theorem bk_452 : Cond.code yL_does cL_does 6 (some .int) ∈ BIG := big_in (tb2 (List.mem_of_getElem? (i := 207) rfl)) rfl
theorem bk_453 : Cond.methodLink RL 20 yX7_put ∈ BIG := big_in (tb2 (List.mem_of_getElem? (i := 208) rfl)) rfl
theorem bk_454 : Cond.instanceMethod yX7_put ∈ BIG := big_in (tb2 (List.mem_of_getElem? (i := 209) rfl)) rfl
theorem bk_455 : Cond.selects RX7 yX7_put yX7_put ∈ BIG := big_in (tb2 (List.mem_of_getElem? (i := 210) rfl)) rfl
theorem bk_456 : Cond.code yX7_put cX7_put 3 (some .int) ∈ BIG := big_in (tb2 (List.mem_of_getElem? (i := 211) rfl)) rfl
theorem bk_457 : Cond.methodLink RX7 134 yX7_isKey ∈ BIG := big_in (tb2 (List.mem_of_getElem? (i := 212) rfl)) rfl
theorem bk_458 : Cond.static yX7_isKey ∈ BIG := big_in (tb2 (List.mem_of_getElem? (i := 213) rfl)) rfl
theorem bk_459 : Cond.code yX7_isKey cX7_isKey 1 (some .boolean) ∈ BIG := big_in (tb2 (List.mem_of_getElem? (i := 214) rfl)) rfl
theorem bk_476 : Cond.methodLink RX7 194 yX7_isValue ∈ BIG := big_in (tb2 (List.mem_of_getElem? (i := 231) rfl)) rfl
theorem bk_477 : Cond.static yX7_isValue ∈ BIG := big_in (tb2 (List.mem_of_getElem? (i := 232) rfl)) rfl
theorem bk_478 : Cond.code yX7_isValue cX7_isValue 1 (some .boolean) ∈ BIG := big_in (tb2 (List.mem_of_getElem? (i := 233) rfl)) rfl
theorem bk_480 : Cond.methodLink RX7 199 yX3_isFull ∈ BIG := big_in (tb2 (List.mem_of_getElem? (i := 235) rfl)) rfl
theorem bk_481 : Cond.instanceMethod yX3_isFull ∈ BIG := big_in (tb2 (List.mem_of_getElem? (i := 236) rfl)) rfl
theorem bk_482 : Cond.selects RX3 yX3_isFull yX3_isFull ∈ BIG := big_in (tb2 (List.mem_of_getElem? (i := 237) rfl)) rfl
theorem bk_483 : Cond.code yX3_isFull cX3_isFull 1 (some .boolean) ∈ BIG := big_in (tb2 (List.mem_of_getElem? (i := 238) rfl)) rfl
theorem bk_500 : Cond.methodLink RX7 202 yX1_remember ∈ BIG := big_in (tb3 (List.mem_of_getElem? (i := 15) rfl)) rfl
theorem bk_501 : Cond.instanceMethod yX1_remember ∈ BIG := big_in (tb3 (List.mem_of_getElem? (i := 16) rfl)) rfl
theorem bk_502 : Cond.selects RX1 yX1_remember yX1_remember ∈ BIG := big_in (tb3 (List.mem_of_getElem? (i := 17) rfl)) rfl
theorem bk_503 : Cond.code yX1_remember cX1_remember 2 none ∈ BIG := big_in (tb3 (List.mem_of_getElem? (i := 18) rfl)) rfl
theorem bk_504 : Cond.methodLink RX1 27 yX3_become ∈ BIG := big_in (tb3 (List.mem_of_getElem? (i := 19) rfl)) rfl
theorem bk_505 : Cond.methodLink RX7 206 yX3_addWrite ∈ BIG := big_in (tb3 (List.mem_of_getElem? (i := 20) rfl)) rfl
theorem bk_506 : Cond.instanceMethod yX3_addWrite ∈ BIG := big_in (tb3 (List.mem_of_getElem? (i := 21) rfl)) rfl
theorem bk_507 : Cond.selects RX3 yX3_addWrite yX3_addWrite ∈ BIG := big_in (tb3 (List.mem_of_getElem? (i := 22) rfl)) rfl
theorem bk_508 : Cond.code yX3_addWrite cX3_addWrite 4 none ∈ BIG := big_in (tb3 (List.mem_of_getElem? (i := 23) rfl)) rfl
theorem bk_509 : Cond.methodLink RX3 118 yX6_add ∈ BIG := big_in (tb3 (List.mem_of_getElem? (i := 24) rfl)) rfl
theorem bk_510 : Cond.methodLink RL 23 yX7_bury ∈ BIG := big_in (tb3 (List.mem_of_getElem? (i := 25) rfl)) rfl
theorem bk_511 : Cond.instanceMethod yX7_bury ∈ BIG := big_in (tb3 (List.mem_of_getElem? (i := 26) rfl)) rfl
theorem bk_512 : Cond.selects RX7 yX7_bury yX7_bury ∈ BIG := big_in (tb3 (List.mem_of_getElem? (i := 27) rfl)) rfl
theorem bk_513 : Cond.code yX7_bury cX7_bury 3 (some .int) ∈ BIG := big_in (tb3 (List.mem_of_getElem? (i := 28) rfl)) rfl
theorem bk_515 : Cond.methodLink RL 26 yX7_flush ∈ BIG := big_in (tb3 (List.mem_of_getElem? (i := 30) rfl)) rfl
theorem bk_516 : Cond.instanceMethod yX7_flush ∈ BIG := big_in (tb3 (List.mem_of_getElem? (i := 31) rfl)) rfl
theorem bk_517 : Cond.selects RX7 yX7_flush yX7_flush ∈ BIG := big_in (tb3 (List.mem_of_getElem? (i := 32) rfl)) rfl
theorem bk_518 : Cond.code yX7_flush cX7_flush 1 (some .int) ∈ BIG := big_in (tb3 (List.mem_of_getElem? (i := 33) rfl)) rfl
theorem bk_519 : Cond.methodLink RX7 226 yX3_canFlush ∈ BIG := big_in (tb3 (List.mem_of_getElem? (i := 34) rfl)) rfl
theorem bk_520 : Cond.instanceMethod yX3_canFlush ∈ BIG := big_in (tb3 (List.mem_of_getElem? (i := 35) rfl)) rfl
theorem bk_521 : Cond.selects RX3 yX3_canFlush yX3_canFlush ∈ BIG := big_in (tb3 (List.mem_of_getElem? (i := 36) rfl)) rfl
theorem bk_522 : Cond.code yX3_canFlush cX3_canFlush 1 (some .boolean) ∈ BIG := big_in (tb3 (List.mem_of_getElem? (i := 37) rfl)) rfl
theorem bk_524 : Cond.methodLink RL 30 yX7_open ∈ BIG := big_in (tb3 (List.mem_of_getElem? (i := 39) rfl)) rfl
theorem bk_525 : Cond.instanceMethod yX7_open ∈ BIG := big_in (tb3 (List.mem_of_getElem? (i := 40) rfl)) rfl
theorem bk_526 : Cond.selects RX7 yX7_open yX7_open ∈ BIG := big_in (tb3 (List.mem_of_getElem? (i := 41) rfl)) rfl
theorem bk_527 : Cond.code yX7_open cX7_open 1 (some .int) ∈ BIG := big_in (tb3 (List.mem_of_getElem? (i := 42) rfl)) rfl
theorem bk_528 : Cond.methodLink RX7 215 yX3_canOpen ∈ BIG := big_in (tb3 (List.mem_of_getElem? (i := 43) rfl)) rfl
theorem bk_529 : Cond.instanceMethod yX3_canOpen ∈ BIG := big_in (tb3 (List.mem_of_getElem? (i := 44) rfl)) rfl
theorem bk_530 : Cond.selects RX3 yX3_canOpen yX3_canOpen ∈ BIG := big_in (tb3 (List.mem_of_getElem? (i := 45) rfl)) rfl
theorem bk_531 : Cond.code yX3_canOpen cX3_canOpen 1 (some .boolean) ∈ BIG := big_in (tb3 (List.mem_of_getElem? (i := 46) rfl)) rfl
theorem bk_533 : Cond.methodLink RX7 220 yX3_addEye ∈ BIG := big_in (tb3 (List.mem_of_getElem? (i := 48) rfl)) rfl
theorem bk_534 : Cond.instanceMethod yX3_addEye ∈ BIG := big_in (tb3 (List.mem_of_getElem? (i := 49) rfl)) rfl
theorem bk_535 : Cond.selects RX3 yX3_addEye yX3_addEye ∈ BIG := big_in (tb3 (List.mem_of_getElem? (i := 50) rfl)) rfl
theorem bk_536 : Cond.code yX3_addEye cX3_addEye 1 none ∈ BIG := big_in (tb3 (List.mem_of_getElem? (i := 51) rfl)) rfl
theorem bk_537 : Cond.methodLink RL 33 yX7_close ∈ BIG := big_in (tb3 (List.mem_of_getElem? (i := 52) rfl)) rfl
theorem bk_538 : Cond.instanceMethod yX7_close ∈ BIG := big_in (tb3 (List.mem_of_getElem? (i := 53) rfl)) rfl
theorem bk_539 : Cond.selects RX7 yX7_close yX7_close ∈ BIG := big_in (tb3 (List.mem_of_getElem? (i := 54) rfl)) rfl
theorem bk_540 : Cond.code yX7_close cX7_close 2 (some .int) ∈ BIG := big_in (tb3 (List.mem_of_getElem? (i := 55) rfl)) rfl
theorem bk_541 : Cond.methodLink RX7 187 yX3_isEye ∈ BIG := big_in (tb3 (List.mem_of_getElem? (i := 56) rfl)) rfl
theorem bk_542 : Cond.instanceMethod yX3_isEye ∈ BIG := big_in (tb3 (List.mem_of_getElem? (i := 57) rfl)) rfl
theorem bk_543 : Cond.selects RX3 yX3_isEye yX3_isEye ∈ BIG := big_in (tb3 (List.mem_of_getElem? (i := 58) rfl)) rfl
theorem bk_544 : Cond.code yX3_isEye cX3_isEye 2 (some .boolean) ∈ BIG := big_in (tb3 (List.mem_of_getElem? (i := 59) rfl)) rfl
theorem bk_546 : Cond.methodLink RX7 223 yX3_dropEye ∈ BIG := big_in (tb3 (List.mem_of_getElem? (i := 61) rfl)) rfl
theorem bk_547 : Cond.instanceMethod yX3_dropEye ∈ BIG := big_in (tb3 (List.mem_of_getElem? (i := 62) rfl)) rfl
theorem bk_548 : Cond.selects RX3 yX3_dropEye yX3_dropEye ∈ BIG := big_in (tb3 (List.mem_of_getElem? (i := 63) rfl)) rfl
theorem bk_549 : Cond.code yX3_dropEye cX3_dropEye 3 none ∈ BIG := big_in (tb3 (List.mem_of_getElem? (i := 64) rfl)) rfl
theorem bk_550 : Cond.methodLink RX3 89 yX3_isEye ∈ BIG := big_in (tb3 (List.mem_of_getElem? (i := 65) rfl)) rfl
theorem bk_551 : Cond.methodLink RL 36 yX7_best ∈ BIG := big_in (tb3 (List.mem_of_getElem? (i := 66) rfl)) rfl
theorem bk_552 : Cond.instanceMethod yX7_best ∈ BIG := big_in (tb3 (List.mem_of_getElem? (i := 67) rfl)) rfl
theorem bk_553 : Cond.selects RX7 yX7_best yX7_best ∈ BIG := big_in (tb3 (List.mem_of_getElem? (i := 68) rfl)) rfl
theorem bk_554 : Cond.code yX7_best cX7_best 4 (some .int) ∈ BIG := big_in (tb3 (List.mem_of_getElem? (i := 69) rfl)) rfl
theorem bk_555 : Cond.methodLink RX7 237 yX3_canMerge ∈ BIG := big_in (tb3 (List.mem_of_getElem? (i := 70) rfl)) rfl
theorem bk_556 : Cond.instanceMethod yX3_canMerge ∈ BIG := big_in (tb3 (List.mem_of_getElem? (i := 71) rfl)) rfl
theorem bk_557 : Cond.selects RX3 yX3_canMerge yX3_canMerge ∈ BIG := big_in (tb3 (List.mem_of_getElem? (i := 72) rfl)) rfl
theorem bk_558 : Cond.code yX3_canMerge cX3_canMerge 3 (some .boolean) ∈ BIG := big_in (tb3 (List.mem_of_getElem? (i := 73) rfl)) rfl
theorem bk_559 : Cond.methodLink RX3 61 yX3_isRun ∈ BIG := big_in (tb3 (List.mem_of_getElem? (i := 74) rfl)) rfl
theorem bk_560 : Cond.instanceMethod yX3_isRun ∈ BIG := big_in (tb3 (List.mem_of_getElem? (i := 75) rfl)) rfl
theorem bk_561 : Cond.selects RX3 yX3_isRun yX3_isRun ∈ BIG := big_in (tb3 (List.mem_of_getElem? (i := 76) rfl)) rfl
theorem bk_562 : Cond.code yX3_isRun cX3_isRun 2 (some .boolean) ∈ BIG := big_in (tb3 (List.mem_of_getElem? (i := 77) rfl)) rfl
theorem bk_563 : Cond.methodLink RX7 267 yX3_savedBy ∈ BIG := big_in (tb3 (List.mem_of_getElem? (i := 78) rfl)) rfl
theorem bk_564 : Cond.instanceMethod yX3_savedBy ∈ BIG := big_in (tb3 (List.mem_of_getElem? (i := 79) rfl)) rfl
theorem bk_565 : Cond.selects RX3 yX3_savedBy yX3_savedBy ∈ BIG := big_in (tb3 (List.mem_of_getElem? (i := 80) rfl)) rfl
theorem bk_566 : Cond.code yX3_savedBy cX3_savedBy 2 (some .int) ∈ BIG := big_in (tb3 (List.mem_of_getElem? (i := 81) rfl)) rfl
theorem bk_567 : Cond.methodLink RL 39 yX7_merge ∈ BIG := big_in (tb3 (List.mem_of_getElem? (i := 82) rfl)) rfl
theorem bk_568 : Cond.instanceMethod yX7_merge ∈ BIG := big_in (tb3 (List.mem_of_getElem? (i := 83) rfl)) rfl
theorem bk_569 : Cond.selects RX7 yX7_merge yX7_merge ∈ BIG := big_in (tb3 (List.mem_of_getElem? (i := 84) rfl)) rfl
theorem bk_570 : Cond.code yX7_merge cX7_merge 2 (some .int) ∈ BIG := big_in (tb3 (List.mem_of_getElem? (i := 85) rfl)) rfl
theorem bk_571 : Cond.methodLink RX7 234 yX3_isRun ∈ BIG := big_in (tb3 (List.mem_of_getElem? (i := 86) rfl)) rfl
theorem bk_574 : Cond.methodLink RL 71 yL_tale ∈ BIG := big_in (tb3 (List.mem_of_getElem? (i := 89) rfl)) rfl
theorem bk_575 : Cond.static yL_tale ∈ BIG := big_in (tb3 (List.mem_of_getElem? (i := 90) rfl)) rfl
theorem bk_576 : Cond.code yL_tale cL_tale 5 (some .long) ∈ BIG := big_in (tb3 (List.mem_of_getElem? (i := 91) rfl)) rfl
theorem bk_577 : Cond.constantLong RL 42 (113) ∈ BIG := big_in (tb3 (List.mem_of_getElem? (i := 92) rfl)) rfl
theorem bk_578 : Cond.constantLong RL 44 (1009) ∈ BIG := big_in (tb3 (List.mem_of_getElem? (i := 93) rfl)) rfl
theorem bk_579 : Cond.methodLink RL 46 yX7_get ∈ BIG := big_in (tb3 (List.mem_of_getElem? (i := 94) rfl)) rfl
theorem bk_580 : Cond.instanceMethod yX7_get ∈ BIG := big_in (tb3 (List.mem_of_getElem? (i := 95) rfl)) rfl
theorem bk_581 : Cond.selects RX7 yX7_get yX7_get ∈ BIG := big_in (tb3 (List.mem_of_getElem? (i := 96) rfl)) rfl
theorem bk_582 : Cond.code yX7_get cX7_get 4 (some .int) ∈ BIG := big_in (tb3 (List.mem_of_getElem? (i := 97) rfl)) rfl
theorem bk_583 : Cond.methodLink RX7 137 yX3_isView ∈ BIG := big_in (tb3 (List.mem_of_getElem? (i := 98) rfl)) rfl
theorem bk_584 : Cond.instanceMethod yX3_isView ∈ BIG := big_in (tb3 (List.mem_of_getElem? (i := 99) rfl)) rfl
theorem bk_585 : Cond.selects RX3 yX3_isView yX3_isView ∈ BIG := big_in (tb3 (List.mem_of_getElem? (i := 100) rfl)) rfl
theorem bk_586 : Cond.code yX3_isView cX3_isView 2 (some .boolean) ∈ BIG := big_in (tb3 (List.mem_of_getElem? (i := 101) rfl)) rfl
theorem bk_588 : Cond.methodLink RX7 145 yX3_limitOf ∈ BIG := big_in (tb3 (List.mem_of_getElem? (i := 103) rfl)) rfl
theorem bk_589 : Cond.instanceMethod yX3_limitOf ∈ BIG := big_in (tb3 (List.mem_of_getElem? (i := 104) rfl)) rfl
theorem bk_590 : Cond.selects RX3 yX3_limitOf yX3_limitOf ∈ BIG := big_in (tb3 (List.mem_of_getElem? (i := 105) rfl)) rfl
theorem bk_591 : Cond.code yX3_limitOf cX3_limitOf 2 (some .int) ∈ BIG := big_in (tb3 (List.mem_of_getElem? (i := 106) rfl)) rfl
theorem bk_592 : Cond.methodLink RX7 148 yX3_valueFor ∈ BIG := big_in (tb3 (List.mem_of_getElem? (i := 107) rfl)) rfl
theorem bk_593 : Cond.instanceMethod yX3_valueFor ∈ BIG := big_in (tb3 (List.mem_of_getElem? (i := 108) rfl)) rfl
theorem bk_594 : Cond.selects RX3 yX3_valueFor yX3_valueFor ∈ BIG := big_in (tb3 (List.mem_of_getElem? (i := 109) rfl)) rfl
theorem bk_595 : Cond.code yX3_valueFor cX3_valueFor 3 (some .int) ∈ BIG := big_in (tb3 (List.mem_of_getElem? (i := 110) rfl)) rfl
theorem bk_596 : Cond.methodLink RX3 99 yX3_newestFor ∈ BIG := big_in (tb3 (List.mem_of_getElem? (i := 111) rfl)) rfl
theorem bk_597 : Cond.instanceMethod yX3_newestFor ∈ BIG := big_in (tb3 (List.mem_of_getElem? (i := 112) rfl)) rfl
theorem bk_598 : Cond.selects RX3 yX3_newestFor yX3_newestFor ∈ BIG := big_in (tb3 (List.mem_of_getElem? (i := 113) rfl)) rfl
theorem bk_599 : Cond.code yX3_newestFor cX3_newestFor 4 (some .int) ∈ BIG := big_in (tb3 (List.mem_of_getElem? (i := 114) rfl)) rfl
theorem bk_600 : Cond.methodLink RX3 92 yX6_numberAt ∈ BIG := big_in (tb3 (List.mem_of_getElem? (i := 115) rfl)) rfl
theorem bk_601 : Cond.methodLink RX3 95 yX6_concerns ∈ BIG := big_in (tb3 (List.mem_of_getElem? (i := 116) rfl)) rfl
theorem bk_602 : Cond.instanceMethod yX6_concerns ∈ BIG := big_in (tb3 (List.mem_of_getElem? (i := 117) rfl)) rfl
theorem bk_603 : Cond.selects RX6 yX6_concerns yX6_concerns ∈ BIG := big_in (tb3 (List.mem_of_getElem? (i := 118) rfl)) rfl
theorem bk_604 : Cond.code yX6_concerns cX6_concerns 3 (some .boolean) ∈ BIG := big_in (tb3 (List.mem_of_getElem? (i := 119) rfl)) rfl
theorem bk_605 : Cond.methodLink RX3 103 yX6_valueAt ∈ BIG := big_in (tb3 (List.mem_of_getElem? (i := 120) rfl)) rfl
theorem bk_606 : Cond.methodLink RL 87 yL_areWritesSo ∈ BIG := big_in (tb3 (List.mem_of_getElem? (i := 121) rfl)) rfl
theorem bk_607 : Cond.static yL_areWritesSo ∈ BIG := big_in (tb3 (List.mem_of_getElem? (i := 122) rfl)) rfl
theorem bk_608 : Cond.code yL_areWritesSo cL_areWritesSo 14 (some .boolean) ∈ BIG := big_in (tb3 (List.mem_of_getElem? (i := 123) rfl)) rfl
theorem bk_609 : Cond.methodLink RL 49 yX7_run ∈ BIG := big_in (tb3 (List.mem_of_getElem? (i := 124) rfl)) rfl
theorem bk_610 : Cond.instanceMethod yX7_run ∈ BIG := big_in (tb3 (List.mem_of_getElem? (i := 125) rfl)) rfl
theorem bk_611 : Cond.selects RX7 yX7_run yX7_run ∈ BIG := big_in (tb3 (List.mem_of_getElem? (i := 126) rfl)) rfl
theorem bk_612 : Cond.code yX7_run cX7_run 3 (some .int) ∈ BIG := big_in (tb3 (List.mem_of_getElem? (i := 127) rfl)) rfl
theorem bk_613 : Cond.methodLink RX7 151 yX3_isPlace ∈ BIG := big_in (tb3 (List.mem_of_getElem? (i := 128) rfl)) rfl
theorem bk_614 : Cond.instanceMethod yX3_isPlace ∈ BIG := big_in (tb3 (List.mem_of_getElem? (i := 129) rfl)) rfl
theorem bk_615 : Cond.selects RX3 yX3_isPlace yX3_isPlace ∈ BIG := big_in (tb3 (List.mem_of_getElem? (i := 130) rfl)) rfl
theorem bk_616 : Cond.code yX3_isPlace cX3_isPlace 2 (some .boolean) ∈ BIG := big_in (tb3 (List.mem_of_getElem? (i := 131) rfl)) rfl
theorem bk_617 : Cond.methodLink RX7 156 yX3_startOf ∈ BIG := big_in (tb3 (List.mem_of_getElem? (i := 132) rfl)) rfl
theorem bk_618 : Cond.methodLink RX7 159 yX3_endOf ∈ BIG := big_in (tb3 (List.mem_of_getElem? (i := 133) rfl)) rfl
theorem bk_619 : Cond.methodLink RX7 166 yX6_numberAt ∈ BIG := big_in (tb3 (List.mem_of_getElem? (i := 134) rfl)) rfl
theorem bk_626 : Cond.methodLink RX3 78 yX6_firstAt ∈ BIG := big_in (tb3 (List.mem_of_getElem? (i := 141) rfl)) rfl
theorem bk_640 : Cond.methodLink RL 52 yX7_write ∈ BIG := big_in (tb3 (List.mem_of_getElem? (i := 155) rfl)) rfl
theorem bk_641 : Cond.instanceMethod yX7_write ∈ BIG := big_in (tb3 (List.mem_of_getElem? (i := 156) rfl)) rfl
theorem bk_642 : Cond.selects RX7 yX7_write yX7_write ∈ BIG := big_in (tb3 (List.mem_of_getElem? (i := 157) rfl)) rfl
theorem bk_643 : Cond.code yX7_write cX7_write 5 (some .int) ∈ BIG := big_in (tb3 (List.mem_of_getElem? (i := 158) rfl)) rfl
theorem bk_645 : Cond.methodLink RX7 178 yX6_firstAt ∈ BIG := big_in (tb3 (List.mem_of_getElem? (i := 160) rfl)) rfl
theorem bk_646 : Cond.methodLink RX7 181 yX6_lastAt ∈ BIG := big_in (tb3 (List.mem_of_getElem? (i := 161) rfl)) rfl
theorem bk_647 : Cond.methodLink RX7 184 yX6_valueAt ∈ BIG := big_in (tb3 (List.mem_of_getElem? (i := 162) rfl)) rfl
theorem bk_648 : Cond.methodLink RL 91 yL_areKeysSo ∈ BIG := big_in (tb3 (List.mem_of_getElem? (i := 163) rfl)) rfl
theorem bk_649 : Cond.static yL_areKeysSo ∈ BIG := big_in (tb3 (List.mem_of_getElem? (i := 164) rfl)) rfl
theorem bk_650 : Cond.code yL_areKeysSo cL_areKeysSo 7 (some .boolean) ∈ BIG := big_in (tb3 (List.mem_of_getElem? (i := 165) rfl)) rfl
theorem bk_651 : Cond.methodLink RL 56 yX7_looks ∈ BIG := big_in (tb3 (List.mem_of_getElem? (i := 166) rfl)) rfl
theorem bk_652 : Cond.instanceMethod yX7_looks ∈ BIG := big_in (tb3 (List.mem_of_getElem? (i := 167) rfl)) rfl
theorem bk_653 : Cond.selects RX7 yX7_looks yX7_looks ∈ BIG := big_in (tb3 (List.mem_of_getElem? (i := 168) rfl)) rfl
theorem bk_654 : Cond.code yX7_looks cX7_looks 5 (some .int) ∈ BIG := big_in (tb3 (List.mem_of_getElem? (i := 169) rfl)) rfl
theorem bk_655 : Cond.methodLink RX7 251 yX3_newestFor ∈ BIG := big_in (tb3 (List.mem_of_getElem? (i := 170) rfl)) rfl
theorem bk_656 : Cond.methodLink RL 59 yX7_next ∈ BIG := big_in (tb3 (List.mem_of_getElem? (i := 171) rfl)) rfl
theorem bk_657 : Cond.instanceMethod yX7_next ∈ BIG := big_in (tb3 (List.mem_of_getElem? (i := 172) rfl)) rfl
theorem bk_658 : Cond.selects RX7 yX7_next yX7_next ∈ BIG := big_in (tb3 (List.mem_of_getElem? (i := 173) rfl)) rfl
theorem bk_659 : Cond.code yX7_next cX7_next 3 (some .int) ∈ BIG := big_in (tb3 (List.mem_of_getElem? (i := 174) rfl)) rfl
theorem bk_660 : Cond.methodLink RX7 254 yX5_firstSeen ∈ BIG := big_in (tb3 (List.mem_of_getElem? (i := 175) rfl)) rfl
theorem bk_661 : Cond.instanceMethod yX5_firstSeen ∈ BIG := big_in (tb3 (List.mem_of_getElem? (i := 176) rfl)) rfl
theorem bk_662 : Cond.selects RX5 yX5_firstSeen yX5_firstSeen ∈ BIG := big_in (tb3 (List.mem_of_getElem? (i := 177) rfl)) rfl
theorem bk_663 : Cond.code yX5_firstSeen cX5_firstSeen 3 (some .int) ∈ BIG := big_in (tb3 (List.mem_of_getElem? (i := 178) rfl)) rfl
theorem bk_664 : Cond.methodLink RL 62 yX7_count ∈ BIG := big_in (tb3 (List.mem_of_getElem? (i := 179) rfl)) rfl
theorem bk_665 : Cond.instanceMethod yX7_count ∈ BIG := big_in (tb3 (List.mem_of_getElem? (i := 180) rfl)) rfl
theorem bk_666 : Cond.selects RX7 yX7_count yX7_count ∈ BIG := big_in (tb3 (List.mem_of_getElem? (i := 181) rfl)) rfl
theorem bk_667 : Cond.code yX7_count cX7_count 4 (some .int) ∈ BIG := big_in (tb3 (List.mem_of_getElem? (i := 182) rfl)) rfl
theorem bk_668 : Cond.methodLink RL 65 yX7_hidden ∈ BIG := big_in (tb3 (List.mem_of_getElem? (i := 183) rfl)) rfl
theorem bk_669 : Cond.instanceMethod yX7_hidden ∈ BIG := big_in (tb3 (List.mem_of_getElem? (i := 184) rfl)) rfl
theorem bk_670 : Cond.selects RX7 yX7_hidden yX7_hidden ∈ BIG := big_in (tb3 (List.mem_of_getElem? (i := 185) rfl)) rfl
theorem bk_671 : Cond.code yX7_hidden cX7_hidden 3 (some .int) ∈ BIG := big_in (tb3 (List.mem_of_getElem? (i := 186) rfl)) rfl
theorem bk_672 : Cond.methodLink RX7 257 yX6_isEntry ∈ BIG := big_in (tb3 (List.mem_of_getElem? (i := 187) rfl)) rfl
theorem bk_673 : Cond.methodLink RX7 260 yX3_isSeen ∈ BIG := big_in (tb3 (List.mem_of_getElem? (i := 188) rfl)) rfl
theorem bk_674 : Cond.instanceMethod yX3_isSeen ∈ BIG := big_in (tb3 (List.mem_of_getElem? (i := 189) rfl)) rfl
theorem bk_675 : Cond.selects RX3 yX3_isSeen yX3_isSeen ∈ BIG := big_in (tb3 (List.mem_of_getElem? (i := 190) rfl)) rfl
theorem bk_676 : Cond.code yX3_isSeen cX3_isSeen 4 (some .boolean) ∈ BIG := big_in (tb3 (List.mem_of_getElem? (i := 191) rfl)) rfl
theorem bk_677 : Cond.methodLink RX3 106 yX3_limitOf ∈ BIG := big_in (tb3 (List.mem_of_getElem? (i := 192) rfl)) rfl
theorem bk_678 : Cond.methodLink RL 95 yL_isMergeSo ∈ BIG := big_in (tb3 (List.mem_of_getElem? (i := 193) rfl)) rfl
theorem bk_679 : Cond.static yL_isMergeSo ∈ BIG := big_in (tb3 (List.mem_of_getElem? (i := 194) rfl)) rfl
theorem bk_680 : Cond.code yL_isMergeSo cL_isMergeSo 13 (some .boolean) ∈ BIG := big_in (tb3 (List.mem_of_getElem? (i := 195) rfl)) rfl
theorem bk_681 : Cond.methodLink RL 68 yX7_saves ∈ BIG := big_in (tb3 (List.mem_of_getElem? (i := 196) rfl)) rfl
theorem bk_682 : Cond.instanceMethod yX7_saves ∈ BIG := big_in (tb3 (List.mem_of_getElem? (i := 197) rfl)) rfl
theorem bk_683 : Cond.selects RX7 yX7_saves yX7_saves ∈ BIG := big_in (tb3 (List.mem_of_getElem? (i := 198) rfl)) rfl
theorem bk_684 : Cond.code yX7_saves cX7_saves 2 (some .int) ∈ BIG := big_in (tb3 (List.mem_of_getElem? (i := 199) rfl)) rfl
theorem bk_685 : Cond.methodLink RL 75 yX7_undo ∈ BIG := big_in (tb3 (List.mem_of_getElem? (i := 200) rfl)) rfl
theorem bk_686 : Cond.instanceMethod yX7_undo ∈ BIG := big_in (tb3 (List.mem_of_getElem? (i := 201) rfl)) rfl
theorem bk_687 : Cond.selects RX7 yX7_undo yX7_undo ∈ BIG := big_in (tb3 (List.mem_of_getElem? (i := 202) rfl)) rfl
theorem bk_688 : Cond.code yX7_undo cX7_undo 1 (some .int) ∈ BIG := big_in (tb3 (List.mem_of_getElem? (i := 203) rfl)) rfl
theorem bk_689 : Cond.methodLink RX7 245 yX1_size ∈ BIG := big_in (tb3 (List.mem_of_getElem? (i := 204) rfl)) rfl
theorem bk_690 : Cond.instanceMethod yX1_size ∈ BIG := big_in (tb3 (List.mem_of_getElem? (i := 205) rfl)) rfl
theorem bk_691 : Cond.selects RX1 yX1_size yX1_size ∈ BIG := big_in (tb3 (List.mem_of_getElem? (i := 206) rfl)) rfl
theorem bk_692 : Cond.code yX1_size cX1_size 1 (some .int) ∈ BIG := big_in (tb3 (List.mem_of_getElem? (i := 207) rfl)) rfl
theorem bk_694 : Cond.methodLink RX7 248 yX1_takeBack ∈ BIG := big_in (tb3 (List.mem_of_getElem? (i := 209) rfl)) rfl
theorem bk_695 : Cond.instanceMethod yX1_takeBack ∈ BIG := big_in (tb3 (List.mem_of_getElem? (i := 210) rfl)) rfl
theorem bk_696 : Cond.selects RX1 yX1_takeBack yX1_takeBack ∈ BIG := big_in (tb3 (List.mem_of_getElem? (i := 211) rfl)) rfl
theorem bk_697 : Cond.code yX1_takeBack cX1_takeBack 2 none ∈ BIG := big_in (tb3 (List.mem_of_getElem? (i := 212) rfl)) rfl
theorem tk_65 : Cond.arrayOver (.object RX2) ∈ lw_tbl := tb1 (List.mem_of_getElem? (i := 60) rfl)
theorem tk_67 : Cond.methodLinkNest RX0 26 yX2_init "RangeGraves" ∈ lw_tbl := tb1 (List.mem_of_getElem? (i := 62) rfl)
theorem tk_79 : Cond.fieldLinkNest RX3 122 RX0 "result" "LRangeGraves$Writes;" "RangeGraves" ∈ lw_tbl := tb1 (List.mem_of_getElem? (i := 74) rfl)
theorem tk_97 : Cond.methodLinkNest RX7 14 yX4_init "RangeGraves" ∈ lw_tbl := tb1 (List.mem_of_getElem? (i := 92) rfl)
theorem tk_117 : Cond.fieldLinkNest RX5 21 RX3 "writes" "LRangeGraves$Writes;" "RangeGraves" ∈ lw_tbl := tb1 (List.mem_of_getElem? (i := 112) rfl)
theorem tk_118 : Cond.fieldLinkNest RX0 57 RX3 "writes" "LRangeGraves$Writes;" "RangeGraves" ∈ lw_tbl := tb1 (List.mem_of_getElem? (i := 113) rfl)
theorem tk_119 : Cond.fieldLinkNest RX7 162 RX3 "writes" "LRangeGraves$Writes;" "RangeGraves" ∈ lw_tbl := tb1 (List.mem_of_getElem? (i := 114) rfl)
theorem tk_150 : Cond.arrayOver (.object RX3) ∈ lw_tbl := tb1 (List.mem_of_getElem? (i := 145) rfl)
theorem tk_164 : Cond.methodLinkNest RX7 50 yX5_init "RangeGraves" ∈ lw_tbl := tb1 (List.mem_of_getElem? (i := 159) rfl)
theorem layX0 : ∀ w ∈ u_ws RX0 TX0 5, w ∈ BIG := big_sub (by decide +kernel)
theorem layX1 : ∀ w ∈ u_ws RX1 TX1 3, w ∈ BIG := big_sub (by decide +kernel)
theorem layX2 : ∀ w ∈ u_ws RX2 TX2 2, w ∈ BIG := big_sub (by decide +kernel)
theorem layX3 : ∀ w ∈ u_ws RX3 TX3 8, w ∈ BIG := big_sub (by decide +kernel)
theorem layX4 : ∀ w ∈ u_ws RX4 TX4 2, w ∈ BIG := big_sub (by decide +kernel)
theorem layX5 : ∀ w ∈ u_ws RX5 TX5 1, w ∈ BIG := big_sub (by decide +kernel)
theorem layX6 : ∀ w ∈ u_ws RX6 TX6 5, w ∈ BIG := big_sub (by decide +kernel)
theorem layX7 : ∀ w ∈ u_ws RX7 TX7 7, w ∈ BIG := big_sub (by decide +kernel)
def M_X0_init : MT := (yX0_init, cX0_init, 2, none, { frames := 2, cells := 157, slots := 1847, locals := 43 }, 2, 0)
def M_X0_clean : MT := (yX0_clean, cX0_clean, 7, (some .int), { frames := 3, cells := 0, slots := 0, locals := 69 }, 0, 3)
def M_X0_dropHidden : MT := (yX0_dropHidden, cX0_dropHidden, 7, none, { frames := 2, cells := 0, slots := 0, locals := 43 }, 0, 3)
def M_X0_dropNeedless : MT := (yX0_dropNeedless, cX0_dropNeedless, 5, none, { frames := 1, cells := 0, slots := 0, locals := 21 }, 0, 3)
def M_X0_addRows : MT := (yX0_addRows, cX0_addRows, 7, none, { frames := 1, cells := 0, slots := 0, locals := 24 }, 0, 2)
def M_X1_init : MT := (yX1_init, cX1_init, 3, none, { frames := 3, cells := 113, slots := 19796, locals := 65 }, 2, 1)
def M_X1_size : MT := (yX1_size, cX1_size, 1, (some .int), { frames := 0, cells := 0, slots := 0, locals := 0 }, 0, 0)
def M_X1_remember : MT := (yX1_remember, cX1_remember, 2, none, { frames := 3, cells := 0, slots := 0, locals := 94 }, 0, 1)
def M_X1_takeBack : MT := (yX1_takeBack, cX1_takeBack, 2, none, { frames := 3, cells := 0, slots := 0, locals := 94 }, 0, 1)
def M_X2_init : MT := (yX2_init, cX2_init, 1, none, { frames := 1, cells := 0, slots := 0, locals := 20 }, 2, 0)
def M_X2_empty : MT := (yX2_empty, cX2_empty, 1, none, { frames := 0, cells := 0, slots := 0, locals := 0 }, 0, 0)
def M_X2_addRow : MT := (yX2_addRow, cX2_addRow, 3, none, { frames := 1, cells := 0, slots := 0, locals := 21 }, 0, 2)
def M_X2_addAll : MT := (yX2_addAll, cX2_addAll, 2, none, { frames := 0, cells := 0, slots := 0, locals := 0 }, 0, 1)
def M_X2_removeAll : MT := (yX2_removeAll, cX2_removeAll, 2, none, { frames := 0, cells := 0, slots := 0, locals := 0 }, 0, 1)
def M_X2_keepOnly : MT := (yX2_keepOnly, cX2_keepOnly, 2, none, { frames := 0, cells := 0, slots := 0, locals := 0 }, 0, 1)
def M_X2_has : MT := (yX2_has, cX2_has, 4, (some .boolean), { frames := 0, cells := 0, slots := 0, locals := 0 }, 0, 1)
def M_X3_init : MT := (yX3_init, cX3_init, 3, none, { frames := 2, cells := 7, slots := 1405, locals := 43 }, 2, 2)
def M_X3_become : MT := (yX3_become, cX3_become, 2, none, { frames := 2, cells := 0, slots := 0, locals := 73 }, 0, 1)
def M_X3_size : MT := (yX3_size, cX3_size, 1, (some .int), { frames := 1, cells := 0, slots := 0, locals := 20 }, 0, 0)
def M_X3_isFull : MT := (yX3_isFull, cX3_isFull, 1, (some .boolean), { frames := 1, cells := 0, slots := 0, locals := 20 }, 0, 0)
def M_X3_runs : MT := (yX3_runs, cX3_runs, 1, (some .int), { frames := 0, cells := 0, slots := 0, locals := 0 }, 0, 0)
def M_X3_eyes : MT := (yX3_eyes, cX3_eyes, 1, (some .int), { frames := 0, cells := 0, slots := 0, locals := 0 }, 0, 0)
def M_X3_latest : MT := (yX3_latest, cX3_latest, 1, (some .int), { frames := 0, cells := 0, slots := 0, locals := 0 }, 0, 0)
def M_X3_fewer : MT := (yX3_fewer, cX3_fewer, 1, (some .int), { frames := 0, cells := 0, slots := 0, locals := 0 }, 0, 0)
def M_X3_isRun : MT := (yX3_isRun, cX3_isRun, 2, (some .boolean), { frames := 0, cells := 0, slots := 0, locals := 0 }, 0, 1)
def M_X3_isPlace : MT := (yX3_isPlace, cX3_isPlace, 2, (some .boolean), { frames := 1, cells := 0, slots := 0, locals := 21 }, 0, 1)
def M_X3_startOf : MT := (yX3_startOf, cX3_startOf, 3, (some .int), { frames := 0, cells := 0, slots := 0, locals := 0 }, 0, 1)
def M_X3_endOf : MT := (yX3_endOf, cX3_endOf, 3, (some .int), { frames := 1, cells := 0, slots := 0, locals := 20 }, 0, 1)
def M_X3_sizeOf : MT := (yX3_sizeOf, cX3_sizeOf, 2, (some .int), { frames := 2, cells := 0, slots := 0, locals := 42 }, 0, 1)
def M_X3_entriesIn : MT := (yX3_entriesIn, cX3_entriesIn, 5, (some .int), { frames := 1, cells := 0, slots := 0, locals := 21 }, 0, 2)
def M_X3_isEye : MT := (yX3_isEye, cX3_isEye, 2, (some .boolean), { frames := 0, cells := 0, slots := 0, locals := 0 }, 0, 1)
def M_X3_isView : MT := (yX3_isView, cX3_isView, 2, (some .boolean), { frames := 1, cells := 0, slots := 0, locals := 21 }, 0, 1)
def M_X3_limitOf : MT := (yX3_limitOf, cX3_limitOf, 2, (some .int), { frames := 1, cells := 0, slots := 0, locals := 21 }, 0, 1)
def M_X3_eyesBefore : MT := (yX3_eyesBefore, cX3_eyesBefore, 4, (some .int), { frames := 0, cells := 0, slots := 0, locals := 0 }, 0, 1)
def M_X3_newestFor : MT := (yX3_newestFor, cX3_newestFor, 4, (some .int), { frames := 1, cells := 0, slots := 0, locals := 22 }, 0, 2)
def M_X3_valueFor : MT := (yX3_valueFor, cX3_valueFor, 3, (some .int), { frames := 2, cells := 0, slots := 0, locals := 45 }, 0, 2)
def M_X3_isSeen : MT := (yX3_isSeen, cX3_isSeen, 4, (some .boolean), { frames := 2, cells := 0, slots := 0, locals := 45 }, 0, 1)
def M_X3_canOpen : MT := (yX3_canOpen, cX3_canOpen, 1, (some .boolean), { frames := 0, cells := 0, slots := 0, locals := 0 }, 0, 0)
def M_X3_canFlush : MT := (yX3_canFlush, cX3_canFlush, 1, (some .boolean), { frames := 4, cells := 0, slots := 0, locals := 95 }, 0, 0)
def M_X3_canMerge : MT := (yX3_canMerge, cX3_canMerge, 3, (some .boolean), { frames := 4, cells := 0, slots := 0, locals := 95 }, 0, 1)
def M_X3_savedBy : MT := (yX3_savedBy, cX3_savedBy, 2, (some .int), { frames := 4, cells := 0, slots := 0, locals := 95 }, 0, 1)
def M_X3_addWrite : MT := (yX3_addWrite, cX3_addWrite, 4, none, { frames := 1, cells := 0, slots := 0, locals := 24 }, 0, 3)
def M_X3_addEye : MT := (yX3_addEye, cX3_addEye, 1, none, { frames := 0, cells := 0, slots := 0, locals := 0 }, 0, 0)
def M_X3_dropEye : MT := (yX3_dropEye, cX3_dropEye, 3, none, { frames := 1, cells := 0, slots := 0, locals := 21 }, 0, 1)
def M_X3_dropAllEyes : MT := (yX3_dropAllEyes, cX3_dropAllEyes, 1, none, { frames := 0, cells := 0, slots := 0, locals := 0 }, 0, 0)
def M_X3_flushMemory : MT := (yX3_flushMemory, cX3_flushMemory, 2, (some .int), { frames := 4, cells := 0, slots := 0, locals := 95 }, 0, 0)
def M_X3_mergeRuns : MT := (yX3_mergeRuns, cX3_mergeRuns, 7, (some .int), { frames := 4, cells := 0, slots := 0, locals := 95 }, 0, 1)
def M_X4_init : MT := (yX4_init, cX4_init, 1, none, { frames := 1, cells := 1, slots := 120, locals := 20 }, 2, 0)
def M_X5_init : MT := (yX5_init, cX5_init, 1, none, { frames := 1, cells := 1, slots := 100, locals := 20 }, 2, 0)
def M_X5_look : MT := (yX5_look, cX5_look, 6, none, { frames := 1, cells := 0, slots := 0, locals := 23 }, 0, 2)
def M_X5_sum : MT := (yX5_sum, cX5_sum, 3, (some .int), { frames := 0, cells := 0, slots := 0, locals := 0 }, 0, 0)
def M_X5_seenIn : MT := (yX5_seenIn, cX5_seenIn, 5, (some .int), { frames := 1, cells := 0, slots := 0, locals := 21 }, 0, 2)
def M_X5_firstSeen : MT := (yX5_firstSeen, cX5_firstSeen, 3, (some .int), { frames := 1, cells := 0, slots := 0, locals := 21 }, 0, 1)
def M_X6_init : MT := (yX6_init, cX6_init, 3, none, { frames := 1, cells := 4, slots := 1392, locals := 21 }, 2, 1)
def M_X6_size : MT := (yX6_size, cX6_size, 1, (some .int), { frames := 0, cells := 0, slots := 0, locals := 0 }, 0, 0)
def M_X6_empty : MT := (yX6_empty, cX6_empty, 1, none, { frames := 0, cells := 0, slots := 0, locals := 0 }, 0, 0)
def M_X6_add : MT := (yX6_add, cX6_add, 5, none, { frames := 0, cells := 0, slots := 0, locals := 0 }, 0, 4)
def M_X6_numberAt : MT := (yX6_numberAt, cX6_numberAt, 2, (some .int), { frames := 0, cells := 0, slots := 0, locals := 0 }, 0, 1)
def M_X6_firstAt : MT := (yX6_firstAt, cX6_firstAt, 2, (some .int), { frames := 0, cells := 0, slots := 0, locals := 0 }, 0, 1)
def M_X6_lastAt : MT := (yX6_lastAt, cX6_lastAt, 2, (some .int), { frames := 0, cells := 0, slots := 0, locals := 0 }, 0, 1)
def M_X6_valueAt : MT := (yX6_valueAt, cX6_valueAt, 2, (some .int), { frames := 0, cells := 0, slots := 0, locals := 0 }, 0, 1)
def M_X6_isEntry : MT := (yX6_isEntry, cX6_isEntry, 2, (some .boolean), { frames := 0, cells := 0, slots := 0, locals := 0 }, 0, 1)
def M_X6_concerns : MT := (yX6_concerns, cX6_concerns, 3, (some .boolean), { frames := 0, cells := 0, slots := 0, locals := 0 }, 0, 2)
def M_X6_replace : MT := (yX6_replace, cX6_replace, 6, none, { frames := 1, cells := 0, slots := 0, locals := 48 }, 0, 3)
def M_X7_init : MT := (yX7_init, cX7_init, 3, none, { frames := 4, cells := 310, slots := 27530, locals := 87 }, 2, 0)
def M_X7_about : MT := (yX7_about, cX7_about, 2, (some .int), { frames := 3, cells := 0, slots := 0, locals := 69 }, 0, 1)
def M_X7_get : MT := (yX7_get, cX7_get, 4, (some .int), { frames := 3, cells := 0, slots := 0, locals := 67 }, 0, 2)
def M_X7_run : MT := (yX7_run, cX7_run, 3, (some .int), { frames := 3, cells := 0, slots := 0, locals := 63 }, 0, 2)
def M_X7_write : MT := (yX7_write, cX7_write, 5, (some .int), { frames := 3, cells := 0, slots := 0, locals := 63 }, 0, 3)
def M_X7_put : MT := (yX7_put, cX7_put, 3, (some .int), { frames := 4, cells := 0, slots := 0, locals := 115 }, 0, 2)
def M_X7_bury : MT := (yX7_bury, cX7_bury, 3, (some .int), { frames := 4, cells := 0, slots := 0, locals := 115 }, 0, 2)
def M_X7_open : MT := (yX7_open, cX7_open, 1, (some .int), { frames := 4, cells := 0, slots := 0, locals := 115 }, 0, 0)
def M_X7_close : MT := (yX7_close, cX7_close, 2, (some .int), { frames := 4, cells := 0, slots := 0, locals := 115 }, 0, 1)
def M_X7_flush : MT := (yX7_flush, cX7_flush, 1, (some .int), { frames := 5, cells := 0, slots := 0, locals := 116 }, 0, 0)
def M_X7_merge : MT := (yX7_merge, cX7_merge, 2, (some .int), { frames := 5, cells := 0, slots := 0, locals := 121 }, 0, 1)
def M_X7_undo : MT := (yX7_undo, cX7_undo, 1, (some .int), { frames := 4, cells := 0, slots := 0, locals := 115 }, 0, 0)
def M_X7_looks : MT := (yX7_looks, cX7_looks, 5, (some .int), { frames := 3, cells := 0, slots := 0, locals := 63 }, 0, 1)
def M_X7_next : MT := (yX7_next, cX7_next, 3, (some .int), { frames := 2, cells := 0, slots := 0, locals := 48 }, 0, 2)
def M_X7_count : MT := (yX7_count, cX7_count, 4, (some .int), { frames := 2, cells := 0, slots := 0, locals := 48 }, 0, 3)
def M_X7_hidden : MT := (yX7_hidden, cX7_hidden, 3, (some .int), { frames := 3, cells := 0, slots := 0, locals := 68 }, 0, 0)
def M_X7_saves : MT := (yX7_saves, cX7_saves, 2, (some .int), { frames := 5, cells := 0, slots := 0, locals := 117 }, 0, 1)
def M_X7_best : MT := (yX7_best, cX7_best, 4, (some .int), { frames := 5, cells := 0, slots := 0, locals := 117 }, 0, 0)
def M_X7_fewest : MT := (yX7_fewest, cX7_fewest, 2, (some .int), { frames := 5, cells := 0, slots := 0, locals := 121 }, 0, 0)
def M_X7_isKey : MT := (yX7_isKey, cX7_isKey, 1, (some .boolean), { frames := 0, cells := 0, slots := 0, locals := 0 }, 1, 1)
def M_X7_isValue : MT := (yX7_isValue, cX7_isValue, 1, (some .boolean), { frames := 0, cells := 0, slots := 0, locals := 0 }, 1, 1)
def M_X7_seenNow : MT := (yX7_seenNow, cX7_seenNow, 2, (some .int), { frames := 2, cells := 0, slots := 0, locals := 48 }, 0, 1)
def M_J7_fill_53178 : MT := (yJ7_fill_53178, cJ7_fill_53178, 4, none, { frames := 0, cells := 0, slots := 0, locals := 0 }, 1, 2)
def M_L_cell : MT := (yL_cell, cL_cell, 2, (some .int), { frames := 0, cells := 0, slots := 0, locals := 0 }, 1, 2)
def M_L_low : MT := (yL_low, cL_low, 2, (some .int), { frames := 0, cells := 0, slots := 0, locals := 0 }, 1, 2)
def M_L_does : MT := (yL_does, cL_does, 6, (some .int), { frames := 6, cells := 0, slots := 0, locals := 142 }, 1, 2)
def M_L_tale : MT := (yL_tale, cL_tale, 5, (some .long), { frames := 4, cells := 0, slots := 0, locals := 90 }, 1, 2)
def M_L_areWritesSo : MT := (yL_areWritesSo, cL_areWritesSo, 14, (some .boolean), { frames := 4, cells := 0, slots := 0, locals := 90 }, 1, 1)
def M_L_areKeysSo : MT := (yL_areKeysSo, cL_areKeysSo, 7, (some .boolean), { frames := 4, cells := 0, slots := 0, locals := 90 }, 1, 2)
def M_L_isMergeSo : MT := (yL_isMergeSo, cL_isMergeSo, 13, (some .boolean), { frames := 6, cells := 0, slots := 0, locals := 142 }, 1, 2)
def M_L_law : MT := (yL_law, cL_law, 15, (some .boolean), room_1, 1, 1)
