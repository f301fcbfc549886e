theorem tb0 {w : Cond} (h : w ∈ k2_sels lw_privs) : w ∈ lw_tbl := List.mem_append_left _ h
theorem tb1 {w : Cond} (h : w ∈ tables_1_1) : w ∈ lw_tbl := List.mem_append_right _ (show w ∈ tables_1 from List.mem_append_left _ h)
theorem tb2 {w : Cond} (h : w ∈ tables_1_2) : w ∈ lw_tbl := List.mem_append_right _ (show w ∈ tables_1 from List.mem_append_right _ (List.mem_append_left _ h))
theorem tb3 {w : Cond} (h : w ∈ tables_1_3) : w ∈ lw_tbl := List.mem_append_right _ (show w ∈ tables_1 from List.mem_append_right _ (List.mem_append_right _ (List.mem_append_left _ h)))
theorem tb4 {w : Cond} (h : w ∈ tables_1_4) : w ∈ lw_tbl := List.mem_append_right _ (show w ∈ tables_1 from List.mem_append_right _ (List.mem_append_right _ (List.mem_append_right _ (List.mem_append_left _ h))))
theorem tb5 {w : Cond} (h : w ∈ tables_1_5) : w ∈ lw_tbl := List.mem_append_right _ (show w ∈ tables_1 from List.mem_append_right _ (List.mem_append_right _ (List.mem_append_right _ (List.mem_append_right _ (List.mem_append_left _ h)))))
theorem tb6 {w : Cond} (h : w ∈ tables_1_6) : w ∈ lw_tbl := List.mem_append_right _ (show w ∈ tables_1 from List.mem_append_right _ (List.mem_append_right _ (List.mem_append_right _ (List.mem_append_right _ (List.mem_append_right _ (h))))))
theorem bk_0 : Cond.selects RX4 yX4_digitFits yX4_digitFits ∈ BIG := big_in (tb0 (List.mem_of_getElem? (i := 0) rfl)) rfl
theorem bk_1 : Cond.selects RX0 yX0_dropHidden yX0_dropHidden ∈ BIG := big_in (tb0 (List.mem_of_getElem? (i := 1) rfl)) rfl
theorem bk_2 : Cond.selects RX0 yX0_dropNeedless yX0_dropNeedless ∈ BIG := big_in (tb0 (List.mem_of_getElem? (i := 2) rfl)) rfl
theorem bk_3 : Cond.selects RX0 yX0_addRows yX0_addRows ∈ BIG := big_in (tb0 (List.mem_of_getElem? (i := 3) rfl)) rfl
theorem bk_5 : Cond.selects RX7 yX7_doTextCommand yX7_doTextCommand ∈ BIG := big_in (tb0 (List.mem_of_getElem? (i := 5) rfl)) rfl
theorem bk_6 : Cond.selects RX7 yX7_seenNow yX7_seenNow ∈ BIG := big_in (tb0 (List.mem_of_getElem? (i := 6) rfl)) rfl
theorem bk_7 : Cond.selects RX7 yX7_doGroup yX7_doGroup ∈ BIG := big_in (tb0 (List.mem_of_getElem? (i := 7) rfl)) rfl
theorem bk_8 : Cond.selects RX7 yX7_doTurn yX7_doTurn ∈ BIG := big_in (tb0 (List.mem_of_getElem? (i := 8) rfl)) rfl
theorem bk_9 : Cond.selects RX8 yX8_holds yX8_holds ∈ BIG := big_in (tb0 (List.mem_of_getElem? (i := 9) rfl)) rfl
theorem bk_10 : Cond.selects RX8 yX8_go yX8_go ∈ BIG := big_in (tb0 (List.mem_of_getElem? (i := 10) rfl)) rfl
theorem bk_11 : Cond.selects RX8 yX8_sign yX8_sign ∈ BIG := big_in (tb0 (List.mem_of_getElem? (i := 11) rfl)) rfl
theorem bk_12 : Cond.selects RX8 yX8_command yX8_command ∈ BIG := big_in (tb0 (List.mem_of_getElem? (i := 12) rfl)) rfl
theorem bk_13 : Cond.selects RX8 yX8_key yX8_key ∈ BIG := big_in (tb0 (List.mem_of_getElem? (i := 13) rfl)) rfl
theorem bk_14 : Cond.selects RX8 yX8_does yX8_does ∈ BIG := big_in (tb0 (List.mem_of_getElem? (i := 14) rfl)) rfl
theorem bk_15 : Cond.selects RX8 yX8_putFault yX8_putFault ∈ BIG := big_in (tb0 (List.mem_of_getElem? (i := 15) rfl)) rfl
theorem bk_16 : Cond.selects RX8 yX8_all yX8_all ∈ BIG := big_in (tb0 (List.mem_of_getElem? (i := 16) rfl)) rfl
theorem bk_17 : Cond.selects RX8 yX8_begin yX8_begin ∈ BIG := big_in (tb0 (List.mem_of_getElem? (i := 17) rfl)) rfl
theorem bk_18 : Cond.selects RX8 yX8_buryFault yX8_buryFault ∈ BIG := big_in (tb0 (List.mem_of_getElem? (i := 18) rfl)) rfl
theorem bk_19 : Cond.selects RX8 yX8_flushFault yX8_flushFault ∈ BIG := big_in (tb0 (List.mem_of_getElem? (i := 19) rfl)) rfl
theorem bk_20 : Cond.selects RX8 yX8_clean yX8_clean ∈ BIG := big_in (tb0 (List.mem_of_getElem? (i := 20) rfl)) rfl
theorem bk_21 : Cond.selects RX8 yX8_isEntry yX8_isEntry ∈ BIG := big_in (tb0 (List.mem_of_getElem? (i := 21) rfl)) rfl
theorem bk_22 : Cond.selects RX8 yX8_isCovered yX8_isCovered ∈ BIG := big_in (tb0 (List.mem_of_getElem? (i := 22) rfl)) rfl
theorem bk_23 : Cond.selects RX8 yX8_concerns yX8_concerns ∈ BIG := big_in (tb0 (List.mem_of_getElem? (i := 23) rfl)) rfl
theorem bk_24 : Cond.selects RX8 yX8_areParted yX8_areParted ∈ BIG := big_in (tb0 (List.mem_of_getElem? (i := 24) rfl)) rfl
theorem bk_25 : Cond.selects RX8 yX8_leave yX8_leave ∈ BIG := big_in (tb0 (List.mem_of_getElem? (i := 25) rfl)) rfl
theorem bk_26 : Cond.selects RX8 yX8_cut yX8_cut ∈ BIG := big_in (tb0 (List.mem_of_getElem? (i := 26) rfl)) rfl
theorem bk_27 : Cond.selects RX8 yX8_hasOlderEntry yX8_hasOlderEntry ∈ BIG := big_in (tb0 (List.mem_of_getElem? (i := 27) rfl)) rfl
theorem bk_28 : Cond.selects RX8 yX8_isRoomFor yX8_isRoomFor ∈ BIG := big_in (tb0 (List.mem_of_getElem? (i := 28) rfl)) rfl
theorem bk_29 : Cond.selects RX8 yX8_mergeFault yX8_mergeFault ∈ BIG := big_in (tb0 (List.mem_of_getElem? (i := 29) rfl)) rfl
theorem bk_30 : Cond.selects RX8 yX8_isRun yX8_isRun ∈ BIG := big_in (tb0 (List.mem_of_getElem? (i := 30) rfl)) rfl
theorem bk_31 : Cond.selects RX8 yX8_isEye yX8_isEye ∈ BIG := big_in (tb0 (List.mem_of_getElem? (i := 31) rfl)) rfl
theorem bk_32 : Cond.selects RX8 yX8_writes yX8_writes ∈ BIG := big_in (tb0 (List.mem_of_getElem? (i := 32) rfl)) rfl
theorem bk_33 : Cond.selects RX8 yX8_buries yX8_buries ∈ BIG := big_in (tb0 (List.mem_of_getElem? (i := 33) rfl)) rfl
theorem bk_34 : Cond.selects RX8 yX8_countSeen yX8_countSeen ∈ BIG := big_in (tb0 (List.mem_of_getElem? (i := 34) rfl)) rfl
theorem bk_35 : Cond.selects RX8 yX8_seen yX8_seen ∈ BIG := big_in (tb0 (List.mem_of_getElem? (i := 35) rfl)) rfl
theorem bk_36 : Cond.selects RX8 yX8_upTo yX8_upTo ∈ BIG := big_in (tb0 (List.mem_of_getElem? (i := 36) rfl)) rfl
theorem bk_37 : Cond.selects RX8 yX8_newest yX8_newest ∈ BIG := big_in (tb0 (List.mem_of_getElem? (i := 37) rfl)) rfl
theorem bk_38 : Cond.selects RX8 yX8_flushes yX8_flushes ∈ BIG := big_in (tb0 (List.mem_of_getElem? (i := 38) rfl)) rfl
theorem bk_39 : Cond.selects RX8 yX8_replace yX8_replace ∈ BIG := big_in (tb0 (List.mem_of_getElem? (i := 39) rfl)) rfl
theorem bk_40 : Cond.selects RX8 yX8_merges yX8_merges ∈ BIG := big_in (tb0 (List.mem_of_getElem? (i := 40) rfl)) rfl
theorem bk_41 : Cond.selects RX8 yX8_opens yX8_opens ∈ BIG := big_in (tb0 (List.mem_of_getElem? (i := 41) rfl)) rfl
theorem bk_42 : Cond.selects RX8 yX8_closes yX8_closes ∈ BIG := big_in (tb0 (List.mem_of_getElem? (i := 42) rfl)) rfl
theorem bk_43 : Cond.selects RX8 yX8_told yX8_told ∈ BIG := big_in (tb0 (List.mem_of_getElem? (i := 43) rfl)) rfl
theorem bk_44 : Cond.selects RX8 yX8_kinds yX8_kinds ∈ BIG := big_in (tb0 (List.mem_of_getElem? (i := 44) rfl)) rfl
theorem bk_45 : Cond.selects RX8 yX8_sumSeen yX8_sumSeen ∈ BIG := big_in (tb0 (List.mem_of_getElem? (i := 45) rfl)) rfl
theorem bk_46 : Cond.selects RX8 yX8_isView yX8_isView ∈ BIG := big_in (tb0 (List.mem_of_getElem? (i := 46) rfl)) rfl
theorem bk_47 : Cond.selects RX8 yX8_ofRun yX8_ofRun ∈ BIG := big_in (tb0 (List.mem_of_getElem? (i := 47) rfl)) rfl
theorem bk_48 : Cond.selects RX8 yX8_manyIn yX8_manyIn ∈ BIG := big_in (tb0 (List.mem_of_getElem? (i := 48) rfl)) rfl
theorem bk_49 : Cond.selects RX8 yX8_keysOf yX8_keysOf ∈ BIG := big_in (tb0 (List.mem_of_getElem? (i := 49) rfl)) rfl
theorem bk_50 : Cond.selects RX8 yX8_remember yX8_remember ∈ BIG := big_in (tb0 (List.mem_of_getElem? (i := 50) rfl)) rfl
theorem bk_51 : Cond.selects RX8 yX8_lookedAt yX8_lookedAt ∈ BIG := big_in (tb0 (List.mem_of_getElem? (i := 51) rfl)) rfl
theorem bk_52 : Cond.selects RX8 yX8_isIn yX8_isIn ∈ BIG := big_in (tb0 (List.mem_of_getElem? (i := 52) rfl)) rfl
theorem bk_53 : Cond.selects RX8 yX8_nextSeen yX8_nextSeen ∈ BIG := big_in (tb0 (List.mem_of_getElem? (i := 53) rfl)) rfl
theorem bk_54 : Cond.selects RX8 yX8_newestGrave yX8_newestGrave ∈ BIG := big_in (tb0 (List.mem_of_getElem? (i := 54) rfl)) rfl
theorem bk_55 : Cond.selects RX8 yX8_savedBy yX8_savedBy ∈ BIG := big_in (tb0 (List.mem_of_getElem? (i := 55) rfl)) rfl
theorem bk_56 : Cond.selects RX8 yX8_ran yX8_ran ∈ BIG := big_in (tb0 (List.mem_of_getElem? (i := 56) rfl)) rfl
theorem bk_57 : Cond.selects RX8 yX8_putAside yX8_putAside ∈ BIG := big_in (tb0 (List.mem_of_getElem? (i := 57) rfl)) rfl
theorem bk_58 : Cond.selects RX8 yX8_doesWell yX8_doesWell ∈ BIG := big_in (tb0 (List.mem_of_getElem? (i := 58) rfl)) rfl
theorem bk_59 : Cond.selects RX8 yX8_putBack yX8_putBack ∈ BIG := big_in (tb0 (List.mem_of_getElem? (i := 59) rfl)) rfl
theorem bk_60 : Cond.selects RX8 yX8_simulated yX8_simulated ∈ BIG := big_in (tb0 (List.mem_of_getElem? (i := 60) rfl)) rfl
theorem bk_61 : Cond.selects RX8 yX8_turn yX8_turn ∈ BIG := big_in (tb0 (List.mem_of_getElem? (i := 61) rfl)) rfl
theorem bk_62 : Cond.initialized RL ∈ BIG := big_in (tb1 (List.mem_of_getElem? (i := 0) rfl)) rfl
theorem bk_63 : Cond.initialized RX7 ∈ BIG := big_in (tb1 (List.mem_of_getElem? (i := 1) rfl)) rfl
theorem bk_64 : Cond.initialized RX0 ∈ BIG := big_in (tb1 (List.mem_of_getElem? (i := 2) rfl)) rfl
theorem bk_65 : Cond.initialized RX6 ∈ BIG := big_in (tb1 (List.mem_of_getElem? (i := 3) rfl)) rfl
theorem bk_66 : Cond.initialized RJ9 ∈ BIG := big_in (tb1 (List.mem_of_getElem? (i := 4) rfl)) rfl
theorem bk_67 : Cond.initialized RX2 ∈ BIG := big_in (tb1 (List.mem_of_getElem? (i := 5) rfl)) rfl
theorem bk_68 : Cond.initialized RX4 ∈ BIG := big_in (tb1 (List.mem_of_getElem? (i := 6) rfl)) rfl
theorem bk_69 : Cond.initialized RX3 ∈ BIG := big_in (tb1 (List.mem_of_getElem? (i := 7) rfl)) rfl
theorem bk_70 : Cond.initialized RX1 ∈ BIG := big_in (tb1 (List.mem_of_getElem? (i := 8) rfl)) rfl
theorem bk_71 : Cond.initialized RX5 ∈ BIG := big_in (tb1 (List.mem_of_getElem? (i := 9) rfl)) rfl
theorem bk_72 : Cond.initialized RX8 ∈ BIG := big_in (tb1 (List.mem_of_getElem? (i := 10) rfl)) rfl
theorem bk_76 : Cond.initialized "java/lang/IllegalArgumentException" ∈ BIG := big_in (tb1 (List.mem_of_getElem? (i := 14) rfl)) rfl
theorem bk_77 : Cond.initialized "java/lang/IllegalStateException" ∈ BIG := big_in (tb1 (List.mem_of_getElem? (i := 15) rfl)) rfl
theorem bk_78 : Cond.initialized RJ10 ∈ BIG := big_in (tb1 (List.mem_of_getElem? (i := 16) rfl)) rfl
theorem bk_79 : Cond.initialized RJ7 ∈ BIG := big_in (tb1 (List.mem_of_getElem? (i := 17) rfl)) rfl
theorem bk_80 : Cond.initialized "java/lang/IndexOutOfBoundsException" ∈ BIG := big_in (tb1 (List.mem_of_getElem? (i := 18) rfl)) rfl
theorem bk_81 : Cond.initialized RJ13 ∈ BIG := big_in (tb1 (List.mem_of_getElem? (i := 19) rfl)) rfl
theorem bk_82 : Cond.classLink RL 8 RX7 ∈ BIG := big_in (tb1 (List.mem_of_getElem? (i := 20) rfl)) rfl
theorem bk_83 : Cond.instantiable RX7 7 ∈ BIG := big_in (tb1 (List.mem_of_getElem? (i := 21) rfl)) rfl
theorem bk_84 : Cond.methodLink RL 90 yX7_init ∈ BIG := big_in (tb1 (List.mem_of_getElem? (i := 22) rfl)) rfl
theorem bk_85 : Cond.instanceMethod yX7_init ∈ BIG := big_in (tb1 (List.mem_of_getElem? (i := 23) rfl)) rfl
theorem bk_86 : Cond.code yX7_init cX7_init 3 none ∈ BIG := big_in (tb1 (List.mem_of_getElem? (i := 24) rfl)) rfl
theorem bk_87 : Cond.methodLink RX7 3 objectInit ∈ BIG := big_in (tb1 (List.mem_of_getElem? (i := 25) rfl)) rfl
theorem bk_88 : Cond.instanceMethod objectInit ∈ BIG := big_in (tb1 (List.mem_of_getElem? (i := 26) rfl)) rfl
theorem bk_89 : Cond.code objectInit ⟨#[0xb1]⟩ 1 none ∈ BIG := big_in (tb1 (List.mem_of_getElem? (i := 27) rfl)) rfl
theorem bk_90 : Cond.classLink RX7 9 RX0 ∈ BIG := big_in (tb1 (List.mem_of_getElem? (i := 28) rfl)) rfl
theorem bk_91 : Cond.instantiable RX0 5 ∈ BIG := big_in (tb1 (List.mem_of_getElem? (i := 29) rfl)) rfl
theorem bk_92 : Cond.methodLink RX7 11 yX0_init ∈ BIG := big_in (tb1 (List.mem_of_getElem? (i := 30) rfl)) rfl
theorem bk_93 : Cond.instanceMethod yX0_init ∈ BIG := big_in (tb1 (List.mem_of_getElem? (i := 31) rfl)) rfl
theorem bk_94 : Cond.code yX0_init cX0_init 2 none ∈ BIG := big_in (tb1 (List.mem_of_getElem? (i := 32) rfl)) rfl
theorem bk_95 : Cond.methodLink RX0 3 objectInit ∈ BIG := big_in (tb1 (List.mem_of_getElem? (i := 33) rfl)) rfl
theorem bk_96 : Cond.classLink RX0 9 RX6 ∈ BIG := big_in (tb1 (List.mem_of_getElem? (i := 34) rfl)) rfl
theorem bk_97 : Cond.instantiable RX6 5 ∈ BIG := big_in (tb1 (List.mem_of_getElem? (i := 35) rfl)) rfl
theorem bk_98 : Cond.methodLink RX0 11 yX6_init ∈ BIG := big_in (tb1 (List.mem_of_getElem? (i := 36) rfl)) rfl
theorem bk_99 : Cond.instanceMethod yX6_init ∈ BIG := big_in (tb1 (List.mem_of_getElem? (i := 37) rfl)) rfl
theorem bk_100 : Cond.code yX6_init cX6_init 3 none ∈ BIG := big_in (tb1 (List.mem_of_getElem? (i := 38) rfl)) rfl
theorem bk_101 : Cond.methodLink RX6 3 objectInit ∈ BIG := big_in (tb1 (List.mem_of_getElem? (i := 39) rfl)) rfl
theorem bk_102 : Cond.methodLink RX6 9 yJ9_max_7cf53 ∈ BIG := big_in (tb1 (List.mem_of_getElem? (i := 40) rfl)) rfl
theorem bk_103 : Cond.static yJ9_max_7cf53 ∈ BIG := big_in (tb1 (List.mem_of_getElem? (i := 41) rfl)) rfl
theorem bk_104 : Cond.code Lib.Math.max.name Lib.Math.max.code 2 (some .int) ∈ BIG := big_in (tb1 (List.mem_of_getElem? (i := 42) rfl)) rfl
theorem bk_105 : Cond.fieldLink RX6 15 RX6 "numbers" "[I" ∈ BIG := big_in (tb1 (List.mem_of_getElem? (i := 43) rfl)) rfl
theorem bk_106 : Cond.fieldLink RX6 21 RX6 "firsts" "[I" ∈ BIG := big_in (tb1 (List.mem_of_getElem? (i := 44) rfl)) rfl
theorem bk_107 : Cond.fieldLink RX6 24 RX6 "lasts" "[I" ∈ BIG := big_in (tb1 (List.mem_of_getElem? (i := 45) rfl)) rfl
theorem bk_108 : Cond.fieldLink RX6 27 RX6 "values" "[I" ∈ BIG := big_in (tb1 (List.mem_of_getElem? (i := 46) rfl)) rfl
theorem bk_109 : Cond.fieldLink RX6 30 RX6 "size" "I" ∈ BIG := big_in (tb1 (List.mem_of_getElem? (i := 47) rfl)) rfl
theorem bk_121 : Cond.arrayClass .int ∈ BIG := big_in (tb1 (List.mem_of_getElem? (i := 59) rfl)) rfl
theorem bk_122 : Cond.classLink RX0 20 RX2 ∈ BIG := big_in (tb1 (List.mem_of_getElem? (i := 60) rfl)) rfl
theorem bk_124 : Cond.instantiable RX2 2 ∈ BIG := big_in (tb1 (List.mem_of_getElem? (i := 62) rfl)) rfl
theorem bk_126 : Cond.instanceMethod yX2_init ∈ BIG := big_in (tb1 (List.mem_of_getElem? (i := 64) rfl)) rfl
theorem bk_127 : Cond.code yX2_init cX2_init 1 none ∈ BIG := big_in (tb1 (List.mem_of_getElem? (i := 65) rfl)) rfl
theorem bk_128 : Cond.methodLink RX2 3 objectInit ∈ BIG := big_in (tb1 (List.mem_of_getElem? (i := 66) rfl)) rfl
theorem bk_129 : Cond.fieldLink RX2 9 RX2 "low" "J" ∈ BIG := big_in (tb1 (List.mem_of_getElem? (i := 67) rfl)) rfl
theorem bk_130 : Cond.fieldLink RX2 15 RX2 "high" "J" ∈ BIG := big_in (tb1 (List.mem_of_getElem? (i := 68) rfl)) rfl
theorem bk_136 : Cond.fieldLink RX0 14 RX0 "result" "LRangeGraves$Writes;" ∈ BIG := big_in (tb1 (List.mem_of_getElem? (i := 74) rfl)) rfl
theorem bk_138 : Cond.fieldLink RX0 22 RX0 "left" "[LRangeGraves$Keys;" ∈ BIG := big_in (tb1 (List.mem_of_getElem? (i := 76) rfl)) rfl
theorem bk_139 : Cond.fieldLink RX0 27 RX0 "newerWrites" "LRangeGraves$Keys;" ∈ BIG := big_in (tb1 (List.mem_of_getElem? (i := 77) rfl)) rfl
theorem bk_140 : Cond.fieldLink RX0 31 RX0 "newerGraves" "LRangeGraves$Keys;" ∈ BIG := big_in (tb1 (List.mem_of_getElem? (i := 78) rfl)) rfl
theorem bk_141 : Cond.fieldLink RX0 34 RX0 "olderEntries" "LRangeGraves$Keys;" ∈ BIG := big_in (tb1 (List.mem_of_getElem? (i := 79) rfl)) rfl
theorem bk_153 : Cond.classLink RX7 12 RX4 ∈ BIG := big_in (tb1 (List.mem_of_getElem? (i := 91) rfl)) rfl
theorem bk_154 : Cond.instantiable RX4 2 ∈ BIG := big_in (tb1 (List.mem_of_getElem? (i := 92) rfl)) rfl
theorem bk_156 : Cond.instanceMethod yX4_init ∈ BIG := big_in (tb1 (List.mem_of_getElem? (i := 94) rfl)) rfl
theorem bk_157 : Cond.code yX4_init cX4_init 1 none ∈ BIG := big_in (tb1 (List.mem_of_getElem? (i := 95) rfl)) rfl
theorem bk_158 : Cond.methodLink RX4 3 objectInit ∈ BIG := big_in (tb1 (List.mem_of_getElem? (i := 96) rfl)) rfl
theorem bk_159 : Cond.fieldLink RX4 9 RX4 "signs" "[I" ∈ BIG := big_in (tb1 (List.mem_of_getElem? (i := 97) rfl)) rfl
theorem bk_160 : Cond.fieldLink RX4 15 RX4 "length" "I" ∈ BIG := big_in (tb1 (List.mem_of_getElem? (i := 98) rfl)) rfl
theorem bk_166 : Cond.classLink RX7 19 RX3 ∈ BIG := big_in (tb1 (List.mem_of_getElem? (i := 104) rfl)) rfl
theorem bk_167 : Cond.instantiable RX3 8 ∈ BIG := big_in (tb1 (List.mem_of_getElem? (i := 105) rfl)) rfl
theorem bk_168 : Cond.methodLink RX7 21 yX3_init ∈ BIG := big_in (tb1 (List.mem_of_getElem? (i := 106) rfl)) rfl
theorem bk_169 : Cond.instanceMethod yX3_init ∈ BIG := big_in (tb1 (List.mem_of_getElem? (i := 107) rfl)) rfl
theorem bk_170 : Cond.code yX3_init cX3_init 3 none ∈ BIG := big_in (tb1 (List.mem_of_getElem? (i := 108) rfl)) rfl
theorem bk_171 : Cond.methodLink RX3 3 objectInit ∈ BIG := big_in (tb1 (List.mem_of_getElem? (i := 109) rfl)) rfl
theorem bk_172 : Cond.classLink RX3 22 RX6 ∈ BIG := big_in (tb1 (List.mem_of_getElem? (i := 110) rfl)) rfl
theorem bk_173 : Cond.methodLink RX3 24 yX6_init ∈ BIG := big_in (tb1 (List.mem_of_getElem? (i := 111) rfl)) rfl
theorem bk_174 : Cond.fieldLink RX3 18 RX3 "cleaner" "LRangeGraves$Cleaner;" ∈ BIG := big_in (tb1 (List.mem_of_getElem? (i := 112) rfl)) rfl
theorem bk_175 : Cond.fieldLink RX3 27 RX3 "writes" "LRangeGraves$Writes;" ∈ BIG := big_in (tb1 (List.mem_of_getElem? (i := 113) rfl)) rfl
theorem bk_179 : Cond.fieldLink RX3 9 RX3 "ends" "[I" ∈ BIG := big_in (tb1 (List.mem_of_getElem? (i := 117) rfl)) rfl
theorem bk_180 : Cond.fieldLink RX3 15 RX3 "eyeNumbers" "[I" ∈ BIG := big_in (tb1 (List.mem_of_getElem? (i := 118) rfl)) rfl
theorem bk_181 : Cond.fieldLink RX3 34 RX3 "runs" "I" ∈ BIG := big_in (tb1 (List.mem_of_getElem? (i := 119) rfl)) rfl
theorem bk_182 : Cond.fieldLink RX3 38 RX3 "eyes" "I" ∈ BIG := big_in (tb1 (List.mem_of_getElem? (i := 120) rfl)) rfl
theorem bk_183 : Cond.fieldLink RX3 41 RX3 "latest" "I" ∈ BIG := big_in (tb1 (List.mem_of_getElem? (i := 121) rfl)) rfl
theorem bk_184 : Cond.fieldLink RX3 44 RX3 "fewer" "I" ∈ BIG := big_in (tb1 (List.mem_of_getElem? (i := 122) rfl)) rfl
theorem bk_202 : Cond.classLink RX7 31 RX1 ∈ BIG := big_in (tb1 (List.mem_of_getElem? (i := 140) rfl)) rfl
theorem bk_203 : Cond.instantiable RX1 3 ∈ BIG := big_in (tb1 (List.mem_of_getElem? (i := 141) rfl)) rfl
theorem bk_204 : Cond.methodLink RX7 33 yX1_init ∈ BIG := big_in (tb1 (List.mem_of_getElem? (i := 142) rfl)) rfl
theorem bk_205 : Cond.instanceMethod yX1_init ∈ BIG := big_in (tb1 (List.mem_of_getElem? (i := 143) rfl)) rfl
theorem bk_206 : Cond.code yX1_init cX1_init 3 none ∈ BIG := big_in (tb1 (List.mem_of_getElem? (i := 144) rfl)) rfl
theorem bk_207 : Cond.methodLink RX1 3 objectInit ∈ BIG := big_in (tb1 (List.mem_of_getElem? (i := 145) rfl)) rfl
theorem bk_208 : Cond.classLink RX1 9 RX3 ∈ BIG := big_in (tb1 (List.mem_of_getElem? (i := 146) rfl)) rfl
theorem bk_210 : Cond.methodLink RX1 17 yX3_init ∈ BIG := big_in (tb1 (List.mem_of_getElem? (i := 148) rfl)) rfl
theorem bk_211 : Cond.fieldLink RX1 11 RX1 "states" "[LRangeGraves$Store;" ∈ BIG := big_in (tb1 (List.mem_of_getElem? (i := 149) rfl)) rfl
theorem bk_212 : Cond.fieldLink RX1 24 RX1 "oldest" "I" ∈ BIG := big_in (tb1 (List.mem_of_getElem? (i := 150) rfl)) rfl
theorem bk_213 : Cond.fieldLink RX1 20 RX1 "size" "I" ∈ BIG := big_in (tb1 (List.mem_of_getElem? (i := 151) rfl)) rfl
theorem bk_221 : Cond.classLink RX7 48 RX5 ∈ BIG := big_in (tb1 (List.mem_of_getElem? (i := 159) rfl)) rfl
theorem bk_222 : Cond.instantiable RX5 1 ∈ BIG := big_in (tb1 (List.mem_of_getElem? (i := 160) rfl)) rfl
theorem bk_224 : Cond.instanceMethod yX5_init ∈ BIG := big_in (tb1 (List.mem_of_getElem? (i := 162) rfl)) rfl
theorem bk_225 : Cond.code yX5_init cX5_init 1 none ∈ BIG := big_in (tb1 (List.mem_of_getElem? (i := 163) rfl)) rfl
theorem bk_226 : Cond.methodLink RX5 3 objectInit ∈ BIG := big_in (tb1 (List.mem_of_getElem? (i := 164) rfl)) rfl
theorem bk_227 : Cond.fieldLink RX5 9 RX5 "seen" "[I" ∈ BIG := big_in (tb1 (List.mem_of_getElem? (i := 165) rfl)) rfl
theorem bk_231 : Cond.arrayClass .boolean ∈ BIG := big_in (tb1 (List.mem_of_getElem? (i := 169) rfl)) rfl
theorem bk_232 : Cond.fieldLink RX7 15 RX7 "text" "LRangeGraves$Text;" ∈ BIG := big_in (tb1 (List.mem_of_getElem? (i := 170) rfl)) rfl
theorem bk_233 : Cond.fieldLink RX7 24 RX7 "store" "LRangeGraves$Store;" ∈ BIG := big_in (tb1 (List.mem_of_getElem? (i := 171) rfl)) rfl
theorem bk_234 : Cond.fieldLink RX7 28 RX7 "trial" "LRangeGraves$Store;" ∈ BIG := big_in (tb1 (List.mem_of_getElem? (i := 172) rfl)) rfl
theorem bk_235 : Cond.fieldLink RX7 36 RX7 "history" "LRangeGraves$History;" ∈ BIG := big_in (tb1 (List.mem_of_getElem? (i := 173) rfl)) rfl
theorem bk_236 : Cond.fieldLink RX7 40 RX7 "slots" "[LRangeGraves$Store;" ∈ BIG := big_in (tb1 (List.mem_of_getElem? (i := 174) rfl)) rfl
theorem bk_237 : Cond.fieldLink RX7 44 RX7 "filled" "[Z" ∈ BIG := big_in (tb1 (List.mem_of_getElem? (i := 175) rfl)) rfl
theorem bk_238 : Cond.fieldLink RX7 51 RX7 "view" "LRangeGraves$View;" ∈ BIG := big_in (tb1 (List.mem_of_getElem? (i := 176) rfl)) rfl
theorem bk_254 : Cond.methodLink RL 103 yX7_clearText ∈ BIG := big_in (tb1 (List.mem_of_getElem? (i := 192) rfl)) rfl
theorem bk_255 : Cond.instanceMethod yX7_clearText ∈ BIG := big_in (tb1 (List.mem_of_getElem? (i := 193) rfl)) rfl
theorem bk_256 : Cond.selects RX7 yX7_clearText yX7_clearText ∈ BIG := big_in (tb1 (List.mem_of_getElem? (i := 194) rfl)) rfl
theorem bk_257 : Cond.code yX7_clearText cX7_clearText 2 (some .int) ∈ BIG := big_in (tb1 (List.mem_of_getElem? (i := 195) rfl)) rfl
theorem bk_258 : Cond.methodLink RX7 75 yX4_length ∈ BIG := big_in (tb1 (List.mem_of_getElem? (i := 196) rfl)) rfl
theorem bk_259 : Cond.instanceMethod yX4_length ∈ BIG := big_in (tb1 (List.mem_of_getElem? (i := 197) rfl)) rfl
theorem bk_260 : Cond.selects RX4 yX4_length yX4_length ∈ BIG := big_in (tb1 (List.mem_of_getElem? (i := 198) rfl)) rfl
theorem bk_261 : Cond.code yX4_length cX4_length 1 (some .int) ∈ BIG := big_in (tb1 (List.mem_of_getElem? (i := 199) rfl)) rfl
theorem bk_262 : Cond.methodLink RX7 79 yX4_empty ∈ BIG := big_in (tb1 (List.mem_of_getElem? (i := 200) rfl)) rfl
theorem bk_263 : Cond.instanceMethod yX4_empty ∈ BIG := big_in (tb1 (List.mem_of_getElem? (i := 201) rfl)) rfl
theorem bk_264 : Cond.selects RX4 yX4_empty yX4_empty ∈ BIG := big_in (tb1 (List.mem_of_getElem? (i := 202) rfl)) rfl
theorem bk_265 : Cond.code yX4_empty cX4_empty 1 none ∈ BIG := big_in (tb1 (List.mem_of_getElem? (i := 203) rfl)) rfl
theorem bk_266 : Cond.methodLink RL 107 yX7_errorPosition ∈ BIG := big_in (tb1 (List.mem_of_getElem? (i := 204) rfl)) rfl
theorem bk_267 : Cond.instanceMethod yX7_errorPosition ∈ BIG := big_in (tb1 (List.mem_of_getElem? (i := 205) rfl)) rfl
theorem bk_268 : Cond.selects RX7 yX7_errorPosition yX7_errorPosition ∈ BIG := big_in (tb1 (List.mem_of_getElem? (i := 206) rfl)) rfl
theorem bk_269 : Cond.code yX7_errorPosition cX7_errorPosition 1 (some .int) ∈ BIG := big_in (tb1 (List.mem_of_getElem? (i := 207) rfl)) rfl
theorem bk_270 : Cond.methodLink RX7 82 yX4_firstError ∈ BIG := big_in (tb1 (List.mem_of_getElem? (i := 208) rfl)) rfl
theorem bk_271 : Cond.instanceMethod yX4_firstError ∈ BIG := big_in (tb1 (List.mem_of_getElem? (i := 209) rfl)) rfl
theorem bk_272 : Cond.selects RX4 yX4_firstError yX4_firstError ∈ BIG := big_in (tb1 (List.mem_of_getElem? (i := 210) rfl)) rfl
theorem bk_273 : Cond.code yX4_firstError cX4_firstError 4 (some .int) ∈ BIG := big_in (tb1 (List.mem_of_getElem? (i := 211) rfl)) rfl
theorem bk_274 : Cond.methodLink RX4 19 yX4_signAt ∈ BIG := big_in (tb1 (List.mem_of_getElem? (i := 212) rfl)) rfl
theorem bk_275 : Cond.instanceMethod yX4_signAt ∈ BIG := big_in (tb1 (List.mem_of_getElem? (i := 213) rfl)) rfl
theorem bk_276 : Cond.selects RX4 yX4_signAt yX4_signAt ∈ BIG := big_in (tb1 (List.mem_of_getElem? (i := 214) rfl)) rfl
theorem bk_277 : Cond.code yX4_signAt cX4_signAt 2 (some .int) ∈ BIG := big_in (tb1 (List.mem_of_getElem? (i := 215) rfl)) rfl
theorem bk_278 : Cond.methodLink RX4 23 yX4_digitsOf ∈ BIG := big_in (tb1 (List.mem_of_getElem? (i := 216) rfl)) rfl
theorem bk_279 : Cond.static yX4_digitsOf ∈ BIG := big_in (tb1 (List.mem_of_getElem? (i := 217) rfl)) rfl
theorem bk_280 : Cond.code yX4_digitsOf cX4_digitsOf 1 (some .int) ∈ BIG := big_in (tb1 (List.mem_of_getElem? (i := 218) rfl)) rfl
theorem bk_281 : Cond.methodLink RX4 26 yX4_digitFits ∈ BIG := big_in (tb1 (List.mem_of_getElem? (i := 219) rfl)) rfl
theorem bk_283 : Cond.instanceMethod yX4_digitFits ∈ BIG := big_in (tb1 (List.mem_of_getElem? (i := 221) rfl)) rfl
theorem bk_284 : Cond.code yX4_digitFits cX4_digitFits 3 (some .boolean) ∈ BIG := big_in (tb1 (List.mem_of_getElem? (i := 222) rfl)) rfl
theorem bk_285 : Cond.methodLink RX4 30 yX4_isDigit ∈ BIG := big_in (tb1 (List.mem_of_getElem? (i := 223) rfl)) rfl
theorem bk_286 : Cond.instanceMethod yX4_isDigit ∈ BIG := big_in (tb1 (List.mem_of_getElem? (i := 224) rfl)) rfl
theorem bk_287 : Cond.selects RX4 yX4_isDigit yX4_isDigit ∈ BIG := big_in (tb1 (List.mem_of_getElem? (i := 225) rfl)) rfl
theorem bk_288 : Cond.code yX4_isDigit cX4_isDigit 2 (some .boolean) ∈ BIG := big_in (tb1 (List.mem_of_getElem? (i := 226) rfl)) rfl
theorem bk_289 : Cond.methodLink RX4 34 yX4_digitsAt ∈ BIG := big_in (tb1 (List.mem_of_getElem? (i := 227) rfl)) rfl
theorem bk_290 : Cond.instanceMethod yX4_digitsAt ∈ BIG := big_in (tb1 (List.mem_of_getElem? (i := 228) rfl)) rfl
theorem bk_291 : Cond.selects RX4 yX4_digitsAt yX4_digitsAt ∈ BIG := big_in (tb1 (List.mem_of_getElem? (i := 229) rfl)) rfl
theorem bk_292 : Cond.code yX4_digitsAt cX4_digitsAt 5 (some .int) ∈ BIG := big_in (tb1 (List.mem_of_getElem? (i := 230) rfl)) rfl
theorem bk_293 : Cond.methodLink RL 162 yX7_hidden ∈ BIG := big_in (tb1 (List.mem_of_getElem? (i := 231) rfl)) rfl
theorem bk_294 : Cond.instanceMethod yX7_hidden ∈ BIG := big_in (tb1 (List.mem_of_getElem? (i := 232) rfl)) rfl
theorem bk_295 : Cond.selects RX7 yX7_hidden yX7_hidden ∈ BIG := big_in (tb1 (List.mem_of_getElem? (i := 233) rfl)) rfl
theorem bk_296 : Cond.code yX7_hidden cX7_hidden 3 (some .int) ∈ BIG := big_in (tb1 (List.mem_of_getElem? (i := 234) rfl)) rfl
theorem bk_297 : Cond.methodLink RX7 111 yX3_size ∈ BIG := big_in (tb1 (List.mem_of_getElem? (i := 235) rfl)) rfl
theorem bk_298 : Cond.instanceMethod yX3_size ∈ BIG := big_in (tb1 (List.mem_of_getElem? (i := 236) rfl)) rfl
theorem bk_299 : Cond.selects RX3 yX3_size yX3_size ∈ BIG := big_in (tb1 (List.mem_of_getElem? (i := 237) rfl)) rfl
theorem bk_300 : Cond.code yX3_size cX3_size 1 (some .int) ∈ BIG := big_in (tb1 (List.mem_of_getElem? (i := 238) rfl)) rfl
theorem bk_301 : Cond.methodLink RX3 47 yX6_size ∈ BIG := big_in (tb1 (List.mem_of_getElem? (i := 239) rfl)) rfl
theorem bk_302 : Cond.instanceMethod yX6_size ∈ BIG := big_in (tb2 (List.mem_of_getElem? (i := 0) rfl)) rfl
theorem bk_303 : Cond.selects RX6 yX6_size yX6_size ∈ BIG := big_in (tb2 (List.mem_of_getElem? (i := 1) rfl)) rfl
theorem bk_304 : Cond.code yX6_size cX6_size 1 (some .int) ∈ BIG := big_in (tb2 (List.mem_of_getElem? (i := 2) rfl)) rfl
theorem bk_305 : Cond.methodLink RX7 257 yX6_isEntry ∈ BIG := big_in (tb2 (List.mem_of_getElem? (i := 3) rfl)) rfl
theorem bk_306 : Cond.instanceMethod yX6_isEntry ∈ BIG := big_in (tb2 (List.mem_of_getElem? (i := 4) rfl)) rfl
theorem bk_307 : Cond.selects RX6 yX6_isEntry yX6_isEntry ∈ BIG := big_in (tb2 (List.mem_of_getElem? (i := 5) rfl)) rfl
theorem bk_308 : Cond.code yX6_isEntry cX6_isEntry 2 (some .boolean) ∈ BIG := big_in (tb2 (List.mem_of_getElem? (i := 6) rfl)) rfl
theorem bk_309 : Cond.methodLink RX7 260 yX3_isSeen ∈ BIG := big_in (tb2 (List.mem_of_getElem? (i := 7) rfl)) rfl
theorem bk_310 : Cond.instanceMethod yX3_isSeen ∈ BIG := big_in (tb2 (List.mem_of_getElem? (i := 8) rfl)) rfl
theorem bk_311 : Cond.selects RX3 yX3_isSeen yX3_isSeen ∈ BIG := big_in (tb2 (List.mem_of_getElem? (i := 9) rfl)) rfl
theorem bk_312 : Cond.code yX3_isSeen cX3_isSeen 4 (some .boolean) ∈ BIG := big_in (tb2 (List.mem_of_getElem? (i := 10) rfl)) rfl
theorem bk_313 : Cond.methodLink RX3 78 yX6_firstAt ∈ BIG := big_in (tb2 (List.mem_of_getElem? (i := 11) rfl)) rfl
theorem bk_314 : Cond.instanceMethod yX6_firstAt ∈ BIG := big_in (tb2 (List.mem_of_getElem? (i := 12) rfl)) rfl
theorem bk_315 : Cond.selects RX6 yX6_firstAt yX6_firstAt ∈ BIG := big_in (tb2 (List.mem_of_getElem? (i := 13) rfl)) rfl
theorem bk_316 : Cond.code yX6_firstAt cX6_firstAt 2 (some .int) ∈ BIG := big_in (tb2 (List.mem_of_getElem? (i := 14) rfl)) rfl
theorem bk_317 : Cond.methodLink RX3 106 yX3_limitOf ∈ BIG := big_in (tb2 (List.mem_of_getElem? (i := 15) rfl)) rfl
theorem bk_318 : Cond.instanceMethod yX3_limitOf ∈ BIG := big_in (tb2 (List.mem_of_getElem? (i := 16) rfl)) rfl
theorem bk_319 : Cond.selects RX3 yX3_limitOf yX3_limitOf ∈ BIG := big_in (tb2 (List.mem_of_getElem? (i := 17) rfl)) rfl
theorem bk_320 : Cond.code yX3_limitOf cX3_limitOf 2 (some .int) ∈ BIG := big_in (tb2 (List.mem_of_getElem? (i := 18) rfl)) rfl
theorem bk_321 : Cond.methodLink RX3 89 yX3_isEye ∈ BIG := big_in (tb2 (List.mem_of_getElem? (i := 19) rfl)) rfl
theorem bk_322 : Cond.instanceMethod yX3_isEye ∈ BIG := big_in (tb2 (List.mem_of_getElem? (i := 20) rfl)) rfl
theorem bk_323 : Cond.selects RX3 yX3_isEye yX3_isEye ∈ BIG := big_in (tb2 (List.mem_of_getElem? (i := 21) rfl)) rfl
theorem bk_324 : Cond.code yX3_isEye cX3_isEye 2 (some .boolean) ∈ BIG := big_in (tb2 (List.mem_of_getElem? (i := 22) rfl)) rfl
theorem bk_325 : Cond.methodLink RX3 99 yX3_newestFor ∈ BIG := big_in (tb2 (List.mem_of_getElem? (i := 23) rfl)) rfl
theorem bk_326 : Cond.instanceMethod yX3_newestFor ∈ BIG := big_in (tb2 (List.mem_of_getElem? (i := 24) rfl)) rfl
theorem bk_327 : Cond.selects RX3 yX3_newestFor yX3_newestFor ∈ BIG := big_in (tb2 (List.mem_of_getElem? (i := 25) rfl)) rfl
theorem bk_328 : Cond.code yX3_newestFor cX3_newestFor 4 (some .int) ∈ BIG := big_in (tb2 (List.mem_of_getElem? (i := 26) rfl)) rfl
theorem bk_329 : Cond.methodLink RX3 92 yX6_numberAt ∈ BIG := big_in (tb2 (List.mem_of_getElem? (i := 27) rfl)) rfl
theorem bk_330 : Cond.instanceMethod yX6_numberAt ∈ BIG := big_in (tb2 (List.mem_of_getElem? (i := 28) rfl)) rfl
theorem bk_331 : Cond.selects RX6 yX6_numberAt yX6_numberAt ∈ BIG := big_in (tb2 (List.mem_of_getElem? (i := 29) rfl)) rfl
theorem bk_332 : Cond.code yX6_numberAt cX6_numberAt 2 (some .int) ∈ BIG := big_in (tb2 (List.mem_of_getElem? (i := 30) rfl)) rfl
theorem bk_333 : Cond.methodLink RX3 95 yX6_concerns ∈ BIG := big_in (tb2 (List.mem_of_getElem? (i := 31) rfl)) rfl
theorem bk_334 : Cond.instanceMethod yX6_concerns ∈ BIG := big_in (tb2 (List.mem_of_getElem? (i := 32) rfl)) rfl
theorem bk_335 : Cond.selects RX6 yX6_concerns yX6_concerns ∈ BIG := big_in (tb2 (List.mem_of_getElem? (i := 33) rfl)) rfl
theorem bk_336 : Cond.code yX6_concerns cX6_concerns 3 (some .boolean) ∈ BIG := big_in (tb2 (List.mem_of_getElem? (i := 34) rfl)) rfl
theorem bk_337 : Cond.methodLink RL 172 yX7_best ∈ BIG := big_in (tb2 (List.mem_of_getElem? (i := 35) rfl)) rfl
theorem bk_338 : Cond.instanceMethod yX7_best ∈ BIG := big_in (tb2 (List.mem_of_getElem? (i := 36) rfl)) rfl
theorem bk_339 : Cond.selects RX7 yX7_best yX7_best ∈ BIG := big_in (tb2 (List.mem_of_getElem? (i := 37) rfl)) rfl
theorem bk_340 : Cond.code yX7_best cX7_best 4 (some .int) ∈ BIG := big_in (tb2 (List.mem_of_getElem? (i := 38) rfl)) rfl
theorem bk_341 : Cond.methodLink RX7 105 yX3_runs ∈ BIG := big_in (tb2 (List.mem_of_getElem? (i := 39) rfl)) rfl
theorem bk_342 : Cond.instanceMethod yX3_runs ∈ BIG := big_in (tb2 (List.mem_of_getElem? (i := 40) rfl)) rfl
theorem bk_343 : Cond.selects RX3 yX3_runs yX3_runs ∈ BIG := big_in (tb2 (List.mem_of_getElem? (i := 41) rfl)) rfl
theorem bk_344 : Cond.code yX3_runs cX3_runs 1 (some .int) ∈ BIG := big_in (tb2 (List.mem_of_getElem? (i := 42) rfl)) rfl
theorem bk_345 : Cond.methodLink RX7 237 yX3_canMerge ∈ BIG := big_in (tb2 (List.mem_of_getElem? (i := 43) rfl)) rfl
theorem bk_346 : Cond.instanceMethod yX3_canMerge ∈ BIG := big_in (tb2 (List.mem_of_getElem? (i := 44) rfl)) rfl
theorem bk_347 : Cond.selects RX3 yX3_canMerge yX3_canMerge ∈ BIG := big_in (tb2 (List.mem_of_getElem? (i := 45) rfl)) rfl
theorem bk_348 : Cond.code yX3_canMerge cX3_canMerge 3 (some .boolean) ∈ BIG := big_in (tb2 (List.mem_of_getElem? (i := 46) rfl)) rfl
theorem bk_349 : Cond.methodLink RX3 61 yX3_isRun ∈ BIG := big_in (tb2 (List.mem_of_getElem? (i := 47) rfl)) rfl
theorem bk_350 : Cond.instanceMethod yX3_isRun ∈ BIG := big_in (tb2 (List.mem_of_getElem? (i := 48) rfl)) rfl
theorem bk_351 : Cond.selects RX3 yX3_isRun yX3_isRun ∈ BIG := big_in (tb2 (List.mem_of_getElem? (i := 49) rfl)) rfl
theorem bk_352 : Cond.code yX3_isRun cX3_isRun 2 (some .boolean) ∈ BIG := big_in (tb2 (List.mem_of_getElem? (i := 50) rfl)) rfl
theorem bk_353 : Cond.methodLink RX3 109 yX3_sizeOf ∈ BIG := big_in (tb2 (List.mem_of_getElem? (i := 51) rfl)) rfl
theorem bk_354 : Cond.instanceMethod yX3_sizeOf ∈ BIG := big_in (tb2 (List.mem_of_getElem? (i := 52) rfl)) rfl
theorem bk_355 : Cond.selects RX3 yX3_sizeOf yX3_sizeOf ∈ BIG := big_in (tb2 (List.mem_of_getElem? (i := 53) rfl)) rfl
theorem bk_356 : Cond.code yX3_sizeOf cX3_sizeOf 2 (some .int) ∈ BIG := big_in (tb2 (List.mem_of_getElem? (i := 54) rfl)) rfl
theorem bk_357 : Cond.methodLink RX3 65 yX3_endOf ∈ BIG := big_in (tb2 (List.mem_of_getElem? (i := 55) rfl)) rfl
theorem bk_358 : Cond.instanceMethod yX3_endOf ∈ BIG := big_in (tb2 (List.mem_of_getElem? (i := 56) rfl)) rfl
theorem bk_359 : Cond.selects RX3 yX3_endOf yX3_endOf ∈ BIG := big_in (tb2 (List.mem_of_getElem? (i := 57) rfl)) rfl
theorem bk_360 : Cond.code yX3_endOf cX3_endOf 3 (some .int) ∈ BIG := big_in (tb2 (List.mem_of_getElem? (i := 58) rfl)) rfl
theorem bk_361 : Cond.methodLink RX3 69 yX3_startOf ∈ BIG := big_in (tb2 (List.mem_of_getElem? (i := 59) rfl)) rfl
theorem bk_362 : Cond.instanceMethod yX3_startOf ∈ BIG := big_in (tb2 (List.mem_of_getElem? (i := 60) rfl)) rfl
theorem bk_363 : Cond.selects RX3 yX3_startOf yX3_startOf ∈ BIG := big_in (tb2 (List.mem_of_getElem? (i := 61) rfl)) rfl
theorem bk_364 : Cond.code yX3_startOf cX3_startOf 3 (some .int) ∈ BIG := big_in (tb2 (List.mem_of_getElem? (i := 62) rfl)) rfl
theorem bk_365 : Cond.methodLink RX3 112 yX0_clean ∈ BIG := big_in (tb2 (List.mem_of_getElem? (i := 63) rfl)) rfl
theorem bk_366 : Cond.instanceMethod yX0_clean ∈ BIG := big_in (tb2 (List.mem_of_getElem? (i := 64) rfl)) rfl
theorem bk_367 : Cond.selects RX0 yX0_clean yX0_clean ∈ BIG := big_in (tb2 (List.mem_of_getElem? (i := 65) rfl)) rfl
theorem bk_368 : Cond.code yX0_clean cX0_clean 7 (some .int) ∈ BIG := big_in (tb2 (List.mem_of_getElem? (i := 66) rfl)) rfl
theorem bk_369 : Cond.methodLink RX0 37 yX6_empty ∈ BIG := big_in (tb2 (List.mem_of_getElem? (i := 67) rfl)) rfl
theorem bk_370 : Cond.instanceMethod yX6_empty ∈ BIG := big_in (tb2 (List.mem_of_getElem? (i := 68) rfl)) rfl
theorem bk_371 : Cond.selects RX6 yX6_empty yX6_empty ∈ BIG := big_in (tb2 (List.mem_of_getElem? (i := 69) rfl)) rfl
theorem bk_372 : Cond.code yX6_empty cX6_empty 1 none ∈ BIG := big_in (tb2 (List.mem_of_getElem? (i := 70) rfl)) rfl
theorem bk_373 : Cond.methodLink RX0 40 yX3_startOf ∈ BIG := big_in (tb2 (List.mem_of_getElem? (i := 71) rfl)) rfl
theorem bk_374 : Cond.methodLink RX0 46 yX3_endOf ∈ BIG := big_in (tb2 (List.mem_of_getElem? (i := 72) rfl)) rfl
theorem bk_375 : Cond.methodLink RX0 49 yX0_dropHidden ∈ BIG := big_in (tb2 (List.mem_of_getElem? (i := 73) rfl)) rfl
theorem bk_377 : Cond.instanceMethod yX0_dropHidden ∈ BIG := big_in (tb2 (List.mem_of_getElem? (i := 75) rfl)) rfl
theorem bk_378 : Cond.code yX0_dropHidden cX0_dropHidden 7 none ∈ BIG := big_in (tb2 (List.mem_of_getElem? (i := 76) rfl)) rfl
theorem bk_379 : Cond.methodLink RX0 71 yX6_numberAt ∈ BIG := big_in (tb2 (List.mem_of_getElem? (i := 77) rfl)) rfl
theorem bk_380 : Cond.methodLink RX0 74 yX3_eyesBefore ∈ BIG := big_in (tb2 (List.mem_of_getElem? (i := 78) rfl)) rfl
theorem bk_381 : Cond.instanceMethod yX3_eyesBefore ∈ BIG := big_in (tb2 (List.mem_of_getElem? (i := 79) rfl)) rfl
theorem bk_382 : Cond.selects RX3 yX3_eyesBefore yX3_eyesBefore ∈ BIG := big_in (tb2 (List.mem_of_getElem? (i := 80) rfl)) rfl
theorem bk_383 : Cond.code yX3_eyesBefore cX3_eyesBefore 4 (some .int) ∈ BIG := big_in (tb2 (List.mem_of_getElem? (i := 81) rfl)) rfl
theorem bk_384 : Cond.methodLink RX0 77 yX2_empty ∈ BIG := big_in (tb2 (List.mem_of_getElem? (i := 82) rfl)) rfl
theorem bk_385 : Cond.instanceMethod yX2_empty ∈ BIG := big_in (tb2 (List.mem_of_getElem? (i := 83) rfl)) rfl
theorem bk_386 : Cond.selects RX2 yX2_empty yX2_empty ∈ BIG := big_in (tb2 (List.mem_of_getElem? (i := 84) rfl)) rfl
theorem bk_387 : Cond.code yX2_empty cX2_empty 1 none ∈ BIG := big_in (tb2 (List.mem_of_getElem? (i := 85) rfl)) rfl
theorem bk_388 : Cond.methodLink RX0 78 yX6_firstAt ∈ BIG := big_in (tb2 (List.mem_of_getElem? (i := 86) rfl)) rfl
theorem bk_389 : Cond.methodLink RX0 81 yX6_lastAt ∈ BIG := big_in (tb2 (List.mem_of_getElem? (i := 87) rfl)) rfl
theorem bk_390 : Cond.instanceMethod yX6_lastAt ∈ BIG := big_in (tb2 (List.mem_of_getElem? (i := 88) rfl)) rfl
theorem bk_391 : Cond.selects RX6 yX6_lastAt yX6_lastAt ∈ BIG := big_in (tb2 (List.mem_of_getElem? (i := 89) rfl)) rfl
theorem bk_392 : Cond.code yX6_lastAt cX6_lastAt 2 (some .int) ∈ BIG := big_in (tb2 (List.mem_of_getElem? (i := 90) rfl)) rfl
theorem bk_393 : Cond.methodLink RX0 84 yX2_addRow ∈ BIG := big_in (tb2 (List.mem_of_getElem? (i := 91) rfl)) rfl
theorem bk_394 : Cond.instanceMethod yX2_addRow ∈ BIG := big_in (tb2 (List.mem_of_getElem? (i := 92) rfl)) rfl
theorem bk_395 : Cond.selects RX2 yX2_addRow yX2_addRow ∈ BIG := big_in (tb2 (List.mem_of_getElem? (i := 93) rfl)) rfl
theorem bk_396 : Cond.code yX2_addRow cX2_addRow 3 none ∈ BIG := big_in (tb2 (List.mem_of_getElem? (i := 94) rfl)) rfl
theorem bk_397 : Cond.constantLong RX2 18 (-1) ∈ BIG := big_in (tb2 (List.mem_of_getElem? (i := 95) rfl)) rfl
theorem bk_398 : Cond.methodLink RX2 20 yJ9_min_7cf53 ∈ BIG := big_in (tb2 (List.mem_of_getElem? (i := 96) rfl)) rfl
theorem bk_399 : Cond.static yJ9_min_7cf53 ∈ BIG := big_in (tb2 (List.mem_of_getElem? (i := 97) rfl)) rfl
theorem bk_400 : Cond.code Lib.Math.min.name Lib.Math.min.code 2 (some .int) ∈ BIG := big_in (tb2 (List.mem_of_getElem? (i := 98) rfl)) rfl
theorem bk_401 : Cond.methodLink RX2 26 yJ9_max_7cf53 ∈ BIG := big_in (tb2 (List.mem_of_getElem? (i := 99) rfl)) rfl
theorem bk_402 : Cond.methodLink RX0 88 yX6_isEntry ∈ BIG := big_in (tb2 (List.mem_of_getElem? (i := 100) rfl)) rfl
theorem bk_403 : Cond.methodLink RX0 92 yX2_removeAll ∈ BIG := big_in (tb2 (List.mem_of_getElem? (i := 101) rfl)) rfl
theorem bk_404 : Cond.instanceMethod yX2_removeAll ∈ BIG := big_in (tb2 (List.mem_of_getElem? (i := 102) rfl)) rfl
theorem bk_405 : Cond.selects RX2 yX2_removeAll yX2_removeAll ∈ BIG := big_in (tb2 (List.mem_of_getElem? (i := 103) rfl)) rfl
theorem bk_406 : Cond.code yX2_removeAll cX2_removeAll 2 none ∈ BIG := big_in (tb2 (List.mem_of_getElem? (i := 104) rfl)) rfl
theorem bk_407 : Cond.methodLink RX0 53 yX3_runs ∈ BIG := big_in (tb2 (List.mem_of_getElem? (i := 105) rfl)) rfl
theorem bk_408 : Cond.methodLink RX0 60 yX0_dropNeedless ∈ BIG := big_in (tb2 (List.mem_of_getElem? (i := 106) rfl)) rfl
theorem bk_410 : Cond.instanceMethod yX0_dropNeedless ∈ BIG := big_in (tb2 (List.mem_of_getElem? (i := 108) rfl)) rfl
theorem bk_411 : Cond.code yX0_dropNeedless cX0_dropNeedless 5 none ∈ BIG := big_in (tb2 (List.mem_of_getElem? (i := 109) rfl)) rfl
theorem bk_412 : Cond.methodLink RX0 96 yX2_addAll ∈ BIG := big_in (tb2 (List.mem_of_getElem? (i := 110) rfl)) rfl
theorem bk_413 : Cond.instanceMethod yX2_addAll ∈ BIG := big_in (tb2 (List.mem_of_getElem? (i := 111) rfl)) rfl
theorem bk_414 : Cond.selects RX2 yX2_addAll yX2_addAll ∈ BIG := big_in (tb2 (List.mem_of_getElem? (i := 112) rfl)) rfl
theorem bk_415 : Cond.code yX2_addAll cX2_addAll 2 none ∈ BIG := big_in (tb2 (List.mem_of_getElem? (i := 113) rfl)) rfl
theorem bk_416 : Cond.methodLink RX0 99 yX2_keepOnly ∈ BIG := big_in (tb2 (List.mem_of_getElem? (i := 114) rfl)) rfl
theorem bk_417 : Cond.instanceMethod yX2_keepOnly ∈ BIG := big_in (tb2 (List.mem_of_getElem? (i := 115) rfl)) rfl
theorem bk_418 : Cond.selects RX2 yX2_keepOnly yX2_keepOnly ∈ BIG := big_in (tb2 (List.mem_of_getElem? (i := 116) rfl)) rfl
theorem bk_419 : Cond.code yX2_keepOnly cX2_keepOnly 2 none ∈ BIG := big_in (tb2 (List.mem_of_getElem? (i := 117) rfl)) rfl
theorem bk_420 : Cond.methodLink RX0 64 yX0_addRows ∈ BIG := big_in (tb2 (List.mem_of_getElem? (i := 118) rfl)) rfl
theorem bk_422 : Cond.instanceMethod yX0_addRows ∈ BIG := big_in (tb2 (List.mem_of_getElem? (i := 120) rfl)) rfl
theorem bk_423 : Cond.code yX0_addRows cX0_addRows 7 none ∈ BIG := big_in (tb2 (List.mem_of_getElem? (i := 121) rfl)) rfl
theorem bk_424 : Cond.methodLink RX0 102 yX2_has ∈ BIG := big_in (tb2 (List.mem_of_getElem? (i := 122) rfl)) rfl
theorem bk_425 : Cond.instanceMethod yX2_has ∈ BIG := big_in (tb2 (List.mem_of_getElem? (i := 123) rfl)) rfl
theorem bk_426 : Cond.selects RX2 yX2_has yX2_has ∈ BIG := big_in (tb2 (List.mem_of_getElem? (i := 124) rfl)) rfl
theorem bk_427 : Cond.code yX2_has cX2_has 4 (some .boolean) ∈ BIG := big_in (tb2 (List.mem_of_getElem? (i := 125) rfl)) rfl
theorem bk_428 : Cond.methodLink RX0 105 yX6_valueAt ∈ BIG := big_in (tb2 (List.mem_of_getElem? (i := 126) rfl)) rfl
theorem bk_429 : Cond.instanceMethod yX6_valueAt ∈ BIG := big_in (tb2 (List.mem_of_getElem? (i := 127) rfl)) rfl
theorem bk_430 : Cond.selects RX6 yX6_valueAt yX6_valueAt ∈ BIG := big_in (tb2 (List.mem_of_getElem? (i := 128) rfl)) rfl
theorem bk_431 : Cond.code yX6_valueAt cX6_valueAt 2 (some .int) ∈ BIG := big_in (tb2 (List.mem_of_getElem? (i := 129) rfl)) rfl
theorem bk_432 : Cond.methodLink RX0 108 yX6_add ∈ BIG := big_in (tb2 (List.mem_of_getElem? (i := 130) rfl)) rfl
theorem bk_433 : Cond.instanceMethod yX6_add ∈ BIG := big_in (tb2 (List.mem_of_getElem? (i := 131) rfl)) rfl
theorem bk_434 : Cond.selects RX6 yX6_add yX6_add ∈ BIG := big_in (tb2 (List.mem_of_getElem? (i := 132) rfl)) rfl
theorem bk_435 : Cond.code yX6_add cX6_add 5 none ∈ BIG := big_in (tb2 (List.mem_of_getElem? (i := 133) rfl)) rfl
theorem bk_436 : Cond.methodLink RX0 68 yX6_size ∈ BIG := big_in (tb2 (List.mem_of_getElem? (i := 134) rfl)) rfl
theorem bk_437 : Cond.methodLink RX7 267 yX3_savedBy ∈ BIG := big_in (tb2 (List.mem_of_getElem? (i := 135) rfl)) rfl
theorem bk_438 : Cond.instanceMethod yX3_savedBy ∈ BIG := big_in (tb2 (List.mem_of_getElem? (i := 136) rfl)) rfl
theorem bk_439 : Cond.selects RX3 yX3_savedBy yX3_savedBy ∈ BIG := big_in (tb2 (List.mem_of_getElem? (i := 137) rfl)) rfl
theorem bk_440 : Cond.code yX3_savedBy cX3_savedBy 2 (some .int) ∈ BIG := big_in (tb2 (List.mem_of_getElem? (i := 138) rfl)) rfl
theorem bk_441 : Cond.methodLink RL 176 yX7_fewest ∈ BIG := big_in (tb2 (List.mem_of_getElem? (i := 139) rfl)) rfl
theorem bk_442 : Cond.instanceMethod yX7_fewest ∈ BIG := big_in (tb2 (List.mem_of_getElem? (i := 140) rfl)) rfl
theorem bk_443 : Cond.selects RX7 yX7_fewest yX7_fewest ∈ BIG := big_in (tb2 (List.mem_of_getElem? (i := 141) rfl)) rfl
theorem bk_444 : Cond.code yX7_fewest cX7_fewest 2 (some .int) ∈ BIG := big_in (tb2 (List.mem_of_getElem? (i := 142) rfl)) rfl
theorem bk_445 : Cond.methodLink RX7 270 yX3_become ∈ BIG := big_in (tb2 (List.mem_of_getElem? (i := 143) rfl)) rfl
theorem bk_446 : Cond.instanceMethod yX3_become ∈ BIG := big_in (tb2 (List.mem_of_getElem? (i := 144) rfl)) rfl
theorem bk_447 : Cond.selects RX3 yX3_become yX3_become ∈ BIG := big_in (tb2 (List.mem_of_getElem? (i := 145) rfl)) rfl
theorem bk_448 : Cond.code yX3_become cX3_become 2 none ∈ BIG := big_in (tb2 (List.mem_of_getElem? (i := 146) rfl)) rfl
theorem bk_449 : Cond.methodLink RX3 51 yX6_replace ∈ BIG := big_in (tb2 (List.mem_of_getElem? (i := 147) rfl)) rfl
theorem bk_450 : Cond.instanceMethod yX6_replace ∈ BIG := big_in (tb2 (List.mem_of_getElem? (i := 148) rfl)) rfl
theorem bk_451 : Cond.selects RX6 yX6_replace yX6_replace ∈ BIG := big_in (tb2 (List.mem_of_getElem? (i := 149) rfl)) rfl
theorem bk_452 : Cond.code yX6_replace cX6_replace 6 none ∈ BIG := big_in (tb2 (List.mem_of_getElem? (i := 150) rfl)) rfl
theorem bk_453 : Cond.methodLink RX6 34 arraycopyName ∈ BIG := big_in (tb2 (List.mem_of_getElem? (i := 151) rfl)) rfl
theorem bk_454 : Cond.static arraycopyName ∈ BIG := big_in (tb2 (List.mem_of_getElem? (i := 152) rfl)) rfl
theorem bk_455 : Cond.native arraycopyName ∈ BIG := big_in (tb2 (List.mem_of_getElem? (i := 153) rfl)) rfl
theorem bk_456 : Cond.methodLink RX3 55 arraycopyName ∈ BIG := big_in (tb2 (List.mem_of_getElem? (i := 154) rfl)) rfl
theorem bk_457 : Cond.methodLink RX7 273 yX3_dropAllEyes ∈ BIG := big_in (tb2 (List.mem_of_getElem? (i := 155) rfl)) rfl
theorem bk_458 : Cond.instanceMethod yX3_dropAllEyes ∈ BIG := big_in (tb2 (List.mem_of_getElem? (i := 156) rfl)) rfl
theorem bk_459 : Cond.selects RX3 yX3_dropAllEyes yX3_dropAllEyes ∈ BIG := big_in (tb2 (List.mem_of_getElem? (i := 157) rfl)) rfl
theorem bk_460 : Cond.code yX3_dropAllEyes cX3_dropAllEyes 1 none ∈ BIG := big_in (tb2 (List.mem_of_getElem? (i := 158) rfl)) rfl
theorem bk_461 : Cond.methodLink RX7 101 yX3_sizeOf ∈ BIG := big_in (tb2 (List.mem_of_getElem? (i := 159) rfl)) rfl
theorem bk_462 : Cond.methodLink RX7 231 yX3_flushMemory ∈ BIG := big_in (tb2 (List.mem_of_getElem? (i := 160) rfl)) rfl
theorem bk_463 : Cond.instanceMethod yX3_flushMemory ∈ BIG := big_in (tb2 (List.mem_of_getElem? (i := 161) rfl)) rfl
theorem bk_464 : Cond.selects RX3 yX3_flushMemory yX3_flushMemory ∈ BIG := big_in (tb2 (List.mem_of_getElem? (i := 162) rfl)) rfl
theorem bk_465 : Cond.code yX3_flushMemory cX3_flushMemory 2 (some .int) ∈ BIG := big_in (tb2 (List.mem_of_getElem? (i := 163) rfl)) rfl
theorem bk_466 : Cond.methodLink RX7 242 yX3_mergeRuns ∈ BIG := big_in (tb2 (List.mem_of_getElem? (i := 164) rfl)) rfl
theorem bk_467 : Cond.instanceMethod yX3_mergeRuns ∈ BIG := big_in (tb2 (List.mem_of_getElem? (i := 165) rfl)) rfl
theorem bk_468 : Cond.selects RX3 yX3_mergeRuns yX3_mergeRuns ∈ BIG := big_in (tb2 (List.mem_of_getElem? (i := 166) rfl)) rfl
theorem bk_469 : Cond.code yX3_mergeRuns cX3_mergeRuns 7 (some .int) ∈ BIG := big_in (tb2 (List.mem_of_getElem? (i := 167) rfl)) rfl
theorem bk_470 : Cond.methodLink RL 94 yL_append ∈ BIG := big_in (tb2 (List.mem_of_getElem? (i := 168) rfl)) rfl
theorem bk_471 : Cond.static yL_append ∈ BIG := big_in (tb2 (List.mem_of_getElem? (i := 169) rfl)) rfl
theorem bk_472 : Cond.codeWith yL_append cL_append 4 (some .int) [(0, 9, 12, 13), (0, 9, 15, 15)] ∈ BIG := big_in (tb2 (List.mem_of_getElem? (i := 170) rfl)) rfl
theorem bk_473 : Cond.classLink RL 13 "java/lang/IllegalArgumentException" ∈ BIG := big_in (tb2 (List.mem_of_getElem? (i := 171) rfl)) rfl
theorem bk_474 : Cond.classLink RL 15 "java/lang/IllegalStateException" ∈ BIG := big_in (tb2 (List.mem_of_getElem? (i := 172) rfl)) rfl
theorem bk_475 : Cond.methodLink RL 7 yX7_append ∈ BIG := big_in (tb2 (List.mem_of_getElem? (i := 173) rfl)) rfl
theorem bk_476 : Cond.instanceMethod yX7_append ∈ BIG := big_in (tb2 (List.mem_of_getElem? (i := 174) rfl)) rfl
theorem bk_477 : Cond.selects RX7 yX7_append yX7_append ∈ BIG := big_in (tb2 (List.mem_of_getElem? (i := 175) rfl)) rfl
theorem bk_478 : Cond.code yX7_append cX7_append 2 (some .int) ∈ BIG := big_in (tb2 (List.mem_of_getElem? (i := 176) rfl)) rfl
theorem bk_479 : Cond.classLink RX7 55 "java/lang/IllegalArgumentException" ∈ BIG := big_in (tb2 (List.mem_of_getElem? (i := 177) rfl)) rfl
theorem bk_547 : Cond.methodLink RX7 62 yX4_isFull ∈ BIG := big_in (tb3 (List.mem_of_getElem? (i := 5) rfl)) rfl
theorem bk_548 : Cond.instanceMethod yX4_isFull ∈ BIG := big_in (tb3 (List.mem_of_getElem? (i := 6) rfl)) rfl
theorem bk_549 : Cond.selects RX4 yX4_isFull yX4_isFull ∈ BIG := big_in (tb3 (List.mem_of_getElem? (i := 7) rfl)) rfl
theorem bk_550 : Cond.code yX4_isFull cX4_isFull 1 (some .boolean) ∈ BIG := big_in (tb3 (List.mem_of_getElem? (i := 8) rfl)) rfl
theorem bk_551 : Cond.classLink RX7 66 "java/lang/IllegalStateException" ∈ BIG := big_in (tb3 (List.mem_of_getElem? (i := 9) rfl)) rfl
theorem bk_567 : Cond.methodLink RX7 71 yX4_addSign ∈ BIG := big_in (tb3 (List.mem_of_getElem? (i := 25) rfl)) rfl
theorem bk_568 : Cond.instanceMethod yX4_addSign ∈ BIG := big_in (tb3 (List.mem_of_getElem? (i := 26) rfl)) rfl
theorem bk_569 : Cond.selects RX4 yX4_addSign yX4_addSign ∈ BIG := big_in (tb3 (List.mem_of_getElem? (i := 27) rfl)) rfl
theorem bk_570 : Cond.code yX4_addSign cX4_addSign 2 none ∈ BIG := big_in (tb3 (List.mem_of_getElem? (i := 28) rfl)) rfl
theorem bk_571 : Cond.methodLink RL 111 yL_load ∈ BIG := big_in (tb3 (List.mem_of_getElem? (i := 29) rfl)) rfl
theorem bk_572 : Cond.static yL_load ∈ BIG := big_in (tb3 (List.mem_of_getElem? (i := 30) rfl)) rfl
theorem bk_573 : Cond.codeWith yL_load cL_load 3 (some .int) [(0, 8, 11, 15)] ∈ BIG := big_in (tb3 (List.mem_of_getElem? (i := 31) rfl)) rfl
theorem bk_574 : Cond.methodLink RL 17 yX7_load ∈ BIG := big_in (tb3 (List.mem_of_getElem? (i := 32) rfl)) rfl
theorem bk_575 : Cond.instanceMethod yX7_load ∈ BIG := big_in (tb3 (List.mem_of_getElem? (i := 33) rfl)) rfl
theorem bk_576 : Cond.selects RX7 yX7_load yX7_load ∈ BIG := big_in (tb3 (List.mem_of_getElem? (i := 34) rfl)) rfl
theorem bk_577 : Cond.code yX7_load cX7_load 3 (some .int) ∈ BIG := big_in (tb3 (List.mem_of_getElem? (i := 35) rfl)) rfl
theorem bk_579 : Cond.methodLink RX7 87 yX3_empty ∈ BIG := big_in (tb3 (List.mem_of_getElem? (i := 37) rfl)) rfl
theorem bk_580 : Cond.instanceMethod yX3_empty ∈ BIG := big_in (tb3 (List.mem_of_getElem? (i := 38) rfl)) rfl
theorem bk_581 : Cond.selects RX3 yX3_empty yX3_empty ∈ BIG := big_in (tb3 (List.mem_of_getElem? (i := 39) rfl)) rfl
theorem bk_582 : Cond.code yX3_empty cX3_empty 1 none ∈ BIG := big_in (tb3 (List.mem_of_getElem? (i := 40) rfl)) rfl
theorem bk_583 : Cond.methodLink RX3 31 yX6_empty ∈ BIG := big_in (tb3 (List.mem_of_getElem? (i := 41) rfl)) rfl
theorem bk_584 : Cond.methodLink RX7 88 yX1_forgetAll ∈ BIG := big_in (tb3 (List.mem_of_getElem? (i := 42) rfl)) rfl
theorem bk_585 : Cond.instanceMethod yX1_forgetAll ∈ BIG := big_in (tb3 (List.mem_of_getElem? (i := 43) rfl)) rfl
theorem bk_586 : Cond.selects RX1 yX1_forgetAll yX1_forgetAll ∈ BIG := big_in (tb3 (List.mem_of_getElem? (i := 44) rfl)) rfl
theorem bk_587 : Cond.code yX1_forgetAll cX1_forgetAll 1 none ∈ BIG := big_in (tb3 (List.mem_of_getElem? (i := 45) rfl)) rfl
theorem bk_588 : Cond.methodLink RX7 91 yX4_isDigit ∈ BIG := big_in (tb3 (List.mem_of_getElem? (i := 46) rfl)) rfl
theorem bk_589 : Cond.methodLink RX7 95 yX7_doTextCommand ∈ BIG := big_in (tb3 (List.mem_of_getElem? (i := 47) rfl)) rfl
theorem bk_591 : Cond.instanceMethod yX7_doTextCommand ∈ BIG := big_in (tb3 (List.mem_of_getElem? (i := 49) rfl)) rfl
theorem bk_592 : Cond.code yX7_doTextCommand cX7_doTextCommand 2 (some .boolean) ∈ BIG := big_in (tb3 (List.mem_of_getElem? (i := 50) rfl)) rfl
theorem bk_593 : Cond.methodLink RX7 302 yX4_signAt ∈ BIG := big_in (tb3 (List.mem_of_getElem? (i := 51) rfl)) rfl
theorem bk_594 : Cond.methodLink RX7 305 yX4_digitsAt ∈ BIG := big_in (tb3 (List.mem_of_getElem? (i := 52) rfl)) rfl
theorem bk_595 : Cond.methodLink RX7 308 yX3_tryPut ∈ BIG := big_in (tb3 (List.mem_of_getElem? (i := 53) rfl)) rfl
theorem bk_596 : Cond.instanceMethod yX3_tryPut ∈ BIG := big_in (tb3 (List.mem_of_getElem? (i := 54) rfl)) rfl
theorem bk_597 : Cond.selects RX3 yX3_tryPut yX3_tryPut ∈ BIG := big_in (tb3 (List.mem_of_getElem? (i := 55) rfl)) rfl
theorem bk_598 : Cond.code yX3_tryPut cX3_tryPut 3 (some .boolean) ∈ BIG := big_in (tb3 (List.mem_of_getElem? (i := 56) rfl)) rfl
theorem bk_600 : Cond.static yX7_isKey ∈ BIG := big_in (tb3 (List.mem_of_getElem? (i := 58) rfl)) rfl
theorem bk_601 : Cond.code yX7_isKey cX7_isKey 1 (some .boolean) ∈ BIG := big_in (tb3 (List.mem_of_getElem? (i := 59) rfl)) rfl
theorem bk_603 : Cond.static yX7_isValue ∈ BIG := big_in (tb3 (List.mem_of_getElem? (i := 61) rfl)) rfl
theorem bk_604 : Cond.code yX7_isValue cX7_isValue 1 (some .boolean) ∈ BIG := big_in (tb3 (List.mem_of_getElem? (i := 62) rfl)) rfl
theorem bk_605 : Cond.methodLink RX3 131 yX3_isFull ∈ BIG := big_in (tb3 (List.mem_of_getElem? (i := 63) rfl)) rfl
theorem bk_606 : Cond.instanceMethod yX3_isFull ∈ BIG := big_in (tb3 (List.mem_of_getElem? (i := 64) rfl)) rfl
theorem bk_607 : Cond.selects RX3 yX3_isFull yX3_isFull ∈ BIG := big_in (tb3 (List.mem_of_getElem? (i := 65) rfl)) rfl
theorem bk_608 : Cond.code yX3_isFull cX3_isFull 1 (some .boolean) ∈ BIG := big_in (tb3 (List.mem_of_getElem? (i := 66) rfl)) rfl
theorem bk_609 : Cond.methodLink RX3 135 yX3_addWrite ∈ BIG := big_in (tb3 (List.mem_of_getElem? (i := 67) rfl)) rfl
theorem bk_610 : Cond.instanceMethod yX3_addWrite ∈ BIG := big_in (tb3 (List.mem_of_getElem? (i := 68) rfl)) rfl
theorem bk_611 : Cond.selects RX3 yX3_addWrite yX3_addWrite ∈ BIG := big_in (tb3 (List.mem_of_getElem? (i := 69) rfl)) rfl
theorem bk_612 : Cond.code yX3_addWrite cX3_addWrite 4 none ∈ BIG := big_in (tb3 (List.mem_of_getElem? (i := 70) rfl)) rfl
theorem bk_613 : Cond.methodLink RX3 118 yX6_add ∈ BIG := big_in (tb3 (List.mem_of_getElem? (i := 71) rfl)) rfl
theorem bk_614 : Cond.methodLink RX7 311 yX3_tryBury ∈ BIG := big_in (tb3 (List.mem_of_getElem? (i := 72) rfl)) rfl
theorem bk_615 : Cond.instanceMethod yX3_tryBury ∈ BIG := big_in (tb3 (List.mem_of_getElem? (i := 73) rfl)) rfl
theorem bk_616 : Cond.selects RX3 yX3_tryBury yX3_tryBury ∈ BIG := big_in (tb3 (List.mem_of_getElem? (i := 74) rfl)) rfl
theorem bk_617 : Cond.code yX3_tryBury cX3_tryBury 3 (some .boolean) ∈ BIG := big_in (tb3 (List.mem_of_getElem? (i := 75) rfl)) rfl
theorem bk_618 : Cond.methodLink RX7 314 yX3_tryFlush ∈ BIG := big_in (tb3 (List.mem_of_getElem? (i := 76) rfl)) rfl
theorem bk_619 : Cond.instanceMethod yX3_tryFlush ∈ BIG := big_in (tb3 (List.mem_of_getElem? (i := 77) rfl)) rfl
theorem bk_620 : Cond.selects RX3 yX3_tryFlush yX3_tryFlush ∈ BIG := big_in (tb3 (List.mem_of_getElem? (i := 78) rfl)) rfl
theorem bk_621 : Cond.code yX3_tryFlush cX3_tryFlush 1 (some .boolean) ∈ BIG := big_in (tb3 (List.mem_of_getElem? (i := 79) rfl)) rfl
theorem bk_622 : Cond.methodLink RX3 148 yX3_canFlush ∈ BIG := big_in (tb3 (List.mem_of_getElem? (i := 80) rfl)) rfl
theorem bk_623 : Cond.instanceMethod yX3_canFlush ∈ BIG := big_in (tb3 (List.mem_of_getElem? (i := 81) rfl)) rfl
theorem bk_624 : Cond.selects RX3 yX3_canFlush yX3_canFlush ∈ BIG := big_in (tb3 (List.mem_of_getElem? (i := 82) rfl)) rfl
theorem bk_625 : Cond.code yX3_canFlush cX3_canFlush 1 (some .boolean) ∈ BIG := big_in (tb3 (List.mem_of_getElem? (i := 83) rfl)) rfl
theorem bk_626 : Cond.methodLink RX3 151 yX3_flushMemory ∈ BIG := big_in (tb3 (List.mem_of_getElem? (i := 84) rfl)) rfl
theorem bk_627 : Cond.methodLink RX7 317 yX3_tryMerge ∈ BIG := big_in (tb3 (List.mem_of_getElem? (i := 85) rfl)) rfl
theorem bk_628 : Cond.instanceMethod yX3_tryMerge ∈ BIG := big_in (tb3 (List.mem_of_getElem? (i := 86) rfl)) rfl
theorem bk_629 : Cond.selects RX3 yX3_tryMerge yX3_tryMerge ∈ BIG := big_in (tb3 (List.mem_of_getElem? (i := 87) rfl)) rfl
theorem bk_630 : Cond.code yX3_tryMerge cX3_tryMerge 2 (some .boolean) ∈ BIG := big_in (tb3 (List.mem_of_getElem? (i := 88) rfl)) rfl
theorem bk_631 : Cond.methodLink RX3 154 yX3_canMerge ∈ BIG := big_in (tb3 (List.mem_of_getElem? (i := 89) rfl)) rfl
theorem bk_632 : Cond.methodLink RX3 157 yX3_mergeRuns ∈ BIG := big_in (tb3 (List.mem_of_getElem? (i := 90) rfl)) rfl
theorem bk_633 : Cond.methodLink RX7 320 yX3_tryOpen ∈ BIG := big_in (tb3 (List.mem_of_getElem? (i := 91) rfl)) rfl
theorem bk_634 : Cond.instanceMethod yX3_tryOpen ∈ BIG := big_in (tb3 (List.mem_of_getElem? (i := 92) rfl)) rfl
theorem bk_635 : Cond.selects RX3 yX3_tryOpen yX3_tryOpen ∈ BIG := big_in (tb3 (List.mem_of_getElem? (i := 93) rfl)) rfl
theorem bk_636 : Cond.code yX3_tryOpen cX3_tryOpen 1 (some .boolean) ∈ BIG := big_in (tb3 (List.mem_of_getElem? (i := 94) rfl)) rfl
theorem bk_637 : Cond.methodLink RX3 139 yX3_canOpen ∈ BIG := big_in (tb3 (List.mem_of_getElem? (i := 95) rfl)) rfl
theorem bk_638 : Cond.instanceMethod yX3_canOpen ∈ BIG := big_in (tb3 (List.mem_of_getElem? (i := 96) rfl)) rfl
theorem bk_639 : Cond.selects RX3 yX3_canOpen yX3_canOpen ∈ BIG := big_in (tb3 (List.mem_of_getElem? (i := 97) rfl)) rfl
theorem bk_640 : Cond.code yX3_canOpen cX3_canOpen 1 (some .boolean) ∈ BIG := big_in (tb3 (List.mem_of_getElem? (i := 98) rfl)) rfl
theorem bk_641 : Cond.methodLink RX3 142 yX3_addEye ∈ BIG := big_in (tb3 (List.mem_of_getElem? (i := 99) rfl)) rfl
theorem bk_642 : Cond.instanceMethod yX3_addEye ∈ BIG := big_in (tb3 (List.mem_of_getElem? (i := 100) rfl)) rfl
theorem bk_643 : Cond.selects RX3 yX3_addEye yX3_addEye ∈ BIG := big_in (tb3 (List.mem_of_getElem? (i := 101) rfl)) rfl
theorem bk_644 : Cond.code yX3_addEye cX3_addEye 1 none ∈ BIG := big_in (tb3 (List.mem_of_getElem? (i := 102) rfl)) rfl
theorem bk_645 : Cond.methodLink RX7 323 yX3_tryClose ∈ BIG := big_in (tb3 (List.mem_of_getElem? (i := 103) rfl)) rfl
theorem bk_646 : Cond.instanceMethod yX3_tryClose ∈ BIG := big_in (tb3 (List.mem_of_getElem? (i := 104) rfl)) rfl
theorem bk_647 : Cond.selects RX3 yX3_tryClose yX3_tryClose ∈ BIG := big_in (tb3 (List.mem_of_getElem? (i := 105) rfl)) rfl
theorem bk_648 : Cond.code yX3_tryClose cX3_tryClose 2 (some .boolean) ∈ BIG := big_in (tb3 (List.mem_of_getElem? (i := 106) rfl)) rfl
theorem bk_649 : Cond.methodLink RX3 145 yX3_dropEye ∈ BIG := big_in (tb3 (List.mem_of_getElem? (i := 107) rfl)) rfl
theorem bk_650 : Cond.instanceMethod yX3_dropEye ∈ BIG := big_in (tb3 (List.mem_of_getElem? (i := 108) rfl)) rfl
theorem bk_651 : Cond.selects RX3 yX3_dropEye yX3_dropEye ∈ BIG := big_in (tb3 (List.mem_of_getElem? (i := 109) rfl)) rfl
theorem bk_652 : Cond.code yX3_dropEye cX3_dropEye 3 none ∈ BIG := big_in (tb3 (List.mem_of_getElem? (i := 110) rfl)) rfl
theorem bk_653 : Cond.methodLink RL 115 yL_about ∈ BIG := big_in (tb3 (List.mem_of_getElem? (i := 111) rfl)) rfl
theorem bk_654 : Cond.static yL_about ∈ BIG := big_in (tb3 (List.mem_of_getElem? (i := 112) rfl)) rfl
theorem bk_655 : Cond.codeWith yL_about cL_about 4 (some .int) [(0, 9, 12, 13)] ∈ BIG := big_in (tb3 (List.mem_of_getElem? (i := 113) rfl)) rfl
theorem bk_656 : Cond.methodLink RL 21 yX7_about ∈ BIG := big_in (tb3 (List.mem_of_getElem? (i := 114) rfl)) rfl
theorem bk_657 : Cond.instanceMethod yX7_about ∈ BIG := big_in (tb3 (List.mem_of_getElem? (i := 115) rfl)) rfl
theorem bk_658 : Cond.selects RX7 yX7_about yX7_about ∈ BIG := big_in (tb3 (List.mem_of_getElem? (i := 116) rfl)) rfl
theorem bk_659 : Cond.code yX7_about cX7_about 2 (some .int) ∈ BIG := big_in (tb3 (List.mem_of_getElem? (i := 117) rfl)) rfl
theorem bk_660 : Cond.methodLink RX7 98 yX3_latest ∈ BIG := big_in (tb3 (List.mem_of_getElem? (i := 118) rfl)) rfl
theorem bk_661 : Cond.instanceMethod yX3_latest ∈ BIG := big_in (tb3 (List.mem_of_getElem? (i := 119) rfl)) rfl
theorem bk_662 : Cond.selects RX3 yX3_latest yX3_latest ∈ BIG := big_in (tb3 (List.mem_of_getElem? (i := 120) rfl)) rfl
theorem bk_663 : Cond.code yX3_latest cX3_latest 1 (some .int) ∈ BIG := big_in (tb3 (List.mem_of_getElem? (i := 121) rfl)) rfl
theorem bk_664 : Cond.methodLink RX7 108 yX3_eyes ∈ BIG := big_in (tb3 (List.mem_of_getElem? (i := 122) rfl)) rfl
theorem bk_665 : Cond.instanceMethod yX3_eyes ∈ BIG := big_in (tb3 (List.mem_of_getElem? (i := 123) rfl)) rfl
theorem bk_666 : Cond.selects RX3 yX3_eyes yX3_eyes ∈ BIG := big_in (tb3 (List.mem_of_getElem? (i := 124) rfl)) rfl
theorem bk_667 : Cond.code yX3_eyes cX3_eyes 1 (some .int) ∈ BIG := big_in (tb3 (List.mem_of_getElem? (i := 125) rfl)) rfl
theorem bk_668 : Cond.methodLink RX7 114 yX3_entriesIn ∈ BIG := big_in (tb3 (List.mem_of_getElem? (i := 126) rfl)) rfl
theorem bk_669 : Cond.instanceMethod yX3_entriesIn ∈ BIG := big_in (tb3 (List.mem_of_getElem? (i := 127) rfl)) rfl
theorem bk_670 : Cond.selects RX3 yX3_entriesIn yX3_entriesIn ∈ BIG := big_in (tb3 (List.mem_of_getElem? (i := 128) rfl)) rfl
theorem bk_671 : Cond.code yX3_entriesIn cX3_entriesIn 5 (some .int) ∈ BIG := big_in (tb3 (List.mem_of_getElem? (i := 129) rfl)) rfl
theorem bk_672 : Cond.methodLink RX3 72 yX6_isEntry ∈ BIG := big_in (tb3 (List.mem_of_getElem? (i := 130) rfl)) rfl
theorem bk_673 : Cond.methodLink RX7 118 yX7_seenNow ∈ BIG := big_in (tb3 (List.mem_of_getElem? (i := 131) rfl)) rfl
theorem bk_675 : Cond.instanceMethod yX7_seenNow ∈ BIG := big_in (tb3 (List.mem_of_getElem? (i := 133) rfl)) rfl
theorem bk_676 : Cond.code yX7_seenNow cX7_seenNow 2 (some .int) ∈ BIG := big_in (tb3 (List.mem_of_getElem? (i := 134) rfl)) rfl
theorem bk_677 : Cond.methodLink RX7 122 yX5_look ∈ BIG := big_in (tb3 (List.mem_of_getElem? (i := 135) rfl)) rfl
theorem bk_678 : Cond.instanceMethod yX5_look ∈ BIG := big_in (tb3 (List.mem_of_getElem? (i := 136) rfl)) rfl
theorem bk_679 : Cond.selects RX5 yX5_look yX5_look ∈ BIG := big_in (tb3 (List.mem_of_getElem? (i := 137) rfl)) rfl
theorem bk_680 : Cond.code yX5_look cX5_look 6 none ∈ BIG := big_in (tb3 (List.mem_of_getElem? (i := 138) rfl)) rfl
theorem bk_681 : Cond.methodLink RX5 15 yJ7_fill_53178 ∈ BIG := big_in (tb3 (List.mem_of_getElem? (i := 139) rfl)) rfl
theorem bk_682 : Cond.static yJ7_fill_53178 ∈ BIG := big_in (tb3 (List.mem_of_getElem? (i := 140) rfl)) rfl
theorem bk_683 : Cond.code yJ7_fill_53178 cJ7_fill_53178 4 none ∈ BIG := big_in (tb3 (List.mem_of_getElem? (i := 141) rfl)) rfl
theorem bk_684 : Cond.methodLink RX5 27 yX6_size ∈ BIG := big_in (tb3 (List.mem_of_getElem? (i := 142) rfl)) rfl
theorem bk_685 : Cond.methodLink RX5 33 yX6_numberAt ∈ BIG := big_in (tb3 (List.mem_of_getElem? (i := 143) rfl)) rfl
theorem bk_686 : Cond.methodLink RX5 37 yX6_firstAt ∈ BIG := big_in (tb3 (List.mem_of_getElem? (i := 144) rfl)) rfl
theorem bk_687 : Cond.methodLink RX5 40 yJ9_max_7cf53 ∈ BIG := big_in (tb3 (List.mem_of_getElem? (i := 145) rfl)) rfl
theorem bk_688 : Cond.methodLink RX5 46 yX6_lastAt ∈ BIG := big_in (tb3 (List.mem_of_getElem? (i := 146) rfl)) rfl
theorem bk_689 : Cond.methodLink RX5 49 yX6_valueAt ∈ BIG := big_in (tb3 (List.mem_of_getElem? (i := 147) rfl)) rfl
theorem bk_690 : Cond.methodLink RX7 212 yX5_seenIn ∈ BIG := big_in (tb3 (List.mem_of_getElem? (i := 148) rfl)) rfl
theorem bk_691 : Cond.instanceMethod yX5_seenIn ∈ BIG := big_in (tb3 (List.mem_of_getElem? (i := 149) rfl)) rfl
theorem bk_692 : Cond.selects RX5 yX5_seenIn yX5_seenIn ∈ BIG := big_in (tb3 (List.mem_of_getElem? (i := 150) rfl)) rfl
theorem bk_693 : Cond.code yX5_seenIn cX5_seenIn 5 (some .int) ∈ BIG := big_in (tb3 (List.mem_of_getElem? (i := 151) rfl)) rfl
theorem bk_694 : Cond.methodLink RX7 126 yX5_sum ∈ BIG := big_in (tb3 (List.mem_of_getElem? (i := 152) rfl)) rfl
theorem bk_695 : Cond.instanceMethod yX5_sum ∈ BIG := big_in (tb3 (List.mem_of_getElem? (i := 153) rfl)) rfl
theorem bk_696 : Cond.selects RX5 yX5_sum yX5_sum ∈ BIG := big_in (tb3 (List.mem_of_getElem? (i := 154) rfl)) rfl
theorem bk_697 : Cond.code yX5_sum cX5_sum 3 (some .int) ∈ BIG := big_in (tb3 (List.mem_of_getElem? (i := 155) rfl)) rfl
theorem bk_698 : Cond.methodLink RX7 129 yX3_fewer ∈ BIG := big_in (tb3 (List.mem_of_getElem? (i := 156) rfl)) rfl
theorem bk_699 : Cond.instanceMethod yX3_fewer ∈ BIG := big_in (tb3 (List.mem_of_getElem? (i := 157) rfl)) rfl
theorem bk_700 : Cond.selects RX3 yX3_fewer yX3_fewer ∈ BIG := big_in (tb3 (List.mem_of_getElem? (i := 158) rfl)) rfl
theorem bk_701 : Cond.code yX3_fewer cX3_fewer 1 (some .int) ∈ BIG := big_in (tb3 (List.mem_of_getElem? (i := 159) rfl)) rfl
theorem bk_703 : Cond.methodLink RL 118 yL_get ∈ BIG := big_in (tb3 (List.mem_of_getElem? (i := 161) rfl)) rfl
theorem bk_704 : Cond.static yL_get ∈ BIG := big_in (tb3 (List.mem_of_getElem? (i := 162) rfl)) rfl
theorem bk_705 : Cond.codeWith yL_get cL_get 5 (some .int) [(0, 10, 13, 28)] ∈ BIG := big_in (tb3 (List.mem_of_getElem? (i := 163) rfl)) rfl
theorem bk_706 : Cond.classLink RL 28 "java/lang/IndexOutOfBoundsException" ∈ BIG := big_in (tb3 (List.mem_of_getElem? (i := 164) rfl)) rfl
theorem bk_707 : Cond.methodLink RL 24 yX7_get ∈ BIG := big_in (tb3 (List.mem_of_getElem? (i := 165) rfl)) rfl
theorem bk_708 : Cond.instanceMethod yX7_get ∈ BIG := big_in (tb3 (List.mem_of_getElem? (i := 166) rfl)) rfl
theorem bk_709 : Cond.selects RX7 yX7_get yX7_get ∈ BIG := big_in (tb3 (List.mem_of_getElem? (i := 167) rfl)) rfl
theorem bk_710 : Cond.code yX7_get cX7_get 4 (some .int) ∈ BIG := big_in (tb3 (List.mem_of_getElem? (i := 168) rfl)) rfl
theorem bk_711 : Cond.methodLink RX7 134 yX7_isKey ∈ BIG := big_in (tb3 (List.mem_of_getElem? (i := 169) rfl)) rfl
theorem bk_712 : Cond.methodLink RX7 137 yX3_isView ∈ BIG := big_in (tb3 (List.mem_of_getElem? (i := 170) rfl)) rfl
theorem bk_713 : Cond.instanceMethod yX3_isView ∈ BIG := big_in (tb3 (List.mem_of_getElem? (i := 171) rfl)) rfl
theorem bk_714 : Cond.selects RX3 yX3_isView yX3_isView ∈ BIG := big_in (tb3 (List.mem_of_getElem? (i := 172) rfl)) rfl
theorem bk_715 : Cond.code yX3_isView cX3_isView 2 (some .boolean) ∈ BIG := big_in (tb3 (List.mem_of_getElem? (i := 173) rfl)) rfl
theorem bk_716 : Cond.classLink RX7 140 "java/lang/IndexOutOfBoundsException" ∈ BIG := big_in (tb3 (List.mem_of_getElem? (i := 174) rfl)) rfl
theorem bk_732 : Cond.methodLink RX7 145 yX3_limitOf ∈ BIG := big_in (tb3 (List.mem_of_getElem? (i := 190) rfl)) rfl
theorem bk_733 : Cond.methodLink RX7 148 yX3_valueFor ∈ BIG := big_in (tb3 (List.mem_of_getElem? (i := 191) rfl)) rfl
theorem bk_734 : Cond.instanceMethod yX3_valueFor ∈ BIG := big_in (tb3 (List.mem_of_getElem? (i := 192) rfl)) rfl
theorem bk_735 : Cond.selects RX3 yX3_valueFor yX3_valueFor ∈ BIG := big_in (tb3 (List.mem_of_getElem? (i := 193) rfl)) rfl
theorem bk_736 : Cond.code yX3_valueFor cX3_valueFor 3 (some .int) ∈ BIG := big_in (tb3 (List.mem_of_getElem? (i := 194) rfl)) rfl
theorem bk_737 : Cond.methodLink RX3 103 yX6_valueAt ∈ BIG := big_in (tb3 (List.mem_of_getElem? (i := 195) rfl)) rfl
theorem bk_738 : Cond.methodLink RL 122 yL_run ∈ BIG := big_in (tb3 (List.mem_of_getElem? (i := 196) rfl)) rfl
theorem bk_739 : Cond.static yL_run ∈ BIG := big_in (tb3 (List.mem_of_getElem? (i := 197) rfl)) rfl
theorem bk_740 : Cond.codeWith yL_run cL_run 5 (some .int) [(0, 10, 13, 28), (0, 10, 17, 13)] ∈ BIG := big_in (tb3 (List.mem_of_getElem? (i := 198) rfl)) rfl
theorem bk_741 : Cond.methodLink RL 30 yX7_run ∈ BIG := big_in (tb3 (List.mem_of_getElem? (i := 199) rfl)) rfl
theorem bk_742 : Cond.instanceMethod yX7_run ∈ BIG := big_in (tb3 (List.mem_of_getElem? (i := 200) rfl)) rfl
theorem bk_743 : Cond.selects RX7 yX7_run yX7_run ∈ BIG := big_in (tb3 (List.mem_of_getElem? (i := 201) rfl)) rfl
theorem bk_744 : Cond.code yX7_run cX7_run 3 (some .int) ∈ BIG := big_in (tb3 (List.mem_of_getElem? (i := 202) rfl)) rfl
theorem bk_745 : Cond.methodLink RX7 151 yX3_isPlace ∈ BIG := big_in (tb3 (List.mem_of_getElem? (i := 203) rfl)) rfl
theorem bk_746 : Cond.instanceMethod yX3_isPlace ∈ BIG := big_in (tb3 (List.mem_of_getElem? (i := 204) rfl)) rfl
theorem bk_747 : Cond.selects RX3 yX3_isPlace yX3_isPlace ∈ BIG := big_in (tb3 (List.mem_of_getElem? (i := 205) rfl)) rfl
theorem bk_748 : Cond.code yX3_isPlace cX3_isPlace 2 (some .boolean) ∈ BIG := big_in (tb3 (List.mem_of_getElem? (i := 206) rfl)) rfl
theorem bk_750 : Cond.methodLink RX7 156 yX3_startOf ∈ BIG := big_in (tb3 (List.mem_of_getElem? (i := 208) rfl)) rfl
theorem bk_751 : Cond.methodLink RX7 159 yX3_endOf ∈ BIG := big_in (tb3 (List.mem_of_getElem? (i := 209) rfl)) rfl
theorem bk_752 : Cond.methodLink RX7 166 yX6_numberAt ∈ BIG := big_in (tb3 (List.mem_of_getElem? (i := 210) rfl)) rfl
theorem bk_753 : Cond.methodLink RX7 171 yX3_keysIn ∈ BIG := big_in (tb3 (List.mem_of_getElem? (i := 211) rfl)) rfl
theorem bk_754 : Cond.instanceMethod yX3_keysIn ∈ BIG := big_in (tb3 (List.mem_of_getElem? (i := 212) rfl)) rfl
theorem bk_755 : Cond.selects RX3 yX3_keysIn yX3_keysIn ∈ BIG := big_in (tb3 (List.mem_of_getElem? (i := 213) rfl)) rfl
theorem bk_756 : Cond.code yX3_keysIn cX3_keysIn 4 (some .int) ∈ BIG := big_in (tb3 (List.mem_of_getElem? (i := 214) rfl)) rfl
theorem bk_757 : Cond.classLink RX3 75 RX2 ∈ BIG := big_in (tb3 (List.mem_of_getElem? (i := 215) rfl)) rfl
theorem bk_759 : Cond.methodLink RX3 81 yX6_lastAt ∈ BIG := big_in (tb3 (List.mem_of_getElem? (i := 217) rfl)) rfl
theorem bk_760 : Cond.methodLink RX3 84 yX2_addRow ∈ BIG := big_in (tb3 (List.mem_of_getElem? (i := 218) rfl)) rfl
theorem bk_761 : Cond.methodLink RX3 88 yX2_size ∈ BIG := big_in (tb3 (List.mem_of_getElem? (i := 219) rfl)) rfl
theorem bk_762 : Cond.instanceMethod yX2_size ∈ BIG := big_in (tb3 (List.mem_of_getElem? (i := 220) rfl)) rfl
theorem bk_763 : Cond.selects RX2 yX2_size yX2_size ∈ BIG := big_in (tb3 (List.mem_of_getElem? (i := 221) rfl)) rfl
theorem bk_764 : Cond.code yX2_size cX2_size 1 (some .int) ∈ BIG := big_in (tb3 (List.mem_of_getElem? (i := 222) rfl)) rfl
theorem bk_765 : Cond.methodLink RX2 29 yJ13_bitCount_95d88 ∈ BIG := big_in (tb3 (List.mem_of_getElem? (i := 223) rfl)) rfl
theorem bk_766 : Cond.static yJ13_bitCount_95d88 ∈ BIG := big_in (tb3 (List.mem_of_getElem? (i := 224) rfl)) rfl
theorem bk_767 : Cond.code yJ13_bitCount_95d88 cJ13_bitCount_95d88 2 (some .int) ∈ BIG := big_in (tb3 (List.mem_of_getElem? (i := 225) rfl)) rfl
theorem bk_768 : Cond.constantLong RJ13 314 (6148914691236517205) ∈ BIG := big_in (tb3 (List.mem_of_getElem? (i := 226) rfl)) rfl
theorem bk_769 : Cond.constantLong RJ13 316 (3689348814741910323) ∈ BIG := big_in (tb3 (List.mem_of_getElem? (i := 227) rfl)) rfl
theorem bk_770 : Cond.constantLong RJ13 318 (1085102592571150095) ∈ BIG := big_in (tb3 (List.mem_of_getElem? (i := 228) rfl)) rfl
theorem bk_772 : Cond.methodLink RL 125 yL_write ∈ BIG := big_in (tb3 (List.mem_of_getElem? (i := 230) rfl)) rfl
theorem bk_773 : Cond.static yL_write ∈ BIG := big_in (tb3 (List.mem_of_getElem? (i := 231) rfl)) rfl
theorem bk_774 : Cond.codeWith yL_write cL_write 6 (some .int) [(0, 12, 15, 28), (0, 12, 19, 13)] ∈ BIG := big_in (tb3 (List.mem_of_getElem? (i := 232) rfl)) rfl
theorem bk_775 : Cond.methodLink RL 33 yX7_write ∈ BIG := big_in (tb3 (List.mem_of_getElem? (i := 233) rfl)) rfl
theorem bk_776 : Cond.instanceMethod yX7_write ∈ BIG := big_in (tb3 (List.mem_of_getElem? (i := 234) rfl)) rfl
theorem bk_777 : Cond.selects RX7 yX7_write yX7_write ∈ BIG := big_in (tb3 (List.mem_of_getElem? (i := 235) rfl)) rfl
theorem bk_778 : Cond.code yX7_write cX7_write 5 (some .int) ∈ BIG := big_in (tb3 (List.mem_of_getElem? (i := 236) rfl)) rfl
theorem bk_780 : Cond.methodLink RX7 178 yX6_firstAt ∈ BIG := big_in (tb3 (List.mem_of_getElem? (i := 238) rfl)) rfl
theorem bk_781 : Cond.methodLink RX7 181 yX6_lastAt ∈ BIG := big_in (tb3 (List.mem_of_getElem? (i := 239) rfl)) rfl
theorem bk_782 : Cond.methodLink RX7 184 yX6_valueAt ∈ BIG := big_in (tb4 (List.mem_of_getElem? (i := 0) rfl)) rfl
theorem bk_783 : Cond.methodLink RL 129 yL_eye ∈ BIG := big_in (tb4 (List.mem_of_getElem? (i := 1) rfl)) rfl
theorem bk_784 : Cond.static yL_eye ∈ BIG := big_in (tb4 (List.mem_of_getElem? (i := 2) rfl)) rfl
theorem bk_785 : Cond.codeWith yL_eye cL_eye 4 (some .int) [(0, 9, 12, 28)] ∈ BIG := big_in (tb4 (List.mem_of_getElem? (i := 3) rfl)) rfl
theorem bk_786 : Cond.methodLink RL 37 yX7_eye ∈ BIG := big_in (tb4 (List.mem_of_getElem? (i := 4) rfl)) rfl
theorem bk_787 : Cond.instanceMethod yX7_eye ∈ BIG := big_in (tb4 (List.mem_of_getElem? (i := 5) rfl)) rfl
theorem bk_788 : Cond.selects RX7 yX7_eye yX7_eye ∈ BIG := big_in (tb4 (List.mem_of_getElem? (i := 6) rfl)) rfl
theorem bk_789 : Cond.code yX7_eye cX7_eye 2 (some .int) ∈ BIG := big_in (tb4 (List.mem_of_getElem? (i := 7) rfl)) rfl
theorem bk_790 : Cond.methodLink RX7 187 yX3_isEye ∈ BIG := big_in (tb4 (List.mem_of_getElem? (i := 8) rfl)) rfl
theorem bk_792 : Cond.methodLink RL 132 yL_put ∈ BIG := big_in (tb4 (List.mem_of_getElem? (i := 10) rfl)) rfl
theorem bk_793 : Cond.static yL_put ∈ BIG := big_in (tb4 (List.mem_of_getElem? (i := 11) rfl)) rfl
theorem bk_794 : Cond.codeWith yL_put cL_put 5 (some .int) [(0, 10, 13, 28), (0, 10, 17, 13), (0, 10, 21, 15)] ∈ BIG := big_in (tb4 (List.mem_of_getElem? (i := 12) rfl)) rfl
theorem bk_795 : Cond.methodLink RL 40 yX7_put ∈ BIG := big_in (tb4 (List.mem_of_getElem? (i := 13) rfl)) rfl
theorem bk_796 : Cond.instanceMethod yX7_put ∈ BIG := big_in (tb4 (List.mem_of_getElem? (i := 14) rfl)) rfl
theorem bk_797 : Cond.selects RX7 yX7_put yX7_put ∈ BIG := big_in (tb4 (List.mem_of_getElem? (i := 15) rfl)) rfl
theorem bk_798 : Cond.code yX7_put cX7_put 3 (some .int) ∈ BIG := big_in (tb4 (List.mem_of_getElem? (i := 16) rfl)) rfl
theorem bk_800 : Cond.methodLink RX7 194 yX7_isValue ∈ BIG := big_in (tb4 (List.mem_of_getElem? (i := 18) rfl)) rfl
theorem bk_802 : Cond.methodLink RX7 199 yX3_isFull ∈ BIG := big_in (tb4 (List.mem_of_getElem? (i := 20) rfl)) rfl
theorem bk_804 : Cond.methodLink RX7 202 yX1_remember ∈ BIG := big_in (tb4 (List.mem_of_getElem? (i := 22) rfl)) rfl
theorem bk_805 : Cond.instanceMethod yX1_remember ∈ BIG := big_in (tb4 (List.mem_of_getElem? (i := 23) rfl)) rfl
theorem bk_806 : Cond.selects RX1 yX1_remember yX1_remember ∈ BIG := big_in (tb4 (List.mem_of_getElem? (i := 24) rfl)) rfl
theorem bk_807 : Cond.code yX1_remember cX1_remember 2 none ∈ BIG := big_in (tb4 (List.mem_of_getElem? (i := 25) rfl)) rfl
theorem bk_808 : Cond.methodLink RX1 27 yX3_become ∈ BIG := big_in (tb4 (List.mem_of_getElem? (i := 26) rfl)) rfl
theorem bk_809 : Cond.methodLink RX7 206 yX3_addWrite ∈ BIG := big_in (tb4 (List.mem_of_getElem? (i := 27) rfl)) rfl
theorem bk_810 : Cond.methodLink RL 135 yL_bury ∈ BIG := big_in (tb4 (List.mem_of_getElem? (i := 28) rfl)) rfl
theorem bk_811 : Cond.static yL_bury ∈ BIG := big_in (tb4 (List.mem_of_getElem? (i := 29) rfl)) rfl
theorem bk_812 : Cond.codeWith yL_bury cL_bury 5 (some .int) [(0, 10, 13, 28), (0, 10, 17, 13), (0, 10, 21, 15)] ∈ BIG := big_in (tb4 (List.mem_of_getElem? (i := 30) rfl)) rfl
theorem bk_813 : Cond.methodLink RL 43 yX7_bury ∈ BIG := big_in (tb4 (List.mem_of_getElem? (i := 31) rfl)) rfl
theorem bk_814 : Cond.instanceMethod yX7_bury ∈ BIG := big_in (tb4 (List.mem_of_getElem? (i := 32) rfl)) rfl
theorem bk_815 : Cond.selects RX7 yX7_bury yX7_bury ∈ BIG := big_in (tb4 (List.mem_of_getElem? (i := 33) rfl)) rfl
theorem bk_816 : Cond.code yX7_bury cX7_bury 3 (some .int) ∈ BIG := big_in (tb4 (List.mem_of_getElem? (i := 34) rfl)) rfl
theorem bk_818 : Cond.methodLink RL 138 yL_open ∈ BIG := big_in (tb4 (List.mem_of_getElem? (i := 36) rfl)) rfl
theorem bk_819 : Cond.static yL_open ∈ BIG := big_in (tb4 (List.mem_of_getElem? (i := 37) rfl)) rfl
theorem bk_820 : Cond.codeWith yL_open cL_open 3 (some .int) [(0, 8, 11, 15)] ∈ BIG := big_in (tb4 (List.mem_of_getElem? (i := 38) rfl)) rfl
theorem bk_821 : Cond.methodLink RL 46 yX7_open ∈ BIG := big_in (tb4 (List.mem_of_getElem? (i := 39) rfl)) rfl
theorem bk_822 : Cond.instanceMethod yX7_open ∈ BIG := big_in (tb4 (List.mem_of_getElem? (i := 40) rfl)) rfl
theorem bk_823 : Cond.selects RX7 yX7_open yX7_open ∈ BIG := big_in (tb4 (List.mem_of_getElem? (i := 41) rfl)) rfl
theorem bk_824 : Cond.code yX7_open cX7_open 1 (some .int) ∈ BIG := big_in (tb4 (List.mem_of_getElem? (i := 42) rfl)) rfl
theorem bk_825 : Cond.methodLink RX7 215 yX3_canOpen ∈ BIG := big_in (tb4 (List.mem_of_getElem? (i := 43) rfl)) rfl
theorem bk_827 : Cond.methodLink RX7 220 yX3_addEye ∈ BIG := big_in (tb4 (List.mem_of_getElem? (i := 45) rfl)) rfl
theorem bk_828 : Cond.methodLink RL 141 yL_close ∈ BIG := big_in (tb4 (List.mem_of_getElem? (i := 46) rfl)) rfl
theorem bk_829 : Cond.static yL_close ∈ BIG := big_in (tb4 (List.mem_of_getElem? (i := 47) rfl)) rfl
theorem bk_830 : Cond.codeWith yL_close cL_close 4 (some .int) [(0, 9, 12, 28)] ∈ BIG := big_in (tb4 (List.mem_of_getElem? (i := 48) rfl)) rfl
theorem bk_831 : Cond.methodLink RL 49 yX7_close ∈ BIG := big_in (tb4 (List.mem_of_getElem? (i := 49) rfl)) rfl
theorem bk_832 : Cond.instanceMethod yX7_close ∈ BIG := big_in (tb4 (List.mem_of_getElem? (i := 50) rfl)) rfl
theorem bk_833 : Cond.selects RX7 yX7_close yX7_close ∈ BIG := big_in (tb4 (List.mem_of_getElem? (i := 51) rfl)) rfl
theorem bk_834 : Cond.code yX7_close cX7_close 2 (some .int) ∈ BIG := big_in (tb4 (List.mem_of_getElem? (i := 52) rfl)) rfl
theorem bk_835 : Cond.methodLink RX7 223 yX3_dropEye ∈ BIG := big_in (tb4 (List.mem_of_getElem? (i := 53) rfl)) rfl
theorem bk_836 : Cond.methodLink RL 144 yL_flush ∈ BIG := big_in (tb4 (List.mem_of_getElem? (i := 54) rfl)) rfl
theorem bk_837 : Cond.static yL_flush ∈ BIG := big_in (tb4 (List.mem_of_getElem? (i := 55) rfl)) rfl
theorem bk_838 : Cond.codeWith yL_flush cL_flush 3 (some .int) [(0, 8, 11, 15)] ∈ BIG := big_in (tb4 (List.mem_of_getElem? (i := 56) rfl)) rfl
theorem bk_839 : Cond.methodLink RL 52 yX7_flush ∈ BIG := big_in (tb4 (List.mem_of_getElem? (i := 57) rfl)) rfl
theorem bk_840 : Cond.instanceMethod yX7_flush ∈ BIG := big_in (tb4 (List.mem_of_getElem? (i := 58) rfl)) rfl
theorem bk_841 : Cond.selects RX7 yX7_flush yX7_flush ∈ BIG := big_in (tb4 (List.mem_of_getElem? (i := 59) rfl)) rfl
theorem bk_842 : Cond.code yX7_flush cX7_flush 1 (some .int) ∈ BIG := big_in (tb4 (List.mem_of_getElem? (i := 60) rfl)) rfl
theorem bk_843 : Cond.methodLink RX7 226 yX3_canFlush ∈ BIG := big_in (tb4 (List.mem_of_getElem? (i := 61) rfl)) rfl
theorem bk_845 : Cond.methodLink RL 147 yL_merge ∈ BIG := big_in (tb4 (List.mem_of_getElem? (i := 63) rfl)) rfl
theorem bk_846 : Cond.static yL_merge ∈ BIG := big_in (tb4 (List.mem_of_getElem? (i := 64) rfl)) rfl
theorem bk_847 : Cond.codeWith yL_merge cL_merge 4 (some .int) [(0, 9, 12, 28), (0, 9, 15, 15)] ∈ BIG := big_in (tb4 (List.mem_of_getElem? (i := 65) rfl)) rfl
theorem bk_848 : Cond.methodLink RL 55 yX7_merge ∈ BIG := big_in (tb4 (List.mem_of_getElem? (i := 66) rfl)) rfl
theorem bk_849 : Cond.instanceMethod yX7_merge ∈ BIG := big_in (tb4 (List.mem_of_getElem? (i := 67) rfl)) rfl
theorem bk_850 : Cond.selects RX7 yX7_merge yX7_merge ∈ BIG := big_in (tb4 (List.mem_of_getElem? (i := 68) rfl)) rfl
theorem bk_851 : Cond.code yX7_merge cX7_merge 2 (some .int) ∈ BIG := big_in (tb4 (List.mem_of_getElem? (i := 69) rfl)) rfl
theorem bk_852 : Cond.methodLink RX7 234 yX3_isRun ∈ BIG := big_in (tb4 (List.mem_of_getElem? (i := 70) rfl)) rfl
theorem bk_854 : Cond.methodLink RL 150 yL_undo ∈ BIG := big_in (tb4 (List.mem_of_getElem? (i := 72) rfl)) rfl
theorem bk_855 : Cond.static yL_undo ∈ BIG := big_in (tb4 (List.mem_of_getElem? (i := 73) rfl)) rfl
theorem bk_856 : Cond.codeWith yL_undo cL_undo 3 (some .int) [(0, 8, 11, 15)] ∈ BIG := big_in (tb4 (List.mem_of_getElem? (i := 74) rfl)) rfl
theorem bk_857 : Cond.methodLink RL 58 yX7_undo ∈ BIG := big_in (tb4 (List.mem_of_getElem? (i := 75) rfl)) rfl
theorem bk_858 : Cond.instanceMethod yX7_undo ∈ BIG := big_in (tb4 (List.mem_of_getElem? (i := 76) rfl)) rfl
theorem bk_859 : Cond.selects RX7 yX7_undo yX7_undo ∈ BIG := big_in (tb4 (List.mem_of_getElem? (i := 77) rfl)) rfl
theorem bk_860 : Cond.code yX7_undo cX7_undo 1 (some .int) ∈ BIG := big_in (tb4 (List.mem_of_getElem? (i := 78) rfl)) rfl
theorem bk_861 : Cond.methodLink RX7 245 yX1_size ∈ BIG := big_in (tb4 (List.mem_of_getElem? (i := 79) rfl)) rfl
theorem bk_862 : Cond.instanceMethod yX1_size ∈ BIG := big_in (tb4 (List.mem_of_getElem? (i := 80) rfl)) rfl
theorem bk_863 : Cond.selects RX1 yX1_size yX1_size ∈ BIG := big_in (tb4 (List.mem_of_getElem? (i := 81) rfl)) rfl
theorem bk_864 : Cond.code yX1_size cX1_size 1 (some .int) ∈ BIG := big_in (tb4 (List.mem_of_getElem? (i := 82) rfl)) rfl
theorem bk_866 : Cond.methodLink RX7 248 yX1_takeBack ∈ BIG := big_in (tb4 (List.mem_of_getElem? (i := 84) rfl)) rfl
theorem bk_867 : Cond.instanceMethod yX1_takeBack ∈ BIG := big_in (tb4 (List.mem_of_getElem? (i := 85) rfl)) rfl
theorem bk_868 : Cond.selects RX1 yX1_takeBack yX1_takeBack ∈ BIG := big_in (tb4 (List.mem_of_getElem? (i := 86) rfl)) rfl
theorem bk_869 : Cond.code yX1_takeBack cX1_takeBack 2 none ∈ BIG := big_in (tb4 (List.mem_of_getElem? (i := 87) rfl)) rfl
theorem bk_870 : Cond.methodLink RL 153 yL_looks ∈ BIG := big_in (tb4 (List.mem_of_getElem? (i := 88) rfl)) rfl
theorem bk_871 : Cond.static yL_looks ∈ BIG := big_in (tb4 (List.mem_of_getElem? (i := 89) rfl)) rfl
theorem bk_872 : Cond.codeWith yL_looks cL_looks 4 (some .int) [(0, 9, 12, 28)] ∈ BIG := big_in (tb4 (List.mem_of_getElem? (i := 90) rfl)) rfl
theorem bk_873 : Cond.methodLink RL 61 yX7_looks ∈ BIG := big_in (tb4 (List.mem_of_getElem? (i := 91) rfl)) rfl
theorem bk_874 : Cond.instanceMethod yX7_looks ∈ BIG := big_in (tb4 (List.mem_of_getElem? (i := 92) rfl)) rfl
theorem bk_875 : Cond.selects RX7 yX7_looks yX7_looks ∈ BIG := big_in (tb4 (List.mem_of_getElem? (i := 93) rfl)) rfl
theorem bk_876 : Cond.code yX7_looks cX7_looks 5 (some .int) ∈ BIG := big_in (tb4 (List.mem_of_getElem? (i := 94) rfl)) rfl
theorem bk_877 : Cond.methodLink RX7 251 yX3_newestFor ∈ BIG := big_in (tb4 (List.mem_of_getElem? (i := 95) rfl)) rfl
theorem bk_878 : Cond.methodLink RL 156 yL_next ∈ BIG := big_in (tb4 (List.mem_of_getElem? (i := 96) rfl)) rfl
theorem bk_879 : Cond.static yL_next ∈ BIG := big_in (tb4 (List.mem_of_getElem? (i := 97) rfl)) rfl
theorem bk_880 : Cond.codeWith yL_next cL_next 5 (some .int) [(0, 10, 13, 28)] ∈ BIG := big_in (tb4 (List.mem_of_getElem? (i := 98) rfl)) rfl
theorem bk_881 : Cond.methodLink RL 64 yX7_next ∈ BIG := big_in (tb4 (List.mem_of_getElem? (i := 99) rfl)) rfl
theorem bk_882 : Cond.instanceMethod yX7_next ∈ BIG := big_in (tb4 (List.mem_of_getElem? (i := 100) rfl)) rfl
theorem bk_883 : Cond.selects RX7 yX7_next yX7_next ∈ BIG := big_in (tb4 (List.mem_of_getElem? (i := 101) rfl)) rfl
theorem bk_884 : Cond.code yX7_next cX7_next 3 (some .int) ∈ BIG := big_in (tb4 (List.mem_of_getElem? (i := 102) rfl)) rfl
theorem bk_885 : Cond.methodLink RX7 254 yX5_firstSeen ∈ BIG := big_in (tb4 (List.mem_of_getElem? (i := 103) rfl)) rfl
theorem bk_886 : Cond.instanceMethod yX5_firstSeen ∈ BIG := big_in (tb4 (List.mem_of_getElem? (i := 104) rfl)) rfl
theorem bk_887 : Cond.selects RX5 yX5_firstSeen yX5_firstSeen ∈ BIG := big_in (tb4 (List.mem_of_getElem? (i := 105) rfl)) rfl
theorem bk_888 : Cond.code yX5_firstSeen cX5_firstSeen 3 (some .int) ∈ BIG := big_in (tb4 (List.mem_of_getElem? (i := 106) rfl)) rfl
theorem bk_889 : Cond.methodLink RL 159 yL_count ∈ BIG := big_in (tb4 (List.mem_of_getElem? (i := 107) rfl)) rfl
theorem bk_890 : Cond.static yL_count ∈ BIG := big_in (tb4 (List.mem_of_getElem? (i := 108) rfl)) rfl
theorem bk_891 : Cond.codeWith yL_count cL_count 6 (some .int) [(0, 12, 15, 28), (0, 12, 19, 13)] ∈ BIG := big_in (tb4 (List.mem_of_getElem? (i := 109) rfl)) rfl
theorem bk_892 : Cond.methodLink RL 67 yX7_count ∈ BIG := big_in (tb4 (List.mem_of_getElem? (i := 110) rfl)) rfl
theorem bk_893 : Cond.instanceMethod yX7_count ∈ BIG := big_in (tb4 (List.mem_of_getElem? (i := 111) rfl)) rfl
theorem bk_894 : Cond.selects RX7 yX7_count yX7_count ∈ BIG := big_in (tb4 (List.mem_of_getElem? (i := 112) rfl)) rfl
theorem bk_895 : Cond.code yX7_count cX7_count 4 (some .int) ∈ BIG := big_in (tb4 (List.mem_of_getElem? (i := 113) rfl)) rfl
theorem bk_896 : Cond.methodLink RL 166 yL_grave ∈ BIG := big_in (tb4 (List.mem_of_getElem? (i := 114) rfl)) rfl
theorem bk_897 : Cond.static yL_grave ∈ BIG := big_in (tb4 (List.mem_of_getElem? (i := 115) rfl)) rfl
theorem bk_898 : Cond.codeWith yL_grave cL_grave 4 (some .int) [(0, 9, 12, 28)] ∈ BIG := big_in (tb4 (List.mem_of_getElem? (i := 116) rfl)) rfl
theorem bk_899 : Cond.methodLink RL 70 yX7_grave ∈ BIG := big_in (tb4 (List.mem_of_getElem? (i := 117) rfl)) rfl
theorem bk_900 : Cond.instanceMethod yX7_grave ∈ BIG := big_in (tb4 (List.mem_of_getElem? (i := 118) rfl)) rfl
theorem bk_901 : Cond.selects RX7 yX7_grave yX7_grave ∈ BIG := big_in (tb4 (List.mem_of_getElem? (i := 119) rfl)) rfl
theorem bk_902 : Cond.code yX7_grave cX7_grave 3 (some .int) ∈ BIG := big_in (tb4 (List.mem_of_getElem? (i := 120) rfl)) rfl
theorem bk_903 : Cond.methodLink RX7 263 yX6_concerns ∈ BIG := big_in (tb4 (List.mem_of_getElem? (i := 121) rfl)) rfl
theorem bk_904 : Cond.methodLink RL 169 yL_saves ∈ BIG := big_in (tb4 (List.mem_of_getElem? (i := 122) rfl)) rfl
theorem bk_905 : Cond.static yL_saves ∈ BIG := big_in (tb4 (List.mem_of_getElem? (i := 123) rfl)) rfl
theorem bk_906 : Cond.codeWith yL_saves cL_saves 4 (some .int) [(0, 9, 12, 28), (0, 9, 15, 15)] ∈ BIG := big_in (tb4 (List.mem_of_getElem? (i := 124) rfl)) rfl
theorem bk_907 : Cond.methodLink RL 73 yX7_saves ∈ BIG := big_in (tb4 (List.mem_of_getElem? (i := 125) rfl)) rfl
theorem bk_908 : Cond.instanceMethod yX7_saves ∈ BIG := big_in (tb4 (List.mem_of_getElem? (i := 126) rfl)) rfl
theorem bk_909 : Cond.selects RX7 yX7_saves yX7_saves ∈ BIG := big_in (tb4 (List.mem_of_getElem? (i := 127) rfl)) rfl
theorem bk_910 : Cond.code yX7_saves cX7_saves 2 (some .int) ∈ BIG := big_in (tb4 (List.mem_of_getElem? (i := 128) rfl)) rfl
theorem bk_911 : Cond.methodLink RL 182 yL_runScript ∈ BIG := big_in (tb4 (List.mem_of_getElem? (i := 129) rfl)) rfl
theorem bk_912 : Cond.static yL_runScript ∈ BIG := big_in (tb4 (List.mem_of_getElem? (i := 130) rfl)) rfl
theorem bk_913 : Cond.codeWith yL_runScript cL_runScript 6 (some .int) [(0, 11, 14, 13)] ∈ BIG := big_in (tb4 (List.mem_of_getElem? (i := 131) rfl)) rfl
theorem bk_914 : Cond.methodLink RL 76 yX7_runScript ∈ BIG := big_in (tb4 (List.mem_of_getElem? (i := 132) rfl)) rfl
theorem bk_915 : Cond.instanceMethod yX7_runScript ∈ BIG := big_in (tb4 (List.mem_of_getElem? (i := 133) rfl)) rfl
theorem bk_916 : Cond.selects RX7 yX7_runScript yX7_runScript ∈ BIG := big_in (tb4 (List.mem_of_getElem? (i := 134) rfl)) rfl
theorem bk_917 : Cond.code yX7_runScript cX7_runScript 6 (some .int) ∈ BIG := big_in (tb4 (List.mem_of_getElem? (i := 135) rfl)) rfl
theorem bk_919 : Cond.methodLink RX7 278 yX7_withoutLast ∈ BIG := big_in (tb4 (List.mem_of_getElem? (i := 137) rfl)) rfl
theorem bk_920 : Cond.static yX7_withoutLast ∈ BIG := big_in (tb4 (List.mem_of_getElem? (i := 138) rfl)) rfl
theorem bk_921 : Cond.code yX7_withoutLast cX7_withoutLast 6 (some .long) ∈ BIG := big_in (tb4 (List.mem_of_getElem? (i := 139) rfl)) rfl
theorem bk_922 : Cond.constantLong RX7 284 (100000) ∈ BIG := big_in (tb4 (List.mem_of_getElem? (i := 140) rfl)) rfl
theorem bk_924 : Cond.methodLink RX7 286 yX7_doGroup ∈ BIG := big_in (tb4 (List.mem_of_getElem? (i := 142) rfl)) rfl
theorem bk_926 : Cond.instanceMethod yX7_doGroup ∈ BIG := big_in (tb4 (List.mem_of_getElem? (i := 144) rfl)) rfl
theorem bk_927 : Cond.code yX7_doGroup cX7_doGroup 6 (some .boolean) ∈ BIG := big_in (tb4 (List.mem_of_getElem? (i := 145) rfl)) rfl
theorem bk_928 : Cond.methodLink RL 186 yL_simulate ∈ BIG := big_in (tb4 (List.mem_of_getElem? (i := 146) rfl)) rfl
theorem bk_929 : Cond.static yL_simulate ∈ BIG := big_in (tb4 (List.mem_of_getElem? (i := 147) rfl)) rfl
theorem bk_930 : Cond.codeWith yL_simulate cL_simulate 6 (some .int) [(0, 11, 14, 13)] ∈ BIG := big_in (tb4 (List.mem_of_getElem? (i := 148) rfl)) rfl
theorem bk_931 : Cond.methodLink RL 80 yX7_simulate ∈ BIG := big_in (tb4 (List.mem_of_getElem? (i := 149) rfl)) rfl
theorem bk_932 : Cond.instanceMethod yX7_simulate ∈ BIG := big_in (tb4 (List.mem_of_getElem? (i := 150) rfl)) rfl
theorem bk_933 : Cond.selects RX7 yX7_simulate yX7_simulate ∈ BIG := big_in (tb4 (List.mem_of_getElem? (i := 151) rfl)) rfl
theorem bk_934 : Cond.code yX7_simulate cX7_simulate 7 (some .int) ∈ BIG := big_in (tb4 (List.mem_of_getElem? (i := 152) rfl)) rfl
theorem bk_936 : Cond.constantLong RX7 291 (6364136223846793005) ∈ BIG := big_in (tb4 (List.mem_of_getElem? (i := 154) rfl)) rfl
theorem bk_937 : Cond.constantLong RX7 293 (1442695040888963407) ∈ BIG := big_in (tb4 (List.mem_of_getElem? (i := 155) rfl)) rfl
theorem bk_938 : Cond.methodLink RX7 295 yX7_doTurn ∈ BIG := big_in (tb4 (List.mem_of_getElem? (i := 156) rfl)) rfl
theorem bk_940 : Cond.instanceMethod yX7_doTurn ∈ BIG := big_in (tb4 (List.mem_of_getElem? (i := 158) rfl)) rfl
theorem bk_941 : Cond.code yX7_doTurn cX7_doTurn 4 none ∈ BIG := big_in (tb4 (List.mem_of_getElem? (i := 159) rfl)) rfl
theorem bk_942 : Cond.methodLink RX7 326 yJ9_min_7cf53 ∈ BIG := big_in (tb4 (List.mem_of_getElem? (i := 160) rfl)) rfl
theorem bk_943 : Cond.methodLink RL 190 yL_save ∈ BIG := big_in (tb4 (List.mem_of_getElem? (i := 161) rfl)) rfl
theorem bk_944 : Cond.static yL_save ∈ BIG := big_in (tb4 (List.mem_of_getElem? (i := 162) rfl)) rfl
theorem bk_945 : Cond.codeWith yL_save cL_save 4 (some .int) [(0, 9, 12, 28)] ∈ BIG := big_in (tb4 (List.mem_of_getElem? (i := 163) rfl)) rfl
theorem bk_946 : Cond.methodLink RL 84 yX7_save ∈ BIG := big_in (tb4 (List.mem_of_getElem? (i := 164) rfl)) rfl
theorem bk_947 : Cond.instanceMethod yX7_save ∈ BIG := big_in (tb4 (List.mem_of_getElem? (i := 165) rfl)) rfl
theorem bk_948 : Cond.selects RX7 yX7_save yX7_save ∈ BIG := big_in (tb4 (List.mem_of_getElem? (i := 166) rfl)) rfl
theorem bk_949 : Cond.code yX7_save cX7_save 2 (some .int) ∈ BIG := big_in (tb4 (List.mem_of_getElem? (i := 167) rfl)) rfl
theorem bk_951 : Cond.methodLink RL 193 yL_restore ∈ BIG := big_in (tb4 (List.mem_of_getElem? (i := 169) rfl)) rfl
theorem bk_952 : Cond.static yL_restore ∈ BIG := big_in (tb4 (List.mem_of_getElem? (i := 170) rfl)) rfl
theorem bk_953 : Cond.codeWith yL_restore cL_restore 4 (some .int) [(0, 9, 12, 28), (0, 9, 15, 15)] ∈ BIG := big_in (tb4 (List.mem_of_getElem? (i := 171) rfl)) rfl
theorem bk_954 : Cond.methodLink RL 87 yX7_restore ∈ BIG := big_in (tb4 (List.mem_of_getElem? (i := 172) rfl)) rfl
theorem bk_955 : Cond.instanceMethod yX7_restore ∈ BIG := big_in (tb4 (List.mem_of_getElem? (i := 173) rfl)) rfl
theorem bk_956 : Cond.selects RX7 yX7_restore yX7_restore ∈ BIG := big_in (tb4 (List.mem_of_getElem? (i := 174) rfl)) rfl
theorem bk_957 : Cond.code yX7_restore cX7_restore 2 (some .int) ∈ BIG := big_in (tb4 (List.mem_of_getElem? (i := 175) rfl)) rfl
theorem bk_959 : Cond.classLink RL 91 RX8 ∈ BIG := big_in (tb4 (List.mem_of_getElem? (i := 177) rfl)) rfl
theorem bk_960 : Cond.instantiable RX8 17 ∈ BIG := big_in (tb4 (List.mem_of_getElem? (i := 178) rfl)) rfl
theorem bk_961 : Cond.methodLink RL 93 yX8_init ∈ BIG := big_in (tb4 (List.mem_of_getElem? (i := 179) rfl)) rfl
theorem bk_962 : Cond.instanceMethod yX8_init ∈ BIG := big_in (tb4 (List.mem_of_getElem? (i := 180) rfl)) rfl
theorem bk_963 : Cond.code yX8_init cX8_init 1 none ∈ BIG := big_in (tb4 (List.mem_of_getElem? (i := 181) rfl)) rfl
theorem bk_964 : Cond.methodLink RX8 1 objectInit ∈ BIG := big_in (tb4 (List.mem_of_getElem? (i := 182) rfl)) rfl
theorem bk_965 : Cond.fieldLink RX8 35 RX8 "thrown" "I" ∈ BIG := big_in (tb4 (List.mem_of_getElem? (i := 183) rfl)) rfl
theorem bk_966 : Cond.fieldLink RX8 7 RX8 "s" "[I" ∈ BIG := big_in (tb4 (List.mem_of_getElem? (i := 184) rfl)) rfl
theorem bk_967 : Cond.fieldLink RX8 13 RX8 "aside" "[I" ∈ BIG := big_in (tb4 (List.mem_of_getElem? (i := 185) rfl)) rfl
theorem bk_968 : Cond.fieldLink RX8 16 RX8 "saved" "[I" ∈ BIG := big_in (tb4 (List.mem_of_getElem? (i := 186) rfl)) rfl
theorem bk_969 : Cond.fieldLink RX8 43 RX8 "savedMany" "I" ∈ BIG := big_in (tb4 (List.mem_of_getElem? (i := 187) rfl)) rfl
theorem bk_970 : Cond.fieldLink RX8 19 RX8 "slots" "[I" ∈ BIG := big_in (tb4 (List.mem_of_getElem? (i := 188) rfl)) rfl
theorem bk_971 : Cond.fieldLink RX8 22 RX8 "isSaved" "[Z" ∈ BIG := big_in (tb4 (List.mem_of_getElem? (i := 189) rfl)) rfl
theorem bk_972 : Cond.fieldLink RX8 26 RX8 "text" "[I" ∈ BIG := big_in (tb4 (List.mem_of_getElem? (i := 190) rfl)) rfl
theorem bk_973 : Cond.fieldLink RX8 121 RX8 "length" "I" ∈ BIG := big_in (tb4 (List.mem_of_getElem? (i := 191) rfl)) rfl
theorem bk_974 : Cond.fieldLink RX8 29 RX8 "left" "[I" ∈ BIG := big_in (tb4 (List.mem_of_getElem? (i := 192) rfl)) rfl
theorem bk_975 : Cond.fieldLink RX8 78 RX8 "leftMany" "I" ∈ BIG := big_in (tb4 (List.mem_of_getElem? (i := 193) rfl)) rfl
theorem bk_976 : Cond.fieldLink RX8 32 RX8 "isDropped" "[Z" ∈ BIG := big_in (tb4 (List.mem_of_getElem? (i := 194) rfl)) rfl
theorem bk_977 : Cond.fieldLink RX8 127 RX8 "at" "I" ∈ BIG := big_in (tb4 (List.mem_of_getElem? (i := 195) rfl)) rfl
theorem bk_978 : Cond.fieldLink RX8 130 RX8 "isWrong" "Z" ∈ BIG := big_in (tb4 (List.mem_of_getElem? (i := 196) rfl)) rfl
theorem bk_979 : Cond.fieldLink RX8 137 RX8 "letter" "I" ∈ BIG := big_in (tb4 (List.mem_of_getElem? (i := 197) rfl)) rfl
theorem bk_980 : Cond.fieldLink RX8 143 RX8 "one" "I" ∈ BIG := big_in (tb4 (List.mem_of_getElem? (i := 198) rfl)) rfl
theorem bk_981 : Cond.fieldLink RX8 146 RX8 "two" "I" ∈ BIG := big_in (tb4 (List.mem_of_getElem? (i := 199) rfl)) rfl
theorem bk_1017 : Cond.methodLink RL 100 yX8_thrown ∈ BIG := big_in (tb4 (List.mem_of_getElem? (i := 235) rfl)) rfl
theorem bk_1018 : Cond.instanceMethod yX8_thrown ∈ BIG := big_in (tb4 (List.mem_of_getElem? (i := 236) rfl)) rfl
theorem bk_1019 : Cond.selects RX8 yX8_thrown yX8_thrown ∈ BIG := big_in (tb4 (List.mem_of_getElem? (i := 237) rfl)) rfl
theorem bk_1020 : Cond.code yX8_thrown cX8_thrown 1 (some .int) ∈ BIG := big_in (tb4 (List.mem_of_getElem? (i := 238) rfl)) rfl
theorem bk_1021 : Cond.methodLink RL 99 yX8_append ∈ BIG := big_in (tb4 (List.mem_of_getElem? (i := 239) rfl)) rfl
theorem bk_1022 : Cond.instanceMethod yX8_append ∈ BIG := big_in (tb5 (List.mem_of_getElem? (i := 0) rfl)) rfl
theorem bk_1023 : Cond.selects RX8 yX8_append yX8_append ∈ BIG := big_in (tb5 (List.mem_of_getElem? (i := 1) rfl)) rfl
theorem bk_1024 : Cond.code yX8_append cX8_append 2 (some .int) ∈ BIG := big_in (tb5 (List.mem_of_getElem? (i := 2) rfl)) rfl
theorem bk_1025 : Cond.methodLink RX8 39 yX8_in ∈ BIG := big_in (tb5 (List.mem_of_getElem? (i := 3) rfl)) rfl
theorem bk_1026 : Cond.static yX8_in ∈ BIG := big_in (tb5 (List.mem_of_getElem? (i := 4) rfl)) rfl
theorem bk_1027 : Cond.code yX8_in cX8_in 3 (some .boolean) ∈ BIG := big_in (tb5 (List.mem_of_getElem? (i := 5) rfl)) rfl
theorem bk_1028 : Cond.methodLink RX8 124 yX8_holds ∈ BIG := big_in (tb5 (List.mem_of_getElem? (i := 6) rfl)) rfl
theorem bk_1030 : Cond.instanceMethod yX8_holds ∈ BIG := big_in (tb5 (List.mem_of_getElem? (i := 8) rfl)) rfl
theorem bk_1031 : Cond.code yX8_holds cX8_holds 2 (some .boolean) ∈ BIG := big_in (tb5 (List.mem_of_getElem? (i := 9) rfl)) rfl
theorem bk_1032 : Cond.methodLink RL 106 yX8_clearText ∈ BIG := big_in (tb5 (List.mem_of_getElem? (i := 10) rfl)) rfl
theorem bk_1033 : Cond.instanceMethod yX8_clearText ∈ BIG := big_in (tb5 (List.mem_of_getElem? (i := 11) rfl)) rfl
theorem bk_1034 : Cond.selects RX8 yX8_clearText yX8_clearText ∈ BIG := big_in (tb5 (List.mem_of_getElem? (i := 12) rfl)) rfl
theorem bk_1035 : Cond.code yX8_clearText cX8_clearText 2 (some .int) ∈ BIG := big_in (tb5 (List.mem_of_getElem? (i := 13) rfl)) rfl
theorem bk_1036 : Cond.methodLink RL 110 yX8_errorPosition ∈ BIG := big_in (tb5 (List.mem_of_getElem? (i := 14) rfl)) rfl
theorem bk_1037 : Cond.instanceMethod yX8_errorPosition ∈ BIG := big_in (tb5 (List.mem_of_getElem? (i := 15) rfl)) rfl
theorem bk_1038 : Cond.selects RX8 yX8_errorPosition yX8_errorPosition ∈ BIG := big_in (tb5 (List.mem_of_getElem? (i := 16) rfl)) rfl
theorem bk_1039 : Cond.code yX8_errorPosition cX8_errorPosition 2 (some .int) ∈ BIG := big_in (tb5 (List.mem_of_getElem? (i := 17) rfl)) rfl
theorem bk_1040 : Cond.methodLink RX8 186 yX8_go ∈ BIG := big_in (tb5 (List.mem_of_getElem? (i := 18) rfl)) rfl
theorem bk_1042 : Cond.instanceMethod yX8_go ∈ BIG := big_in (tb5 (List.mem_of_getElem? (i := 20) rfl)) rfl
theorem bk_1043 : Cond.code yX8_go cX8_go 4 (some .int) ∈ BIG := big_in (tb5 (List.mem_of_getElem? (i := 21) rfl)) rfl
theorem bk_1044 : Cond.methodLink RX8 134 yX8_sign ∈ BIG := big_in (tb5 (List.mem_of_getElem? (i := 22) rfl)) rfl
theorem bk_1046 : Cond.instanceMethod yX8_sign ∈ BIG := big_in (tb5 (List.mem_of_getElem? (i := 24) rfl)) rfl
theorem bk_1047 : Cond.code yX8_sign cX8_sign 4 (some .int) ∈ BIG := big_in (tb5 (List.mem_of_getElem? (i := 25) rfl)) rfl
theorem bk_1048 : Cond.methodLink RX8 179 yX8_command ∈ BIG := big_in (tb5 (List.mem_of_getElem? (i := 26) rfl)) rfl
theorem bk_1050 : Cond.instanceMethod yX8_command ∈ BIG := big_in (tb5 (List.mem_of_getElem? (i := 28) rfl)) rfl
theorem bk_1051 : Cond.code yX8_command cX8_command 2 none ∈ BIG := big_in (tb5 (List.mem_of_getElem? (i := 29) rfl)) rfl
theorem bk_1052 : Cond.methodLink RX8 140 yX8_key ∈ BIG := big_in (tb5 (List.mem_of_getElem? (i := 30) rfl)) rfl
theorem bk_1054 : Cond.instanceMethod yX8_key ∈ BIG := big_in (tb5 (List.mem_of_getElem? (i := 32) rfl)) rfl
theorem bk_1055 : Cond.code yX8_key cX8_key 2 (some .int) ∈ BIG := big_in (tb5 (List.mem_of_getElem? (i := 33) rfl)) rfl
theorem bk_1056 : Cond.methodLink RX8 182 yX8_does ∈ BIG := big_in (tb5 (List.mem_of_getElem? (i := 34) rfl)) rfl
theorem bk_1058 : Cond.instanceMethod yX8_does ∈ BIG := big_in (tb5 (List.mem_of_getElem? (i := 36) rfl)) rfl
theorem bk_1059 : Cond.code yX8_does cX8_does 4 (some .boolean) ∈ BIG := big_in (tb5 (List.mem_of_getElem? (i := 37) rfl)) rfl
theorem bk_1060 : Cond.methodLink RX8 149 yX8_putFault ∈ BIG := big_in (tb5 (List.mem_of_getElem? (i := 38) rfl)) rfl
theorem bk_1062 : Cond.instanceMethod yX8_putFault ∈ BIG := big_in (tb5 (List.mem_of_getElem? (i := 40) rfl)) rfl
theorem bk_1063 : Cond.code yX8_putFault cX8_putFault 3 (some .int) ∈ BIG := big_in (tb5 (List.mem_of_getElem? (i := 41) rfl)) rfl
theorem bk_1064 : Cond.methodLink RX8 97 yX8_isKey ∈ BIG := big_in (tb5 (List.mem_of_getElem? (i := 42) rfl)) rfl
theorem bk_1065 : Cond.static yX8_isKey ∈ BIG := big_in (tb5 (List.mem_of_getElem? (i := 43) rfl)) rfl
theorem bk_1066 : Cond.code yX8_isKey cX8_isKey 1 (some .boolean) ∈ BIG := big_in (tb5 (List.mem_of_getElem? (i := 44) rfl)) rfl
theorem bk_1067 : Cond.methodLink RX8 54 yX8_all ∈ BIG := big_in (tb5 (List.mem_of_getElem? (i := 45) rfl)) rfl
theorem bk_1069 : Cond.instanceMethod yX8_all ∈ BIG := big_in (tb5 (List.mem_of_getElem? (i := 47) rfl)) rfl
theorem bk_1070 : Cond.code yX8_all cX8_all 1 (some .int) ∈ BIG := big_in (tb5 (List.mem_of_getElem? (i := 48) rfl)) rfl
theorem bk_1071 : Cond.methodLink RX8 46 yX8_begin ∈ BIG := big_in (tb5 (List.mem_of_getElem? (i := 49) rfl)) rfl
theorem bk_1073 : Cond.instanceMethod yX8_begin ∈ BIG := big_in (tb5 (List.mem_of_getElem? (i := 51) rfl)) rfl
theorem bk_1074 : Cond.code yX8_begin cX8_begin 4 (some .int) ∈ BIG := big_in (tb5 (List.mem_of_getElem? (i := 52) rfl)) rfl
theorem bk_1075 : Cond.methodLink RX8 152 yX8_buryFault ∈ BIG := big_in (tb5 (List.mem_of_getElem? (i := 53) rfl)) rfl
theorem bk_1077 : Cond.instanceMethod yX8_buryFault ∈ BIG := big_in (tb5 (List.mem_of_getElem? (i := 55) rfl)) rfl
theorem bk_1078 : Cond.code yX8_buryFault cX8_buryFault 3 (some .int) ∈ BIG := big_in (tb5 (List.mem_of_getElem? (i := 56) rfl)) rfl
theorem bk_1079 : Cond.methodLink RX8 155 yX8_flushFault ∈ BIG := big_in (tb5 (List.mem_of_getElem? (i := 57) rfl)) rfl
theorem bk_1081 : Cond.instanceMethod yX8_flushFault ∈ BIG := big_in (tb5 (List.mem_of_getElem? (i := 59) rfl)) rfl
theorem bk_1082 : Cond.code yX8_flushFault cX8_flushFault 1 (some .int) ∈ BIG := big_in (tb5 (List.mem_of_getElem? (i := 60) rfl)) rfl
theorem bk_1083 : Cond.methodLink RX8 107 yX8_clean ∈ BIG := big_in (tb5 (List.mem_of_getElem? (i := 61) rfl)) rfl
theorem bk_1085 : Cond.instanceMethod yX8_clean ∈ BIG := big_in (tb5 (List.mem_of_getElem? (i := 63) rfl)) rfl
theorem bk_1086 : Cond.code yX8_clean cX8_clean 5 none ∈ BIG := big_in (tb5 (List.mem_of_getElem? (i := 64) rfl)) rfl
theorem bk_1087 : Cond.methodLink RX8 68 yX8_isEntry ∈ BIG := big_in (tb5 (List.mem_of_getElem? (i := 65) rfl)) rfl
theorem bk_1089 : Cond.instanceMethod yX8_isEntry ∈ BIG := big_in (tb5 (List.mem_of_getElem? (i := 67) rfl)) rfl
theorem bk_1090 : Cond.code yX8_isEntry cX8_isEntry 2 (some .boolean) ∈ BIG := big_in (tb5 (List.mem_of_getElem? (i := 68) rfl)) rfl
theorem bk_1091 : Cond.methodLink RX8 50 yX8_of ∈ BIG := big_in (tb5 (List.mem_of_getElem? (i := 69) rfl)) rfl
theorem bk_1092 : Cond.static yX8_of ∈ BIG := big_in (tb5 (List.mem_of_getElem? (i := 70) rfl)) rfl
theorem bk_1093 : Cond.code yX8_of cX8_of 2 (some .int) ∈ BIG := big_in (tb5 (List.mem_of_getElem? (i := 71) rfl)) rfl
theorem bk_1094 : Cond.methodLink RX8 81 yX8_isCovered ∈ BIG := big_in (tb5 (List.mem_of_getElem? (i := 72) rfl)) rfl
theorem bk_1096 : Cond.instanceMethod yX8_isCovered ∈ BIG := big_in (tb5 (List.mem_of_getElem? (i := 74) rfl)) rfl
theorem bk_1097 : Cond.code yX8_isCovered cX8_isCovered 9 (some .boolean) ∈ BIG := big_in (tb5 (List.mem_of_getElem? (i := 75) rfl)) rfl
theorem bk_1098 : Cond.methodLink RX8 58 yX8_concerns ∈ BIG := big_in (tb5 (List.mem_of_getElem? (i := 76) rfl)) rfl
theorem bk_1100 : Cond.instanceMethod yX8_concerns ∈ BIG := big_in (tb5 (List.mem_of_getElem? (i := 78) rfl)) rfl
theorem bk_1101 : Cond.code yX8_concerns cX8_concerns 3 (some .boolean) ∈ BIG := big_in (tb5 (List.mem_of_getElem? (i := 79) rfl)) rfl
theorem bk_1102 : Cond.methodLink RX8 75 yX8_areParted ∈ BIG := big_in (tb5 (List.mem_of_getElem? (i := 80) rfl)) rfl
theorem bk_1104 : Cond.instanceMethod yX8_areParted ∈ BIG := big_in (tb5 (List.mem_of_getElem? (i := 82) rfl)) rfl
theorem bk_1105 : Cond.code yX8_areParted cX8_areParted 5 (some .boolean) ∈ BIG := big_in (tb5 (List.mem_of_getElem? (i := 83) rfl)) rfl
theorem bk_1106 : Cond.methodLink RX8 85 yX8_leave ∈ BIG := big_in (tb5 (List.mem_of_getElem? (i := 84) rfl)) rfl
theorem bk_1108 : Cond.instanceMethod yX8_leave ∈ BIG := big_in (tb5 (List.mem_of_getElem? (i := 86) rfl)) rfl
theorem bk_1109 : Cond.code yX8_leave cX8_leave 4 none ∈ BIG := big_in (tb5 (List.mem_of_getElem? (i := 87) rfl)) rfl
theorem bk_1110 : Cond.methodLink RX8 89 yX8_cut ∈ BIG := big_in (tb5 (List.mem_of_getElem? (i := 88) rfl)) rfl
theorem bk_1112 : Cond.instanceMethod yX8_cut ∈ BIG := big_in (tb5 (List.mem_of_getElem? (i := 90) rfl)) rfl
theorem bk_1113 : Cond.code yX8_cut cX8_cut 8 none ∈ BIG := big_in (tb5 (List.mem_of_getElem? (i := 91) rfl)) rfl
theorem bk_1114 : Cond.methodLink RX8 93 yX8_hasOlderEntry ∈ BIG := big_in (tb5 (List.mem_of_getElem? (i := 92) rfl)) rfl
theorem bk_1116 : Cond.instanceMethod yX8_hasOlderEntry ∈ BIG := big_in (tb5 (List.mem_of_getElem? (i := 94) rfl)) rfl
theorem bk_1117 : Cond.code yX8_hasOlderEntry cX8_hasOlderEntry 7 (some .boolean) ∈ BIG := big_in (tb5 (List.mem_of_getElem? (i := 95) rfl)) rfl
theorem bk_1118 : Cond.methodLink RX8 111 yX8_isRoomFor ∈ BIG := big_in (tb5 (List.mem_of_getElem? (i := 96) rfl)) rfl
theorem bk_1120 : Cond.instanceMethod yX8_isRoomFor ∈ BIG := big_in (tb5 (List.mem_of_getElem? (i := 98) rfl)) rfl
theorem bk_1121 : Cond.code yX8_isRoomFor cX8_isRoomFor 3 (some .boolean) ∈ BIG := big_in (tb5 (List.mem_of_getElem? (i := 99) rfl)) rfl
theorem bk_1122 : Cond.methodLink RX8 158 yX8_mergeFault ∈ BIG := big_in (tb5 (List.mem_of_getElem? (i := 100) rfl)) rfl
theorem bk_1124 : Cond.instanceMethod yX8_mergeFault ∈ BIG := big_in (tb5 (List.mem_of_getElem? (i := 102) rfl)) rfl
theorem bk_1125 : Cond.code yX8_mergeFault cX8_mergeFault 4 (some .int) ∈ BIG := big_in (tb5 (List.mem_of_getElem? (i := 103) rfl)) rfl
theorem bk_1126 : Cond.methodLink RX8 118 yX8_isRun ∈ BIG := big_in (tb5 (List.mem_of_getElem? (i := 104) rfl)) rfl
theorem bk_1128 : Cond.instanceMethod yX8_isRun ∈ BIG := big_in (tb5 (List.mem_of_getElem? (i := 106) rfl)) rfl
theorem bk_1129 : Cond.code yX8_isRun cX8_isRun 2 (some .boolean) ∈ BIG := big_in (tb5 (List.mem_of_getElem? (i := 107) rfl)) rfl
theorem bk_1130 : Cond.methodLink RX8 161 yX8_isEye ∈ BIG := big_in (tb5 (List.mem_of_getElem? (i := 108) rfl)) rfl
theorem bk_1132 : Cond.instanceMethod yX8_isEye ∈ BIG := big_in (tb5 (List.mem_of_getElem? (i := 110) rfl)) rfl
theorem bk_1133 : Cond.code yX8_isEye cX8_isEye 2 (some .boolean) ∈ BIG := big_in (tb5 (List.mem_of_getElem? (i := 111) rfl)) rfl
theorem bk_1134 : Cond.methodLink RX8 104 yX8_writes ∈ BIG := big_in (tb5 (List.mem_of_getElem? (i := 112) rfl)) rfl
theorem bk_1136 : Cond.instanceMethod yX8_writes ∈ BIG := big_in (tb5 (List.mem_of_getElem? (i := 114) rfl)) rfl
theorem bk_1137 : Cond.code yX8_writes cX8_writes 5 (some .int) ∈ BIG := big_in (tb5 (List.mem_of_getElem? (i := 115) rfl)) rfl
theorem bk_1138 : Cond.methodLink RX8 164 yX8_buries ∈ BIG := big_in (tb5 (List.mem_of_getElem? (i := 116) rfl)) rfl
theorem bk_1140 : Cond.instanceMethod yX8_buries ∈ BIG := big_in (tb5 (List.mem_of_getElem? (i := 118) rfl)) rfl
theorem bk_1141 : Cond.code yX8_buries cX8_buries 5 (some .int) ∈ BIG := big_in (tb5 (List.mem_of_getElem? (i := 119) rfl)) rfl
theorem bk_1142 : Cond.methodLink RX8 100 yX8_countSeen ∈ BIG := big_in (tb5 (List.mem_of_getElem? (i := 120) rfl)) rfl
theorem bk_1144 : Cond.instanceMethod yX8_countSeen ∈ BIG := big_in (tb5 (List.mem_of_getElem? (i := 122) rfl)) rfl
theorem bk_1145 : Cond.code yX8_countSeen cX8_countSeen 6 (some .int) ∈ BIG := big_in (tb5 (List.mem_of_getElem? (i := 123) rfl)) rfl
theorem bk_1146 : Cond.methodLink RX8 72 yX8_seen ∈ BIG := big_in (tb5 (List.mem_of_getElem? (i := 124) rfl)) rfl
theorem bk_1148 : Cond.instanceMethod yX8_seen ∈ BIG := big_in (tb5 (List.mem_of_getElem? (i := 126) rfl)) rfl
theorem bk_1149 : Cond.code yX8_seen cX8_seen 4 (some .int) ∈ BIG := big_in (tb5 (List.mem_of_getElem? (i := 127) rfl)) rfl
theorem bk_1150 : Cond.methodLink RX8 62 yX8_upTo ∈ BIG := big_in (tb5 (List.mem_of_getElem? (i := 128) rfl)) rfl
theorem bk_1152 : Cond.instanceMethod yX8_upTo ∈ BIG := big_in (tb5 (List.mem_of_getElem? (i := 130) rfl)) rfl
theorem bk_1153 : Cond.code yX8_upTo cX8_upTo 2 (some .int) ∈ BIG := big_in (tb5 (List.mem_of_getElem? (i := 131) rfl)) rfl
theorem bk_1154 : Cond.methodLink RX8 65 yX8_newest ∈ BIG := big_in (tb5 (List.mem_of_getElem? (i := 132) rfl)) rfl
theorem bk_1156 : Cond.instanceMethod yX8_newest ∈ BIG := big_in (tb5 (List.mem_of_getElem? (i := 134) rfl)) rfl
theorem bk_1157 : Cond.code yX8_newest cX8_newest 6 (some .int) ∈ BIG := big_in (tb5 (List.mem_of_getElem? (i := 135) rfl)) rfl
theorem bk_1158 : Cond.methodLink RX8 167 yX8_flushes ∈ BIG := big_in (tb5 (List.mem_of_getElem? (i := 136) rfl)) rfl
theorem bk_1160 : Cond.instanceMethod yX8_flushes ∈ BIG := big_in (tb5 (List.mem_of_getElem? (i := 138) rfl)) rfl
theorem bk_1161 : Cond.code yX8_flushes cX8_flushes 2 (some .int) ∈ BIG := big_in (tb5 (List.mem_of_getElem? (i := 139) rfl)) rfl
theorem bk_1162 : Cond.methodLink RX8 114 yX8_replace ∈ BIG := big_in (tb5 (List.mem_of_getElem? (i := 140) rfl)) rfl
theorem bk_1164 : Cond.instanceMethod yX8_replace ∈ BIG := big_in (tb5 (List.mem_of_getElem? (i := 142) rfl)) rfl
theorem bk_1165 : Cond.code yX8_replace cX8_replace 7 none ∈ BIG := big_in (tb5 (List.mem_of_getElem? (i := 143) rfl)) rfl
theorem bk_1166 : Cond.methodLink RX8 170 yX8_merges ∈ BIG := big_in (tb5 (List.mem_of_getElem? (i := 144) rfl)) rfl
theorem bk_1168 : Cond.instanceMethod yX8_merges ∈ BIG := big_in (tb5 (List.mem_of_getElem? (i := 146) rfl)) rfl
theorem bk_1169 : Cond.code yX8_merges cX8_merges 4 (some .int) ∈ BIG := big_in (tb5 (List.mem_of_getElem? (i := 147) rfl)) rfl
theorem bk_1170 : Cond.methodLink RX8 173 yX8_opens ∈ BIG := big_in (tb5 (List.mem_of_getElem? (i := 148) rfl)) rfl
theorem bk_1172 : Cond.instanceMethod yX8_opens ∈ BIG := big_in (tb5 (List.mem_of_getElem? (i := 150) rfl)) rfl
theorem bk_1173 : Cond.code yX8_opens cX8_opens 1 (some .int) ∈ BIG := big_in (tb5 (List.mem_of_getElem? (i := 151) rfl)) rfl
theorem bk_1174 : Cond.methodLink RX8 176 yX8_closes ∈ BIG := big_in (tb5 (List.mem_of_getElem? (i := 152) rfl)) rfl
theorem bk_1176 : Cond.instanceMethod yX8_closes ∈ BIG := big_in (tb5 (List.mem_of_getElem? (i := 154) rfl)) rfl
theorem bk_1177 : Cond.code yX8_closes cX8_closes 2 (some .int) ∈ BIG := big_in (tb5 (List.mem_of_getElem? (i := 155) rfl)) rfl
theorem bk_1178 : Cond.methodLink RL 114 yX8_load ∈ BIG := big_in (tb5 (List.mem_of_getElem? (i := 156) rfl)) rfl
theorem bk_1179 : Cond.instanceMethod yX8_load ∈ BIG := big_in (tb5 (List.mem_of_getElem? (i := 157) rfl)) rfl
theorem bk_1180 : Cond.selects RX8 yX8_load yX8_load ∈ BIG := big_in (tb5 (List.mem_of_getElem? (i := 158) rfl)) rfl
theorem bk_1181 : Cond.code yX8_load cX8_load 3 (some .int) ∈ BIG := big_in (tb5 (List.mem_of_getElem? (i := 159) rfl)) rfl
theorem bk_1182 : Cond.methodLink RL 117 yX8_about ∈ BIG := big_in (tb5 (List.mem_of_getElem? (i := 160) rfl)) rfl
theorem bk_1183 : Cond.instanceMethod yX8_about ∈ BIG := big_in (tb5 (List.mem_of_getElem? (i := 161) rfl)) rfl
theorem bk_1184 : Cond.selects RX8 yX8_about yX8_about ∈ BIG := big_in (tb5 (List.mem_of_getElem? (i := 162) rfl)) rfl
theorem bk_1185 : Cond.code yX8_about cX8_about 2 (some .int) ∈ BIG := big_in (tb5 (List.mem_of_getElem? (i := 163) rfl)) rfl
theorem bk_1186 : Cond.methodLink RX8 197 yX8_told ∈ BIG := big_in (tb5 (List.mem_of_getElem? (i := 164) rfl)) rfl
theorem bk_1188 : Cond.instanceMethod yX8_told ∈ BIG := big_in (tb5 (List.mem_of_getElem? (i := 166) rfl)) rfl
theorem bk_1189 : Cond.code yX8_told cX8_told 2 (some .int) ∈ BIG := big_in (tb5 (List.mem_of_getElem? (i := 167) rfl)) rfl
theorem bk_1190 : Cond.methodLink RX8 190 yX8_kinds ∈ BIG := big_in (tb5 (List.mem_of_getElem? (i := 168) rfl)) rfl
theorem bk_1192 : Cond.instanceMethod yX8_kinds ∈ BIG := big_in (tb5 (List.mem_of_getElem? (i := 170) rfl)) rfl
theorem bk_1193 : Cond.code yX8_kinds cX8_kinds 6 (some .int) ∈ BIG := big_in (tb5 (List.mem_of_getElem? (i := 171) rfl)) rfl
theorem bk_1194 : Cond.methodLink RX8 194 yX8_sumSeen ∈ BIG := big_in (tb5 (List.mem_of_getElem? (i := 172) rfl)) rfl
theorem bk_1196 : Cond.instanceMethod yX8_sumSeen ∈ BIG := big_in (tb5 (List.mem_of_getElem? (i := 174) rfl)) rfl
theorem bk_1197 : Cond.code yX8_sumSeen cX8_sumSeen 4 (some .int) ∈ BIG := big_in (tb5 (List.mem_of_getElem? (i := 175) rfl)) rfl
theorem bk_1198 : Cond.methodLink RL 121 yX8_get ∈ BIG := big_in (tb5 (List.mem_of_getElem? (i := 176) rfl)) rfl
theorem bk_1199 : Cond.instanceMethod yX8_get ∈ BIG := big_in (tb5 (List.mem_of_getElem? (i := 177) rfl)) rfl
theorem bk_1200 : Cond.selects RX8 yX8_get yX8_get ∈ BIG := big_in (tb5 (List.mem_of_getElem? (i := 178) rfl)) rfl
theorem bk_1201 : Cond.code yX8_get cX8_get 3 (some .int) ∈ BIG := big_in (tb5 (List.mem_of_getElem? (i := 179) rfl)) rfl
theorem bk_1202 : Cond.methodLink RX8 200 yX8_isView ∈ BIG := big_in (tb5 (List.mem_of_getElem? (i := 180) rfl)) rfl
theorem bk_1204 : Cond.instanceMethod yX8_isView ∈ BIG := big_in (tb5 (List.mem_of_getElem? (i := 182) rfl)) rfl
theorem bk_1205 : Cond.code yX8_isView cX8_isView 2 (some .boolean) ∈ BIG := big_in (tb5 (List.mem_of_getElem? (i := 183) rfl)) rfl
theorem bk_1206 : Cond.methodLink RL 124 yX8_run ∈ BIG := big_in (tb5 (List.mem_of_getElem? (i := 184) rfl)) rfl
theorem bk_1207 : Cond.instanceMethod yX8_run ∈ BIG := big_in (tb5 (List.mem_of_getElem? (i := 185) rfl)) rfl
theorem bk_1208 : Cond.selects RX8 yX8_run yX8_run ∈ BIG := big_in (tb5 (List.mem_of_getElem? (i := 186) rfl)) rfl
theorem bk_1209 : Cond.code yX8_run cX8_run 3 (some .int) ∈ BIG := big_in (tb5 (List.mem_of_getElem? (i := 187) rfl)) rfl
theorem bk_1210 : Cond.methodLink RX8 209 yX8_ofRun ∈ BIG := big_in (tb5 (List.mem_of_getElem? (i := 188) rfl)) rfl
theorem bk_1212 : Cond.instanceMethod yX8_ofRun ∈ BIG := big_in (tb5 (List.mem_of_getElem? (i := 190) rfl)) rfl
theorem bk_1213 : Cond.code yX8_ofRun cX8_ofRun 5 (some .int) ∈ BIG := big_in (tb5 (List.mem_of_getElem? (i := 191) rfl)) rfl
theorem bk_1214 : Cond.methodLink RX8 203 yX8_manyIn ∈ BIG := big_in (tb5 (List.mem_of_getElem? (i := 192) rfl)) rfl
theorem bk_1216 : Cond.instanceMethod yX8_manyIn ∈ BIG := big_in (tb5 (List.mem_of_getElem? (i := 194) rfl)) rfl
theorem bk_1217 : Cond.code yX8_manyIn cX8_manyIn 2 (some .int) ∈ BIG := big_in (tb5 (List.mem_of_getElem? (i := 195) rfl)) rfl
theorem bk_1218 : Cond.methodLink RX8 206 yX8_keysOf ∈ BIG := big_in (tb5 (List.mem_of_getElem? (i := 196) rfl)) rfl
theorem bk_1220 : Cond.instanceMethod yX8_keysOf ∈ BIG := big_in (tb5 (List.mem_of_getElem? (i := 198) rfl)) rfl
theorem bk_1221 : Cond.code yX8_keysOf cX8_keysOf 7 (some .int) ∈ BIG := big_in (tb5 (List.mem_of_getElem? (i := 199) rfl)) rfl
theorem bk_1222 : Cond.methodLink RL 128 yX8_write ∈ BIG := big_in (tb5 (List.mem_of_getElem? (i := 200) rfl)) rfl
theorem bk_1223 : Cond.instanceMethod yX8_write ∈ BIG := big_in (tb5 (List.mem_of_getElem? (i := 201) rfl)) rfl
theorem bk_1224 : Cond.selects RX8 yX8_write yX8_write ∈ BIG := big_in (tb5 (List.mem_of_getElem? (i := 202) rfl)) rfl
theorem bk_1225 : Cond.code yX8_write cX8_write 5 (some .int) ∈ BIG := big_in (tb5 (List.mem_of_getElem? (i := 203) rfl)) rfl
theorem bk_1226 : Cond.methodLink RL 131 yX8_eye ∈ BIG := big_in (tb5 (List.mem_of_getElem? (i := 204) rfl)) rfl
theorem bk_1227 : Cond.instanceMethod yX8_eye ∈ BIG := big_in (tb5 (List.mem_of_getElem? (i := 205) rfl)) rfl
theorem bk_1228 : Cond.selects RX8 yX8_eye yX8_eye ∈ BIG := big_in (tb5 (List.mem_of_getElem? (i := 206) rfl)) rfl
theorem bk_1229 : Cond.code yX8_eye cX8_eye 2 (some .int) ∈ BIG := big_in (tb5 (List.mem_of_getElem? (i := 207) rfl)) rfl
theorem bk_1230 : Cond.methodLink RL 134 yX8_put ∈ BIG := big_in (tb5 (List.mem_of_getElem? (i := 208) rfl)) rfl
theorem bk_1231 : Cond.instanceMethod yX8_put ∈ BIG := big_in (tb5 (List.mem_of_getElem? (i := 209) rfl)) rfl
theorem bk_1232 : Cond.selects RX8 yX8_put yX8_put ∈ BIG := big_in (tb5 (List.mem_of_getElem? (i := 210) rfl)) rfl
theorem bk_1233 : Cond.code yX8_put cX8_put 3 (some .int) ∈ BIG := big_in (tb5 (List.mem_of_getElem? (i := 211) rfl)) rfl
theorem bk_1234 : Cond.methodLink RX8 212 yX8_remember ∈ BIG := big_in (tb5 (List.mem_of_getElem? (i := 212) rfl)) rfl
theorem bk_1236 : Cond.instanceMethod yX8_remember ∈ BIG := big_in (tb5 (List.mem_of_getElem? (i := 214) rfl)) rfl
theorem bk_1237 : Cond.code yX8_remember cX8_remember 2 none ∈ BIG := big_in (tb5 (List.mem_of_getElem? (i := 215) rfl)) rfl
theorem bk_1238 : Cond.methodLink RL 137 yX8_bury ∈ BIG := big_in (tb5 (List.mem_of_getElem? (i := 216) rfl)) rfl
theorem bk_1239 : Cond.instanceMethod yX8_bury ∈ BIG := big_in (tb5 (List.mem_of_getElem? (i := 217) rfl)) rfl
theorem bk_1240 : Cond.selects RX8 yX8_bury yX8_bury ∈ BIG := big_in (tb5 (List.mem_of_getElem? (i := 218) rfl)) rfl
theorem bk_1241 : Cond.code yX8_bury cX8_bury 3 (some .int) ∈ BIG := big_in (tb5 (List.mem_of_getElem? (i := 219) rfl)) rfl
theorem bk_1242 : Cond.methodLink RL 140 yX8_open ∈ BIG := big_in (tb5 (List.mem_of_getElem? (i := 220) rfl)) rfl
theorem bk_1243 : Cond.instanceMethod yX8_open ∈ BIG := big_in (tb5 (List.mem_of_getElem? (i := 221) rfl)) rfl
theorem bk_1244 : Cond.selects RX8 yX8_open yX8_open ∈ BIG := big_in (tb5 (List.mem_of_getElem? (i := 222) rfl)) rfl
theorem bk_1245 : Cond.code yX8_open cX8_open 1 (some .int) ∈ BIG := big_in (tb5 (List.mem_of_getElem? (i := 223) rfl)) rfl
theorem bk_1246 : Cond.methodLink RL 143 yX8_close ∈ BIG := big_in (tb5 (List.mem_of_getElem? (i := 224) rfl)) rfl
theorem bk_1247 : Cond.instanceMethod yX8_close ∈ BIG := big_in (tb5 (List.mem_of_getElem? (i := 225) rfl)) rfl
theorem bk_1248 : Cond.selects RX8 yX8_close yX8_close ∈ BIG := big_in (tb5 (List.mem_of_getElem? (i := 226) rfl)) rfl
theorem bk_1249 : Cond.code yX8_close cX8_close 2 (some .int) ∈ BIG := big_in (tb5 (List.mem_of_getElem? (i := 227) rfl)) rfl
theorem bk_1250 : Cond.methodLink RL 146 yX8_flush ∈ BIG := big_in (tb5 (List.mem_of_getElem? (i := 228) rfl)) rfl
theorem bk_1251 : Cond.instanceMethod yX8_flush ∈ BIG := big_in (tb5 (List.mem_of_getElem? (i := 229) rfl)) rfl
theorem bk_1252 : Cond.selects RX8 yX8_flush yX8_flush ∈ BIG := big_in (tb5 (List.mem_of_getElem? (i := 230) rfl)) rfl
theorem bk_1253 : Cond.code yX8_flush cX8_flush 1 (some .int) ∈ BIG := big_in (tb5 (List.mem_of_getElem? (i := 231) rfl)) rfl
theorem bk_1254 : Cond.methodLink RL 149 yX8_merge ∈ BIG := big_in (tb5 (List.mem_of_getElem? (i := 232) rfl)) rfl
theorem bk_1255 : Cond.instanceMethod yX8_merge ∈ BIG := big_in (tb5 (List.mem_of_getElem? (i := 233) rfl)) rfl
theorem bk_1256 : Cond.selects RX8 yX8_merge yX8_merge ∈ BIG := big_in (tb5 (List.mem_of_getElem? (i := 234) rfl)) rfl
theorem bk_1257 : Cond.code yX8_merge cX8_merge 2 (some .int) ∈ BIG := big_in (tb5 (List.mem_of_getElem? (i := 235) rfl)) rfl
theorem bk_1258 : Cond.methodLink RL 152 yX8_undo ∈ BIG := big_in (tb5 (List.mem_of_getElem? (i := 236) rfl)) rfl
theorem bk_1259 : Cond.instanceMethod yX8_undo ∈ BIG := big_in (tb5 (List.mem_of_getElem? (i := 237) rfl)) rfl
theorem bk_1260 : Cond.selects RX8 yX8_undo yX8_undo ∈ BIG := big_in (tb5 (List.mem_of_getElem? (i := 238) rfl)) rfl
theorem bk_1261 : Cond.code yX8_undo cX8_undo 2 (some .int) ∈ BIG := big_in (tb5 (List.mem_of_getElem? (i := 239) rfl)) rfl
theorem bk_1262 : Cond.methodLink RL 155 yX8_looks ∈ BIG := big_in (tb6 (List.mem_of_getElem? (i := 0) rfl)) rfl
theorem bk_1263 : Cond.instanceMethod yX8_looks ∈ BIG := big_in (tb6 (List.mem_of_getElem? (i := 1) rfl)) rfl
theorem bk_1264 : Cond.selects RX8 yX8_looks yX8_looks ∈ BIG := big_in (tb6 (List.mem_of_getElem? (i := 2) rfl)) rfl
theorem bk_1265 : Cond.code yX8_looks cX8_looks 2 (some .int) ∈ BIG := big_in (tb6 (List.mem_of_getElem? (i := 3) rfl)) rfl
theorem bk_1266 : Cond.methodLink RX8 218 yX8_lookedAt ∈ BIG := big_in (tb6 (List.mem_of_getElem? (i := 4) rfl)) rfl
theorem bk_1268 : Cond.instanceMethod yX8_lookedAt ∈ BIG := big_in (tb6 (List.mem_of_getElem? (i := 6) rfl)) rfl
theorem bk_1269 : Cond.code yX8_lookedAt cX8_lookedAt 4 (some .int) ∈ BIG := big_in (tb6 (List.mem_of_getElem? (i := 7) rfl)) rfl
theorem bk_1270 : Cond.methodLink RX8 215 yX8_isIn ∈ BIG := big_in (tb6 (List.mem_of_getElem? (i := 8) rfl)) rfl
theorem bk_1272 : Cond.instanceMethod yX8_isIn ∈ BIG := big_in (tb6 (List.mem_of_getElem? (i := 10) rfl)) rfl
theorem bk_1273 : Cond.code yX8_isIn cX8_isIn 5 (some .boolean) ∈ BIG := big_in (tb6 (List.mem_of_getElem? (i := 11) rfl)) rfl
theorem bk_1274 : Cond.methodLink RL 158 yX8_next ∈ BIG := big_in (tb6 (List.mem_of_getElem? (i := 12) rfl)) rfl
theorem bk_1275 : Cond.instanceMethod yX8_next ∈ BIG := big_in (tb6 (List.mem_of_getElem? (i := 13) rfl)) rfl
theorem bk_1276 : Cond.selects RX8 yX8_next yX8_next ∈ BIG := big_in (tb6 (List.mem_of_getElem? (i := 14) rfl)) rfl
theorem bk_1277 : Cond.code yX8_next cX8_next 3 (some .int) ∈ BIG := big_in (tb6 (List.mem_of_getElem? (i := 15) rfl)) rfl
theorem bk_1278 : Cond.methodLink RX8 221 yX8_nextSeen ∈ BIG := big_in (tb6 (List.mem_of_getElem? (i := 16) rfl)) rfl
theorem bk_1280 : Cond.instanceMethod yX8_nextSeen ∈ BIG := big_in (tb6 (List.mem_of_getElem? (i := 18) rfl)) rfl
theorem bk_1281 : Cond.code yX8_nextSeen cX8_nextSeen 4 (some .int) ∈ BIG := big_in (tb6 (List.mem_of_getElem? (i := 19) rfl)) rfl
theorem bk_1282 : Cond.methodLink RL 161 yX8_count ∈ BIG := big_in (tb6 (List.mem_of_getElem? (i := 20) rfl)) rfl
theorem bk_1283 : Cond.instanceMethod yX8_count ∈ BIG := big_in (tb6 (List.mem_of_getElem? (i := 21) rfl)) rfl
theorem bk_1284 : Cond.selects RX8 yX8_count yX8_count ∈ BIG := big_in (tb6 (List.mem_of_getElem? (i := 22) rfl)) rfl
theorem bk_1285 : Cond.code yX8_count cX8_count 5 (some .int) ∈ BIG := big_in (tb6 (List.mem_of_getElem? (i := 23) rfl)) rfl
theorem bk_1286 : Cond.methodLink RL 165 yX8_hidden ∈ BIG := big_in (tb6 (List.mem_of_getElem? (i := 24) rfl)) rfl
theorem bk_1287 : Cond.instanceMethod yX8_hidden ∈ BIG := big_in (tb6 (List.mem_of_getElem? (i := 25) rfl)) rfl
theorem bk_1288 : Cond.selects RX8 yX8_hidden yX8_hidden ∈ BIG := big_in (tb6 (List.mem_of_getElem? (i := 26) rfl)) rfl
theorem bk_1289 : Cond.code yX8_hidden cX8_hidden 5 (some .int) ∈ BIG := big_in (tb6 (List.mem_of_getElem? (i := 27) rfl)) rfl
theorem bk_1290 : Cond.methodLink RL 168 yX8_grave ∈ BIG := big_in (tb6 (List.mem_of_getElem? (i := 28) rfl)) rfl
theorem bk_1291 : Cond.instanceMethod yX8_grave ∈ BIG := big_in (tb6 (List.mem_of_getElem? (i := 29) rfl)) rfl
theorem bk_1292 : Cond.selects RX8 yX8_grave yX8_grave ∈ BIG := big_in (tb6 (List.mem_of_getElem? (i := 30) rfl)) rfl
theorem bk_1293 : Cond.code yX8_grave cX8_grave 2 (some .int) ∈ BIG := big_in (tb6 (List.mem_of_getElem? (i := 31) rfl)) rfl
theorem bk_1294 : Cond.methodLink RX8 224 yX8_newestGrave ∈ BIG := big_in (tb6 (List.mem_of_getElem? (i := 32) rfl)) rfl
theorem bk_1296 : Cond.instanceMethod yX8_newestGrave ∈ BIG := big_in (tb6 (List.mem_of_getElem? (i := 34) rfl)) rfl
theorem bk_1297 : Cond.code yX8_newestGrave cX8_newestGrave 4 (some .int) ∈ BIG := big_in (tb6 (List.mem_of_getElem? (i := 35) rfl)) rfl
theorem bk_1298 : Cond.methodLink RL 171 yX8_saves ∈ BIG := big_in (tb6 (List.mem_of_getElem? (i := 36) rfl)) rfl
theorem bk_1299 : Cond.instanceMethod yX8_saves ∈ BIG := big_in (tb6 (List.mem_of_getElem? (i := 37) rfl)) rfl
theorem bk_1300 : Cond.selects RX8 yX8_saves yX8_saves ∈ BIG := big_in (tb6 (List.mem_of_getElem? (i := 38) rfl)) rfl
theorem bk_1301 : Cond.code yX8_saves cX8_saves 2 (some .int) ∈ BIG := big_in (tb6 (List.mem_of_getElem? (i := 39) rfl)) rfl
theorem bk_1302 : Cond.methodLink RX8 227 yX8_savedBy ∈ BIG := big_in (tb6 (List.mem_of_getElem? (i := 40) rfl)) rfl
theorem bk_1304 : Cond.instanceMethod yX8_savedBy ∈ BIG := big_in (tb6 (List.mem_of_getElem? (i := 42) rfl)) rfl
theorem bk_1305 : Cond.code yX8_savedBy cX8_savedBy 2 (some .int) ∈ BIG := big_in (tb6 (List.mem_of_getElem? (i := 43) rfl)) rfl
theorem bk_1306 : Cond.methodLink RL 175 yX8_best ∈ BIG := big_in (tb6 (List.mem_of_getElem? (i := 44) rfl)) rfl
theorem bk_1307 : Cond.instanceMethod yX8_best ∈ BIG := big_in (tb6 (List.mem_of_getElem? (i := 45) rfl)) rfl
theorem bk_1308 : Cond.selects RX8 yX8_best yX8_best ∈ BIG := big_in (tb6 (List.mem_of_getElem? (i := 46) rfl)) rfl
theorem bk_1309 : Cond.code yX8_best cX8_best 6 (some .int) ∈ BIG := big_in (tb6 (List.mem_of_getElem? (i := 47) rfl)) rfl
theorem bk_1310 : Cond.methodLink RL 179 yX8_fewest ∈ BIG := big_in (tb6 (List.mem_of_getElem? (i := 48) rfl)) rfl
theorem bk_1311 : Cond.instanceMethod yX8_fewest ∈ BIG := big_in (tb6 (List.mem_of_getElem? (i := 49) rfl)) rfl
theorem bk_1312 : Cond.selects RX8 yX8_fewest yX8_fewest ∈ BIG := big_in (tb6 (List.mem_of_getElem? (i := 50) rfl)) rfl
theorem bk_1313 : Cond.code yX8_fewest cX8_fewest 1 (some .int) ∈ BIG := big_in (tb6 (List.mem_of_getElem? (i := 51) rfl)) rfl
theorem bk_1314 : Cond.methodLink RL 185 yX8_runScript ∈ BIG := big_in (tb6 (List.mem_of_getElem? (i := 52) rfl)) rfl
theorem bk_1315 : Cond.instanceMethod yX8_runScript ∈ BIG := big_in (tb6 (List.mem_of_getElem? (i := 53) rfl)) rfl
theorem bk_1316 : Cond.selects RX8 yX8_runScript yX8_runScript ∈ BIG := big_in (tb6 (List.mem_of_getElem? (i := 54) rfl)) rfl
theorem bk_1317 : Cond.code yX8_runScript cX8_runScript 6 (some .int) ∈ BIG := big_in (tb6 (List.mem_of_getElem? (i := 55) rfl)) rfl
theorem bk_1318 : Cond.constantLong RX8 243 (999999999999999) ∈ BIG := big_in (tb6 (List.mem_of_getElem? (i := 56) rfl)) rfl
theorem bk_1319 : Cond.constantLong RX8 245 (9999999999) ∈ BIG := big_in (tb6 (List.mem_of_getElem? (i := 57) rfl)) rfl
theorem bk_1320 : Cond.constantLong RX8 247 (99999) ∈ BIG := big_in (tb6 (List.mem_of_getElem? (i := 58) rfl)) rfl
theorem bk_1321 : Cond.methodLink RX8 249 yX8_ran ∈ BIG := big_in (tb6 (List.mem_of_getElem? (i := 59) rfl)) rfl
theorem bk_1323 : Cond.instanceMethod yX8_ran ∈ BIG := big_in (tb6 (List.mem_of_getElem? (i := 61) rfl)) rfl
theorem bk_1324 : Cond.code yX8_ran cX8_ran 11 (some .int) ∈ BIG := big_in (tb6 (List.mem_of_getElem? (i := 62) rfl)) rfl
theorem bk_1325 : Cond.constantLong RX8 230 (10000000000) ∈ BIG := big_in (tb6 (List.mem_of_getElem? (i := 63) rfl)) rfl
theorem bk_1326 : Cond.constantLong RX8 232 (100000) ∈ BIG := big_in (tb6 (List.mem_of_getElem? (i := 64) rfl)) rfl
theorem bk_1327 : Cond.methodLink RX8 234 yX8_putAside ∈ BIG := big_in (tb6 (List.mem_of_getElem? (i := 65) rfl)) rfl
theorem bk_1329 : Cond.instanceMethod yX8_putAside ∈ BIG := big_in (tb6 (List.mem_of_getElem? (i := 67) rfl)) rfl
theorem bk_1330 : Cond.code yX8_putAside cX8_putAside 2 none ∈ BIG := big_in (tb6 (List.mem_of_getElem? (i := 68) rfl)) rfl
theorem bk_1331 : Cond.methodLink RX8 237 yX8_doesWell ∈ BIG := big_in (tb6 (List.mem_of_getElem? (i := 69) rfl)) rfl
theorem bk_1333 : Cond.instanceMethod yX8_doesWell ∈ BIG := big_in (tb6 (List.mem_of_getElem? (i := 71) rfl)) rfl
theorem bk_1334 : Cond.code yX8_doesWell cX8_doesWell 7 (some .boolean) ∈ BIG := big_in (tb6 (List.mem_of_getElem? (i := 72) rfl)) rfl
theorem bk_1335 : Cond.methodLink RX8 240 yX8_putBack ∈ BIG := big_in (tb6 (List.mem_of_getElem? (i := 73) rfl)) rfl
theorem bk_1337 : Cond.instanceMethod yX8_putBack ∈ BIG := big_in (tb6 (List.mem_of_getElem? (i := 75) rfl)) rfl
theorem bk_1338 : Cond.code yX8_putBack cX8_putBack 2 none ∈ BIG := big_in (tb6 (List.mem_of_getElem? (i := 76) rfl)) rfl
theorem bk_1339 : Cond.methodLink RL 189 yX8_simulate ∈ BIG := big_in (tb6 (List.mem_of_getElem? (i := 77) rfl)) rfl
theorem bk_1340 : Cond.instanceMethod yX8_simulate ∈ BIG := big_in (tb6 (List.mem_of_getElem? (i := 78) rfl)) rfl
theorem bk_1341 : Cond.selects RX8 yX8_simulate yX8_simulate ∈ BIG := big_in (tb6 (List.mem_of_getElem? (i := 79) rfl)) rfl
theorem bk_1342 : Cond.code yX8_simulate cX8_simulate 4 (some .int) ∈ BIG := big_in (tb6 (List.mem_of_getElem? (i := 80) rfl)) rfl
theorem bk_1343 : Cond.methodLink RX8 261 yX8_simulated ∈ BIG := big_in (tb6 (List.mem_of_getElem? (i := 81) rfl)) rfl
theorem bk_1345 : Cond.instanceMethod yX8_simulated ∈ BIG := big_in (tb6 (List.mem_of_getElem? (i := 83) rfl)) rfl
theorem bk_1346 : Cond.code yX8_simulated cX8_simulated 7 (some .int) ∈ BIG := big_in (tb6 (List.mem_of_getElem? (i := 84) rfl)) rfl
theorem bk_1347 : Cond.constantLong RX8 253 (6364136223846793005) ∈ BIG := big_in (tb6 (List.mem_of_getElem? (i := 85) rfl)) rfl
theorem bk_1348 : Cond.constantLong RX8 255 (1442695040888963407) ∈ BIG := big_in (tb6 (List.mem_of_getElem? (i := 86) rfl)) rfl
theorem bk_1349 : Cond.methodLink RX8 257 yX8_turn ∈ BIG := big_in (tb6 (List.mem_of_getElem? (i := 87) rfl)) rfl
theorem bk_1351 : Cond.instanceMethod yX8_turn ∈ BIG := big_in (tb6 (List.mem_of_getElem? (i := 89) rfl)) rfl
theorem bk_1352 : Cond.code yX8_turn cX8_turn 6 none ∈ BIG := big_in (tb6 (List.mem_of_getElem? (i := 90) rfl)) rfl
theorem bk_1353 : Cond.methodLink RL 192 yX8_save ∈ BIG := big_in (tb6 (List.mem_of_getElem? (i := 91) rfl)) rfl
theorem bk_1354 : Cond.instanceMethod yX8_save ∈ BIG := big_in (tb6 (List.mem_of_getElem? (i := 92) rfl)) rfl
theorem bk_1355 : Cond.selects RX8 yX8_save yX8_save ∈ BIG := big_in (tb6 (List.mem_of_getElem? (i := 93) rfl)) rfl
theorem bk_1356 : Cond.code yX8_save cX8_save 3 (some .int) ∈ BIG := big_in (tb6 (List.mem_of_getElem? (i := 94) rfl)) rfl
theorem bk_1357 : Cond.methodLink RL 195 yX8_restore ∈ BIG := big_in (tb6 (List.mem_of_getElem? (i := 95) rfl)) rfl
theorem bk_1358 : Cond.instanceMethod yX8_restore ∈ BIG := big_in (tb6 (List.mem_of_getElem? (i := 96) rfl)) rfl
theorem bk_1359 : Cond.selects RX8 yX8_restore yX8_restore ∈ BIG := big_in (tb6 (List.mem_of_getElem? (i := 97) rfl)) rfl
theorem bk_1360 : Cond.code yX8_restore cX8_restore 3 (some .int) ∈ BIG := big_in (tb6 (List.mem_of_getElem? (i := 98) rfl)) rfl
theorem bk_1361 : Cond.constantLong RL 180 (4294967295) ∈ BIG := big_in (tb6 (List.mem_of_getElem? (i := 99) rfl)) rfl
theorem bk_1362 : Cond.arrayClass .long ∈ BIG := big_in (tb6 (List.mem_of_getElem? (i := 100) rfl)) rfl
theorem tk_123 : Cond.arrayOver (.object RX2) ∈ lw_tbl := tb1 (List.mem_of_getElem? (i := 61) rfl)
theorem tk_125 : Cond.methodLinkNest RX0 26 yX2_init "RangeGraves" ∈ lw_tbl := tb1 (List.mem_of_getElem? (i := 63) rfl)
theorem tk_137 : Cond.fieldLinkNest RX3 122 RX0 "result" "LRangeGraves$Writes;" "RangeGraves" ∈ lw_tbl := tb1 (List.mem_of_getElem? (i := 75) rfl)
theorem tk_155 : Cond.methodLinkNest RX7 14 yX4_init "RangeGraves" ∈ lw_tbl := tb1 (List.mem_of_getElem? (i := 93) rfl)
theorem tk_176 : Cond.fieldLinkNest RX5 21 RX3 "writes" "LRangeGraves$Writes;" "RangeGraves" ∈ lw_tbl := tb1 (List.mem_of_getElem? (i := 114) rfl)
theorem tk_177 : Cond.fieldLinkNest RX0 57 RX3 "writes" "LRangeGraves$Writes;" "RangeGraves" ∈ lw_tbl := tb1 (List.mem_of_getElem? (i := 115) rfl)
theorem tk_178 : Cond.fieldLinkNest RX7 162 RX3 "writes" "LRangeGraves$Writes;" "RangeGraves" ∈ lw_tbl := tb1 (List.mem_of_getElem? (i := 116) rfl)
theorem tk_209 : Cond.arrayOver (.object RX3) ∈ lw_tbl := tb1 (List.mem_of_getElem? (i := 147) rfl)
theorem tk_223 : Cond.methodLinkNest RX7 50 yX5_init "RangeGraves" ∈ lw_tbl := tb1 (List.mem_of_getElem? (i := 161) rfl)
theorem tk_481 : Cond.castable "java/lang/IllegalArgumentException" "java/lang/IllegalArgumentException" ∈ lw_tbl := tb2 (List.mem_of_getElem? (i := 179) rfl)
theorem tk_520 : Cond.stringRef RX7 57 "a character code is 0 to 255" ∈ lw_tbl := tb2 (List.mem_of_getElem? (i := 218) rfl)
theorem tk_553 : Cond.castable "java/lang/IllegalStateException" "java/lang/IllegalStateException" ∈ lw_tbl := tb3 (List.mem_of_getElem? (i := 11) rfl)
theorem tk_560 : Cond.stringRef RX7 68 "the text already has 120 characters" ∈ lw_tbl := tb3 (List.mem_of_getElem? (i := 18) rfl)
theorem tk_578 : Cond.stringRef RX7 85 "the text is not a history" ∈ lw_tbl := tb3 (List.mem_of_getElem? (i := 36) rfl)
theorem tk_599 : Cond.methodLinkNest RX3 125 yX7_isKey "RangeGraves" ∈ lw_tbl := tb3 (List.mem_of_getElem? (i := 57) rfl)
theorem tk_602 : Cond.methodLinkNest RX3 128 yX7_isValue "RangeGraves" ∈ lw_tbl := tb3 (List.mem_of_getElem? (i := 60) rfl)
theorem tk_702 : Cond.stringRef RX7 132 "what is 0 to 8" ∈ lw_tbl := tb3 (List.mem_of_getElem? (i := 160) rfl)
theorem tk_718 : Cond.castable "java/lang/IndexOutOfBoundsException" "java/lang/IndexOutOfBoundsException" ∈ lw_tbl := tb3 (List.mem_of_getElem? (i := 176) rfl)
theorem tk_725 : Cond.stringRef RX7 142 "no such key or eye" ∈ lw_tbl := tb3 (List.mem_of_getElem? (i := 183) rfl)
theorem tk_749 : Cond.stringRef RX7 154 "no such run" ∈ lw_tbl := tb3 (List.mem_of_getElem? (i := 207) rfl)
theorem tk_758 : Cond.methodLinkNest RX3 77 yX2_init "RangeGraves" ∈ lw_tbl := tb3 (List.mem_of_getElem? (i := 216) rfl)
theorem tk_771 : Cond.stringRef RX7 174 "what is 0 to 4" ∈ lw_tbl := tb3 (List.mem_of_getElem? (i := 229) rfl)
theorem tk_779 : Cond.stringRef RX7 176 "j is not negative, and what is 0 to 3" ∈ lw_tbl := tb3 (List.mem_of_getElem? (i := 237) rfl)
theorem tk_791 : Cond.stringRef RX7 190 "no such eye" ∈ lw_tbl := tb4 (List.mem_of_getElem? (i := 9) rfl)
theorem tk_799 : Cond.stringRef RX7 192 "no such key" ∈ lw_tbl := tb4 (List.mem_of_getElem? (i := 17) rfl)
theorem tk_801 : Cond.stringRef RX7 197 "a value is 1 to 999" ∈ lw_tbl := tb4 (List.mem_of_getElem? (i := 19) rfl)
theorem tk_803 : Cond.stringRef RX7 200 "there are 48 writes" ∈ lw_tbl := tb4 (List.mem_of_getElem? (i := 21) rfl)
theorem tk_817 : Cond.stringRef RX7 210 "the last key is less than the first one" ∈ lw_tbl := tb4 (List.mem_of_getElem? (i := 35) rfl)
theorem tk_826 : Cond.stringRef RX7 218 "2 eyes are open" ∈ lw_tbl := tb4 (List.mem_of_getElem? (i := 44) rfl)
theorem tk_844 : Cond.stringRef RX7 229 "memory is empty, there are 5 runs, or it is too much" ∈ lw_tbl := tb4 (List.mem_of_getElem? (i := 62) rfl)
theorem tk_853 : Cond.stringRef RX7 240 "there is no run behind it, or it is too much" ∈ lw_tbl := tb4 (List.mem_of_getElem? (i := 71) rfl)
theorem tk_865 : Cond.stringRef RX7 246 "no state is remembered" ∈ lw_tbl := tb4 (List.mem_of_getElem? (i := 83) rfl)
theorem tk_918 : Cond.stringRef RX7 276 "a script has 1 to 3 commands" ∈ lw_tbl := tb4 (List.mem_of_getElem? (i := 136) rfl)
theorem tk_923 : Cond.stringRef RX7 282 "a script is a number of at most 5 * n digits" ∈ lw_tbl := tb4 (List.mem_of_getElem? (i := 141) rfl)
theorem tk_935 : Cond.stringRef RX7 289 "there are 1 to 60 turns" ∈ lw_tbl := tb4 (List.mem_of_getElem? (i := 153) rfl)
theorem tk_950 : Cond.stringRef RX7 298 "no such save slot" ∈ lw_tbl := tb4 (List.mem_of_getElem? (i := 168) rfl)
theorem tk_958 : Cond.stringRef RX7 300 "nothing has been saved in this slot" ∈ lw_tbl := tb4 (List.mem_of_getElem? (i := 176) rfl)
theorem layX0 : ∀ w ∈ u_ws RX0 TX0 5, w ∈ BIG := big_sub (by decide +kernel)
theorem layX1 : ∀ w ∈ u_ws RX1 TX1 3, w ∈ BIG := big_sub (by decide +kernel)
theorem layX2 : ∀ w ∈ u_ws RX2 TX2 2, w ∈ BIG := big_sub (by decide +kernel)
theorem layX3 : ∀ w ∈ u_ws RX3 TX3 8, w ∈ BIG := big_sub (by decide +kernel)
theorem layX4 : ∀ w ∈ u_ws RX4 TX4 2, w ∈ BIG := big_sub (by decide +kernel)
theorem layX5 : ∀ w ∈ u_ws RX5 TX5 1, w ∈ BIG := big_sub (by decide +kernel)
theorem layX6 : ∀ w ∈ u_ws RX6 TX6 5, w ∈ BIG := big_sub (by decide +kernel)
theorem layX7 : ∀ w ∈ u_ws RX7 TX7 7, w ∈ BIG := big_sub (by decide +kernel)
theorem layX8 : ∀ w ∈ u_ws RX8 TX8 17, w ∈ BIG := big_sub (by decide +kernel)
def M_X0_init : MT := (yX0_init, cX0_init, 2, none, { frames := 2, cells := 157, slots := 1847, locals := 43 }, 2, 0)
def M_X0_clean : MT := (yX0_clean, cX0_clean, 7, (some .int), { frames := 3, cells := 0, slots := 0, locals := 69 }, 0, 3)
def M_X0_dropHidden : MT := (yX0_dropHidden, cX0_dropHidden, 7, none, { frames := 2, cells := 0, slots := 0, locals := 43 }, 0, 3)
def M_X0_dropNeedless : MT := (yX0_dropNeedless, cX0_dropNeedless, 5, none, { frames := 1, cells := 0, slots := 0, locals := 21 }, 0, 3)
def M_X0_addRows : MT := (yX0_addRows, cX0_addRows, 7, none, { frames := 1, cells := 0, slots := 0, locals := 24 }, 0, 2)
def M_X1_init : MT := (yX1_init, cX1_init, 3, none, { frames := 3, cells := 113, slots := 19796, locals := 65 }, 2, 1)
def M_X1_size : MT := (yX1_size, cX1_size, 1, (some .int), { frames := 0, cells := 0, slots := 0, locals := 0 }, 0, 0)
def M_X1_forgetAll : MT := (yX1_forgetAll, cX1_forgetAll, 1, none, { frames := 0, cells := 0, slots := 0, locals := 0 }, 0, 0)
def M_X1_remember : MT := (yX1_remember, cX1_remember, 2, none, { frames := 3, cells := 0, slots := 0, locals := 94 }, 0, 1)
def M_X1_takeBack : MT := (yX1_takeBack, cX1_takeBack, 2, none, { frames := 3, cells := 0, slots := 0, locals := 94 }, 0, 1)
def M_X2_init : MT := (yX2_init, cX2_init, 1, none, { frames := 1, cells := 0, slots := 0, locals := 20 }, 2, 0)
def M_X2_empty : MT := (yX2_empty, cX2_empty, 1, none, { frames := 0, cells := 0, slots := 0, locals := 0 }, 0, 0)
def M_X2_addRow : MT := (yX2_addRow, cX2_addRow, 3, none, { frames := 1, cells := 0, slots := 0, locals := 21 }, 0, 2)
def M_X2_addAll : MT := (yX2_addAll, cX2_addAll, 2, none, { frames := 0, cells := 0, slots := 0, locals := 0 }, 0, 1)
def M_X2_removeAll : MT := (yX2_removeAll, cX2_removeAll, 2, none, { frames := 0, cells := 0, slots := 0, locals := 0 }, 0, 1)
def M_X2_keepOnly : MT := (yX2_keepOnly, cX2_keepOnly, 2, none, { frames := 0, cells := 0, slots := 0, locals := 0 }, 0, 1)
def M_X2_has : MT := (yX2_has, cX2_has, 4, (some .boolean), { frames := 0, cells := 0, slots := 0, locals := 0 }, 0, 1)
def M_X2_size : MT := (yX2_size, cX2_size, 1, (some .int), { frames := 1, cells := 0, slots := 0, locals := 21 }, 0, 0)
def M_X3_init : MT := (yX3_init, cX3_init, 3, none, { frames := 2, cells := 7, slots := 1405, locals := 43 }, 2, 2)
def M_X3_empty : MT := (yX3_empty, cX3_empty, 1, none, { frames := 1, cells := 0, slots := 0, locals := 20 }, 0, 0)
def M_X3_become : MT := (yX3_become, cX3_become, 2, none, { frames := 2, cells := 0, slots := 0, locals := 73 }, 0, 1)
def M_X3_size : MT := (yX3_size, cX3_size, 1, (some .int), { frames := 1, cells := 0, slots := 0, locals := 20 }, 0, 0)
def M_X3_isFull : MT := (yX3_isFull, cX3_isFull, 1, (some .boolean), { frames := 1, cells := 0, slots := 0, locals := 20 }, 0, 0)
def M_X3_runs : MT := (yX3_runs, cX3_runs, 1, (some .int), { frames := 0, cells := 0, slots := 0, locals := 0 }, 0, 0)
def M_X3_eyes : MT := (yX3_eyes, cX3_eyes, 1, (some .int), { frames := 0, cells := 0, slots := 0, locals := 0 }, 0, 0)
def M_X3_latest : MT := (yX3_latest, cX3_latest, 1, (some .int), { frames := 0, cells := 0, slots := 0, locals := 0 }, 0, 0)
def M_X3_fewer : MT := (yX3_fewer, cX3_fewer, 1, (some .int), { frames := 0, cells := 0, slots := 0, locals := 0 }, 0, 0)
def M_X3_isRun : MT := (yX3_isRun, cX3_isRun, 2, (some .boolean), { frames := 0, cells := 0, slots := 0, locals := 0 }, 0, 1)
def M_X3_isPlace : MT := (yX3_isPlace, cX3_isPlace, 2, (some .boolean), { frames := 1, cells := 0, slots := 0, locals := 21 }, 0, 1)
def M_X3_startOf : MT := (yX3_startOf, cX3_startOf, 3, (some .int), { frames := 0, cells := 0, slots := 0, locals := 0 }, 0, 1)
def M_X3_endOf : MT := (yX3_endOf, cX3_endOf, 3, (some .int), { frames := 1, cells := 0, slots := 0, locals := 20 }, 0, 1)
def M_X3_sizeOf : MT := (yX3_sizeOf, cX3_sizeOf, 2, (some .int), { frames := 2, cells := 0, slots := 0, locals := 42 }, 0, 1)
def M_X3_entriesIn : MT := (yX3_entriesIn, cX3_entriesIn, 5, (some .int), { frames := 1, cells := 0, slots := 0, locals := 21 }, 0, 2)
def M_X3_keysIn : MT := (yX3_keysIn, cX3_keysIn, 4, (some .int), { frames := 2, cells := 1, slots := 2, locals := 43 }, 0, 1)
def M_X3_isEye : MT := (yX3_isEye, cX3_isEye, 2, (some .boolean), { frames := 0, cells := 0, slots := 0, locals := 0 }, 0, 1)
def M_X3_isView : MT := (yX3_isView, cX3_isView, 2, (some .boolean), { frames := 1, cells := 0, slots := 0, locals := 21 }, 0, 1)
def M_X3_limitOf : MT := (yX3_limitOf, cX3_limitOf, 2, (some .int), { frames := 1, cells := 0, slots := 0, locals := 21 }, 0, 1)
def M_X3_eyesBefore : MT := (yX3_eyesBefore, cX3_eyesBefore, 4, (some .int), { frames := 0, cells := 0, slots := 0, locals := 0 }, 0, 1)
def M_X3_newestFor : MT := (yX3_newestFor, cX3_newestFor, 4, (some .int), { frames := 1, cells := 0, slots := 0, locals := 22 }, 0, 2)
def M_X3_valueFor : MT := (yX3_valueFor, cX3_valueFor, 3, (some .int), { frames := 2, cells := 0, slots := 0, locals := 45 }, 0, 2)
def M_X3_isSeen : MT := (yX3_isSeen, cX3_isSeen, 4, (some .boolean), { frames := 2, cells := 0, slots := 0, locals := 45 }, 0, 1)
def M_X3_canOpen : MT := (yX3_canOpen, cX3_canOpen, 1, (some .boolean), { frames := 0, cells := 0, slots := 0, locals := 0 }, 0, 0)
def M_X3_canFlush : MT := (yX3_canFlush, cX3_canFlush, 1, (some .boolean), { frames := 4, cells := 0, slots := 0, locals := 95 }, 0, 0)
def M_X3_canMerge : MT := (yX3_canMerge, cX3_canMerge, 3, (some .boolean), { frames := 4, cells := 0, slots := 0, locals := 95 }, 0, 1)
def M_X3_savedBy : MT := (yX3_savedBy, cX3_savedBy, 2, (some .int), { frames := 4, cells := 0, slots := 0, locals := 95 }, 0, 1)
def M_X3_addWrite : MT := (yX3_addWrite, cX3_addWrite, 4, none, { frames := 1, cells := 0, slots := 0, locals := 24 }, 0, 3)
def M_X3_addEye : MT := (yX3_addEye, cX3_addEye, 1, none, { frames := 0, cells := 0, slots := 0, locals := 0 }, 0, 0)
def M_X3_dropEye : MT := (yX3_dropEye, cX3_dropEye, 3, none, { frames := 1, cells := 0, slots := 0, locals := 21 }, 0, 1)
def M_X3_dropAllEyes : MT := (yX3_dropAllEyes, cX3_dropAllEyes, 1, none, { frames := 0, cells := 0, slots := 0, locals := 0 }, 0, 0)
def M_X3_flushMemory : MT := (yX3_flushMemory, cX3_flushMemory, 2, (some .int), { frames := 4, cells := 0, slots := 0, locals := 95 }, 0, 0)
def M_X3_mergeRuns : MT := (yX3_mergeRuns, cX3_mergeRuns, 7, (some .int), { frames := 4, cells := 0, slots := 0, locals := 95 }, 0, 1)
def M_X3_tryPut : MT := (yX3_tryPut, cX3_tryPut, 3, (some .boolean), { frames := 2, cells := 0, slots := 0, locals := 47 }, 0, 2)
def M_X3_tryBury : MT := (yX3_tryBury, cX3_tryBury, 3, (some .boolean), { frames := 2, cells := 0, slots := 0, locals := 47 }, 0, 2)
def M_X3_tryOpen : MT := (yX3_tryOpen, cX3_tryOpen, 1, (some .boolean), { frames := 1, cells := 0, slots := 0, locals := 20 }, 0, 0)
def M_X3_tryClose : MT := (yX3_tryClose, cX3_tryClose, 2, (some .boolean), { frames := 2, cells := 0, slots := 0, locals := 43 }, 0, 1)
def M_X3_tryFlush : MT := (yX3_tryFlush, cX3_tryFlush, 1, (some .boolean), { frames := 5, cells := 0, slots := 0, locals := 116 }, 0, 0)
def M_X3_tryMerge : MT := (yX3_tryMerge, cX3_tryMerge, 2, (some .boolean), { frames := 5, cells := 0, slots := 0, locals := 121 }, 0, 1)
def M_X4_init : MT := (yX4_init, cX4_init, 1, none, { frames := 1, cells := 1, slots := 120, locals := 20 }, 2, 0)
def M_X4_length : MT := (yX4_length, cX4_length, 1, (some .int), { frames := 0, cells := 0, slots := 0, locals := 0 }, 0, 0)
def M_X4_isFull : MT := (yX4_isFull, cX4_isFull, 1, (some .boolean), { frames := 0, cells := 0, slots := 0, locals := 0 }, 0, 0)
def M_X4_addSign : MT := (yX4_addSign, cX4_addSign, 2, none, { frames := 0, cells := 0, slots := 0, locals := 0 }, 0, 1)
def M_X4_empty : MT := (yX4_empty, cX4_empty, 1, none, { frames := 0, cells := 0, slots := 0, locals := 0 }, 0, 0)
def M_X4_signAt : MT := (yX4_signAt, cX4_signAt, 2, (some .int), { frames := 0, cells := 0, slots := 0, locals := 0 }, 0, 1)
def M_X4_isDigit : MT := (yX4_isDigit, cX4_isDigit, 2, (some .boolean), { frames := 1, cells := 0, slots := 0, locals := 21 }, 0, 1)
def M_X4_digitsAt : MT := (yX4_digitsAt, cX4_digitsAt, 5, (some .int), { frames := 1, cells := 0, slots := 0, locals := 21 }, 0, 2)
def M_X4_firstError : MT := (yX4_firstError, cX4_firstError, 4, (some .int), { frames := 3, cells := 0, slots := 0, locals := 67 }, 0, 0)
def M_X4_digitsOf : MT := (yX4_digitsOf, cX4_digitsOf, 1, (some .int), { frames := 0, cells := 0, slots := 0, locals := 0 }, 1, 1)
def M_X4_digitFits : MT := (yX4_digitFits, cX4_digitFits, 3, (some .boolean), { frames := 2, cells := 0, slots := 0, locals := 45 }, 0, 2)
def M_X5_init : MT := (yX5_init, cX5_init, 1, none, { frames := 1, cells := 1, slots := 100, locals := 20 }, 2, 0)
def M_X5_look : MT := (yX5_look, cX5_look, 6, none, { frames := 1, cells := 0, slots := 0, locals := 23 }, 0, 2)
def M_X5_sum : MT := (yX5_sum, cX5_sum, 3, (some .int), { frames := 0, cells := 0, slots := 0, locals := 0 }, 0, 0)
def M_X5_seenIn : MT := (yX5_seenIn, cX5_seenIn, 5, (some .int), { frames := 1, cells := 0, slots := 0, locals := 21 }, 0, 2)
def M_X5_firstSeen : MT := (yX5_firstSeen, cX5_firstSeen, 3, (some .int), { frames := 1, cells := 0, slots := 0, locals := 21 }, 0, 1)
def M_X6_init : MT := (yX6_init, cX6_init, 3, none, { frames := 1, cells := 4, slots := 1392, locals := 21 }, 2, 1)
def M_X6_size : MT := (yX6_size, cX6_size, 1, (some .int), { frames := 0, cells := 0, slots := 0, locals := 0 }, 0, 0)
def M_X6_empty : MT := (yX6_empty, cX6_empty, 1, none, { frames := 0, cells := 0, slots := 0, locals := 0 }, 0, 0)
def M_X6_add : MT := (yX6_add, cX6_add, 5, none, { frames := 0, cells := 0, slots := 0, locals := 0 }, 0, 4)
def M_X6_numberAt : MT := (yX6_numberAt, cX6_numberAt, 2, (some .int), { frames := 0, cells := 0, slots := 0, locals := 0 }, 0, 1)
def M_X6_firstAt : MT := (yX6_firstAt, cX6_firstAt, 2, (some .int), { frames := 0, cells := 0, slots := 0, locals := 0 }, 0, 1)
def M_X6_lastAt : MT := (yX6_lastAt, cX6_lastAt, 2, (some .int), { frames := 0, cells := 0, slots := 0, locals := 0 }, 0, 1)
def M_X6_valueAt : MT := (yX6_valueAt, cX6_valueAt, 2, (some .int), { frames := 0, cells := 0, slots := 0, locals := 0 }, 0, 1)
def M_X6_isEntry : MT := (yX6_isEntry, cX6_isEntry, 2, (some .boolean), { frames := 0, cells := 0, slots := 0, locals := 0 }, 0, 1)
def M_X6_concerns : MT := (yX6_concerns, cX6_concerns, 3, (some .boolean), { frames := 0, cells := 0, slots := 0, locals := 0 }, 0, 2)
def M_X6_replace : MT := (yX6_replace, cX6_replace, 6, none, { frames := 1, cells := 0, slots := 0, locals := 48 }, 0, 3)
def M_X7_init : MT := (yX7_init, cX7_init, 3, none, { frames := 4, cells := 310, slots := 27530, locals := 87 }, 2, 0)
def M_X7_append : MT := (yX7_append, cX7_append, 2, (some .int), { frames := 6, cells := 1, slots := 6, locals := 90 }, 0, 1)
def M_X7_clearText : MT := (yX7_clearText, cX7_clearText, 2, (some .int), { frames := 1, cells := 0, slots := 0, locals := 20 }, 0, 0)
def M_X7_errorPosition : MT := (yX7_errorPosition, cX7_errorPosition, 1, (some .int), { frames := 4, cells := 0, slots := 0, locals := 90 }, 0, 0)
def M_X7_load : MT := (yX7_load, cX7_load, 3, (some .int), { frames := 7, cells := 1, slots := 6, locals := 163 }, 0, 0)
def M_X7_about : MT := (yX7_about, cX7_about, 2, (some .int), { frames := 6, cells := 1, slots := 6, locals := 90 }, 0, 1)
def M_X7_get : MT := (yX7_get, cX7_get, 4, (some .int), { frames := 6, cells := 1, slots := 6, locals := 90 }, 0, 2)
def M_X7_run : MT := (yX7_run, cX7_run, 3, (some .int), { frames := 6, cells := 1, slots := 6, locals := 90 }, 0, 2)
def M_X7_write : MT := (yX7_write, cX7_write, 5, (some .int), { frames := 6, cells := 1, slots := 6, locals := 90 }, 0, 3)
def M_X7_eye : MT := (yX7_eye, cX7_eye, 2, (some .int), { frames := 6, cells := 1, slots := 6, locals := 90 }, 0, 1)
def M_X7_put : MT := (yX7_put, cX7_put, 3, (some .int), { frames := 6, cells := 1, slots := 6, locals := 115 }, 0, 2)
def M_X7_bury : MT := (yX7_bury, cX7_bury, 3, (some .int), { frames := 6, cells := 1, slots := 6, locals := 115 }, 0, 2)
def M_X7_open : MT := (yX7_open, cX7_open, 1, (some .int), { frames := 6, cells := 1, slots := 6, locals := 115 }, 0, 0)
def M_X7_close : MT := (yX7_close, cX7_close, 2, (some .int), { frames := 6, cells := 1, slots := 6, locals := 115 }, 0, 1)
def M_X7_flush : MT := (yX7_flush, cX7_flush, 1, (some .int), { frames := 6, cells := 1, slots := 6, locals := 116 }, 0, 0)
def M_X7_merge : MT := (yX7_merge, cX7_merge, 2, (some .int), { frames := 6, cells := 1, slots := 6, locals := 121 }, 0, 1)
def M_X7_undo : MT := (yX7_undo, cX7_undo, 1, (some .int), { frames := 6, cells := 1, slots := 6, locals := 115 }, 0, 0)
def M_X7_looks : MT := (yX7_looks, cX7_looks, 5, (some .int), { frames := 6, cells := 1, slots := 6, locals := 90 }, 0, 1)
def M_X7_next : MT := (yX7_next, cX7_next, 3, (some .int), { frames := 6, cells := 1, slots := 6, locals := 90 }, 0, 2)
def M_X7_count : MT := (yX7_count, cX7_count, 4, (some .int), { frames := 6, cells := 1, slots := 6, locals := 90 }, 0, 3)
def M_X7_hidden : MT := (yX7_hidden, cX7_hidden, 3, (some .int), { frames := 3, cells := 0, slots := 0, locals := 68 }, 0, 0)
def M_X7_grave : MT := (yX7_grave, cX7_grave, 3, (some .int), { frames := 6, cells := 1, slots := 6, locals := 90 }, 0, 1)
def M_X7_saves : MT := (yX7_saves, cX7_saves, 2, (some .int), { frames := 6, cells := 1, slots := 6, locals := 117 }, 0, 1)
def M_X7_best : MT := (yX7_best, cX7_best, 4, (some .int), { frames := 5, cells := 0, slots := 0, locals := 117 }, 0, 0)
def M_X7_fewest : MT := (yX7_fewest, cX7_fewest, 2, (some .int), { frames := 5, cells := 0, slots := 0, locals := 121 }, 0, 0)
def M_X7_runScript : MT := (yX7_runScript, cX7_runScript, 6, (some .int), { frames := 7, cells := 1, slots := 6, locals := 167 }, 0, 2)
def M_X7_simulate : MT := (yX7_simulate, cX7_simulate, 7, (some .int), { frames := 7, cells := 1, slots := 6, locals := 165 }, 0, 2)
def M_X7_save : MT := (yX7_save, cX7_save, 2, (some .int), { frames := 6, cells := 1, slots := 6, locals := 94 }, 0, 1)
def M_X7_restore : MT := (yX7_restore, cX7_restore, 2, (some .int), { frames := 6, cells := 1, slots := 6, locals := 94 }, 0, 1)
def M_X7_isKey : MT := (yX7_isKey, cX7_isKey, 1, (some .boolean), { frames := 0, cells := 0, slots := 0, locals := 0 }, 1, 1)
def M_X7_isValue : MT := (yX7_isValue, cX7_isValue, 1, (some .boolean), { frames := 0, cells := 0, slots := 0, locals := 0 }, 1, 1)
def M_X7_seenNow : MT := (yX7_seenNow, cX7_seenNow, 2, (some .int), { frames := 2, cells := 0, slots := 0, locals := 48 }, 0, 1)
def M_X7_doTextCommand : MT := (yX7_doTextCommand, cX7_doTextCommand, 2, (some .boolean), { frames := 6, cells := 0, slots := 0, locals := 142 }, 0, 1)
def M_X7_withoutLast : MT := (yX7_withoutLast, cX7_withoutLast, 6, (some .long), { frames := 0, cells := 0, slots := 0, locals := 0 }, 1, 2)
def M_X7_doGroup : MT := (yX7_doGroup, cX7_doGroup, 6, (some .boolean), { frames := 6, cells := 0, slots := 0, locals := 142 }, 0, 1)
def M_X7_doTurn : MT := (yX7_doTurn, cX7_doTurn, 4, none, { frames := 6, cells := 0, slots := 0, locals := 142 }, 0, 1)
def M_X8_init : MT := (yX8_init, cX8_init, 1, none, { frames := 1, cells := 8, slots := 5442, locals := 20 }, 2, 0)
def M_X8_thrown : MT := (yX8_thrown, cX8_thrown, 1, (some .int), { frames := 0, cells := 0, slots := 0, locals := 0 }, 0, 0)
def M_X8_in : MT := (yX8_in, cX8_in, 3, (some .boolean), { frames := 0, cells := 0, slots := 0, locals := 0 }, 1, 3)
def M_X8_holds : MT := (yX8_holds, cX8_holds, 2, (some .boolean), { frames := 0, cells := 0, slots := 0, locals := 0 }, 0, 1)
def M_X8_of : MT := (yX8_of, cX8_of, 2, (some .int), { frames := 0, cells := 0, slots := 0, locals := 0 }, 1, 2)
def M_X8_isKey : MT := (yX8_isKey, cX8_isKey, 1, (some .boolean), { frames := 1, cells := 0, slots := 0, locals := 22 }, 1, 1)
def M_X8_isRun : MT := (yX8_isRun, cX8_isRun, 2, (some .boolean), { frames := 1, cells := 0, slots := 0, locals := 22 }, 0, 1)
def M_X8_isEye : MT := (yX8_isEye, cX8_isEye, 2, (some .boolean), { frames := 1, cells := 0, slots := 0, locals := 22 }, 0, 1)
def M_X8_remember : MT := (yX8_remember, cX8_remember, 2, none, { frames := 0, cells := 0, slots := 0, locals := 0 }, 0, 0)
def M_X8_putAside : MT := (yX8_putAside, cX8_putAside, 2, none, { frames := 0, cells := 0, slots := 0, locals := 0 }, 0, 0)
def M_X8_putBack : MT := (yX8_putBack, cX8_putBack, 2, none, { frames := 0, cells := 0, slots := 0, locals := 0 }, 0, 0)
def M_X8_begin : MT := (yX8_begin, cX8_begin, 4, (some .int), { frames := 0, cells := 0, slots := 0, locals := 0 }, 0, 1)
def M_X8_manyIn : MT := (yX8_manyIn, cX8_manyIn, 2, (some .int), { frames := 0, cells := 0, slots := 0, locals := 0 }, 0, 1)
def M_X8_all : MT := (yX8_all, cX8_all, 1, (some .int), { frames := 1, cells := 0, slots := 0, locals := 23 }, 0, 0)
def M_X8_concerns : MT := (yX8_concerns, cX8_concerns, 3, (some .boolean), { frames := 1, cells := 0, slots := 0, locals := 22 }, 0, 2)
def M_X8_isEntry : MT := (yX8_isEntry, cX8_isEntry, 2, (some .boolean), { frames := 1, cells := 0, slots := 0, locals := 21 }, 0, 1)
def M_X8_newest : MT := (yX8_newest, cX8_newest, 6, (some .int), { frames := 2, cells := 0, slots := 0, locals := 44 }, 0, 2)
def M_X8_upTo : MT := (yX8_upTo, cX8_upTo, 2, (some .int), { frames := 0, cells := 0, slots := 0, locals := 0 }, 0, 1)
def M_X8_seen : MT := (yX8_seen, cX8_seen, 4, (some .int), { frames := 3, cells := 0, slots := 0, locals := 69 }, 0, 2)
def M_X8_countSeen : MT := (yX8_countSeen, cX8_countSeen, 6, (some .int), { frames := 4, cells := 0, slots := 0, locals := 92 }, 0, 3)
def M_X8_areParted : MT := (yX8_areParted, cX8_areParted, 5, (some .boolean), { frames := 0, cells := 0, slots := 0, locals := 0 }, 0, 2)
def M_X8_isCovered : MT := (yX8_isCovered, cX8_isCovered, 9, (some .boolean), { frames := 2, cells := 0, slots := 0, locals := 44 }, 0, 5)
def M_X8_hasOlderEntry : MT := (yX8_hasOlderEntry, cX8_hasOlderEntry, 7, (some .boolean), { frames := 2, cells := 0, slots := 0, locals := 44 }, 0, 4)
def M_X8_leave : MT := (yX8_leave, cX8_leave, 4, none, { frames := 1, cells := 0, slots := 0, locals := 21 }, 0, 3)
def M_X8_clean : MT := (yX8_clean, cX8_clean, 5, none, { frames := 4, cells := 0, slots := 0, locals := 99 }, 0, 3)
def M_X8_cut : MT := (yX8_cut, cX8_cut, 8, none, { frames := 3, cells := 0, slots := 0, locals := 72 }, 0, 4)
def M_X8_replace : MT := (yX8_replace, cX8_replace, 7, none, { frames := 2, cells := 0, slots := 0, locals := 43 }, 0, 2)
def M_X8_isRoomFor : MT := (yX8_isRoomFor, cX8_isRoomFor, 3, (some .boolean), { frames := 2, cells := 0, slots := 0, locals := 43 }, 0, 2)
def M_X8_putFault : MT := (yX8_putFault, cX8_putFault, 3, (some .int), { frames := 2, cells := 0, slots := 0, locals := 43 }, 0, 2)
def M_X8_writes : MT := (yX8_writes, cX8_writes, 5, (some .int), { frames := 2, cells := 0, slots := 0, locals := 43 }, 0, 3)
def M_X8_buryFault : MT := (yX8_buryFault, cX8_buryFault, 3, (some .int), { frames := 2, cells := 0, slots := 0, locals := 43 }, 0, 2)
def M_X8_buries : MT := (yX8_buries, cX8_buries, 5, (some .int), { frames := 5, cells := 0, slots := 0, locals := 117 }, 0, 2)
def M_X8_opens : MT := (yX8_opens, cX8_opens, 1, (some .int), { frames := 0, cells := 0, slots := 0, locals := 0 }, 0, 0)
def M_X8_closes : MT := (yX8_closes, cX8_closes, 2, (some .int), { frames := 0, cells := 0, slots := 0, locals := 0 }, 0, 1)
def M_X8_flushFault : MT := (yX8_flushFault, cX8_flushFault, 1, (some .int), { frames := 5, cells := 0, slots := 0, locals := 123 }, 0, 0)
def M_X8_flushes : MT := (yX8_flushes, cX8_flushes, 2, (some .int), { frames := 3, cells := 0, slots := 0, locals := 69 }, 0, 0)
def M_X8_mergeFault : MT := (yX8_mergeFault, cX8_mergeFault, 4, (some .int), { frames := 5, cells := 0, slots := 0, locals := 123 }, 0, 1)
def M_X8_merges : MT := (yX8_merges, cX8_merges, 4, (some .int), { frames := 3, cells := 0, slots := 0, locals := 69 }, 0, 1)
def M_X8_append : MT := (yX8_append, cX8_append, 2, (some .int), { frames := 1, cells := 0, slots := 0, locals := 22 }, 0, 1)
def M_X8_clearText : MT := (yX8_clearText, cX8_clearText, 2, (some .int), { frames := 0, cells := 0, slots := 0, locals := 0 }, 0, 0)
def M_X8_sign : MT := (yX8_sign, cX8_sign, 4, (some .int), { frames := 1, cells := 0, slots := 0, locals := 22 }, 0, 2)
def M_X8_key : MT := (yX8_key, cX8_key, 2, (some .int), { frames := 2, cells := 0, slots := 0, locals := 45 }, 0, 0)
def M_X8_command : MT := (yX8_command, cX8_command, 2, none, { frames := 3, cells := 0, slots := 0, locals := 66 }, 0, 0)
def M_X8_does : MT := (yX8_does, cX8_does, 4, (some .boolean), { frames := 6, cells := 0, slots := 0, locals := 146 }, 0, 0)
def M_X8_go : MT := (yX8_go, cX8_go, 4, (some .int), { frames := 7, cells := 0, slots := 0, locals := 169 }, 0, 1)
def M_X8_errorPosition : MT := (yX8_errorPosition, cX8_errorPosition, 2, (some .int), { frames := 8, cells := 0, slots := 0, locals := 192 }, 0, 0)
def M_X8_load : MT := (yX8_load, cX8_load, 3, (some .int), { frames := 8, cells := 0, slots := 0, locals := 192 }, 0, 0)
def M_X8_sumSeen : MT := (yX8_sumSeen, cX8_sumSeen, 4, (some .int), { frames := 4, cells := 0, slots := 0, locals := 92 }, 0, 0)
def M_X8_kinds : MT := (yX8_kinds, cX8_kinds, 6, (some .int), { frames := 2, cells := 0, slots := 0, locals := 42 }, 0, 3)
def M_X8_told : MT := (yX8_told, cX8_told, 2, (some .int), { frames := 5, cells := 0, slots := 0, locals := 117 }, 0, 1)
def M_X8_about : MT := (yX8_about, cX8_about, 2, (some .int), { frames := 6, cells := 0, slots := 0, locals := 138 }, 0, 1)
def M_X8_isView : MT := (yX8_isView, cX8_isView, 2, (some .boolean), { frames := 2, cells := 0, slots := 0, locals := 43 }, 0, 1)
def M_X8_get : MT := (yX8_get, cX8_get, 3, (some .int), { frames := 4, cells := 0, slots := 0, locals := 92 }, 0, 2)
def M_X8_keysOf : MT := (yX8_keysOf, cX8_keysOf, 7, (some .int), { frames := 2, cells := 0, slots := 0, locals := 44 }, 0, 2)
def M_X8_ofRun : MT := (yX8_ofRun, cX8_ofRun, 5, (some .int), { frames := 3, cells := 0, slots := 0, locals := 70 }, 0, 2)
def M_X8_run : MT := (yX8_run, cX8_run, 3, (some .int), { frames := 4, cells := 0, slots := 0, locals := 94 }, 0, 2)
def M_X8_write : MT := (yX8_write, cX8_write, 5, (some .int), { frames := 2, cells := 0, slots := 0, locals := 43 }, 0, 3)
def M_X8_eye : MT := (yX8_eye, cX8_eye, 2, (some .int), { frames := 2, cells := 0, slots := 0, locals := 43 }, 0, 1)
def M_X8_put : MT := (yX8_put, cX8_put, 3, (some .int), { frames := 3, cells := 0, slots := 0, locals := 67 }, 0, 2)
def M_X8_bury : MT := (yX8_bury, cX8_bury, 3, (some .int), { frames := 6, cells := 0, slots := 0, locals := 141 }, 0, 2)
def M_X8_open : MT := (yX8_open, cX8_open, 1, (some .int), { frames := 1, cells := 0, slots := 0, locals := 21 }, 0, 0)
def M_X8_close : MT := (yX8_close, cX8_close, 2, (some .int), { frames := 2, cells := 0, slots := 0, locals := 43 }, 0, 1)
def M_X8_flush : MT := (yX8_flush, cX8_flush, 1, (some .int), { frames := 6, cells := 0, slots := 0, locals := 143 }, 0, 0)
def M_X8_merge : MT := (yX8_merge, cX8_merge, 2, (some .int), { frames := 6, cells := 0, slots := 0, locals := 146 }, 0, 1)
def M_X8_undo : MT := (yX8_undo, cX8_undo, 2, (some .int), { frames := 1, cells := 0, slots := 0, locals := 21 }, 0, 0)
def M_X8_isIn : MT := (yX8_isIn, cX8_isIn, 5, (some .boolean), { frames := 2, cells := 0, slots := 0, locals := 44 }, 0, 2)
def M_X8_lookedAt : MT := (yX8_lookedAt, cX8_lookedAt, 4, (some .int), { frames := 3, cells := 0, slots := 0, locals := 68 }, 0, 1)
def M_X8_looks : MT := (yX8_looks, cX8_looks, 2, (some .int), { frames := 4, cells := 0, slots := 0, locals := 91 }, 0, 1)
def M_X8_nextSeen : MT := (yX8_nextSeen, cX8_nextSeen, 4, (some .int), { frames := 4, cells := 0, slots := 0, locals := 92 }, 0, 2)
def M_X8_next : MT := (yX8_next, cX8_next, 3, (some .int), { frames := 5, cells := 0, slots := 0, locals := 115 }, 0, 2)
def M_X8_count : MT := (yX8_count, cX8_count, 5, (some .int), { frames := 5, cells := 0, slots := 0, locals := 117 }, 0, 3)
def M_X8_hidden : MT := (yX8_hidden, cX8_hidden, 5, (some .int), { frames := 3, cells := 0, slots := 0, locals := 69 }, 0, 0)
def M_X8_newestGrave : MT := (yX8_newestGrave, cX8_newestGrave, 4, (some .int), { frames := 2, cells := 0, slots := 0, locals := 44 }, 0, 1)
def M_X8_grave : MT := (yX8_grave, cX8_grave, 2, (some .int), { frames := 3, cells := 0, slots := 0, locals := 67 }, 0, 1)
def M_X8_savedBy : MT := (yX8_savedBy, cX8_savedBy, 2, (some .int), { frames := 0, cells := 0, slots := 0, locals := 0 }, 0, 1)
def M_X8_saves : MT := (yX8_saves, cX8_saves, 2, (some .int), { frames := 6, cells := 0, slots := 0, locals := 146 }, 0, 1)
def M_X8_best : MT := (yX8_best, cX8_best, 6, (some .int), { frames := 6, cells := 0, slots := 0, locals := 146 }, 0, 0)
def M_X8_fewest : MT := (yX8_fewest, cX8_fewest, 1, (some .int), { frames := 5, cells := 0, slots := 0, locals := 117 }, 0, 0)
def M_X8_doesWell : MT := (yX8_doesWell, cX8_doesWell, 7, (some .boolean), { frames := 7, cells := 0, slots := 0, locals := 169 }, 0, 2)
def M_X8_ran : MT := (yX8_ran, cX8_ran, 11, (some .int), { frames := 8, cells := 0, slots := 0, locals := 195 }, 0, 2)
def M_X8_runScript : MT := (yX8_runScript, cX8_runScript, 6, (some .int), { frames := 9, cells := 0, slots := 0, locals := 225 }, 0, 2)
def M_X8_turn : MT := (yX8_turn, cX8_turn, 6, none, { frames := 7, cells := 0, slots := 0, locals := 169 }, 0, 1)
def M_X8_simulated : MT := (yX8_simulated, cX8_simulated, 7, (some .int), { frames := 8, cells := 0, slots := 0, locals := 194 }, 0, 2)
def M_X8_simulate : MT := (yX8_simulate, cX8_simulate, 4, (some .int), { frames := 9, cells := 0, slots := 0, locals := 220 }, 0, 2)
def M_X8_save : MT := (yX8_save, cX8_save, 3, (some .int), { frames := 2, cells := 0, slots := 0, locals := 43 }, 0, 1)
def M_X8_restore : MT := (yX8_restore, cX8_restore, 3, (some .int), { frames := 2, cells := 0, slots := 0, locals := 43 }, 0, 1)
def M_J13_bitCount_95d88 : MT := (yJ13_bitCount_95d88, cJ13_bitCount_95d88, 2, (some .int), { frames := 0, cells := 0, slots := 0, locals := 0 }, 1, 1)
def M_J7_fill_53178 : MT := (yJ7_fill_53178, cJ7_fill_53178, 4, none, { frames := 0, cells := 0, slots := 0, locals := 0 }, 1, 2)
def M_L_append : MT := (yL_append, cL_append, 4, (some .int), { frames := 7, cells := 1, slots := 6, locals := 111 }, 1, 3)
def M_L_load : MT := (yL_load, cL_load, 3, (some .int), { frames := 8, cells := 1, slots := 6, locals := 185 }, 1, 2)
def M_L_about : MT := (yL_about, cL_about, 4, (some .int), { frames := 7, cells := 1, slots := 6, locals := 111 }, 1, 3)
def M_L_get : MT := (yL_get, cL_get, 5, (some .int), { frames := 7, cells := 1, slots := 6, locals := 113 }, 1, 4)
def M_L_run : MT := (yL_run, cL_run, 5, (some .int), { frames := 7, cells := 1, slots := 6, locals := 112 }, 1, 4)
def M_L_write : MT := (yL_write, cL_write, 6, (some .int), { frames := 7, cells := 1, slots := 6, locals := 114 }, 1, 5)
def M_L_eye : MT := (yL_eye, cL_eye, 4, (some .int), { frames := 7, cells := 1, slots := 6, locals := 111 }, 1, 3)
def M_L_put : MT := (yL_put, cL_put, 5, (some .int), { frames := 7, cells := 1, slots := 6, locals := 137 }, 1, 4)
def M_L_bury : MT := (yL_bury, cL_bury, 5, (some .int), { frames := 7, cells := 1, slots := 6, locals := 137 }, 1, 4)
def M_L_open : MT := (yL_open, cL_open, 3, (some .int), { frames := 7, cells := 1, slots := 6, locals := 135 }, 1, 2)
def M_L_close : MT := (yL_close, cL_close, 4, (some .int), { frames := 7, cells := 1, slots := 6, locals := 136 }, 1, 3)
def M_L_flush : MT := (yL_flush, cL_flush, 3, (some .int), { frames := 7, cells := 1, slots := 6, locals := 136 }, 1, 2)
def M_L_merge : MT := (yL_merge, cL_merge, 4, (some .int), { frames := 7, cells := 1, slots := 6, locals := 142 }, 1, 3)
def M_L_undo : MT := (yL_undo, cL_undo, 3, (some .int), { frames := 7, cells := 1, slots := 6, locals := 135 }, 1, 2)
def M_L_looks : MT := (yL_looks, cL_looks, 4, (some .int), { frames := 7, cells := 1, slots := 6, locals := 114 }, 1, 3)
def M_L_next : MT := (yL_next, cL_next, 5, (some .int), { frames := 7, cells := 1, slots := 6, locals := 112 }, 1, 4)
def M_L_count : MT := (yL_count, cL_count, 6, (some .int), { frames := 7, cells := 1, slots := 6, locals := 113 }, 1, 5)
def M_L_grave : MT := (yL_grave, cL_grave, 4, (some .int), { frames := 7, cells := 1, slots := 6, locals := 112 }, 1, 3)
def M_L_saves : MT := (yL_saves, cL_saves, 4, (some .int), { frames := 7, cells := 1, slots := 6, locals := 138 }, 1, 3)
def M_L_runScript : MT := (yL_runScript, cL_runScript, 6, (some .int), { frames := 8, cells := 1, slots := 6, locals := 192 }, 1, 4)
def M_L_simulate : MT := (yL_simulate, cL_simulate, 6, (some .int), { frames := 8, cells := 1, slots := 6, locals := 191 }, 1, 4)
def M_L_save : MT := (yL_save, cL_save, 4, (some .int), { frames := 7, cells := 1, slots := 6, locals := 115 }, 1, 3)
def M_L_restore : MT := (yL_restore, cL_restore, 4, (some .int), { frames := 7, cells := 1, slots := 6, locals := 115 }, 1, 3)
def M_L_law : MT := (yL_law, cL_law, 7, (some .boolean), room_1, 1, 1)
