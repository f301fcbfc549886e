theorem wok_X0_init : wok M_X0_init := ⟨show ∀ w ∈ [Cond.instanceMethod yX0_init, Cond.initialized RX0, Cond.code yX0_init cX0_init 2 none], w ∈ BIG from List.forall_mem_cons.mpr ⟨bk_35, List.forall_mem_cons.mpr ⟨bk_7, List.forall_mem_cons.mpr ⟨bk_36, fun _ h => absurd h List.not_mem_nil⟩⟩⟩, by decide +kernel, by decide +kernel, by decide +kernel⟩
theorem wok_X0_clean : wok M_X0_clean := ⟨show ∀ w ∈ [Cond.instanceMethod yX0_clean, Cond.selects RX0 yX0_clean yX0_clean, Cond.initialized RX0, Cond.code yX0_clean cX0_clean 7 (some .int)], w ∈ BIG from List.forall_mem_cons.mpr ⟨bk_373, List.forall_mem_cons.mpr ⟨bk_374, List.forall_mem_cons.mpr ⟨bk_7, List.forall_mem_cons.mpr ⟨bk_375, fun _ h => absurd h List.not_mem_nil⟩⟩⟩⟩, by decide +kernel, by decide +kernel, by decide +kernel⟩
theorem wok_X0_dropHidden : wok M_X0_dropHidden := ⟨show ∀ w ∈ [Cond.instanceMethod yX0_dropHidden, Cond.selects RX0 yX0_dropHidden yX0_dropHidden, Cond.initialized RX0, Cond.code yX0_dropHidden cX0_dropHidden 7 none], w ∈ BIG from List.forall_mem_cons.mpr ⟨bk_384, List.forall_mem_cons.mpr ⟨bk_2, List.forall_mem_cons.mpr ⟨bk_7, List.forall_mem_cons.mpr ⟨bk_385, fun _ h => absurd h List.not_mem_nil⟩⟩⟩⟩, by decide +kernel, by decide +kernel, by decide +kernel⟩
theorem wok_X0_dropNeedless : wok M_X0_dropNeedless := ⟨show ∀ w ∈ [Cond.instanceMethod yX0_dropNeedless, Cond.selects RX0 yX0_dropNeedless yX0_dropNeedless, Cond.initialized RX0, Cond.code yX0_dropNeedless cX0_dropNeedless 5 none], w ∈ BIG from List.forall_mem_cons.mpr ⟨bk_414, List.forall_mem_cons.mpr ⟨bk_3, List.forall_mem_cons.mpr ⟨bk_7, List.forall_mem_cons.mpr ⟨bk_415, fun _ h => absurd h List.not_mem_nil⟩⟩⟩⟩, by decide +kernel, by decide +kernel, by decide +kernel⟩
theorem wok_X0_addRows : wok M_X0_addRows := ⟨show ∀ w ∈ [Cond.instanceMethod yX0_addRows, Cond.selects RX0 yX0_addRows yX0_addRows, Cond.initialized RX0, Cond.code yX0_addRows cX0_addRows 7 none], w ∈ BIG from List.forall_mem_cons.mpr ⟨bk_426, List.forall_mem_cons.mpr ⟨bk_4, List.forall_mem_cons.mpr ⟨bk_7, List.forall_mem_cons.mpr ⟨bk_427, fun _ h => absurd h List.not_mem_nil⟩⟩⟩⟩, by decide +kernel, by decide +kernel, by decide +kernel⟩
theorem wok_X1_init : wok M_X1_init := ⟨show ∀ w ∈ [Cond.instanceMethod yX1_init, Cond.initialized RX1, Cond.code yX1_init cX1_init 3 none], w ∈ BIG from List.forall_mem_cons.mpr ⟨bk_146, List.forall_mem_cons.mpr ⟨bk_13, List.forall_mem_cons.mpr ⟨bk_147, fun _ h => absurd h List.not_mem_nil⟩⟩⟩, by decide +kernel, by decide +kernel, by decide +kernel⟩
theorem wok_X1_size : wok M_X1_size := ⟨show ∀ w ∈ [Cond.instanceMethod yX1_size, Cond.selects RX1 yX1_size yX1_size, Cond.initialized RX1, Cond.code yX1_size cX1_size 1 (some .int)], w ∈ BIG from List.forall_mem_cons.mpr ⟨bk_690, List.forall_mem_cons.mpr ⟨bk_691, List.forall_mem_cons.mpr ⟨bk_13, List.forall_mem_cons.mpr ⟨bk_692, fun _ h => absurd h List.not_mem_nil⟩⟩⟩⟩, by decide +kernel, by decide +kernel, by decide +kernel⟩
theorem wok_X1_remember : wok M_X1_remember := ⟨show ∀ w ∈ [Cond.instanceMethod yX1_remember, Cond.selects RX1 yX1_remember yX1_remember, Cond.initialized RX1, Cond.code yX1_remember cX1_remember 2 none], w ∈ BIG from List.forall_mem_cons.mpr ⟨bk_501, List.forall_mem_cons.mpr ⟨bk_502, List.forall_mem_cons.mpr ⟨bk_13, List.forall_mem_cons.mpr ⟨bk_503, fun _ h => absurd h List.not_mem_nil⟩⟩⟩⟩, by decide +kernel, by decide +kernel, by decide +kernel⟩
theorem wok_X1_takeBack : wok M_X1_takeBack := ⟨show ∀ w ∈ [Cond.instanceMethod yX1_takeBack, Cond.selects RX1 yX1_takeBack yX1_takeBack, Cond.initialized RX1, Cond.code yX1_takeBack cX1_takeBack 2 none], w ∈ BIG from List.forall_mem_cons.mpr ⟨bk_695, List.forall_mem_cons.mpr ⟨bk_696, List.forall_mem_cons.mpr ⟨bk_13, List.forall_mem_cons.mpr ⟨bk_697, fun _ h => absurd h List.not_mem_nil⟩⟩⟩⟩, by decide +kernel, by decide +kernel, by decide +kernel⟩
theorem wok_X2_init : wok M_X2_init := ⟨show ∀ w ∈ [Cond.instanceMethod yX2_init, Cond.initialized RX2, Cond.code yX2_init cX2_init 1 none], w ∈ BIG from List.forall_mem_cons.mpr ⟨bk_68, List.forall_mem_cons.mpr ⟨bk_10, List.forall_mem_cons.mpr ⟨bk_69, fun _ h => absurd h List.not_mem_nil⟩⟩⟩, by decide +kernel, by decide +kernel, by decide +kernel⟩
theorem wok_X2_empty : wok M_X2_empty := ⟨show ∀ w ∈ [Cond.instanceMethod yX2_empty, Cond.selects RX2 yX2_empty yX2_empty, Cond.initialized RX2, Cond.code yX2_empty cX2_empty 1 none], w ∈ BIG from List.forall_mem_cons.mpr ⟨bk_392, List.forall_mem_cons.mpr ⟨bk_393, List.forall_mem_cons.mpr ⟨bk_10, List.forall_mem_cons.mpr ⟨bk_394, fun _ h => absurd h List.not_mem_nil⟩⟩⟩⟩, by decide +kernel, by decide +kernel, by decide +kernel⟩
theorem wok_X2_addRow : wok M_X2_addRow := ⟨show ∀ w ∈ [Cond.instanceMethod yX2_addRow, Cond.selects RX2 yX2_addRow yX2_addRow, Cond.initialized RX2, Cond.code yX2_addRow cX2_addRow 3 none], w ∈ BIG from List.forall_mem_cons.mpr ⟨bk_398, List.forall_mem_cons.mpr ⟨bk_399, List.forall_mem_cons.mpr ⟨bk_10, List.forall_mem_cons.mpr ⟨bk_400, fun _ h => absurd h List.not_mem_nil⟩⟩⟩⟩, by decide +kernel, by decide +kernel, by decide +kernel⟩
theorem wok_X2_addAll : wok M_X2_addAll := ⟨show ∀ w ∈ [Cond.instanceMethod yX2_addAll, Cond.selects RX2 yX2_addAll yX2_addAll, Cond.initialized RX2, Cond.code yX2_addAll cX2_addAll 2 none], w ∈ BIG from List.forall_mem_cons.mpr ⟨bk_417, List.forall_mem_cons.mpr ⟨bk_418, List.forall_mem_cons.mpr ⟨bk_10, List.forall_mem_cons.mpr ⟨bk_419, fun _ h => absurd h List.not_mem_nil⟩⟩⟩⟩, by decide +kernel, by decide +kernel, by decide +kernel⟩
theorem wok_X2_removeAll : wok M_X2_removeAll := ⟨show ∀ w ∈ [Cond.instanceMethod yX2_removeAll, Cond.selects RX2 yX2_removeAll yX2_removeAll, Cond.initialized RX2, Cond.code yX2_removeAll cX2_removeAll 2 none], w ∈ BIG from List.forall_mem_cons.mpr ⟨bk_408, List.forall_mem_cons.mpr ⟨bk_409, List.forall_mem_cons.mpr ⟨bk_10, List.forall_mem_cons.mpr ⟨bk_410, fun _ h => absurd h List.not_mem_nil⟩⟩⟩⟩, by decide +kernel, by decide +kernel, by decide +kernel⟩
theorem wok_X2_keepOnly : wok M_X2_keepOnly := ⟨show ∀ w ∈ [Cond.instanceMethod yX2_keepOnly, Cond.selects RX2 yX2_keepOnly yX2_keepOnly, Cond.initialized RX2, Cond.code yX2_keepOnly cX2_keepOnly 2 none], w ∈ BIG from List.forall_mem_cons.mpr ⟨bk_421, List.forall_mem_cons.mpr ⟨bk_422, List.forall_mem_cons.mpr ⟨bk_10, List.forall_mem_cons.mpr ⟨bk_423, fun _ h => absurd h List.not_mem_nil⟩⟩⟩⟩, by decide +kernel, by decide +kernel, by decide +kernel⟩
theorem wok_X2_has : wok M_X2_has := ⟨show ∀ w ∈ [Cond.instanceMethod yX2_has, Cond.selects RX2 yX2_has yX2_has, Cond.initialized RX2, Cond.code yX2_has cX2_has 4 (some .boolean)], w ∈ BIG from List.forall_mem_cons.mpr ⟨bk_429, List.forall_mem_cons.mpr ⟨bk_430, List.forall_mem_cons.mpr ⟨bk_10, List.forall_mem_cons.mpr ⟨bk_431, fun _ h => absurd h List.not_mem_nil⟩⟩⟩⟩, by decide +kernel, by decide +kernel, by decide +kernel⟩
theorem wok_X3_init : wok M_X3_init := ⟨show ∀ w ∈ [Cond.instanceMethod yX3_init, Cond.initialized RX3, Cond.code yX3_init cX3_init 3 none], w ∈ BIG from List.forall_mem_cons.mpr ⟨bk_110, List.forall_mem_cons.mpr ⟨bk_12, List.forall_mem_cons.mpr ⟨bk_111, fun _ h => absurd h List.not_mem_nil⟩⟩⟩, by decide +kernel, by decide +kernel, by decide +kernel⟩
theorem wok_X3_become : wok M_X3_become := ⟨show ∀ w ∈ [Cond.instanceMethod yX3_become, Cond.selects RX3 yX3_become yX3_become, Cond.initialized RX3, Cond.code yX3_become cX3_become 2 none], w ∈ BIG from List.forall_mem_cons.mpr ⟨bk_353, List.forall_mem_cons.mpr ⟨bk_354, List.forall_mem_cons.mpr ⟨bk_12, List.forall_mem_cons.mpr ⟨bk_355, fun _ h => absurd h List.not_mem_nil⟩⟩⟩⟩, by decide +kernel, by decide +kernel, by decide +kernel⟩
theorem wok_X3_size : wok M_X3_size := ⟨show ∀ w ∈ [Cond.instanceMethod yX3_size, Cond.selects RX3 yX3_size yX3_size, Cond.initialized RX3, Cond.code yX3_size cX3_size 1 (some .int)], w ∈ BIG from List.forall_mem_cons.mpr ⟨bk_228, List.forall_mem_cons.mpr ⟨bk_229, List.forall_mem_cons.mpr ⟨bk_12, List.forall_mem_cons.mpr ⟨bk_230, fun _ h => absurd h List.not_mem_nil⟩⟩⟩⟩, by decide +kernel, by decide +kernel, by decide +kernel⟩
theorem wok_X3_isFull : wok M_X3_isFull := ⟨show ∀ w ∈ [Cond.instanceMethod yX3_isFull, Cond.selects RX3 yX3_isFull yX3_isFull, Cond.initialized RX3, Cond.code yX3_isFull cX3_isFull 1 (some .boolean)], w ∈ BIG from List.forall_mem_cons.mpr ⟨bk_481, List.forall_mem_cons.mpr ⟨bk_482, List.forall_mem_cons.mpr ⟨bk_12, List.forall_mem_cons.mpr ⟨bk_483, fun _ h => absurd h List.not_mem_nil⟩⟩⟩⟩, by decide +kernel, by decide +kernel, by decide +kernel⟩
theorem wok_X3_runs : wok M_X3_runs := ⟨show ∀ w ∈ [Cond.instanceMethod yX3_runs, Cond.selects RX3 yX3_runs yX3_runs, Cond.initialized RX3, Cond.code yX3_runs cX3_runs 1 (some .int)], w ∈ BIG from List.forall_mem_cons.mpr ⟨bk_220, List.forall_mem_cons.mpr ⟨bk_221, List.forall_mem_cons.mpr ⟨bk_12, List.forall_mem_cons.mpr ⟨bk_222, fun _ h => absurd h List.not_mem_nil⟩⟩⟩⟩, by decide +kernel, by decide +kernel, by decide +kernel⟩
theorem wok_X3_eyes : wok M_X3_eyes := ⟨show ∀ w ∈ [Cond.instanceMethod yX3_eyes, Cond.selects RX3 yX3_eyes yX3_eyes, Cond.initialized RX3, Cond.code yX3_eyes cX3_eyes 1 (some .int)], w ∈ BIG from List.forall_mem_cons.mpr ⟨bk_224, List.forall_mem_cons.mpr ⟨bk_225, List.forall_mem_cons.mpr ⟨bk_12, List.forall_mem_cons.mpr ⟨bk_226, fun _ h => absurd h List.not_mem_nil⟩⟩⟩⟩, by decide +kernel, by decide +kernel, by decide +kernel⟩
theorem wok_X3_latest : wok M_X3_latest := ⟨show ∀ w ∈ [Cond.instanceMethod yX3_latest, Cond.selects RX3 yX3_latest yX3_latest, Cond.initialized RX3, Cond.code yX3_latest cX3_latest 1 (some .int)], w ∈ BIG from List.forall_mem_cons.mpr ⟨bk_200, List.forall_mem_cons.mpr ⟨bk_201, List.forall_mem_cons.mpr ⟨bk_12, List.forall_mem_cons.mpr ⟨bk_202, fun _ h => absurd h List.not_mem_nil⟩⟩⟩⟩, by decide +kernel, by decide +kernel, by decide +kernel⟩
theorem wok_X3_fewer : wok M_X3_fewer := ⟨show ∀ w ∈ [Cond.instanceMethod yX3_fewer, Cond.selects RX3 yX3_fewer yX3_fewer, Cond.initialized RX3, Cond.code yX3_fewer cX3_fewer 1 (some .int)], w ∈ BIG from List.forall_mem_cons.mpr ⟨bk_277, List.forall_mem_cons.mpr ⟨bk_278, List.forall_mem_cons.mpr ⟨bk_12, List.forall_mem_cons.mpr ⟨bk_279, fun _ h => absurd h List.not_mem_nil⟩⟩⟩⟩, by decide +kernel, by decide +kernel, by decide +kernel⟩
theorem wok_X3_isRun : wok M_X3_isRun := ⟨show ∀ w ∈ [Cond.instanceMethod yX3_isRun, Cond.selects RX3 yX3_isRun yX3_isRun, Cond.initialized RX3, Cond.code yX3_isRun cX3_isRun 2 (some .boolean)], w ∈ BIG from List.forall_mem_cons.mpr ⟨bk_560, List.forall_mem_cons.mpr ⟨bk_561, List.forall_mem_cons.mpr ⟨bk_12, List.forall_mem_cons.mpr ⟨bk_562, fun _ h => absurd h List.not_mem_nil⟩⟩⟩⟩, by decide +kernel, by decide +kernel, by decide +kernel⟩
theorem wok_X3_isPlace : wok M_X3_isPlace := ⟨show ∀ w ∈ [Cond.instanceMethod yX3_isPlace, Cond.selects RX3 yX3_isPlace yX3_isPlace, Cond.initialized RX3, Cond.code yX3_isPlace cX3_isPlace 2 (some .boolean)], w ∈ BIG from List.forall_mem_cons.mpr ⟨bk_614, List.forall_mem_cons.mpr ⟨bk_615, List.forall_mem_cons.mpr ⟨bk_12, List.forall_mem_cons.mpr ⟨bk_616, fun _ h => absurd h List.not_mem_nil⟩⟩⟩⟩, by decide +kernel, by decide +kernel, by decide +kernel⟩
theorem wok_X3_startOf : wok M_X3_startOf := ⟨show ∀ w ∈ [Cond.instanceMethod yX3_startOf, Cond.selects RX3 yX3_startOf yX3_startOf, Cond.initialized RX3, Cond.code yX3_startOf cX3_startOf 3 (some .int)], w ∈ BIG from List.forall_mem_cons.mpr ⟨bk_216, List.forall_mem_cons.mpr ⟨bk_217, List.forall_mem_cons.mpr ⟨bk_12, List.forall_mem_cons.mpr ⟨bk_218, fun _ h => absurd h List.not_mem_nil⟩⟩⟩⟩, by decide +kernel, by decide +kernel, by decide +kernel⟩
theorem wok_X3_endOf : wok M_X3_endOf := ⟨show ∀ w ∈ [Cond.instanceMethod yX3_endOf, Cond.selects RX3 yX3_endOf yX3_endOf, Cond.initialized RX3, Cond.code yX3_endOf cX3_endOf 3 (some .int)], w ∈ BIG from List.forall_mem_cons.mpr ⟨bk_208, List.forall_mem_cons.mpr ⟨bk_209, List.forall_mem_cons.mpr ⟨bk_12, List.forall_mem_cons.mpr ⟨bk_210, fun _ h => absurd h List.not_mem_nil⟩⟩⟩⟩, by decide +kernel, by decide +kernel, by decide +kernel⟩
theorem wok_X3_sizeOf : wok M_X3_sizeOf := ⟨show ∀ w ∈ [Cond.instanceMethod yX3_sizeOf, Cond.selects RX3 yX3_sizeOf yX3_sizeOf, Cond.initialized RX3, Cond.code yX3_sizeOf cX3_sizeOf 2 (some .int)], w ∈ BIG from List.forall_mem_cons.mpr ⟨bk_204, List.forall_mem_cons.mpr ⟨bk_205, List.forall_mem_cons.mpr ⟨bk_12, List.forall_mem_cons.mpr ⟨bk_206, fun _ h => absurd h List.not_mem_nil⟩⟩⟩⟩, by decide +kernel, by decide +kernel, by decide +kernel⟩
theorem wok_X3_entriesIn : wok M_X3_entriesIn := ⟨show ∀ w ∈ [Cond.instanceMethod yX3_entriesIn, Cond.selects RX3 yX3_entriesIn yX3_entriesIn, Cond.initialized RX3, Cond.code yX3_entriesIn cX3_entriesIn 5 (some .int)], w ∈ BIG from List.forall_mem_cons.mpr ⟨bk_232, List.forall_mem_cons.mpr ⟨bk_233, List.forall_mem_cons.mpr ⟨bk_12, List.forall_mem_cons.mpr ⟨bk_234, fun _ h => absurd h List.not_mem_nil⟩⟩⟩⟩, by decide +kernel, by decide +kernel, by decide +kernel⟩
theorem wok_X3_isEye : wok M_X3_isEye := ⟨show ∀ w ∈ [Cond.instanceMethod yX3_isEye, Cond.selects RX3 yX3_isEye yX3_isEye, Cond.initialized RX3, Cond.code yX3_isEye cX3_isEye 2 (some .boolean)], w ∈ BIG from List.forall_mem_cons.mpr ⟨bk_542, List.forall_mem_cons.mpr ⟨bk_543, List.forall_mem_cons.mpr ⟨bk_12, List.forall_mem_cons.mpr ⟨bk_544, fun _ h => absurd h List.not_mem_nil⟩⟩⟩⟩, by decide +kernel, by decide +kernel, by decide +kernel⟩
theorem wok_X3_isView : wok M_X3_isView := ⟨show ∀ w ∈ [Cond.instanceMethod yX3_isView, Cond.selects RX3 yX3_isView yX3_isView, Cond.initialized RX3, Cond.code yX3_isView cX3_isView 2 (some .boolean)], w ∈ BIG from List.forall_mem_cons.mpr ⟨bk_584, List.forall_mem_cons.mpr ⟨bk_585, List.forall_mem_cons.mpr ⟨bk_12, List.forall_mem_cons.mpr ⟨bk_586, fun _ h => absurd h List.not_mem_nil⟩⟩⟩⟩, by decide +kernel, by decide +kernel, by decide +kernel⟩
theorem wok_X3_limitOf : wok M_X3_limitOf := ⟨show ∀ w ∈ [Cond.instanceMethod yX3_limitOf, Cond.selects RX3 yX3_limitOf yX3_limitOf, Cond.initialized RX3, Cond.code yX3_limitOf cX3_limitOf 2 (some .int)], w ∈ BIG from List.forall_mem_cons.mpr ⟨bk_589, List.forall_mem_cons.mpr ⟨bk_590, List.forall_mem_cons.mpr ⟨bk_12, List.forall_mem_cons.mpr ⟨bk_591, fun _ h => absurd h List.not_mem_nil⟩⟩⟩⟩, by decide +kernel, by decide +kernel, by decide +kernel⟩
theorem wok_X3_eyesBefore : wok M_X3_eyesBefore := ⟨show ∀ w ∈ [Cond.instanceMethod yX3_eyesBefore, Cond.selects RX3 yX3_eyesBefore yX3_eyesBefore, Cond.initialized RX3, Cond.code yX3_eyesBefore cX3_eyesBefore 4 (some .int)], w ∈ BIG from List.forall_mem_cons.mpr ⟨bk_388, List.forall_mem_cons.mpr ⟨bk_389, List.forall_mem_cons.mpr ⟨bk_12, List.forall_mem_cons.mpr ⟨bk_390, fun _ h => absurd h List.not_mem_nil⟩⟩⟩⟩, by decide +kernel, by decide +kernel, by decide +kernel⟩
theorem wok_X3_newestFor : wok M_X3_newestFor := ⟨show ∀ w ∈ [Cond.instanceMethod yX3_newestFor, Cond.selects RX3 yX3_newestFor yX3_newestFor, Cond.initialized RX3, Cond.code yX3_newestFor cX3_newestFor 4 (some .int)], w ∈ BIG from List.forall_mem_cons.mpr ⟨bk_597, List.forall_mem_cons.mpr ⟨bk_598, List.forall_mem_cons.mpr ⟨bk_12, List.forall_mem_cons.mpr ⟨bk_599, fun _ h => absurd h List.not_mem_nil⟩⟩⟩⟩, by decide +kernel, by decide +kernel, by decide +kernel⟩
theorem wok_X3_valueFor : wok M_X3_valueFor := ⟨show ∀ w ∈ [Cond.instanceMethod yX3_valueFor, Cond.selects RX3 yX3_valueFor yX3_valueFor, Cond.initialized RX3, Cond.code yX3_valueFor cX3_valueFor 3 (some .int)], w ∈ BIG from List.forall_mem_cons.mpr ⟨bk_593, List.forall_mem_cons.mpr ⟨bk_594, List.forall_mem_cons.mpr ⟨bk_12, List.forall_mem_cons.mpr ⟨bk_595, fun _ h => absurd h List.not_mem_nil⟩⟩⟩⟩, by decide +kernel, by decide +kernel, by decide +kernel⟩
theorem wok_X3_isSeen : wok M_X3_isSeen := ⟨show ∀ w ∈ [Cond.instanceMethod yX3_isSeen, Cond.selects RX3 yX3_isSeen yX3_isSeen, Cond.initialized RX3, Cond.code yX3_isSeen cX3_isSeen 4 (some .boolean)], w ∈ BIG from List.forall_mem_cons.mpr ⟨bk_674, List.forall_mem_cons.mpr ⟨bk_675, List.forall_mem_cons.mpr ⟨bk_12, List.forall_mem_cons.mpr ⟨bk_676, fun _ h => absurd h List.not_mem_nil⟩⟩⟩⟩, by decide +kernel, by decide +kernel, by decide +kernel⟩
theorem wok_X3_canOpen : wok M_X3_canOpen := ⟨show ∀ w ∈ [Cond.instanceMethod yX3_canOpen, Cond.selects RX3 yX3_canOpen yX3_canOpen, Cond.initialized RX3, Cond.code yX3_canOpen cX3_canOpen 1 (some .boolean)], w ∈ BIG from List.forall_mem_cons.mpr ⟨bk_529, List.forall_mem_cons.mpr ⟨bk_530, List.forall_mem_cons.mpr ⟨bk_12, List.forall_mem_cons.mpr ⟨bk_531, fun _ h => absurd h List.not_mem_nil⟩⟩⟩⟩, by decide +kernel, by decide +kernel, by decide +kernel⟩
theorem wok_X3_canFlush : wok M_X3_canFlush := ⟨show ∀ w ∈ [Cond.instanceMethod yX3_canFlush, Cond.selects RX3 yX3_canFlush yX3_canFlush, Cond.initialized RX3, Cond.code yX3_canFlush cX3_canFlush 1 (some .boolean)], w ∈ BIG from List.forall_mem_cons.mpr ⟨bk_520, List.forall_mem_cons.mpr ⟨bk_521, List.forall_mem_cons.mpr ⟨bk_12, List.forall_mem_cons.mpr ⟨bk_522, fun _ h => absurd h List.not_mem_nil⟩⟩⟩⟩, by decide +kernel, by decide +kernel, by decide +kernel⟩
theorem wok_X3_canMerge : wok M_X3_canMerge := ⟨show ∀ w ∈ [Cond.instanceMethod yX3_canMerge, Cond.selects RX3 yX3_canMerge yX3_canMerge, Cond.initialized RX3, Cond.code yX3_canMerge cX3_canMerge 3 (some .boolean)], w ∈ BIG from List.forall_mem_cons.mpr ⟨bk_556, List.forall_mem_cons.mpr ⟨bk_557, List.forall_mem_cons.mpr ⟨bk_12, List.forall_mem_cons.mpr ⟨bk_558, fun _ h => absurd h List.not_mem_nil⟩⟩⟩⟩, by decide +kernel, by decide +kernel, by decide +kernel⟩
theorem wok_X3_savedBy : wok M_X3_savedBy := ⟨show ∀ w ∈ [Cond.instanceMethod yX3_savedBy, Cond.selects RX3 yX3_savedBy yX3_savedBy, Cond.initialized RX3, Cond.code yX3_savedBy cX3_savedBy 2 (some .int)], w ∈ BIG from List.forall_mem_cons.mpr ⟨bk_564, List.forall_mem_cons.mpr ⟨bk_565, List.forall_mem_cons.mpr ⟨bk_12, List.forall_mem_cons.mpr ⟨bk_566, fun _ h => absurd h List.not_mem_nil⟩⟩⟩⟩, by decide +kernel, by decide +kernel, by decide +kernel⟩
theorem wok_X3_addWrite : wok M_X3_addWrite := ⟨show ∀ w ∈ [Cond.instanceMethod yX3_addWrite, Cond.selects RX3 yX3_addWrite yX3_addWrite, Cond.initialized RX3, Cond.code yX3_addWrite cX3_addWrite 4 none], w ∈ BIG from List.forall_mem_cons.mpr ⟨bk_506, List.forall_mem_cons.mpr ⟨bk_507, List.forall_mem_cons.mpr ⟨bk_12, List.forall_mem_cons.mpr ⟨bk_508, fun _ h => absurd h List.not_mem_nil⟩⟩⟩⟩, by decide +kernel, by decide +kernel, by decide +kernel⟩
theorem wok_X3_addEye : wok M_X3_addEye := ⟨show ∀ w ∈ [Cond.instanceMethod yX3_addEye, Cond.selects RX3 yX3_addEye yX3_addEye, Cond.initialized RX3, Cond.code yX3_addEye cX3_addEye 1 none], w ∈ BIG from List.forall_mem_cons.mpr ⟨bk_534, List.forall_mem_cons.mpr ⟨bk_535, List.forall_mem_cons.mpr ⟨bk_12, List.forall_mem_cons.mpr ⟨bk_536, fun _ h => absurd h List.not_mem_nil⟩⟩⟩⟩, by decide +kernel, by decide +kernel, by decide +kernel⟩
theorem wok_X3_dropEye : wok M_X3_dropEye := ⟨show ∀ w ∈ [Cond.instanceMethod yX3_dropEye, Cond.selects RX3 yX3_dropEye yX3_dropEye, Cond.initialized RX3, Cond.code yX3_dropEye cX3_dropEye 3 none], w ∈ BIG from List.forall_mem_cons.mpr ⟨bk_547, List.forall_mem_cons.mpr ⟨bk_548, List.forall_mem_cons.mpr ⟨bk_12, List.forall_mem_cons.mpr ⟨bk_549, fun _ h => absurd h List.not_mem_nil⟩⟩⟩⟩, by decide +kernel, by decide +kernel, by decide +kernel⟩
theorem wok_X3_dropAllEyes : wok M_X3_dropAllEyes := ⟨show ∀ w ∈ [Cond.instanceMethod yX3_dropAllEyes, Cond.selects RX3 yX3_dropAllEyes yX3_dropAllEyes, Cond.initialized RX3, Cond.code yX3_dropAllEyes cX3_dropAllEyes 1 none], w ∈ BIG from List.forall_mem_cons.mpr ⟨bk_365, List.forall_mem_cons.mpr ⟨bk_366, List.forall_mem_cons.mpr ⟨bk_12, List.forall_mem_cons.mpr ⟨bk_367, fun _ h => absurd h List.not_mem_nil⟩⟩⟩⟩, by decide +kernel, by decide +kernel, by decide +kernel⟩
theorem wok_X3_flushMemory : wok M_X3_flushMemory := ⟨show ∀ w ∈ [Cond.instanceMethod yX3_flushMemory, Cond.selects RX3 yX3_flushMemory yX3_flushMemory, Cond.initialized RX3, Cond.code yX3_flushMemory cX3_flushMemory 2 (some .int)], w ∈ BIG from List.forall_mem_cons.mpr ⟨bk_369, List.forall_mem_cons.mpr ⟨bk_370, List.forall_mem_cons.mpr ⟨bk_12, List.forall_mem_cons.mpr ⟨bk_371, fun _ h => absurd h List.not_mem_nil⟩⟩⟩⟩, by decide +kernel, by decide +kernel, by decide +kernel⟩
theorem wok_X3_mergeRuns : wok M_X3_mergeRuns := ⟨show ∀ w ∈ [Cond.instanceMethod yX3_mergeRuns, Cond.selects RX3 yX3_mergeRuns yX3_mergeRuns, Cond.initialized RX3, Cond.code yX3_mergeRuns cX3_mergeRuns 7 (some .int)], w ∈ BIG from List.forall_mem_cons.mpr ⟨bk_440, List.forall_mem_cons.mpr ⟨bk_441, List.forall_mem_cons.mpr ⟨bk_12, List.forall_mem_cons.mpr ⟨bk_442, fun _ h => absurd h List.not_mem_nil⟩⟩⟩⟩, by decide +kernel, by decide +kernel, by decide +kernel⟩
theorem wok_X4_init : wok M_X4_init := ⟨show ∀ w ∈ [Cond.instanceMethod yX4_init, Cond.initialized RX4, Cond.code yX4_init cX4_init 1 none], w ∈ BIG from List.forall_mem_cons.mpr ⟨bk_98, List.forall_mem_cons.mpr ⟨bk_11, List.forall_mem_cons.mpr ⟨bk_99, fun _ h => absurd h List.not_mem_nil⟩⟩⟩, by decide +kernel, by decide +kernel, by decide +kernel⟩
theorem wok_X5_init : wok M_X5_init := ⟨show ∀ w ∈ [Cond.instanceMethod yX5_init, Cond.initialized RX5, Cond.code yX5_init cX5_init 1 none], w ∈ BIG from List.forall_mem_cons.mpr ⟨bk_165, List.forall_mem_cons.mpr ⟨bk_14, List.forall_mem_cons.mpr ⟨bk_166, fun _ h => absurd h List.not_mem_nil⟩⟩⟩, by decide +kernel, by decide +kernel, by decide +kernel⟩
theorem wok_X5_look : wok M_X5_look := ⟨show ∀ w ∈ [Cond.instanceMethod yX5_look, Cond.selects RX5 yX5_look yX5_look, Cond.initialized RX5, Cond.code yX5_look cX5_look 6 none], w ∈ BIG from List.forall_mem_cons.mpr ⟨bk_244, List.forall_mem_cons.mpr ⟨bk_245, List.forall_mem_cons.mpr ⟨bk_14, List.forall_mem_cons.mpr ⟨bk_246, fun _ h => absurd h List.not_mem_nil⟩⟩⟩⟩, by decide +kernel, by decide +kernel, by decide +kernel⟩
theorem wok_X5_sum : wok M_X5_sum := ⟨show ∀ w ∈ [Cond.instanceMethod yX5_sum, Cond.selects RX5 yX5_sum yX5_sum, Cond.initialized RX5, Cond.code yX5_sum cX5_sum 3 (some .int)], w ∈ BIG from List.forall_mem_cons.mpr ⟨bk_273, List.forall_mem_cons.mpr ⟨bk_274, List.forall_mem_cons.mpr ⟨bk_14, List.forall_mem_cons.mpr ⟨bk_275, fun _ h => absurd h List.not_mem_nil⟩⟩⟩⟩, by decide +kernel, by decide +kernel, by decide +kernel⟩
theorem wok_X5_seenIn : wok M_X5_seenIn := ⟨show ∀ w ∈ [Cond.instanceMethod yX5_seenIn, Cond.selects RX5 yX5_seenIn yX5_seenIn, Cond.initialized RX5, Cond.code yX5_seenIn cX5_seenIn 5 (some .int)], w ∈ BIG from List.forall_mem_cons.mpr ⟨bk_269, List.forall_mem_cons.mpr ⟨bk_270, List.forall_mem_cons.mpr ⟨bk_14, List.forall_mem_cons.mpr ⟨bk_271, fun _ h => absurd h List.not_mem_nil⟩⟩⟩⟩, by decide +kernel, by decide +kernel, by decide +kernel⟩
theorem wok_X5_firstSeen : wok M_X5_firstSeen := ⟨show ∀ w ∈ [Cond.instanceMethod yX5_firstSeen, Cond.selects RX5 yX5_firstSeen yX5_firstSeen, Cond.initialized RX5, Cond.code yX5_firstSeen cX5_firstSeen 3 (some .int)], w ∈ BIG from List.forall_mem_cons.mpr ⟨bk_661, List.forall_mem_cons.mpr ⟨bk_662, List.forall_mem_cons.mpr ⟨bk_14, List.forall_mem_cons.mpr ⟨bk_663, fun _ h => absurd h List.not_mem_nil⟩⟩⟩⟩, by decide +kernel, by decide +kernel, by decide +kernel⟩
theorem wok_X6_init : wok M_X6_init := ⟨show ∀ w ∈ [Cond.instanceMethod yX6_init, Cond.initialized RX6, Cond.code yX6_init cX6_init 3 none], w ∈ BIG from List.forall_mem_cons.mpr ⟨bk_41, List.forall_mem_cons.mpr ⟨bk_8, List.forall_mem_cons.mpr ⟨bk_42, fun _ h => absurd h List.not_mem_nil⟩⟩⟩, by decide +kernel, by decide +kernel, by decide +kernel⟩
theorem wok_X6_size : wok M_X6_size := ⟨show ∀ w ∈ [Cond.instanceMethod yX6_size, Cond.selects RX6 yX6_size yX6_size, Cond.initialized RX6, Cond.code yX6_size cX6_size 1 (some .int)], w ∈ BIG from List.forall_mem_cons.mpr ⟨bk_212, List.forall_mem_cons.mpr ⟨bk_213, List.forall_mem_cons.mpr ⟨bk_8, List.forall_mem_cons.mpr ⟨bk_214, fun _ h => absurd h List.not_mem_nil⟩⟩⟩⟩, by decide +kernel, by decide +kernel, by decide +kernel⟩
theorem wok_X6_empty : wok M_X6_empty := ⟨show ∀ w ∈ [Cond.instanceMethod yX6_empty, Cond.selects RX6 yX6_empty yX6_empty, Cond.initialized RX6, Cond.code yX6_empty cX6_empty 1 none], w ∈ BIG from List.forall_mem_cons.mpr ⟨bk_377, List.forall_mem_cons.mpr ⟨bk_378, List.forall_mem_cons.mpr ⟨bk_8, List.forall_mem_cons.mpr ⟨bk_379, fun _ h => absurd h List.not_mem_nil⟩⟩⟩⟩, by decide +kernel, by decide +kernel, by decide +kernel⟩
theorem wok_X6_add : wok M_X6_add := ⟨show ∀ w ∈ [Cond.instanceMethod yX6_add, Cond.selects RX6 yX6_add yX6_add, Cond.initialized RX6, Cond.code yX6_add cX6_add 5 none], w ∈ BIG from List.forall_mem_cons.mpr ⟨bk_434, List.forall_mem_cons.mpr ⟨bk_435, List.forall_mem_cons.mpr ⟨bk_8, List.forall_mem_cons.mpr ⟨bk_436, fun _ h => absurd h List.not_mem_nil⟩⟩⟩⟩, by decide +kernel, by decide +kernel, by decide +kernel⟩
theorem wok_X6_numberAt : wok M_X6_numberAt := ⟨show ∀ w ∈ [Cond.instanceMethod yX6_numberAt, Cond.selects RX6 yX6_numberAt yX6_numberAt, Cond.initialized RX6, Cond.code yX6_numberAt cX6_numberAt 2 (some .int)], w ∈ BIG from List.forall_mem_cons.mpr ⟨bk_252, List.forall_mem_cons.mpr ⟨bk_253, List.forall_mem_cons.mpr ⟨bk_8, List.forall_mem_cons.mpr ⟨bk_254, fun _ h => absurd h List.not_mem_nil⟩⟩⟩⟩, by decide +kernel, by decide +kernel, by decide +kernel⟩
theorem wok_X6_firstAt : wok M_X6_firstAt := ⟨show ∀ w ∈ [Cond.instanceMethod yX6_firstAt, Cond.selects RX6 yX6_firstAt yX6_firstAt, Cond.initialized RX6, Cond.code yX6_firstAt cX6_firstAt 2 (some .int)], w ∈ BIG from List.forall_mem_cons.mpr ⟨bk_256, List.forall_mem_cons.mpr ⟨bk_257, List.forall_mem_cons.mpr ⟨bk_8, List.forall_mem_cons.mpr ⟨bk_258, fun _ h => absurd h List.not_mem_nil⟩⟩⟩⟩, by decide +kernel, by decide +kernel, by decide +kernel⟩
theorem wok_X6_lastAt : wok M_X6_lastAt := ⟨show ∀ w ∈ [Cond.instanceMethod yX6_lastAt, Cond.selects RX6 yX6_lastAt yX6_lastAt, Cond.initialized RX6, Cond.code yX6_lastAt cX6_lastAt 2 (some .int)], w ∈ BIG from List.forall_mem_cons.mpr ⟨bk_261, List.forall_mem_cons.mpr ⟨bk_262, List.forall_mem_cons.mpr ⟨bk_8, List.forall_mem_cons.mpr ⟨bk_263, fun _ h => absurd h List.not_mem_nil⟩⟩⟩⟩, by decide +kernel, by decide +kernel, by decide +kernel⟩
theorem wok_X6_valueAt : wok M_X6_valueAt := ⟨show ∀ w ∈ [Cond.instanceMethod yX6_valueAt, Cond.selects RX6 yX6_valueAt yX6_valueAt, Cond.initialized RX6, Cond.code yX6_valueAt cX6_valueAt 2 (some .int)], w ∈ BIG from List.forall_mem_cons.mpr ⟨bk_265, List.forall_mem_cons.mpr ⟨bk_266, List.forall_mem_cons.mpr ⟨bk_8, List.forall_mem_cons.mpr ⟨bk_267, fun _ h => absurd h List.not_mem_nil⟩⟩⟩⟩, by decide +kernel, by decide +kernel, by decide +kernel⟩
theorem wok_X6_isEntry : wok M_X6_isEntry := ⟨show ∀ w ∈ [Cond.instanceMethod yX6_isEntry, Cond.selects RX6 yX6_isEntry yX6_isEntry, Cond.initialized RX6, Cond.code yX6_isEntry cX6_isEntry 2 (some .boolean)], w ∈ BIG from List.forall_mem_cons.mpr ⟨bk_236, List.forall_mem_cons.mpr ⟨bk_237, List.forall_mem_cons.mpr ⟨bk_8, List.forall_mem_cons.mpr ⟨bk_238, fun _ h => absurd h List.not_mem_nil⟩⟩⟩⟩, by decide +kernel, by decide +kernel, by decide +kernel⟩
theorem wok_X6_concerns : wok M_X6_concerns := ⟨show ∀ w ∈ [Cond.instanceMethod yX6_concerns, Cond.selects RX6 yX6_concerns yX6_concerns, Cond.initialized RX6, Cond.code yX6_concerns cX6_concerns 3 (some .boolean)], w ∈ BIG from List.forall_mem_cons.mpr ⟨bk_602, List.forall_mem_cons.mpr ⟨bk_603, List.forall_mem_cons.mpr ⟨bk_8, List.forall_mem_cons.mpr ⟨bk_604, fun _ h => absurd h List.not_mem_nil⟩⟩⟩⟩, by decide +kernel, by decide +kernel, by decide +kernel⟩
theorem wok_X6_replace : wok M_X6_replace := ⟨show ∀ w ∈ [Cond.instanceMethod yX6_replace, Cond.selects RX6 yX6_replace yX6_replace, Cond.initialized RX6, Cond.code yX6_replace cX6_replace 6 none], w ∈ BIG from List.forall_mem_cons.mpr ⟨bk_357, List.forall_mem_cons.mpr ⟨bk_358, List.forall_mem_cons.mpr ⟨bk_8, List.forall_mem_cons.mpr ⟨bk_359, fun _ h => absurd h List.not_mem_nil⟩⟩⟩⟩, by decide +kernel, by decide +kernel, by decide +kernel⟩
theorem wok_X7_init : wok M_X7_init := ⟨show ∀ w ∈ [Cond.instanceMethod yX7_init, Cond.initialized RX7, Cond.code yX7_init cX7_init 3 none], w ∈ BIG from List.forall_mem_cons.mpr ⟨bk_27, List.forall_mem_cons.mpr ⟨bk_6, List.forall_mem_cons.mpr ⟨bk_28, fun _ h => absurd h List.not_mem_nil⟩⟩⟩, by decide +kernel, by decide +kernel, by decide +kernel⟩
theorem wok_X7_about : wok M_X7_about := ⟨show ∀ w ∈ [Cond.instanceMethod yX7_about, Cond.selects RX7 yX7_about yX7_about, Cond.initialized RX7, Cond.code yX7_about cX7_about 2 (some .int)], w ∈ BIG from List.forall_mem_cons.mpr ⟨bk_196, List.forall_mem_cons.mpr ⟨bk_197, List.forall_mem_cons.mpr ⟨bk_6, List.forall_mem_cons.mpr ⟨bk_198, fun _ h => absurd h List.not_mem_nil⟩⟩⟩⟩, by decide +kernel, by decide +kernel, by decide +kernel⟩
theorem wok_X7_get : wok M_X7_get := ⟨show ∀ w ∈ [Cond.instanceMethod yX7_get, Cond.selects RX7 yX7_get yX7_get, Cond.initialized RX7, Cond.code yX7_get cX7_get 4 (some .int)], w ∈ BIG from List.forall_mem_cons.mpr ⟨bk_580, List.forall_mem_cons.mpr ⟨bk_581, List.forall_mem_cons.mpr ⟨bk_6, List.forall_mem_cons.mpr ⟨bk_582, fun _ h => absurd h List.not_mem_nil⟩⟩⟩⟩, by decide +kernel, by decide +kernel, by decide +kernel⟩
theorem wok_X7_run : wok M_X7_run := ⟨show ∀ w ∈ [Cond.instanceMethod yX7_run, Cond.selects RX7 yX7_run yX7_run, Cond.initialized RX7, Cond.code yX7_run cX7_run 3 (some .int)], w ∈ BIG from List.forall_mem_cons.mpr ⟨bk_610, List.forall_mem_cons.mpr ⟨bk_611, List.forall_mem_cons.mpr ⟨bk_6, List.forall_mem_cons.mpr ⟨bk_612, fun _ h => absurd h List.not_mem_nil⟩⟩⟩⟩, by decide +kernel, by decide +kernel, by decide +kernel⟩
theorem wok_X7_write : wok M_X7_write := ⟨show ∀ w ∈ [Cond.instanceMethod yX7_write, Cond.selects RX7 yX7_write yX7_write, Cond.initialized RX7, Cond.code yX7_write cX7_write 5 (some .int)], w ∈ BIG from List.forall_mem_cons.mpr ⟨bk_641, List.forall_mem_cons.mpr ⟨bk_642, List.forall_mem_cons.mpr ⟨bk_6, List.forall_mem_cons.mpr ⟨bk_643, fun _ h => absurd h List.not_mem_nil⟩⟩⟩⟩, by decide +kernel, by decide +kernel, by decide +kernel⟩
theorem wok_X7_put : wok M_X7_put := ⟨show ∀ w ∈ [Cond.instanceMethod yX7_put, Cond.selects RX7 yX7_put yX7_put, Cond.initialized RX7, Cond.code yX7_put cX7_put 3 (some .int)], w ∈ BIG from List.forall_mem_cons.mpr ⟨bk_454, List.forall_mem_cons.mpr ⟨bk_455, List.forall_mem_cons.mpr ⟨bk_6, List.forall_mem_cons.mpr ⟨bk_456, fun _ h => absurd h List.not_mem_nil⟩⟩⟩⟩, by decide +kernel, by decide +kernel, by decide +kernel⟩
theorem wok_X7_bury : wok M_X7_bury := ⟨show ∀ w ∈ [Cond.instanceMethod yX7_bury, Cond.selects RX7 yX7_bury yX7_bury, Cond.initialized RX7, Cond.code yX7_bury cX7_bury 3 (some .int)], w ∈ BIG from List.forall_mem_cons.mpr ⟨bk_511, List.forall_mem_cons.mpr ⟨bk_512, List.forall_mem_cons.mpr ⟨bk_6, List.forall_mem_cons.mpr ⟨bk_513, fun _ h => absurd h List.not_mem_nil⟩⟩⟩⟩, by decide +kernel, by decide +kernel, by decide +kernel⟩
theorem wok_X7_open : wok M_X7_open := ⟨show ∀ w ∈ [Cond.instanceMethod yX7_open, Cond.selects RX7 yX7_open yX7_open, Cond.initialized RX7, Cond.code yX7_open cX7_open 1 (some .int)], w ∈ BIG from List.forall_mem_cons.mpr ⟨bk_525, List.forall_mem_cons.mpr ⟨bk_526, List.forall_mem_cons.mpr ⟨bk_6, List.forall_mem_cons.mpr ⟨bk_527, fun _ h => absurd h List.not_mem_nil⟩⟩⟩⟩, by decide +kernel, by decide +kernel, by decide +kernel⟩
theorem wok_X7_close : wok M_X7_close := ⟨show ∀ w ∈ [Cond.instanceMethod yX7_close, Cond.selects RX7 yX7_close yX7_close, Cond.initialized RX7, Cond.code yX7_close cX7_close 2 (some .int)], w ∈ BIG from List.forall_mem_cons.mpr ⟨bk_538, List.forall_mem_cons.mpr ⟨bk_539, List.forall_mem_cons.mpr ⟨bk_6, List.forall_mem_cons.mpr ⟨bk_540, fun _ h => absurd h List.not_mem_nil⟩⟩⟩⟩, by decide +kernel, by decide +kernel, by decide +kernel⟩
theorem wok_X7_flush : wok M_X7_flush := ⟨show ∀ w ∈ [Cond.instanceMethod yX7_flush, Cond.selects RX7 yX7_flush yX7_flush, Cond.initialized RX7, Cond.code yX7_flush cX7_flush 1 (some .int)], w ∈ BIG from List.forall_mem_cons.mpr ⟨bk_516, List.forall_mem_cons.mpr ⟨bk_517, List.forall_mem_cons.mpr ⟨bk_6, List.forall_mem_cons.mpr ⟨bk_518, fun _ h => absurd h List.not_mem_nil⟩⟩⟩⟩, by decide +kernel, by decide +kernel, by decide +kernel⟩
theorem wok_X7_merge : wok M_X7_merge := ⟨show ∀ w ∈ [Cond.instanceMethod yX7_merge, Cond.selects RX7 yX7_merge yX7_merge, Cond.initialized RX7, Cond.code yX7_merge cX7_merge 2 (some .int)], w ∈ BIG from List.forall_mem_cons.mpr ⟨bk_568, List.forall_mem_cons.mpr ⟨bk_569, List.forall_mem_cons.mpr ⟨bk_6, List.forall_mem_cons.mpr ⟨bk_570, fun _ h => absurd h List.not_mem_nil⟩⟩⟩⟩, by decide +kernel, by decide +kernel, by decide +kernel⟩
theorem wok_X7_undo : wok M_X7_undo := ⟨show ∀ w ∈ [Cond.instanceMethod yX7_undo, Cond.selects RX7 yX7_undo yX7_undo, Cond.initialized RX7, Cond.code yX7_undo cX7_undo 1 (some .int)], w ∈ BIG from List.forall_mem_cons.mpr ⟨bk_686, List.forall_mem_cons.mpr ⟨bk_687, List.forall_mem_cons.mpr ⟨bk_6, List.forall_mem_cons.mpr ⟨bk_688, fun _ h => absurd h List.not_mem_nil⟩⟩⟩⟩, by decide +kernel, by decide +kernel, by decide +kernel⟩
theorem wok_X7_looks : wok M_X7_looks := ⟨show ∀ w ∈ [Cond.instanceMethod yX7_looks, Cond.selects RX7 yX7_looks yX7_looks, Cond.initialized RX7, Cond.code yX7_looks cX7_looks 5 (some .int)], w ∈ BIG from List.forall_mem_cons.mpr ⟨bk_652, List.forall_mem_cons.mpr ⟨bk_653, List.forall_mem_cons.mpr ⟨bk_6, List.forall_mem_cons.mpr ⟨bk_654, fun _ h => absurd h List.not_mem_nil⟩⟩⟩⟩, by decide +kernel, by decide +kernel, by decide +kernel⟩
theorem wok_X7_next : wok M_X7_next := ⟨show ∀ w ∈ [Cond.instanceMethod yX7_next, Cond.selects RX7 yX7_next yX7_next, Cond.initialized RX7, Cond.code yX7_next cX7_next 3 (some .int)], w ∈ BIG from List.forall_mem_cons.mpr ⟨bk_657, List.forall_mem_cons.mpr ⟨bk_658, List.forall_mem_cons.mpr ⟨bk_6, List.forall_mem_cons.mpr ⟨bk_659, fun _ h => absurd h List.not_mem_nil⟩⟩⟩⟩, by decide +kernel, by decide +kernel, by decide +kernel⟩
theorem wok_X7_count : wok M_X7_count := ⟨show ∀ w ∈ [Cond.instanceMethod yX7_count, Cond.selects RX7 yX7_count yX7_count, Cond.initialized RX7, Cond.code yX7_count cX7_count 4 (some .int)], w ∈ BIG from List.forall_mem_cons.mpr ⟨bk_665, List.forall_mem_cons.mpr ⟨bk_666, List.forall_mem_cons.mpr ⟨bk_6, List.forall_mem_cons.mpr ⟨bk_667, fun _ h => absurd h List.not_mem_nil⟩⟩⟩⟩, by decide +kernel, by decide +kernel, by decide +kernel⟩
theorem wok_X7_hidden : wok M_X7_hidden := ⟨show ∀ w ∈ [Cond.instanceMethod yX7_hidden, Cond.selects RX7 yX7_hidden yX7_hidden, Cond.initialized RX7, Cond.code yX7_hidden cX7_hidden 3 (some .int)], w ∈ BIG from List.forall_mem_cons.mpr ⟨bk_669, List.forall_mem_cons.mpr ⟨bk_670, List.forall_mem_cons.mpr ⟨bk_6, List.forall_mem_cons.mpr ⟨bk_671, fun _ h => absurd h List.not_mem_nil⟩⟩⟩⟩, by decide +kernel, by decide +kernel, by decide +kernel⟩
theorem wok_X7_saves : wok M_X7_saves := ⟨show ∀ w ∈ [Cond.instanceMethod yX7_saves, Cond.selects RX7 yX7_saves yX7_saves, Cond.initialized RX7, Cond.code yX7_saves cX7_saves 2 (some .int)], w ∈ BIG from List.forall_mem_cons.mpr ⟨bk_682, List.forall_mem_cons.mpr ⟨bk_683, List.forall_mem_cons.mpr ⟨bk_6, List.forall_mem_cons.mpr ⟨bk_684, fun _ h => absurd h List.not_mem_nil⟩⟩⟩⟩, by decide +kernel, by decide +kernel, by decide +kernel⟩
theorem wok_X7_best : wok M_X7_best := ⟨show ∀ w ∈ [Cond.instanceMethod yX7_best, Cond.selects RX7 yX7_best yX7_best, Cond.initialized RX7, Cond.code yX7_best cX7_best 4 (some .int)], w ∈ BIG from List.forall_mem_cons.mpr ⟨bk_552, List.forall_mem_cons.mpr ⟨bk_553, List.forall_mem_cons.mpr ⟨bk_6, List.forall_mem_cons.mpr ⟨bk_554, fun _ h => absurd h List.not_mem_nil⟩⟩⟩⟩, by decide +kernel, by decide +kernel, by decide +kernel⟩
theorem wok_X7_fewest : wok M_X7_fewest := ⟨show ∀ w ∈ [Cond.instanceMethod yX7_fewest, Cond.selects RX7 yX7_fewest yX7_fewest, Cond.initialized RX7, Cond.code yX7_fewest cX7_fewest 2 (some .int)], w ∈ BIG from List.forall_mem_cons.mpr ⟨bk_349, List.forall_mem_cons.mpr ⟨bk_350, List.forall_mem_cons.mpr ⟨bk_6, List.forall_mem_cons.mpr ⟨bk_351, fun _ h => absurd h List.not_mem_nil⟩⟩⟩⟩, by decide +kernel, by decide +kernel, by decide +kernel⟩
theorem wok_X7_isKey : wok M_X7_isKey := ⟨show ∀ w ∈ [Cond.static yX7_isKey, Cond.initialized RX7, Cond.code yX7_isKey cX7_isKey 1 (some .boolean)], w ∈ BIG from List.forall_mem_cons.mpr ⟨bk_458, List.forall_mem_cons.mpr ⟨bk_6, List.forall_mem_cons.mpr ⟨bk_459, fun _ h => absurd h List.not_mem_nil⟩⟩⟩, by decide +kernel, by decide +kernel, by decide +kernel⟩
theorem wok_X7_isValue : wok M_X7_isValue := ⟨show ∀ w ∈ [Cond.static yX7_isValue, Cond.initialized RX7, Cond.code yX7_isValue cX7_isValue 1 (some .boolean)], w ∈ BIG from List.forall_mem_cons.mpr ⟨bk_477, List.forall_mem_cons.mpr ⟨bk_6, List.forall_mem_cons.mpr ⟨bk_478, fun _ h => absurd h List.not_mem_nil⟩⟩⟩, by decide +kernel, by decide +kernel, by decide +kernel⟩
theorem wok_X7_seenNow : wok M_X7_seenNow := ⟨show ∀ w ∈ [Cond.instanceMethod yX7_seenNow, Cond.selects RX7 yX7_seenNow yX7_seenNow, Cond.initialized RX7, Cond.code yX7_seenNow cX7_seenNow 2 (some .int)], w ∈ BIG from List.forall_mem_cons.mpr ⟨bk_241, List.forall_mem_cons.mpr ⟨bk_0, List.forall_mem_cons.mpr ⟨bk_6, List.forall_mem_cons.mpr ⟨bk_242, fun _ h => absurd h List.not_mem_nil⟩⟩⟩⟩, by decide +kernel, by decide +kernel, by decide +kernel⟩
theorem wok_J7_fill_53178 : wok M_J7_fill_53178 := ⟨show ∀ w ∈ [Cond.static yJ7_fill_53178, Cond.initialized RJ7, Cond.code yJ7_fill_53178 cJ7_fill_53178 4 none], w ∈ BIG from List.forall_mem_cons.mpr ⟨bk_248, List.forall_mem_cons.mpr ⟨bk_15, List.forall_mem_cons.mpr ⟨bk_249, fun _ h => absurd h List.not_mem_nil⟩⟩⟩, by decide +kernel, by decide +kernel, by decide +kernel⟩
theorem wok_L_cell : wok M_L_cell := ⟨show ∀ w ∈ [Cond.static yL_cell, Cond.initialized RL, Cond.code yL_cell cL_cell 2 (some .int)], w ∈ BIG from List.forall_mem_cons.mpr ⟨bk_444, List.forall_mem_cons.mpr ⟨bk_5, List.forall_mem_cons.mpr ⟨bk_445, fun _ h => absurd h List.not_mem_nil⟩⟩⟩, by decide +kernel, by decide +kernel, by decide +kernel⟩
theorem wok_L_low : wok M_L_low := ⟨show ∀ w ∈ [Cond.static yL_low, Cond.initialized RL, Cond.code yL_low cL_low 2 (some .int)], w ∈ BIG from List.forall_mem_cons.mpr ⟨bk_447, List.forall_mem_cons.mpr ⟨bk_5, List.forall_mem_cons.mpr ⟨bk_448, fun _ h => absurd h List.not_mem_nil⟩⟩⟩, by decide +kernel, by decide +kernel, by decide +kernel⟩
theorem wok_L_does : wok M_L_does := ⟨show ∀ w ∈ [Cond.static yL_does, Cond.initialized RL, Cond.code yL_does cL_does 6 (some .int)], w ∈ BIG from List.forall_mem_cons.mpr ⟨bk_451, List.forall_mem_cons.mpr ⟨bk_5, List.forall_mem_cons.mpr ⟨bk_452, fun _ h => absurd h List.not_mem_nil⟩⟩⟩, by decide +kernel, by decide +kernel, by decide +kernel⟩
theorem wok_L_tale : wok M_L_tale := ⟨show ∀ w ∈ [Cond.static yL_tale, Cond.initialized RL, Cond.code yL_tale cL_tale 5 (some .long)], w ∈ BIG from List.forall_mem_cons.mpr ⟨bk_575, List.forall_mem_cons.mpr ⟨bk_5, List.forall_mem_cons.mpr ⟨bk_576, fun _ h => absurd h List.not_mem_nil⟩⟩⟩, by decide +kernel, by decide +kernel, by decide +kernel⟩
theorem wok_L_areWritesSo : wok M_L_areWritesSo := ⟨show ∀ w ∈ [Cond.static yL_areWritesSo, Cond.initialized RL, Cond.code yL_areWritesSo cL_areWritesSo 14 (some .boolean)], w ∈ BIG from List.forall_mem_cons.mpr ⟨bk_607, List.forall_mem_cons.mpr ⟨bk_5, List.forall_mem_cons.mpr ⟨bk_608, fun _ h => absurd h List.not_mem_nil⟩⟩⟩, by decide +kernel, by decide +kernel, by decide +kernel⟩
theorem wok_L_areKeysSo : wok M_L_areKeysSo := ⟨show ∀ w ∈ [Cond.static yL_areKeysSo, Cond.initialized RL, Cond.code yL_areKeysSo cL_areKeysSo 7 (some .boolean)], w ∈ BIG from List.forall_mem_cons.mpr ⟨bk_649, List.forall_mem_cons.mpr ⟨bk_5, List.forall_mem_cons.mpr ⟨bk_650, fun _ h => absurd h List.not_mem_nil⟩⟩⟩, by decide +kernel, by decide +kernel, by decide +kernel⟩
theorem wok_L_isMergeSo : wok M_L_isMergeSo := ⟨show ∀ w ∈ [Cond.static yL_isMergeSo, Cond.initialized RL, Cond.code yL_isMergeSo cL_isMergeSo 13 (some .boolean)], w ∈ BIG from List.forall_mem_cons.mpr ⟨bk_679, List.forall_mem_cons.mpr ⟨bk_5, List.forall_mem_cons.mpr ⟨bk_680, fun _ h => absurd h List.not_mem_nil⟩⟩⟩, by decide +kernel, by decide +kernel, by decide +kernel⟩
theorem fl_RX0_14 : FLD 0 RX0 14 0 := ⟨RX0, TX0, 5, rfl, by decide, layX0, rfl, Or.inl bk_78⟩
theorem fl_RX0_22 : FLD 0 RX0 22 1 := ⟨RX0, TX0, 5, rfl, by decide, layX0, rfl, Or.inl bk_80⟩
theorem fl_RX0_27 : FLD 0 RX0 27 2 := ⟨RX0, TX0, 5, rfl, by decide, layX0, rfl, Or.inl bk_81⟩
theorem fl_RX0_31 : FLD 0 RX0 31 3 := ⟨RX0, TX0, 5, rfl, by decide, layX0, rfl, Or.inl bk_82⟩
theorem fl_RX0_34 : FLD 0 RX0 34 4 := ⟨RX0, TX0, 5, rfl, by decide, layX0, rfl, Or.inl bk_83⟩
theorem fl_RX0_57 : FLD 3 RX0 57 1 := ⟨RX3, TX3, 8, rfl, by decide, layX3, rfl, Or.inr ⟨_, tk_118⟩⟩
theorem fl_RX1_11 : FLD 1 RX1 11 0 := ⟨RX1, TX1, 3, rfl, by decide, layX1, rfl, Or.inl bk_152⟩
theorem fl_RX1_20 : FLD 1 RX1 20 2 := ⟨RX1, TX1, 3, rfl, by decide, layX1, rfl, Or.inl bk_154⟩
theorem fl_RX1_24 : FLD 1 RX1 24 1 := ⟨RX1, TX1, 3, rfl, by decide, layX1, rfl, Or.inl bk_153⟩
theorem fl_RX2_15 : FLD 2 RX2 15 1 := ⟨RX2, TX2, 2, rfl, by decide, layX2, rfl, Or.inl bk_72⟩
theorem fl_RX2_9 : FLD 2 RX2 9 0 := ⟨RX2, TX2, 2, rfl, by decide, layX2, rfl, Or.inl bk_71⟩
theorem fl_RX3_122 : FLD 0 RX3 122 0 := ⟨RX0, TX0, 5, rfl, by decide, layX0, rfl, Or.inr ⟨_, tk_79⟩⟩
theorem fl_RX3_15 : FLD 3 RX3 15 3 := ⟨RX3, TX3, 8, rfl, by decide, layX3, rfl, Or.inl bk_121⟩
theorem fl_RX3_18 : FLD 3 RX3 18 0 := ⟨RX3, TX3, 8, rfl, by decide, layX3, rfl, Or.inl bk_115⟩
theorem fl_RX3_27 : FLD 3 RX3 27 1 := ⟨RX3, TX3, 8, rfl, by decide, layX3, rfl, Or.inl bk_116⟩
theorem fl_RX3_34 : FLD 3 RX3 34 4 := ⟨RX3, TX3, 8, rfl, by decide, layX3, rfl, Or.inl bk_122⟩
theorem fl_RX3_38 : FLD 3 RX3 38 5 := ⟨RX3, TX3, 8, rfl, by decide, layX3, rfl, Or.inl bk_123⟩
theorem fl_RX3_41 : FLD 3 RX3 41 6 := ⟨RX3, TX3, 8, rfl, by decide, layX3, rfl, Or.inl bk_124⟩
theorem fl_RX3_44 : FLD 3 RX3 44 7 := ⟨RX3, TX3, 8, rfl, by decide, layX3, rfl, Or.inl bk_125⟩
theorem fl_RX3_9 : FLD 3 RX3 9 2 := ⟨RX3, TX3, 8, rfl, by decide, layX3, rfl, Or.inl bk_120⟩
theorem fl_RX5_21 : FLD 3 RX5 21 1 := ⟨RX3, TX3, 8, rfl, by decide, layX3, rfl, Or.inr ⟨_, tk_117⟩⟩
theorem fl_RX5_9 : FLD 5 RX5 9 0 := ⟨RX5, TX5, 1, rfl, by decide, layX5, rfl, Or.inl bk_168⟩
theorem fl_RX6_15 : FLD 6 RX6 15 0 := ⟨RX6, TX6, 5, rfl, by decide, layX6, rfl, Or.inl bk_47⟩
theorem fl_RX6_21 : FLD 6 RX6 21 1 := ⟨RX6, TX6, 5, rfl, by decide, layX6, rfl, Or.inl bk_48⟩
theorem fl_RX6_24 : FLD 6 RX6 24 2 := ⟨RX6, TX6, 5, rfl, by decide, layX6, rfl, Or.inl bk_49⟩
theorem fl_RX6_27 : FLD 6 RX6 27 3 := ⟨RX6, TX6, 5, rfl, by decide, layX6, rfl, Or.inl bk_50⟩
theorem fl_RX6_30 : FLD 6 RX6 30 4 := ⟨RX6, TX6, 5, rfl, by decide, layX6, rfl, Or.inl bk_51⟩
theorem fl_RX7_162 : FLD 3 RX7 162 1 := ⟨RX3, TX3, 8, rfl, by decide, layX3, rfl, Or.inr ⟨_, tk_119⟩⟩
theorem fl_RX7_24 : FLD 7 RX7 24 1 := ⟨RX7, TX7, 7, rfl, by decide, layX7, rfl, Or.inl bk_174⟩
theorem fl_RX7_28 : FLD 7 RX7 28 2 := ⟨RX7, TX7, 7, rfl, by decide, layX7, rfl, Or.inl bk_175⟩
theorem fl_RX7_36 : FLD 7 RX7 36 3 := ⟨RX7, TX7, 7, rfl, by decide, layX7, rfl, Or.inl bk_176⟩
theorem fl_RX7_40 : FLD 7 RX7 40 4 := ⟨RX7, TX7, 7, rfl, by decide, layX7, rfl, Or.inl bk_177⟩
theorem fl_RX7_51 : FLD 7 RX7 51 6 := ⟨RX7, TX7, 7, rfl, by decide, layX7, rfl, Or.inl bk_179⟩
theorem pf_RX0_14 : PFL 0 RX0 14 0 (.object "RangeGraves$Writes") true := ⟨RX0, TX0, 5, tyX0, rfl, by decide, layX0, rfl, bk_78, tyX0_ok, nmX0, rfl, rfl, fun _ => rfl⟩
theorem pf_RX0_22 : PFL 0 RX0 22 1 (.array (.object "RangeGraves$Keys")) true := ⟨RX0, TX0, 5, tyX0, rfl, by decide, layX0, rfl, bk_80, tyX0_ok, nmX0, rfl, rfl, fun _ => rfl⟩
theorem pf_RX0_27 : PFL 0 RX0 27 2 (.object "RangeGraves$Keys") true := ⟨RX0, TX0, 5, tyX0, rfl, by decide, layX0, rfl, bk_81, tyX0_ok, nmX0, rfl, rfl, fun _ => rfl⟩
theorem pf_RX0_31 : PFL 0 RX0 31 3 (.object "RangeGraves$Keys") true := ⟨RX0, TX0, 5, tyX0, rfl, by decide, layX0, rfl, bk_82, tyX0_ok, nmX0, rfl, rfl, fun _ => rfl⟩
theorem pf_RX0_34 : PFL 0 RX0 34 4 (.object "RangeGraves$Keys") true := ⟨RX0, TX0, 5, tyX0, rfl, by decide, layX0, rfl, bk_83, tyX0_ok, nmX0, rfl, rfl, fun _ => rfl⟩
theorem pf_RX1_11 : PFL 1 RX1 11 0 (.array (.object "RangeGraves$Store")) true := ⟨RX1, TX1, 3, tyX1, rfl, by decide, layX1, rfl, bk_152, tyX1_ok, nmX1, rfl, rfl, fun _ => rfl⟩
theorem pf_RX1_20 : PFL 1 RX1 20 2 .int false := ⟨RX1, TX1, 3, tyX1, rfl, by decide, layX1, rfl, bk_154, tyX1_ok, nmX1, rfl, rfl, fun h => by cases h⟩
theorem pf_RX1_24 : PFL 1 RX1 24 1 .int false := ⟨RX1, TX1, 3, tyX1, rfl, by decide, layX1, rfl, bk_153, tyX1_ok, nmX1, rfl, rfl, fun h => by cases h⟩
theorem pf_RX2_15 : PFL 2 RX2 15 1 .long false := ⟨RX2, TX2, 2, tyX2, rfl, by decide, layX2, rfl, bk_72, tyX2_ok, nmX2, rfl, rfl, fun h => by cases h⟩
theorem pf_RX2_9 : PFL 2 RX2 9 0 .long false := ⟨RX2, TX2, 2, tyX2, rfl, by decide, layX2, rfl, bk_71, tyX2_ok, nmX2, rfl, rfl, fun h => by cases h⟩
theorem pf_RX3_15 : PFL 3 RX3 15 3 (.array .int) true := ⟨RX3, TX3, 8, tyX3, rfl, by decide, layX3, rfl, bk_121, tyX3_ok, nmX3, rfl, rfl, fun _ => rfl⟩
theorem pf_RX3_18 : PFL 3 RX3 18 0 (.object "RangeGraves$Cleaner") true := ⟨RX3, TX3, 8, tyX3, rfl, by decide, layX3, rfl, bk_115, tyX3_ok, nmX3, rfl, rfl, fun _ => rfl⟩
theorem pf_RX3_27 : PFL 3 RX3 27 1 (.object "RangeGraves$Writes") true := ⟨RX3, TX3, 8, tyX3, rfl, by decide, layX3, rfl, bk_116, tyX3_ok, nmX3, rfl, rfl, fun _ => rfl⟩
theorem pf_RX3_34 : PFL 3 RX3 34 4 .int false := ⟨RX3, TX3, 8, tyX3, rfl, by decide, layX3, rfl, bk_122, tyX3_ok, nmX3, rfl, rfl, fun h => by cases h⟩
theorem pf_RX3_38 : PFL 3 RX3 38 5 .int false := ⟨RX3, TX3, 8, tyX3, rfl, by decide, layX3, rfl, bk_123, tyX3_ok, nmX3, rfl, rfl, fun h => by cases h⟩
theorem pf_RX3_41 : PFL 3 RX3 41 6 .int false := ⟨RX3, TX3, 8, tyX3, rfl, by decide, layX3, rfl, bk_124, tyX3_ok, nmX3, rfl, rfl, fun h => by cases h⟩
theorem pf_RX3_44 : PFL 3 RX3 44 7 .int false := ⟨RX3, TX3, 8, tyX3, rfl, by decide, layX3, rfl, bk_125, tyX3_ok, nmX3, rfl, rfl, fun h => by cases h⟩
theorem pf_RX3_9 : PFL 3 RX3 9 2 (.array .int) true := ⟨RX3, TX3, 8, tyX3, rfl, by decide, layX3, rfl, bk_120, tyX3_ok, nmX3, rfl, rfl, fun _ => rfl⟩
theorem pf_RX4_9 : PFL 4 RX4 9 0 (.array .int) true := ⟨RX4, TX4, 2, tyX4, rfl, by decide, layX4, rfl, bk_101, tyX4_ok, nmX4, rfl, rfl, fun _ => rfl⟩
theorem pf_RX5_9 : PFL 5 RX5 9 0 (.array .int) true := ⟨RX5, TX5, 1, tyX5, rfl, by decide, layX5, rfl, bk_168, tyX5_ok, nmX5, rfl, rfl, fun _ => rfl⟩
theorem pf_RX6_15 : PFL 6 RX6 15 0 (.array .int) true := ⟨RX6, TX6, 5, tyX6, rfl, by decide, layX6, rfl, bk_47, tyX6_ok, nmX6, rfl, rfl, fun _ => rfl⟩
theorem pf_RX6_21 : PFL 6 RX6 21 1 (.array .int) true := ⟨RX6, TX6, 5, tyX6, rfl, by decide, layX6, rfl, bk_48, tyX6_ok, nmX6, rfl, rfl, fun _ => rfl⟩
theorem pf_RX6_24 : PFL 6 RX6 24 2 (.array .int) true := ⟨RX6, TX6, 5, tyX6, rfl, by decide, layX6, rfl, bk_49, tyX6_ok, nmX6, rfl, rfl, fun _ => rfl⟩
theorem pf_RX6_27 : PFL 6 RX6 27 3 (.array .int) true := ⟨RX6, TX6, 5, tyX6, rfl, by decide, layX6, rfl, bk_50, tyX6_ok, nmX6, rfl, rfl, fun _ => rfl⟩
theorem pf_RX6_30 : PFL 6 RX6 30 4 .int false := ⟨RX6, TX6, 5, tyX6, rfl, by decide, layX6, rfl, bk_51, tyX6_ok, nmX6, rfl, rfl, fun h => by cases h⟩
theorem pf_RX7_15 : PFL 7 RX7 15 0 (.object "RangeGraves$Text") true := ⟨RX7, TX7, 7, tyX7, rfl, by decide, layX7, rfl, bk_173, tyX7_ok, nmX7, rfl, rfl, fun _ => rfl⟩
theorem pf_RX7_24 : PFL 7 RX7 24 1 (.object "RangeGraves$Store") true := ⟨RX7, TX7, 7, tyX7, rfl, by decide, layX7, rfl, bk_174, tyX7_ok, nmX7, rfl, rfl, fun _ => rfl⟩
theorem pf_RX7_28 : PFL 7 RX7 28 2 (.object "RangeGraves$Store") true := ⟨RX7, TX7, 7, tyX7, rfl, by decide, layX7, rfl, bk_175, tyX7_ok, nmX7, rfl, rfl, fun _ => rfl⟩
theorem pf_RX7_36 : PFL 7 RX7 36 3 (.object "RangeGraves$History") true := ⟨RX7, TX7, 7, tyX7, rfl, by decide, layX7, rfl, bk_176, tyX7_ok, nmX7, rfl, rfl, fun _ => rfl⟩
theorem pf_RX7_40 : PFL 7 RX7 40 4 (.array (.object "RangeGraves$Store")) true := ⟨RX7, TX7, 7, tyX7, rfl, by decide, layX7, rfl, bk_177, tyX7_ok, nmX7, rfl, rfl, fun _ => rfl⟩
theorem pf_RX7_44 : PFL 7 RX7 44 5 (.array .boolean) true := ⟨RX7, TX7, 7, tyX7, rfl, by decide, layX7, rfl, bk_178, tyX7_ok, nmX7, rfl, rfl, fun _ => rfl⟩
theorem pf_RX7_51 : PFL 7 RX7 51 6 (.object "RangeGraves$View") true := ⟨RX7, TX7, 7, tyX7, rfl, by decide, layX7, rfl, bk_179, tyX7_ok, nmX7, rfl, rfl, fun _ => rfl⟩
theorem nw_RL_9 : NEWC 7 RL 9 7 [.null, .null, .null, .null, .null, .null, .null] := ⟨RX7, TX7, tyX7, rfl, layX7, tyX7_ok, bk_24, bk_25, bk_6, by decide +kernel⟩
theorem nw_RX0_20 : NEWC 2 RX0 20 2 [.long 0, .long 0] := ⟨RX2, TX2, tyX2, rfl, layX2, tyX2_ok, bk_64, bk_66, bk_10, by decide +kernel⟩
theorem nw_RX0_9 : NEWC 6 RX0 9 5 [.null, .null, .null, .null, .int 0] := ⟨RX6, TX6, tyX6, rfl, layX6, tyX6_ok, bk_38, bk_39, bk_8, by decide +kernel⟩
theorem nw_RX1_9 : NEWC 3 RX1 9 8 [.null, .null, .null, .null, .int 0, .int 0, .int 0, .int 0] := ⟨RX3, TX3, tyX3, rfl, layX3, tyX3_ok, bk_149, bk_108, bk_12, by decide +kernel⟩
theorem nw_RX3_22 : NEWC 6 RX3 22 5 [.null, .null, .null, .null, .int 0] := ⟨RX6, TX6, tyX6, rfl, layX6, tyX6_ok, bk_113, bk_39, bk_8, by decide +kernel⟩
theorem nw_RX7_12 : NEWC 4 RX7 12 2 [.null, .int 0] := ⟨RX4, TX4, tyX4, rfl, layX4, tyX4_ok, bk_95, bk_96, bk_11, by decide +kernel⟩
theorem nw_RX7_19 : NEWC 3 RX7 19 8 [.null, .null, .null, .null, .int 0, .int 0, .int 0, .int 0] := ⟨RX3, TX3, tyX3, rfl, layX3, tyX3_ok, bk_107, bk_108, bk_12, by decide +kernel⟩
theorem nw_RX7_31 : NEWC 1 RX7 31 3 [.null, .int 0, .int 0] := ⟨RX1, TX1, tyX1, rfl, layX1, tyX1_ok, bk_143, bk_144, bk_13, by decide +kernel⟩
theorem nw_RX7_48 : NEWC 5 RX7 48 1 [.null] := ⟨RX5, TX5, tyX5, rfl, layX5, tyX5_ok, bk_162, bk_163, bk_14, by decide +kernel⟩
theorem nw_RX7_9 : NEWC 0 RX7 9 5 [.null, .null, .null, .null, .null] := ⟨RX0, TX0, tyX0, rfl, layX0, tyX0_ok, bk_32, bk_33, bk_7, by decide +kernel⟩
theorem ck_L_areKeysSo_46 : CK M_L_areKeysSo M_X7_get 46 := ⟨Or.inl bk_579, by decide, by decide⟩
theorem ck_L_areKeysSo_56 : CK M_L_areKeysSo M_X7_looks 56 := ⟨Or.inl bk_651, by decide, by decide⟩
theorem ck_L_areKeysSo_59 : CK M_L_areKeysSo M_X7_next 59 := ⟨Or.inl bk_656, by decide, by decide⟩
theorem ck_L_areKeysSo_62 : CK M_L_areKeysSo M_X7_count 62 := ⟨Or.inl bk_664, by decide, by decide⟩
theorem ck_L_areKeysSo_65 : CK M_L_areKeysSo M_X7_hidden 65 := ⟨Or.inl bk_668, by decide, by decide⟩
theorem ck_L_areKeysSo_8 : CK M_L_areKeysSo M_X7_about 8 := ⟨Or.inl bk_195, by decide, by decide⟩
theorem ck_L_areWritesSo_49 : CK M_L_areWritesSo M_X7_run 49 := ⟨Or.inl bk_609, by decide, by decide⟩
theorem ck_L_areWritesSo_52 : CK M_L_areWritesSo M_X7_write 52 := ⟨Or.inl bk_640, by decide, by decide⟩
theorem ck_L_areWritesSo_8 : CK M_L_areWritesSo M_X7_about 8 := ⟨Or.inl bk_195, by decide, by decide⟩
theorem ck_L_does_14 : CK M_L_does M_L_low 14 := ⟨Or.inl bk_446, by decide, by decide⟩
theorem ck_L_does_20 : CK M_L_does M_X7_put 20 := ⟨Or.inl bk_453, by decide, by decide⟩
theorem ck_L_does_23 : CK M_L_does M_X7_bury 23 := ⟨Or.inl bk_510, by decide, by decide⟩
theorem ck_L_does_26 : CK M_L_does M_X7_flush 26 := ⟨Or.inl bk_515, by decide, by decide⟩
theorem ck_L_does_30 : CK M_L_does M_X7_open 30 := ⟨Or.inl bk_524, by decide, by decide⟩
theorem ck_L_does_33 : CK M_L_does M_X7_close 33 := ⟨Or.inl bk_537, by decide, by decide⟩
theorem ck_L_does_36 : CK M_L_does M_X7_best 36 := ⟨Or.inl bk_551, by decide, by decide⟩
theorem ck_L_does_39 : CK M_L_does M_X7_merge 39 := ⟨Or.inl bk_567, by decide, by decide⟩
theorem ck_L_does_8 : CK M_L_does M_X7_about 8 := ⟨Or.inl bk_195, by decide, by decide⟩
theorem ck_L_isMergeSo_36 : CK M_L_isMergeSo M_X7_best 36 := ⟨Or.inl bk_551, by decide, by decide⟩
theorem ck_L_isMergeSo_39 : CK M_L_isMergeSo M_X7_merge 39 := ⟨Or.inl bk_567, by decide, by decide⟩
theorem ck_L_isMergeSo_68 : CK M_L_isMergeSo M_X7_saves 68 := ⟨Or.inl bk_681, by decide, by decide⟩
theorem ck_L_isMergeSo_71 : CK M_L_isMergeSo M_L_tale 71 := ⟨Or.inl bk_574, by decide, by decide⟩
theorem ck_L_isMergeSo_75 : CK M_L_isMergeSo M_X7_undo 75 := ⟨Or.inl bk_685, by decide, by decide⟩
theorem ck_L_isMergeSo_8 : CK M_L_isMergeSo M_X7_about 8 := ⟨Or.inl bk_195, by decide, by decide⟩
theorem ck_L_law_14 : CK M_L_law M_L_low 14 := ⟨Or.inl bk_446, by decide, by decide⟩
theorem ck_L_law_71 : CK M_L_law M_L_tale 71 := ⟨Or.inl bk_574, by decide, by decide⟩
theorem ck_L_law_78 : CK M_L_law M_X7_init 78 := ⟨Or.inl bk_26, by decide, by decide⟩
theorem ck_L_law_79 : CK M_L_law M_L_cell 79 := ⟨Or.inl bk_443, by decide, by decide⟩
theorem ck_L_law_8 : CK M_L_law M_X7_about 8 := ⟨Or.inl bk_195, by decide, by decide⟩
theorem ck_L_law_83 : CK M_L_law M_L_does 83 := ⟨Or.inl bk_450, by decide, by decide⟩
theorem ck_L_law_87 : CK M_L_law M_L_areWritesSo 87 := ⟨Or.inl bk_606, by decide, by decide⟩
theorem ck_L_law_91 : CK M_L_law M_L_areKeysSo 91 := ⟨Or.inl bk_648, by decide, by decide⟩
theorem ck_L_law_95 : CK M_L_law M_L_isMergeSo 95 := ⟨Or.inl bk_678, by decide, by decide⟩
theorem ck_L_law_98 : CK M_L_law M_X7_fewest 98 := ⟨Or.inl bk_348, by decide, by decide⟩
theorem ck_L_tale_46 : CK M_L_tale M_X7_get 46 := ⟨Or.inl bk_579, by decide, by decide⟩
theorem ck_X0_addRows_102 : CK M_X0_addRows M_X2_has 102 := ⟨Or.inl bk_428, by decide, by decide⟩
theorem ck_X0_addRows_105 : CK M_X0_addRows M_X6_valueAt 105 := ⟨Or.inl bk_432, by decide, by decide⟩
theorem ck_X0_addRows_108 : CK M_X0_addRows M_X6_add 108 := ⟨Or.inl bk_433, by decide, by decide⟩
theorem ck_X0_addRows_71 : CK M_X0_addRows M_X6_numberAt 71 := ⟨Or.inl bk_386, by decide, by decide⟩
theorem ck_X0_addRows_78 : CK M_X0_addRows M_X6_firstAt 78 := ⟨Or.inl bk_395, by decide, by decide⟩
theorem ck_X0_addRows_81 : CK M_X0_addRows M_X6_lastAt 81 := ⟨Or.inl bk_396, by decide, by decide⟩
theorem ck_X0_clean_37 : CK M_X0_clean M_X6_empty 37 := ⟨Or.inl bk_376, by decide, by decide⟩
theorem ck_X0_clean_40 : CK M_X0_clean M_X3_startOf 40 := ⟨Or.inl bk_380, by decide, by decide⟩
theorem ck_X0_clean_46 : CK M_X0_clean M_X3_endOf 46 := ⟨Or.inl bk_381, by decide, by decide⟩
theorem ck_X0_clean_49 : CK M_X0_clean M_X0_dropHidden 49 := ⟨Or.inl bk_382, by decide, by decide⟩
theorem ck_X0_clean_53 : CK M_X0_clean M_X3_runs 53 := ⟨Or.inl bk_411, by decide, by decide⟩
theorem ck_X0_clean_60 : CK M_X0_clean M_X0_dropNeedless 60 := ⟨Or.inl bk_412, by decide, by decide⟩
theorem ck_X0_clean_64 : CK M_X0_clean M_X0_addRows 64 := ⟨Or.inl bk_424, by decide, by decide⟩
theorem ck_X0_clean_68 : CK M_X0_clean M_X6_size 68 := ⟨Or.inl bk_437, by decide, by decide⟩
theorem ck_X0_dropHidden_71 : CK M_X0_dropHidden M_X6_numberAt 71 := ⟨Or.inl bk_386, by decide, by decide⟩
theorem ck_X0_dropHidden_74 : CK M_X0_dropHidden M_X3_eyesBefore 74 := ⟨Or.inl bk_387, by decide, by decide⟩
theorem ck_X0_dropHidden_77 : CK M_X0_dropHidden M_X2_empty 77 := ⟨Or.inl bk_391, by decide, by decide⟩
theorem ck_X0_dropHidden_78 : CK M_X0_dropHidden M_X6_firstAt 78 := ⟨Or.inl bk_395, by decide, by decide⟩
theorem ck_X0_dropHidden_81 : CK M_X0_dropHidden M_X6_lastAt 81 := ⟨Or.inl bk_396, by decide, by decide⟩
theorem ck_X0_dropHidden_84 : CK M_X0_dropHidden M_X2_addRow 84 := ⟨Or.inl bk_397, by decide, by decide⟩
theorem ck_X0_dropHidden_88 : CK M_X0_dropHidden M_X6_isEntry 88 := ⟨Or.inl bk_406, by decide, by decide⟩
theorem ck_X0_dropHidden_92 : CK M_X0_dropHidden M_X2_removeAll 92 := ⟨Or.inl bk_407, by decide, by decide⟩
theorem ck_X0_dropNeedless_77 : CK M_X0_dropNeedless M_X2_empty 77 := ⟨Or.inl bk_391, by decide, by decide⟩
theorem ck_X0_dropNeedless_88 : CK M_X0_dropNeedless M_X6_isEntry 88 := ⟨Or.inl bk_406, by decide, by decide⟩
theorem ck_X0_dropNeedless_96 : CK M_X0_dropNeedless M_X2_addAll 96 := ⟨Or.inl bk_416, by decide, by decide⟩
theorem ck_X0_dropNeedless_99 : CK M_X0_dropNeedless M_X2_keepOnly 99 := ⟨Or.inl bk_420, by decide, by decide⟩
theorem ck_X0_init_11 : CK M_X0_init M_X6_init 11 := ⟨Or.inl bk_40, by decide, by decide⟩
theorem ck_X0_init_26 : CK M_X0_init M_X2_init 26 := ⟨Or.inr ⟨_, tk_67⟩, by decide, by decide⟩
theorem ck_X1_init_17 : CK M_X1_init M_X3_init 17 := ⟨Or.inl bk_151, by decide, by decide⟩
theorem ck_X1_remember_27 : CK M_X1_remember M_X3_become 27 := ⟨Or.inl bk_504, by decide, by decide⟩
theorem ck_X1_takeBack_27 : CK M_X1_takeBack M_X3_become 27 := ⟨Or.inl bk_504, by decide, by decide⟩
theorem ck_X3_addWrite_118 : CK M_X3_addWrite M_X6_add 118 := ⟨Or.inl bk_509, by decide, by decide⟩
theorem ck_X3_become_47 : CK M_X3_become M_X6_size 47 := ⟨Or.inl bk_211, by decide, by decide⟩
theorem ck_X3_become_51 : CK M_X3_become M_X6_replace 51 := ⟨Or.inl bk_356, by decide, by decide⟩
theorem ck_X3_canFlush_109 : CK M_X3_canFlush M_X3_sizeOf 109 := ⟨Or.inl bk_438, by decide, by decide⟩
theorem ck_X3_canFlush_112 : CK M_X3_canFlush M_X0_clean 112 := ⟨Or.inl bk_372, by decide, by decide⟩
theorem ck_X3_canFlush_69 : CK M_X3_canFlush M_X3_startOf 69 := ⟨Or.inl bk_215, by decide, by decide⟩
theorem ck_X3_canMerge_109 : CK M_X3_canMerge M_X3_sizeOf 109 := ⟨Or.inl bk_438, by decide, by decide⟩
theorem ck_X3_canMerge_112 : CK M_X3_canMerge M_X0_clean 112 := ⟨Or.inl bk_372, by decide, by decide⟩
theorem ck_X3_canMerge_47 : CK M_X3_canMerge M_X6_size 47 := ⟨Or.inl bk_211, by decide, by decide⟩
theorem ck_X3_canMerge_61 : CK M_X3_canMerge M_X3_isRun 61 := ⟨Or.inl bk_559, by decide, by decide⟩
theorem ck_X3_dropEye_89 : CK M_X3_dropEye M_X3_isEye 89 := ⟨Or.inl bk_550, by decide, by decide⟩
theorem ck_X3_endOf_47 : CK M_X3_endOf M_X6_size 47 := ⟨Or.inl bk_211, by decide, by decide⟩
theorem ck_X3_entriesIn_72 : CK M_X3_entriesIn M_X6_isEntry 72 := ⟨Or.inl bk_235, by decide, by decide⟩
theorem ck_X3_flushMemory_109 : CK M_X3_flushMemory M_X3_sizeOf 109 := ⟨Or.inl bk_438, by decide, by decide⟩
theorem ck_X3_flushMemory_112 : CK M_X3_flushMemory M_X0_clean 112 := ⟨Or.inl bk_372, by decide, by decide⟩
theorem ck_X3_flushMemory_47 : CK M_X3_flushMemory M_X6_size 47 := ⟨Or.inl bk_211, by decide, by decide⟩
theorem ck_X3_flushMemory_51 : CK M_X3_flushMemory M_X6_replace 51 := ⟨Or.inl bk_356, by decide, by decide⟩
theorem ck_X3_flushMemory_65 : CK M_X3_flushMemory M_X3_endOf 65 := ⟨Or.inl bk_207, by decide, by decide⟩
theorem ck_X3_flushMemory_69 : CK M_X3_flushMemory M_X3_startOf 69 := ⟨Or.inl bk_215, by decide, by decide⟩
theorem ck_X3_init_24 : CK M_X3_init M_X6_init 24 := ⟨Or.inl bk_114, by decide, by decide⟩
theorem ck_X3_isFull_47 : CK M_X3_isFull M_X6_size 47 := ⟨Or.inl bk_211, by decide, by decide⟩
theorem ck_X3_isPlace_61 : CK M_X3_isPlace M_X3_isRun 61 := ⟨Or.inl bk_559, by decide, by decide⟩
theorem ck_X3_isSeen_106 : CK M_X3_isSeen M_X3_limitOf 106 := ⟨Or.inl bk_677, by decide, by decide⟩
theorem ck_X3_isSeen_78 : CK M_X3_isSeen M_X6_firstAt 78 := ⟨Or.inl bk_626, by decide, by decide⟩
theorem ck_X3_isSeen_99 : CK M_X3_isSeen M_X3_newestFor 99 := ⟨Or.inl bk_596, by decide, by decide⟩
theorem ck_X3_isView_89 : CK M_X3_isView M_X3_isEye 89 := ⟨Or.inl bk_550, by decide, by decide⟩
theorem ck_X3_limitOf_89 : CK M_X3_limitOf M_X3_isEye 89 := ⟨Or.inl bk_550, by decide, by decide⟩
theorem ck_X3_mergeRuns_109 : CK M_X3_mergeRuns M_X3_sizeOf 109 := ⟨Or.inl bk_438, by decide, by decide⟩
theorem ck_X3_mergeRuns_112 : CK M_X3_mergeRuns M_X0_clean 112 := ⟨Or.inl bk_372, by decide, by decide⟩
theorem ck_X3_mergeRuns_51 : CK M_X3_mergeRuns M_X6_replace 51 := ⟨Or.inl bk_356, by decide, by decide⟩
theorem ck_X3_mergeRuns_65 : CK M_X3_mergeRuns M_X3_endOf 65 := ⟨Or.inl bk_207, by decide, by decide⟩
theorem ck_X3_mergeRuns_69 : CK M_X3_mergeRuns M_X3_startOf 69 := ⟨Or.inl bk_215, by decide, by decide⟩
theorem ck_X3_newestFor_47 : CK M_X3_newestFor M_X6_size 47 := ⟨Or.inl bk_211, by decide, by decide⟩
theorem ck_X3_newestFor_92 : CK M_X3_newestFor M_X6_numberAt 92 := ⟨Or.inl bk_600, by decide, by decide⟩
theorem ck_X3_newestFor_95 : CK M_X3_newestFor M_X6_concerns 95 := ⟨Or.inl bk_601, by decide, by decide⟩
theorem ck_X3_savedBy_109 : CK M_X3_savedBy M_X3_sizeOf 109 := ⟨Or.inl bk_438, by decide, by decide⟩
theorem ck_X3_savedBy_112 : CK M_X3_savedBy M_X0_clean 112 := ⟨Or.inl bk_372, by decide, by decide⟩
theorem ck_X3_sizeOf_65 : CK M_X3_sizeOf M_X3_endOf 65 := ⟨Or.inl bk_207, by decide, by decide⟩
theorem ck_X3_sizeOf_69 : CK M_X3_sizeOf M_X3_startOf 69 := ⟨Or.inl bk_215, by decide, by decide⟩
theorem ck_X3_size_47 : CK M_X3_size M_X6_size 47 := ⟨Or.inl bk_211, by decide, by decide⟩
theorem ck_X3_valueFor_103 : CK M_X3_valueFor M_X6_valueAt 103 := ⟨Or.inl bk_605, by decide, by decide⟩
theorem ck_X3_valueFor_99 : CK M_X3_valueFor M_X3_newestFor 99 := ⟨Or.inl bk_596, by decide, by decide⟩
theorem ck_X5_look_15 : CK M_X5_look M_J7_fill_53178 15 := ⟨Or.inl bk_247, by decide, by decide⟩
theorem ck_X5_look_27 : CK M_X5_look M_X6_size 27 := ⟨Or.inl bk_250, by decide, by decide⟩
theorem ck_X5_look_33 : CK M_X5_look M_X6_numberAt 33 := ⟨Or.inl bk_251, by decide, by decide⟩
theorem ck_X5_look_37 : CK M_X5_look M_X6_firstAt 37 := ⟨Or.inl bk_255, by decide, by decide⟩
theorem ck_X5_look_46 : CK M_X5_look M_X6_lastAt 46 := ⟨Or.inl bk_260, by decide, by decide⟩
theorem ck_X5_look_49 : CK M_X5_look M_X6_valueAt 49 := ⟨Or.inl bk_264, by decide, by decide⟩
theorem ck_X7_about_101 : CK M_X7_about M_X3_sizeOf 101 := ⟨Or.inl bk_203, by decide, by decide⟩
theorem ck_X7_about_105 : CK M_X7_about M_X3_runs 105 := ⟨Or.inl bk_219, by decide, by decide⟩
theorem ck_X7_about_108 : CK M_X7_about M_X3_eyes 108 := ⟨Or.inl bk_223, by decide, by decide⟩
theorem ck_X7_about_111 : CK M_X7_about M_X3_size 111 := ⟨Or.inl bk_227, by decide, by decide⟩
theorem ck_X7_about_114 : CK M_X7_about M_X3_entriesIn 114 := ⟨Or.inl bk_231, by decide, by decide⟩
theorem ck_X7_about_118 : CK M_X7_about M_X7_seenNow 118 := ⟨Or.inl bk_239, by decide, by decide⟩
theorem ck_X7_about_122 : CK M_X7_about M_X5_look 122 := ⟨Or.inl bk_243, by decide, by decide⟩
theorem ck_X7_about_126 : CK M_X7_about M_X5_sum 126 := ⟨Or.inl bk_272, by decide, by decide⟩
theorem ck_X7_about_129 : CK M_X7_about M_X3_fewer 129 := ⟨Or.inl bk_276, by decide, by decide⟩
theorem ck_X7_about_98 : CK M_X7_about M_X3_latest 98 := ⟨Or.inl bk_199, by decide, by decide⟩
theorem ck_X7_best_105 : CK M_X7_best M_X3_runs 105 := ⟨Or.inl bk_219, by decide, by decide⟩
theorem ck_X7_best_237 : CK M_X7_best M_X3_canMerge 237 := ⟨Or.inl bk_555, by decide, by decide⟩
theorem ck_X7_best_267 : CK M_X7_best M_X3_savedBy 267 := ⟨Or.inl bk_563, by decide, by decide⟩
theorem ck_X7_bury_122 : CK M_X7_bury M_X5_look 122 := ⟨Or.inl bk_243, by decide, by decide⟩
theorem ck_X7_bury_134 : CK M_X7_bury M_X7_isKey 134 := ⟨Or.inl bk_457, by decide, by decide⟩
theorem ck_X7_bury_199 : CK M_X7_bury M_X3_isFull 199 := ⟨Or.inl bk_480, by decide, by decide⟩
theorem ck_X7_bury_202 : CK M_X7_bury M_X1_remember 202 := ⟨Or.inl bk_500, by decide, by decide⟩
theorem ck_X7_bury_206 : CK M_X7_bury M_X3_addWrite 206 := ⟨Or.inl bk_505, by decide, by decide⟩
theorem ck_X7_bury_212 : CK M_X7_bury M_X5_seenIn 212 := ⟨Or.inl bk_268, by decide, by decide⟩
theorem ck_X7_bury_98 : CK M_X7_bury M_X3_latest 98 := ⟨Or.inl bk_199, by decide, by decide⟩
theorem ck_X7_close_108 : CK M_X7_close M_X3_eyes 108 := ⟨Or.inl bk_223, by decide, by decide⟩
theorem ck_X7_close_187 : CK M_X7_close M_X3_isEye 187 := ⟨Or.inl bk_541, by decide, by decide⟩
theorem ck_X7_close_202 : CK M_X7_close M_X1_remember 202 := ⟨Or.inl bk_500, by decide, by decide⟩
theorem ck_X7_close_223 : CK M_X7_close M_X3_dropEye 223 := ⟨Or.inl bk_546, by decide, by decide⟩
theorem ck_X7_count_122 : CK M_X7_count M_X5_look 122 := ⟨Or.inl bk_243, by decide, by decide⟩
theorem ck_X7_count_134 : CK M_X7_count M_X7_isKey 134 := ⟨Or.inl bk_457, by decide, by decide⟩
theorem ck_X7_count_137 : CK M_X7_count M_X3_isView 137 := ⟨Or.inl bk_583, by decide, by decide⟩
theorem ck_X7_count_145 : CK M_X7_count M_X3_limitOf 145 := ⟨Or.inl bk_588, by decide, by decide⟩
theorem ck_X7_count_212 : CK M_X7_count M_X5_seenIn 212 := ⟨Or.inl bk_268, by decide, by decide⟩
theorem ck_X7_fewest_101 : CK M_X7_fewest M_X3_sizeOf 101 := ⟨Or.inl bk_203, by decide, by decide⟩
theorem ck_X7_fewest_105 : CK M_X7_fewest M_X3_runs 105 := ⟨Or.inl bk_219, by decide, by decide⟩
theorem ck_X7_fewest_111 : CK M_X7_fewest M_X3_size 111 := ⟨Or.inl bk_227, by decide, by decide⟩
theorem ck_X7_fewest_231 : CK M_X7_fewest M_X3_flushMemory 231 := ⟨Or.inl bk_368, by decide, by decide⟩
theorem ck_X7_fewest_242 : CK M_X7_fewest M_X3_mergeRuns 242 := ⟨Or.inl bk_439, by decide, by decide⟩
theorem ck_X7_fewest_270 : CK M_X7_fewest M_X3_become 270 := ⟨Or.inl bk_352, by decide, by decide⟩
theorem ck_X7_fewest_273 : CK M_X7_fewest M_X3_dropAllEyes 273 := ⟨Or.inl bk_364, by decide, by decide⟩
theorem ck_X7_flush_202 : CK M_X7_flush M_X1_remember 202 := ⟨Or.inl bk_500, by decide, by decide⟩
theorem ck_X7_flush_226 : CK M_X7_flush M_X3_canFlush 226 := ⟨Or.inl bk_519, by decide, by decide⟩
theorem ck_X7_flush_231 : CK M_X7_flush M_X3_flushMemory 231 := ⟨Or.inl bk_368, by decide, by decide⟩
theorem ck_X7_get_134 : CK M_X7_get M_X7_isKey 134 := ⟨Or.inl bk_457, by decide, by decide⟩
theorem ck_X7_get_137 : CK M_X7_get M_X3_isView 137 := ⟨Or.inl bk_583, by decide, by decide⟩
theorem ck_X7_get_145 : CK M_X7_get M_X3_limitOf 145 := ⟨Or.inl bk_588, by decide, by decide⟩
theorem ck_X7_get_148 : CK M_X7_get M_X3_valueFor 148 := ⟨Or.inl bk_592, by decide, by decide⟩
theorem ck_X7_hidden_111 : CK M_X7_hidden M_X3_size 111 := ⟨Or.inl bk_227, by decide, by decide⟩
theorem ck_X7_hidden_257 : CK M_X7_hidden M_X6_isEntry 257 := ⟨Or.inl bk_672, by decide, by decide⟩
theorem ck_X7_hidden_260 : CK M_X7_hidden M_X3_isSeen 260 := ⟨Or.inl bk_673, by decide, by decide⟩
theorem ck_X7_init_11 : CK M_X7_init M_X0_init 11 := ⟨Or.inl bk_34, by decide, by decide⟩
theorem ck_X7_init_14 : CK M_X7_init M_X4_init 14 := ⟨Or.inr ⟨_, tk_97⟩, by decide, by decide⟩
theorem ck_X7_init_21 : CK M_X7_init M_X3_init 21 := ⟨Or.inl bk_109, by decide, by decide⟩
theorem ck_X7_init_33 : CK M_X7_init M_X1_init 33 := ⟨Or.inl bk_145, by decide, by decide⟩
theorem ck_X7_init_50 : CK M_X7_init M_X5_init 50 := ⟨Or.inr ⟨_, tk_164⟩, by decide, by decide⟩
theorem ck_X7_looks_101 : CK M_X7_looks M_X3_sizeOf 101 := ⟨Or.inl bk_203, by decide, by decide⟩
theorem ck_X7_looks_105 : CK M_X7_looks M_X3_runs 105 := ⟨Or.inl bk_219, by decide, by decide⟩
theorem ck_X7_looks_134 : CK M_X7_looks M_X7_isKey 134 := ⟨Or.inl bk_457, by decide, by decide⟩
theorem ck_X7_looks_156 : CK M_X7_looks M_X3_startOf 156 := ⟨Or.inl bk_617, by decide, by decide⟩
theorem ck_X7_looks_251 : CK M_X7_looks M_X3_newestFor 251 := ⟨Or.inl bk_655, by decide, by decide⟩
theorem ck_X7_looks_98 : CK M_X7_looks M_X3_latest 98 := ⟨Or.inl bk_199, by decide, by decide⟩
theorem ck_X7_merge_202 : CK M_X7_merge M_X1_remember 202 := ⟨Or.inl bk_500, by decide, by decide⟩
theorem ck_X7_merge_234 : CK M_X7_merge M_X3_isRun 234 := ⟨Or.inl bk_571, by decide, by decide⟩
theorem ck_X7_merge_237 : CK M_X7_merge M_X3_canMerge 237 := ⟨Or.inl bk_555, by decide, by decide⟩
theorem ck_X7_merge_242 : CK M_X7_merge M_X3_mergeRuns 242 := ⟨Or.inl bk_439, by decide, by decide⟩
theorem ck_X7_next_122 : CK M_X7_next M_X5_look 122 := ⟨Or.inl bk_243, by decide, by decide⟩
theorem ck_X7_next_134 : CK M_X7_next M_X7_isKey 134 := ⟨Or.inl bk_457, by decide, by decide⟩
theorem ck_X7_next_137 : CK M_X7_next M_X3_isView 137 := ⟨Or.inl bk_583, by decide, by decide⟩
theorem ck_X7_next_145 : CK M_X7_next M_X3_limitOf 145 := ⟨Or.inl bk_588, by decide, by decide⟩
theorem ck_X7_next_254 : CK M_X7_next M_X5_firstSeen 254 := ⟨Or.inl bk_660, by decide, by decide⟩
theorem ck_X7_open_108 : CK M_X7_open M_X3_eyes 108 := ⟨Or.inl bk_223, by decide, by decide⟩
theorem ck_X7_open_202 : CK M_X7_open M_X1_remember 202 := ⟨Or.inl bk_500, by decide, by decide⟩
theorem ck_X7_open_215 : CK M_X7_open M_X3_canOpen 215 := ⟨Or.inl bk_528, by decide, by decide⟩
theorem ck_X7_open_220 : CK M_X7_open M_X3_addEye 220 := ⟨Or.inl bk_533, by decide, by decide⟩
theorem ck_X7_put_134 : CK M_X7_put M_X7_isKey 134 := ⟨Or.inl bk_457, by decide, by decide⟩
theorem ck_X7_put_194 : CK M_X7_put M_X7_isValue 194 := ⟨Or.inl bk_476, by decide, by decide⟩
theorem ck_X7_put_199 : CK M_X7_put M_X3_isFull 199 := ⟨Or.inl bk_480, by decide, by decide⟩
theorem ck_X7_put_202 : CK M_X7_put M_X1_remember 202 := ⟨Or.inl bk_500, by decide, by decide⟩
theorem ck_X7_put_206 : CK M_X7_put M_X3_addWrite 206 := ⟨Or.inl bk_505, by decide, by decide⟩
theorem ck_X7_put_98 : CK M_X7_put M_X3_latest 98 := ⟨Or.inl bk_199, by decide, by decide⟩
theorem ck_X7_run_101 : CK M_X7_run M_X3_sizeOf 101 := ⟨Or.inl bk_203, by decide, by decide⟩
theorem ck_X7_run_114 : CK M_X7_run M_X3_entriesIn 114 := ⟨Or.inl bk_231, by decide, by decide⟩
theorem ck_X7_run_151 : CK M_X7_run M_X3_isPlace 151 := ⟨Or.inl bk_613, by decide, by decide⟩
theorem ck_X7_run_156 : CK M_X7_run M_X3_startOf 156 := ⟨Or.inl bk_617, by decide, by decide⟩
theorem ck_X7_run_159 : CK M_X7_run M_X3_endOf 159 := ⟨Or.inl bk_618, by decide, by decide⟩
theorem ck_X7_run_166 : CK M_X7_run M_X6_numberAt 166 := ⟨Or.inl bk_619, by decide, by decide⟩
theorem ck_X7_saves_234 : CK M_X7_saves M_X3_isRun 234 := ⟨Or.inl bk_571, by decide, by decide⟩
theorem ck_X7_saves_237 : CK M_X7_saves M_X3_canMerge 237 := ⟨Or.inl bk_555, by decide, by decide⟩
theorem ck_X7_saves_267 : CK M_X7_saves M_X3_savedBy 267 := ⟨Or.inl bk_563, by decide, by decide⟩
theorem ck_X7_seenNow_122 : CK M_X7_seenNow M_X5_look 122 := ⟨Or.inl bk_243, by decide, by decide⟩
theorem ck_X7_seenNow_212 : CK M_X7_seenNow M_X5_seenIn 212 := ⟨Or.inl bk_268, by decide, by decide⟩
theorem ck_X7_seenNow_98 : CK M_X7_seenNow M_X3_latest 98 := ⟨Or.inl bk_199, by decide, by decide⟩
theorem ck_X7_undo_245 : CK M_X7_undo M_X1_size 245 := ⟨Or.inl bk_689, by decide, by decide⟩
theorem ck_X7_undo_248 : CK M_X7_undo M_X1_takeBack 248 := ⟨Or.inl bk_694, by decide, by decide⟩
theorem ck_X7_write_101 : CK M_X7_write M_X3_sizeOf 101 := ⟨Or.inl bk_203, by decide, by decide⟩
theorem ck_X7_write_151 : CK M_X7_write M_X3_isPlace 151 := ⟨Or.inl bk_613, by decide, by decide⟩
theorem ck_X7_write_156 : CK M_X7_write M_X3_startOf 156 := ⟨Or.inl bk_617, by decide, by decide⟩
theorem ck_X7_write_166 : CK M_X7_write M_X6_numberAt 166 := ⟨Or.inl bk_619, by decide, by decide⟩
theorem ck_X7_write_178 : CK M_X7_write M_X6_firstAt 178 := ⟨Or.inl bk_645, by decide, by decide⟩
theorem ck_X7_write_181 : CK M_X7_write M_X6_lastAt 181 := ⟨Or.inl bk_646, by decide, by decide⟩
theorem ck_X7_write_184 : CK M_X7_write M_X6_valueAt 184 := ⟨Or.inl bk_647, by decide, by decide⟩
