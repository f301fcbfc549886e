theorem wok_X0_init : wok M_X0_init := ⟨show ∀ w ∈ [Cond.instanceMethod yX0_init, Cond.initialized RX0, Cond.code yX0_init cX0_init 2 none], w ∈ BIG from List.forall_mem_cons.mpr ⟨bk_93, List.forall_mem_cons.mpr ⟨bk_64, List.forall_mem_cons.mpr ⟨bk_94, fun _ h => absurd h List.not_mem_nil⟩⟩⟩, by decide +kernel, by decide +kernel, by decide +kernel⟩
theorem wok_X0_clean : wok M_X0_clean := ⟨show ∀ w ∈ [Cond.instanceMethod yX0_clean, Cond.selects RX0 yX0_clean yX0_clean, Cond.initialized RX0, Cond.code yX0_clean cX0_clean 7 (some .int)], w ∈ BIG from List.forall_mem_cons.mpr ⟨bk_366, List.forall_mem_cons.mpr ⟨bk_367, List.forall_mem_cons.mpr ⟨bk_64, List.forall_mem_cons.mpr ⟨bk_368, fun _ h => absurd h List.not_mem_nil⟩⟩⟩⟩, by decide +kernel, by decide +kernel, by decide +kernel⟩
theorem wok_X0_dropHidden : wok M_X0_dropHidden := ⟨show ∀ w ∈ [Cond.instanceMethod yX0_dropHidden, Cond.selects RX0 yX0_dropHidden yX0_dropHidden, Cond.initialized RX0, Cond.code yX0_dropHidden cX0_dropHidden 7 none], w ∈ BIG from List.forall_mem_cons.mpr ⟨bk_377, List.forall_mem_cons.mpr ⟨bk_1, List.forall_mem_cons.mpr ⟨bk_64, List.forall_mem_cons.mpr ⟨bk_378, fun _ h => absurd h List.not_mem_nil⟩⟩⟩⟩, by decide +kernel, by decide +kernel, by decide +kernel⟩
theorem wok_X0_dropNeedless : wok M_X0_dropNeedless := ⟨show ∀ w ∈ [Cond.instanceMethod yX0_dropNeedless, Cond.selects RX0 yX0_dropNeedless yX0_dropNeedless, Cond.initialized RX0, Cond.code yX0_dropNeedless cX0_dropNeedless 5 none], w ∈ BIG from List.forall_mem_cons.mpr ⟨bk_410, List.forall_mem_cons.mpr ⟨bk_2, List.forall_mem_cons.mpr ⟨bk_64, List.forall_mem_cons.mpr ⟨bk_411, fun _ h => absurd h List.not_mem_nil⟩⟩⟩⟩, by decide +kernel, by decide +kernel, by decide +kernel⟩
theorem wok_X0_addRows : wok M_X0_addRows := ⟨show ∀ w ∈ [Cond.instanceMethod yX0_addRows, Cond.selects RX0 yX0_addRows yX0_addRows, Cond.initialized RX0, Cond.code yX0_addRows cX0_addRows 7 none], w ∈ BIG from List.forall_mem_cons.mpr ⟨bk_422, List.forall_mem_cons.mpr ⟨bk_3, List.forall_mem_cons.mpr ⟨bk_64, List.forall_mem_cons.mpr ⟨bk_423, fun _ h => absurd h List.not_mem_nil⟩⟩⟩⟩, by decide +kernel, by decide +kernel, by decide +kernel⟩
theorem wok_X1_init : wok M_X1_init := ⟨show ∀ w ∈ [Cond.instanceMethod yX1_init, Cond.initialized RX1, Cond.code yX1_init cX1_init 3 none], w ∈ BIG from List.forall_mem_cons.mpr ⟨bk_205, List.forall_mem_cons.mpr ⟨bk_70, List.forall_mem_cons.mpr ⟨bk_206, fun _ h => absurd h List.not_mem_nil⟩⟩⟩, by decide +kernel, by decide +kernel, by decide +kernel⟩
theorem wok_X1_size : wok M_X1_size := ⟨show ∀ w ∈ [Cond.instanceMethod yX1_size, Cond.selects RX1 yX1_size yX1_size, Cond.initialized RX1, Cond.code yX1_size cX1_size 1 (some .int)], w ∈ BIG from List.forall_mem_cons.mpr ⟨bk_862, List.forall_mem_cons.mpr ⟨bk_863, List.forall_mem_cons.mpr ⟨bk_70, List.forall_mem_cons.mpr ⟨bk_864, fun _ h => absurd h List.not_mem_nil⟩⟩⟩⟩, by decide +kernel, by decide +kernel, by decide +kernel⟩
theorem wok_X1_forgetAll : wok M_X1_forgetAll := ⟨show ∀ w ∈ [Cond.instanceMethod yX1_forgetAll, Cond.selects RX1 yX1_forgetAll yX1_forgetAll, Cond.initialized RX1, Cond.code yX1_forgetAll cX1_forgetAll 1 none], w ∈ BIG from List.forall_mem_cons.mpr ⟨bk_585, List.forall_mem_cons.mpr ⟨bk_586, List.forall_mem_cons.mpr ⟨bk_70, List.forall_mem_cons.mpr ⟨bk_587, fun _ h => absurd h List.not_mem_nil⟩⟩⟩⟩, by decide +kernel, by decide +kernel, by decide +kernel⟩
theorem wok_X1_remember : wok M_X1_remember := ⟨show ∀ w ∈ [Cond.instanceMethod yX1_remember, Cond.selects RX1 yX1_remember yX1_remember, Cond.initialized RX1, Cond.code yX1_remember cX1_remember 2 none], w ∈ BIG from List.forall_mem_cons.mpr ⟨bk_805, List.forall_mem_cons.mpr ⟨bk_806, List.forall_mem_cons.mpr ⟨bk_70, List.forall_mem_cons.mpr ⟨bk_807, fun _ h => absurd h List.not_mem_nil⟩⟩⟩⟩, by decide +kernel, by decide +kernel, by decide +kernel⟩
theorem wok_X1_takeBack : wok M_X1_takeBack := ⟨show ∀ w ∈ [Cond.instanceMethod yX1_takeBack, Cond.selects RX1 yX1_takeBack yX1_takeBack, Cond.initialized RX1, Cond.code yX1_takeBack cX1_takeBack 2 none], w ∈ BIG from List.forall_mem_cons.mpr ⟨bk_867, List.forall_mem_cons.mpr ⟨bk_868, List.forall_mem_cons.mpr ⟨bk_70, List.forall_mem_cons.mpr ⟨bk_869, fun _ h => absurd h List.not_mem_nil⟩⟩⟩⟩, by decide +kernel, by decide +kernel, by decide +kernel⟩
theorem wok_X2_init : wok M_X2_init := ⟨show ∀ w ∈ [Cond.instanceMethod yX2_init, Cond.initialized RX2, Cond.code yX2_init cX2_init 1 none], w ∈ BIG from List.forall_mem_cons.mpr ⟨bk_126, List.forall_mem_cons.mpr ⟨bk_67, List.forall_mem_cons.mpr ⟨bk_127, fun _ h => absurd h List.not_mem_nil⟩⟩⟩, by decide +kernel, by decide +kernel, by decide +kernel⟩
theorem wok_X2_empty : wok M_X2_empty := ⟨show ∀ w ∈ [Cond.instanceMethod yX2_empty, Cond.selects RX2 yX2_empty yX2_empty, Cond.initialized RX2, Cond.code yX2_empty cX2_empty 1 none], w ∈ BIG from List.forall_mem_cons.mpr ⟨bk_385, List.forall_mem_cons.mpr ⟨bk_386, List.forall_mem_cons.mpr ⟨bk_67, List.forall_mem_cons.mpr ⟨bk_387, fun _ h => absurd h List.not_mem_nil⟩⟩⟩⟩, by decide +kernel, by decide +kernel, by decide +kernel⟩
theorem wok_X2_addRow : wok M_X2_addRow := ⟨show ∀ w ∈ [Cond.instanceMethod yX2_addRow, Cond.selects RX2 yX2_addRow yX2_addRow, Cond.initialized RX2, Cond.code yX2_addRow cX2_addRow 3 none], w ∈ BIG from List.forall_mem_cons.mpr ⟨bk_394, List.forall_mem_cons.mpr ⟨bk_395, List.forall_mem_cons.mpr ⟨bk_67, List.forall_mem_cons.mpr ⟨bk_396, fun _ h => absurd h List.not_mem_nil⟩⟩⟩⟩, by decide +kernel, by decide +kernel, by decide +kernel⟩
theorem wok_X2_addAll : wok M_X2_addAll := ⟨show ∀ w ∈ [Cond.instanceMethod yX2_addAll, Cond.selects RX2 yX2_addAll yX2_addAll, Cond.initialized RX2, Cond.code yX2_addAll cX2_addAll 2 none], w ∈ BIG from List.forall_mem_cons.mpr ⟨bk_413, List.forall_mem_cons.mpr ⟨bk_414, List.forall_mem_cons.mpr ⟨bk_67, List.forall_mem_cons.mpr ⟨bk_415, fun _ h => absurd h List.not_mem_nil⟩⟩⟩⟩, by decide +kernel, by decide +kernel, by decide +kernel⟩
theorem wok_X2_removeAll : wok M_X2_removeAll := ⟨show ∀ w ∈ [Cond.instanceMethod yX2_removeAll, Cond.selects RX2 yX2_removeAll yX2_removeAll, Cond.initialized RX2, Cond.code yX2_removeAll cX2_removeAll 2 none], w ∈ BIG from List.forall_mem_cons.mpr ⟨bk_404, List.forall_mem_cons.mpr ⟨bk_405, List.forall_mem_cons.mpr ⟨bk_67, List.forall_mem_cons.mpr ⟨bk_406, fun _ h => absurd h List.not_mem_nil⟩⟩⟩⟩, by decide +kernel, by decide +kernel, by decide +kernel⟩
theorem wok_X2_keepOnly : wok M_X2_keepOnly := ⟨show ∀ w ∈ [Cond.instanceMethod yX2_keepOnly, Cond.selects RX2 yX2_keepOnly yX2_keepOnly, Cond.initialized RX2, Cond.code yX2_keepOnly cX2_keepOnly 2 none], w ∈ BIG from List.forall_mem_cons.mpr ⟨bk_417, List.forall_mem_cons.mpr ⟨bk_418, List.forall_mem_cons.mpr ⟨bk_67, List.forall_mem_cons.mpr ⟨bk_419, fun _ h => absurd h List.not_mem_nil⟩⟩⟩⟩, by decide +kernel, by decide +kernel, by decide +kernel⟩
theorem wok_X2_has : wok M_X2_has := ⟨show ∀ w ∈ [Cond.instanceMethod yX2_has, Cond.selects RX2 yX2_has yX2_has, Cond.initialized RX2, Cond.code yX2_has cX2_has 4 (some .boolean)], w ∈ BIG from List.forall_mem_cons.mpr ⟨bk_425, List.forall_mem_cons.mpr ⟨bk_426, List.forall_mem_cons.mpr ⟨bk_67, List.forall_mem_cons.mpr ⟨bk_427, fun _ h => absurd h List.not_mem_nil⟩⟩⟩⟩, by decide +kernel, by decide +kernel, by decide +kernel⟩
theorem wok_X2_size : wok M_X2_size := ⟨show ∀ w ∈ [Cond.instanceMethod yX2_size, Cond.selects RX2 yX2_size yX2_size, Cond.initialized RX2, Cond.code yX2_size cX2_size 1 (some .int)], w ∈ BIG from List.forall_mem_cons.mpr ⟨bk_762, List.forall_mem_cons.mpr ⟨bk_763, List.forall_mem_cons.mpr ⟨bk_67, List.forall_mem_cons.mpr ⟨bk_764, fun _ h => absurd h List.not_mem_nil⟩⟩⟩⟩, by decide +kernel, by decide +kernel, by decide +kernel⟩
theorem wok_X3_init : wok M_X3_init := ⟨show ∀ w ∈ [Cond.instanceMethod yX3_init, Cond.initialized RX3, Cond.code yX3_init cX3_init 3 none], w ∈ BIG from List.forall_mem_cons.mpr ⟨bk_169, List.forall_mem_cons.mpr ⟨bk_69, List.forall_mem_cons.mpr ⟨bk_170, fun _ h => absurd h List.not_mem_nil⟩⟩⟩, by decide +kernel, by decide +kernel, by decide +kernel⟩
theorem wok_X3_empty : wok M_X3_empty := ⟨show ∀ w ∈ [Cond.instanceMethod yX3_empty, Cond.selects RX3 yX3_empty yX3_empty, Cond.initialized RX3, Cond.code yX3_empty cX3_empty 1 none], w ∈ BIG from List.forall_mem_cons.mpr ⟨bk_580, List.forall_mem_cons.mpr ⟨bk_581, List.forall_mem_cons.mpr ⟨bk_69, List.forall_mem_cons.mpr ⟨bk_582, fun _ h => absurd h List.not_mem_nil⟩⟩⟩⟩, by decide +kernel, by decide +kernel, by decide +kernel⟩
theorem wok_X3_become : wok M_X3_become := ⟨show ∀ w ∈ [Cond.instanceMethod yX3_become, Cond.selects RX3 yX3_become yX3_become, Cond.initialized RX3, Cond.code yX3_become cX3_become 2 none], w ∈ BIG from List.forall_mem_cons.mpr ⟨bk_446, List.forall_mem_cons.mpr ⟨bk_447, List.forall_mem_cons.mpr ⟨bk_69, List.forall_mem_cons.mpr ⟨bk_448, fun _ h => absurd h List.not_mem_nil⟩⟩⟩⟩, by decide +kernel, by decide +kernel, by decide +kernel⟩
theorem wok_X3_size : wok M_X3_size := ⟨show ∀ w ∈ [Cond.instanceMethod yX3_size, Cond.selects RX3 yX3_size yX3_size, Cond.initialized RX3, Cond.code yX3_size cX3_size 1 (some .int)], w ∈ BIG from List.forall_mem_cons.mpr ⟨bk_298, List.forall_mem_cons.mpr ⟨bk_299, List.forall_mem_cons.mpr ⟨bk_69, List.forall_mem_cons.mpr ⟨bk_300, fun _ h => absurd h List.not_mem_nil⟩⟩⟩⟩, by decide +kernel, by decide +kernel, by decide +kernel⟩
theorem wok_X3_isFull : wok M_X3_isFull := ⟨show ∀ w ∈ [Cond.instanceMethod yX3_isFull, Cond.selects RX3 yX3_isFull yX3_isFull, Cond.initialized RX3, Cond.code yX3_isFull cX3_isFull 1 (some .boolean)], w ∈ BIG from List.forall_mem_cons.mpr ⟨bk_606, List.forall_mem_cons.mpr ⟨bk_607, List.forall_mem_cons.mpr ⟨bk_69, List.forall_mem_cons.mpr ⟨bk_608, fun _ h => absurd h List.not_mem_nil⟩⟩⟩⟩, by decide +kernel, by decide +kernel, by decide +kernel⟩
theorem wok_X3_runs : wok M_X3_runs := ⟨show ∀ w ∈ [Cond.instanceMethod yX3_runs, Cond.selects RX3 yX3_runs yX3_runs, Cond.initialized RX3, Cond.code yX3_runs cX3_runs 1 (some .int)], w ∈ BIG from List.forall_mem_cons.mpr ⟨bk_342, List.forall_mem_cons.mpr ⟨bk_343, List.forall_mem_cons.mpr ⟨bk_69, List.forall_mem_cons.mpr ⟨bk_344, fun _ h => absurd h List.not_mem_nil⟩⟩⟩⟩, by decide +kernel, by decide +kernel, by decide +kernel⟩
theorem wok_X3_eyes : wok M_X3_eyes := ⟨show ∀ w ∈ [Cond.instanceMethod yX3_eyes, Cond.selects RX3 yX3_eyes yX3_eyes, Cond.initialized RX3, Cond.code yX3_eyes cX3_eyes 1 (some .int)], w ∈ BIG from List.forall_mem_cons.mpr ⟨bk_665, List.forall_mem_cons.mpr ⟨bk_666, List.forall_mem_cons.mpr ⟨bk_69, List.forall_mem_cons.mpr ⟨bk_667, fun _ h => absurd h List.not_mem_nil⟩⟩⟩⟩, by decide +kernel, by decide +kernel, by decide +kernel⟩
theorem wok_X3_latest : wok M_X3_latest := ⟨show ∀ w ∈ [Cond.instanceMethod yX3_latest, Cond.selects RX3 yX3_latest yX3_latest, Cond.initialized RX3, Cond.code yX3_latest cX3_latest 1 (some .int)], w ∈ BIG from List.forall_mem_cons.mpr ⟨bk_661, List.forall_mem_cons.mpr ⟨bk_662, List.forall_mem_cons.mpr ⟨bk_69, List.forall_mem_cons.mpr ⟨bk_663, fun _ h => absurd h List.not_mem_nil⟩⟩⟩⟩, by decide +kernel, by decide +kernel, by decide +kernel⟩
theorem wok_X3_fewer : wok M_X3_fewer := ⟨show ∀ w ∈ [Cond.instanceMethod yX3_fewer, Cond.selects RX3 yX3_fewer yX3_fewer, Cond.initialized RX3, Cond.code yX3_fewer cX3_fewer 1 (some .int)], w ∈ BIG from List.forall_mem_cons.mpr ⟨bk_699, List.forall_mem_cons.mpr ⟨bk_700, List.forall_mem_cons.mpr ⟨bk_69, List.forall_mem_cons.mpr ⟨bk_701, fun _ h => absurd h List.not_mem_nil⟩⟩⟩⟩, by decide +kernel, by decide +kernel, by decide +kernel⟩
theorem wok_X3_isRun : wok M_X3_isRun := ⟨show ∀ w ∈ [Cond.instanceMethod yX3_isRun, Cond.selects RX3 yX3_isRun yX3_isRun, Cond.initialized RX3, Cond.code yX3_isRun cX3_isRun 2 (some .boolean)], w ∈ BIG from List.forall_mem_cons.mpr ⟨bk_350, List.forall_mem_cons.mpr ⟨bk_351, List.forall_mem_cons.mpr ⟨bk_69, List.forall_mem_cons.mpr ⟨bk_352, fun _ h => absurd h List.not_mem_nil⟩⟩⟩⟩, by decide +kernel, by decide +kernel, by decide +kernel⟩
theorem wok_X3_isPlace : wok M_X3_isPlace := ⟨show ∀ w ∈ [Cond.instanceMethod yX3_isPlace, Cond.selects RX3 yX3_isPlace yX3_isPlace, Cond.initialized RX3, Cond.code yX3_isPlace cX3_isPlace 2 (some .boolean)], w ∈ BIG from List.forall_mem_cons.mpr ⟨bk_746, List.forall_mem_cons.mpr ⟨bk_747, List.forall_mem_cons.mpr ⟨bk_69, List.forall_mem_cons.mpr ⟨bk_748, fun _ h => absurd h List.not_mem_nil⟩⟩⟩⟩, by decide +kernel, by decide +kernel, by decide +kernel⟩
theorem wok_X3_startOf : wok M_X3_startOf := ⟨show ∀ w ∈ [Cond.instanceMethod yX3_startOf, Cond.selects RX3 yX3_startOf yX3_startOf, Cond.initialized RX3, Cond.code yX3_startOf cX3_startOf 3 (some .int)], w ∈ BIG from List.forall_mem_cons.mpr ⟨bk_362, List.forall_mem_cons.mpr ⟨bk_363, List.forall_mem_cons.mpr ⟨bk_69, List.forall_mem_cons.mpr ⟨bk_364, fun _ h => absurd h List.not_mem_nil⟩⟩⟩⟩, by decide +kernel, by decide +kernel, by decide +kernel⟩
theorem wok_X3_endOf : wok M_X3_endOf := ⟨show ∀ w ∈ [Cond.instanceMethod yX3_endOf, Cond.selects RX3 yX3_endOf yX3_endOf, Cond.initialized RX3, Cond.code yX3_endOf cX3_endOf 3 (some .int)], w ∈ BIG from List.forall_mem_cons.mpr ⟨bk_358, List.forall_mem_cons.mpr ⟨bk_359, List.forall_mem_cons.mpr ⟨bk_69, List.forall_mem_cons.mpr ⟨bk_360, fun _ h => absurd h List.not_mem_nil⟩⟩⟩⟩, by decide +kernel, by decide +kernel, by decide +kernel⟩
theorem wok_X3_sizeOf : wok M_X3_sizeOf := ⟨show ∀ w ∈ [Cond.instanceMethod yX3_sizeOf, Cond.selects RX3 yX3_sizeOf yX3_sizeOf, Cond.initialized RX3, Cond.code yX3_sizeOf cX3_sizeOf 2 (some .int)], w ∈ BIG from List.forall_mem_cons.mpr ⟨bk_354, List.forall_mem_cons.mpr ⟨bk_355, List.forall_mem_cons.mpr ⟨bk_69, List.forall_mem_cons.mpr ⟨bk_356, fun _ h => absurd h List.not_mem_nil⟩⟩⟩⟩, by decide +kernel, by decide +kernel, by decide +kernel⟩
theorem wok_X3_entriesIn : wok M_X3_entriesIn := ⟨show ∀ w ∈ [Cond.instanceMethod yX3_entriesIn, Cond.selects RX3 yX3_entriesIn yX3_entriesIn, Cond.initialized RX3, Cond.code yX3_entriesIn cX3_entriesIn 5 (some .int)], w ∈ BIG from List.forall_mem_cons.mpr ⟨bk_669, List.forall_mem_cons.mpr ⟨bk_670, List.forall_mem_cons.mpr ⟨bk_69, List.forall_mem_cons.mpr ⟨bk_671, fun _ h => absurd h List.not_mem_nil⟩⟩⟩⟩, by decide +kernel, by decide +kernel, by decide +kernel⟩
theorem wok_X3_keysIn : wok M_X3_keysIn := ⟨show ∀ w ∈ [Cond.instanceMethod yX3_keysIn, Cond.selects RX3 yX3_keysIn yX3_keysIn, Cond.initialized RX3, Cond.code yX3_keysIn cX3_keysIn 4 (some .int)], w ∈ BIG from List.forall_mem_cons.mpr ⟨bk_754, List.forall_mem_cons.mpr ⟨bk_755, List.forall_mem_cons.mpr ⟨bk_69, List.forall_mem_cons.mpr ⟨bk_756, fun _ h => absurd h List.not_mem_nil⟩⟩⟩⟩, by decide +kernel, by decide +kernel, by decide +kernel⟩
theorem wok_X3_isEye : wok M_X3_isEye := ⟨show ∀ w ∈ [Cond.instanceMethod yX3_isEye, Cond.selects RX3 yX3_isEye yX3_isEye, Cond.initialized RX3, Cond.code yX3_isEye cX3_isEye 2 (some .boolean)], w ∈ BIG from List.forall_mem_cons.mpr ⟨bk_322, List.forall_mem_cons.mpr ⟨bk_323, List.forall_mem_cons.mpr ⟨bk_69, List.forall_mem_cons.mpr ⟨bk_324, fun _ h => absurd h List.not_mem_nil⟩⟩⟩⟩, by decide +kernel, by decide +kernel, by decide +kernel⟩
theorem wok_X3_isView : wok M_X3_isView := ⟨show ∀ w ∈ [Cond.instanceMethod yX3_isView, Cond.selects RX3 yX3_isView yX3_isView, Cond.initialized RX3, Cond.code yX3_isView cX3_isView 2 (some .boolean)], w ∈ BIG from List.forall_mem_cons.mpr ⟨bk_713, List.forall_mem_cons.mpr ⟨bk_714, List.forall_mem_cons.mpr ⟨bk_69, List.forall_mem_cons.mpr ⟨bk_715, fun _ h => absurd h List.not_mem_nil⟩⟩⟩⟩, by decide +kernel, by decide +kernel, by decide +kernel⟩
theorem wok_X3_limitOf : wok M_X3_limitOf := ⟨show ∀ w ∈ [Cond.instanceMethod yX3_limitOf, Cond.selects RX3 yX3_limitOf yX3_limitOf, Cond.initialized RX3, Cond.code yX3_limitOf cX3_limitOf 2 (some .int)], w ∈ BIG from List.forall_mem_cons.mpr ⟨bk_318, List.forall_mem_cons.mpr ⟨bk_319, List.forall_mem_cons.mpr ⟨bk_69, List.forall_mem_cons.mpr ⟨bk_320, fun _ h => absurd h List.not_mem_nil⟩⟩⟩⟩, by decide +kernel, by decide +kernel, by decide +kernel⟩
theorem wok_X3_eyesBefore : wok M_X3_eyesBefore := ⟨show ∀ w ∈ [Cond.instanceMethod yX3_eyesBefore, Cond.selects RX3 yX3_eyesBefore yX3_eyesBefore, Cond.initialized RX3, Cond.code yX3_eyesBefore cX3_eyesBefore 4 (some .int)], w ∈ BIG from List.forall_mem_cons.mpr ⟨bk_381, List.forall_mem_cons.mpr ⟨bk_382, List.forall_mem_cons.mpr ⟨bk_69, List.forall_mem_cons.mpr ⟨bk_383, fun _ h => absurd h List.not_mem_nil⟩⟩⟩⟩, by decide +kernel, by decide +kernel, by decide +kernel⟩
theorem wok_X3_newestFor : wok M_X3_newestFor := ⟨show ∀ w ∈ [Cond.instanceMethod yX3_newestFor, Cond.selects RX3 yX3_newestFor yX3_newestFor, Cond.initialized RX3, Cond.code yX3_newestFor cX3_newestFor 4 (some .int)], w ∈ BIG from List.forall_mem_cons.mpr ⟨bk_326, List.forall_mem_cons.mpr ⟨bk_327, List.forall_mem_cons.mpr ⟨bk_69, List.forall_mem_cons.mpr ⟨bk_328, fun _ h => absurd h List.not_mem_nil⟩⟩⟩⟩, by decide +kernel, by decide +kernel, by decide +kernel⟩
theorem wok_X3_valueFor : wok M_X3_valueFor := ⟨show ∀ w ∈ [Cond.instanceMethod yX3_valueFor, Cond.selects RX3 yX3_valueFor yX3_valueFor, Cond.initialized RX3, Cond.code yX3_valueFor cX3_valueFor 3 (some .int)], w ∈ BIG from List.forall_mem_cons.mpr ⟨bk_734, List.forall_mem_cons.mpr ⟨bk_735, List.forall_mem_cons.mpr ⟨bk_69, List.forall_mem_cons.mpr ⟨bk_736, fun _ h => absurd h List.not_mem_nil⟩⟩⟩⟩, by decide +kernel, by decide +kernel, by decide +kernel⟩
theorem wok_X3_isSeen : wok M_X3_isSeen := ⟨show ∀ w ∈ [Cond.instanceMethod yX3_isSeen, Cond.selects RX3 yX3_isSeen yX3_isSeen, Cond.initialized RX3, Cond.code yX3_isSeen cX3_isSeen 4 (some .boolean)], w ∈ BIG from List.forall_mem_cons.mpr ⟨bk_310, List.forall_mem_cons.mpr ⟨bk_311, List.forall_mem_cons.mpr ⟨bk_69, List.forall_mem_cons.mpr ⟨bk_312, fun _ h => absurd h List.not_mem_nil⟩⟩⟩⟩, by decide +kernel, by decide +kernel, by decide +kernel⟩
theorem wok_X3_canOpen : wok M_X3_canOpen := ⟨show ∀ w ∈ [Cond.instanceMethod yX3_canOpen, Cond.selects RX3 yX3_canOpen yX3_canOpen, Cond.initialized RX3, Cond.code yX3_canOpen cX3_canOpen 1 (some .boolean)], w ∈ BIG from List.forall_mem_cons.mpr ⟨bk_638, List.forall_mem_cons.mpr ⟨bk_639, List.forall_mem_cons.mpr ⟨bk_69, List.forall_mem_cons.mpr ⟨bk_640, fun _ h => absurd h List.not_mem_nil⟩⟩⟩⟩, by decide +kernel, by decide +kernel, by decide +kernel⟩
theorem wok_X3_canFlush : wok M_X3_canFlush := ⟨show ∀ w ∈ [Cond.instanceMethod yX3_canFlush, Cond.selects RX3 yX3_canFlush yX3_canFlush, Cond.initialized RX3, Cond.code yX3_canFlush cX3_canFlush 1 (some .boolean)], w ∈ BIG from List.forall_mem_cons.mpr ⟨bk_623, List.forall_mem_cons.mpr ⟨bk_624, List.forall_mem_cons.mpr ⟨bk_69, List.forall_mem_cons.mpr ⟨bk_625, fun _ h => absurd h List.not_mem_nil⟩⟩⟩⟩, by decide +kernel, by decide +kernel, by decide +kernel⟩
theorem wok_X3_canMerge : wok M_X3_canMerge := ⟨show ∀ w ∈ [Cond.instanceMethod yX3_canMerge, Cond.selects RX3 yX3_canMerge yX3_canMerge, Cond.initialized RX3, Cond.code yX3_canMerge cX3_canMerge 3 (some .boolean)], w ∈ BIG from List.forall_mem_cons.mpr ⟨bk_346, List.forall_mem_cons.mpr ⟨bk_347, List.forall_mem_cons.mpr ⟨bk_69, List.forall_mem_cons.mpr ⟨bk_348, fun _ h => absurd h List.not_mem_nil⟩⟩⟩⟩, by decide +kernel, by decide +kernel, by decide +kernel⟩
theorem wok_X3_savedBy : wok M_X3_savedBy := ⟨show ∀ w ∈ [Cond.instanceMethod yX3_savedBy, Cond.selects RX3 yX3_savedBy yX3_savedBy, Cond.initialized RX3, Cond.code yX3_savedBy cX3_savedBy 2 (some .int)], w ∈ BIG from List.forall_mem_cons.mpr ⟨bk_438, List.forall_mem_cons.mpr ⟨bk_439, List.forall_mem_cons.mpr ⟨bk_69, List.forall_mem_cons.mpr ⟨bk_440, fun _ h => absurd h List.not_mem_nil⟩⟩⟩⟩, by decide +kernel, by decide +kernel, by decide +kernel⟩
theorem wok_X3_addWrite : wok M_X3_addWrite := ⟨show ∀ w ∈ [Cond.instanceMethod yX3_addWrite, Cond.selects RX3 yX3_addWrite yX3_addWrite, Cond.initialized RX3, Cond.code yX3_addWrite cX3_addWrite 4 none], w ∈ BIG from List.forall_mem_cons.mpr ⟨bk_610, List.forall_mem_cons.mpr ⟨bk_611, List.forall_mem_cons.mpr ⟨bk_69, List.forall_mem_cons.mpr ⟨bk_612, fun _ h => absurd h List.not_mem_nil⟩⟩⟩⟩, by decide +kernel, by decide +kernel, by decide +kernel⟩
theorem wok_X3_addEye : wok M_X3_addEye := ⟨show ∀ w ∈ [Cond.instanceMethod yX3_addEye, Cond.selects RX3 yX3_addEye yX3_addEye, Cond.initialized RX3, Cond.code yX3_addEye cX3_addEye 1 none], w ∈ BIG from List.forall_mem_cons.mpr ⟨bk_642, List.forall_mem_cons.mpr ⟨bk_643, List.forall_mem_cons.mpr ⟨bk_69, List.forall_mem_cons.mpr ⟨bk_644, fun _ h => absurd h List.not_mem_nil⟩⟩⟩⟩, by decide +kernel, by decide +kernel, by decide +kernel⟩
theorem wok_X3_dropEye : wok M_X3_dropEye := ⟨show ∀ w ∈ [Cond.instanceMethod yX3_dropEye, Cond.selects RX3 yX3_dropEye yX3_dropEye, Cond.initialized RX3, Cond.code yX3_dropEye cX3_dropEye 3 none], w ∈ BIG from List.forall_mem_cons.mpr ⟨bk_650, List.forall_mem_cons.mpr ⟨bk_651, List.forall_mem_cons.mpr ⟨bk_69, List.forall_mem_cons.mpr ⟨bk_652, fun _ h => absurd h List.not_mem_nil⟩⟩⟩⟩, by decide +kernel, by decide +kernel, by decide +kernel⟩
theorem wok_X3_dropAllEyes : wok M_X3_dropAllEyes := ⟨show ∀ w ∈ [Cond.instanceMethod yX3_dropAllEyes, Cond.selects RX3 yX3_dropAllEyes yX3_dropAllEyes, Cond.initialized RX3, Cond.code yX3_dropAllEyes cX3_dropAllEyes 1 none], w ∈ BIG from List.forall_mem_cons.mpr ⟨bk_458, List.forall_mem_cons.mpr ⟨bk_459, List.forall_mem_cons.mpr ⟨bk_69, List.forall_mem_cons.mpr ⟨bk_460, fun _ h => absurd h List.not_mem_nil⟩⟩⟩⟩, by decide +kernel, by decide +kernel, by decide +kernel⟩
theorem wok_X3_flushMemory : wok M_X3_flushMemory := ⟨show ∀ w ∈ [Cond.instanceMethod yX3_flushMemory, Cond.selects RX3 yX3_flushMemory yX3_flushMemory, Cond.initialized RX3, Cond.code yX3_flushMemory cX3_flushMemory 2 (some .int)], w ∈ BIG from List.forall_mem_cons.mpr ⟨bk_463, List.forall_mem_cons.mpr ⟨bk_464, List.forall_mem_cons.mpr ⟨bk_69, List.forall_mem_cons.mpr ⟨bk_465, fun _ h => absurd h List.not_mem_nil⟩⟩⟩⟩, by decide +kernel, by decide +kernel, by decide +kernel⟩
theorem wok_X3_mergeRuns : wok M_X3_mergeRuns := ⟨show ∀ w ∈ [Cond.instanceMethod yX3_mergeRuns, Cond.selects RX3 yX3_mergeRuns yX3_mergeRuns, Cond.initialized RX3, Cond.code yX3_mergeRuns cX3_mergeRuns 7 (some .int)], w ∈ BIG from List.forall_mem_cons.mpr ⟨bk_467, List.forall_mem_cons.mpr ⟨bk_468, List.forall_mem_cons.mpr ⟨bk_69, List.forall_mem_cons.mpr ⟨bk_469, fun _ h => absurd h List.not_mem_nil⟩⟩⟩⟩, by decide +kernel, by decide +kernel, by decide +kernel⟩
theorem wok_X3_tryPut : wok M_X3_tryPut := ⟨show ∀ w ∈ [Cond.instanceMethod yX3_tryPut, Cond.selects RX3 yX3_tryPut yX3_tryPut, Cond.initialized RX3, Cond.code yX3_tryPut cX3_tryPut 3 (some .boolean)], w ∈ BIG from List.forall_mem_cons.mpr ⟨bk_596, List.forall_mem_cons.mpr ⟨bk_597, List.forall_mem_cons.mpr ⟨bk_69, List.forall_mem_cons.mpr ⟨bk_598, fun _ h => absurd h List.not_mem_nil⟩⟩⟩⟩, by decide +kernel, by decide +kernel, by decide +kernel⟩
theorem wok_X3_tryBury : wok M_X3_tryBury := ⟨show ∀ w ∈ [Cond.instanceMethod yX3_tryBury, Cond.selects RX3 yX3_tryBury yX3_tryBury, Cond.initialized RX3, Cond.code yX3_tryBury cX3_tryBury 3 (some .boolean)], w ∈ BIG from List.forall_mem_cons.mpr ⟨bk_615, List.forall_mem_cons.mpr ⟨bk_616, List.forall_mem_cons.mpr ⟨bk_69, List.forall_mem_cons.mpr ⟨bk_617, fun _ h => absurd h List.not_mem_nil⟩⟩⟩⟩, by decide +kernel, by decide +kernel, by decide +kernel⟩
theorem wok_X3_tryOpen : wok M_X3_tryOpen := ⟨show ∀ w ∈ [Cond.instanceMethod yX3_tryOpen, Cond.selects RX3 yX3_tryOpen yX3_tryOpen, Cond.initialized RX3, Cond.code yX3_tryOpen cX3_tryOpen 1 (some .boolean)], w ∈ BIG from List.forall_mem_cons.mpr ⟨bk_634, List.forall_mem_cons.mpr ⟨bk_635, List.forall_mem_cons.mpr ⟨bk_69, List.forall_mem_cons.mpr ⟨bk_636, fun _ h => absurd h List.not_mem_nil⟩⟩⟩⟩, by decide +kernel, by decide +kernel, by decide +kernel⟩
theorem wok_X3_tryClose : wok M_X3_tryClose := ⟨show ∀ w ∈ [Cond.instanceMethod yX3_tryClose, Cond.selects RX3 yX3_tryClose yX3_tryClose, Cond.initialized RX3, Cond.code yX3_tryClose cX3_tryClose 2 (some .boolean)], w ∈ BIG from List.forall_mem_cons.mpr ⟨bk_646, List.forall_mem_cons.mpr ⟨bk_647, List.forall_mem_cons.mpr ⟨bk_69, List.forall_mem_cons.mpr ⟨bk_648, fun _ h => absurd h List.not_mem_nil⟩⟩⟩⟩, by decide +kernel, by decide +kernel, by decide +kernel⟩
theorem wok_X3_tryFlush : wok M_X3_tryFlush := ⟨show ∀ w ∈ [Cond.instanceMethod yX3_tryFlush, Cond.selects RX3 yX3_tryFlush yX3_tryFlush, Cond.initialized RX3, Cond.code yX3_tryFlush cX3_tryFlush 1 (some .boolean)], w ∈ BIG from List.forall_mem_cons.mpr ⟨bk_619, List.forall_mem_cons.mpr ⟨bk_620, List.forall_mem_cons.mpr ⟨bk_69, List.forall_mem_cons.mpr ⟨bk_621, fun _ h => absurd h List.not_mem_nil⟩⟩⟩⟩, by decide +kernel, by decide +kernel, by decide +kernel⟩
theorem wok_X3_tryMerge : wok M_X3_tryMerge := ⟨show ∀ w ∈ [Cond.instanceMethod yX3_tryMerge, Cond.selects RX3 yX3_tryMerge yX3_tryMerge, Cond.initialized RX3, Cond.code yX3_tryMerge cX3_tryMerge 2 (some .boolean)], w ∈ BIG from List.forall_mem_cons.mpr ⟨bk_628, List.forall_mem_cons.mpr ⟨bk_629, List.forall_mem_cons.mpr ⟨bk_69, List.forall_mem_cons.mpr ⟨bk_630, fun _ h => absurd h List.not_mem_nil⟩⟩⟩⟩, by decide +kernel, by decide +kernel, by decide +kernel⟩
theorem wok_X4_init : wok M_X4_init := ⟨show ∀ w ∈ [Cond.instanceMethod yX4_init, Cond.initialized RX4, Cond.code yX4_init cX4_init 1 none], w ∈ BIG from List.forall_mem_cons.mpr ⟨bk_156, List.forall_mem_cons.mpr ⟨bk_68, List.forall_mem_cons.mpr ⟨bk_157, fun _ h => absurd h List.not_mem_nil⟩⟩⟩, by decide +kernel, by decide +kernel, by decide +kernel⟩
theorem wok_X4_length : wok M_X4_length := ⟨show ∀ w ∈ [Cond.instanceMethod yX4_length, Cond.selects RX4 yX4_length yX4_length, Cond.initialized RX4, Cond.code yX4_length cX4_length 1 (some .int)], w ∈ BIG from List.forall_mem_cons.mpr ⟨bk_259, List.forall_mem_cons.mpr ⟨bk_260, List.forall_mem_cons.mpr ⟨bk_68, List.forall_mem_cons.mpr ⟨bk_261, fun _ h => absurd h List.not_mem_nil⟩⟩⟩⟩, by decide +kernel, by decide +kernel, by decide +kernel⟩
theorem wok_X4_isFull : wok M_X4_isFull := ⟨show ∀ w ∈ [Cond.instanceMethod yX4_isFull, Cond.selects RX4 yX4_isFull yX4_isFull, Cond.initialized RX4, Cond.code yX4_isFull cX4_isFull 1 (some .boolean)], w ∈ BIG from List.forall_mem_cons.mpr ⟨bk_548, List.forall_mem_cons.mpr ⟨bk_549, List.forall_mem_cons.mpr ⟨bk_68, List.forall_mem_cons.mpr ⟨bk_550, fun _ h => absurd h List.not_mem_nil⟩⟩⟩⟩, by decide +kernel, by decide +kernel, by decide +kernel⟩
theorem wok_X4_addSign : wok M_X4_addSign := ⟨show ∀ w ∈ [Cond.instanceMethod yX4_addSign, Cond.selects RX4 yX4_addSign yX4_addSign, Cond.initialized RX4, Cond.code yX4_addSign cX4_addSign 2 none], w ∈ BIG from List.forall_mem_cons.mpr ⟨bk_568, List.forall_mem_cons.mpr ⟨bk_569, List.forall_mem_cons.mpr ⟨bk_68, List.forall_mem_cons.mpr ⟨bk_570, fun _ h => absurd h List.not_mem_nil⟩⟩⟩⟩, by decide +kernel, by decide +kernel, by decide +kernel⟩
theorem wok_X4_empty : wok M_X4_empty := ⟨show ∀ w ∈ [Cond.instanceMethod yX4_empty, Cond.selects RX4 yX4_empty yX4_empty, Cond.initialized RX4, Cond.code yX4_empty cX4_empty 1 none], w ∈ BIG from List.forall_mem_cons.mpr ⟨bk_263, List.forall_mem_cons.mpr ⟨bk_264, List.forall_mem_cons.mpr ⟨bk_68, List.forall_mem_cons.mpr ⟨bk_265, fun _ h => absurd h List.not_mem_nil⟩⟩⟩⟩, by decide +kernel, by decide +kernel, by decide +kernel⟩
theorem wok_X4_signAt : wok M_X4_signAt := ⟨show ∀ w ∈ [Cond.instanceMethod yX4_signAt, Cond.selects RX4 yX4_signAt yX4_signAt, Cond.initialized RX4, Cond.code yX4_signAt cX4_signAt 2 (some .int)], w ∈ BIG from List.forall_mem_cons.mpr ⟨bk_275, List.forall_mem_cons.mpr ⟨bk_276, List.forall_mem_cons.mpr ⟨bk_68, List.forall_mem_cons.mpr ⟨bk_277, fun _ h => absurd h List.not_mem_nil⟩⟩⟩⟩, by decide +kernel, by decide +kernel, by decide +kernel⟩
theorem wok_X4_isDigit : wok M_X4_isDigit := ⟨show ∀ w ∈ [Cond.instanceMethod yX4_isDigit, Cond.selects RX4 yX4_isDigit yX4_isDigit, Cond.initialized RX4, Cond.code yX4_isDigit cX4_isDigit 2 (some .boolean)], w ∈ BIG from List.forall_mem_cons.mpr ⟨bk_286, List.forall_mem_cons.mpr ⟨bk_287, List.forall_mem_cons.mpr ⟨bk_68, List.forall_mem_cons.mpr ⟨bk_288, fun _ h => absurd h List.not_mem_nil⟩⟩⟩⟩, by decide +kernel, by decide +kernel, by decide +kernel⟩
theorem wok_X4_digitsAt : wok M_X4_digitsAt := ⟨show ∀ w ∈ [Cond.instanceMethod yX4_digitsAt, Cond.selects RX4 yX4_digitsAt yX4_digitsAt, Cond.initialized RX4, Cond.code yX4_digitsAt cX4_digitsAt 5 (some .int)], w ∈ BIG from List.forall_mem_cons.mpr ⟨bk_290, List.forall_mem_cons.mpr ⟨bk_291, List.forall_mem_cons.mpr ⟨bk_68, List.forall_mem_cons.mpr ⟨bk_292, fun _ h => absurd h List.not_mem_nil⟩⟩⟩⟩, by decide +kernel, by decide +kernel, by decide +kernel⟩
theorem wok_X4_firstError : wok M_X4_firstError := ⟨show ∀ w ∈ [Cond.instanceMethod yX4_firstError, Cond.selects RX4 yX4_firstError yX4_firstError, Cond.initialized RX4, Cond.code yX4_firstError cX4_firstError 4 (some .int)], w ∈ BIG from List.forall_mem_cons.mpr ⟨bk_271, List.forall_mem_cons.mpr ⟨bk_272, List.forall_mem_cons.mpr ⟨bk_68, List.forall_mem_cons.mpr ⟨bk_273, fun _ h => absurd h List.not_mem_nil⟩⟩⟩⟩, by decide +kernel, by decide +kernel, by decide +kernel⟩
theorem wok_X4_digitsOf : wok M_X4_digitsOf := ⟨show ∀ w ∈ [Cond.static yX4_digitsOf, Cond.initialized RX4, Cond.code yX4_digitsOf cX4_digitsOf 1 (some .int)], w ∈ BIG from List.forall_mem_cons.mpr ⟨bk_279, List.forall_mem_cons.mpr ⟨bk_68, List.forall_mem_cons.mpr ⟨bk_280, fun _ h => absurd h List.not_mem_nil⟩⟩⟩, by decide +kernel, by decide +kernel, by decide +kernel⟩
theorem wok_X4_digitFits : wok M_X4_digitFits := ⟨show ∀ w ∈ [Cond.instanceMethod yX4_digitFits, Cond.selects RX4 yX4_digitFits yX4_digitFits, Cond.initialized RX4, Cond.code yX4_digitFits cX4_digitFits 3 (some .boolean)], w ∈ BIG from List.forall_mem_cons.mpr ⟨bk_283, List.forall_mem_cons.mpr ⟨bk_0, List.forall_mem_cons.mpr ⟨bk_68, List.forall_mem_cons.mpr ⟨bk_284, fun _ h => absurd h List.not_mem_nil⟩⟩⟩⟩, by decide +kernel, by decide +kernel, by decide +kernel⟩
theorem wok_X5_init : wok M_X5_init := ⟨show ∀ w ∈ [Cond.instanceMethod yX5_init, Cond.initialized RX5, Cond.code yX5_init cX5_init 1 none], w ∈ BIG from List.forall_mem_cons.mpr ⟨bk_224, List.forall_mem_cons.mpr ⟨bk_71, List.forall_mem_cons.mpr ⟨bk_225, fun _ h => absurd h List.not_mem_nil⟩⟩⟩, by decide +kernel, by decide +kernel, by decide +kernel⟩
theorem wok_X5_look : wok M_X5_look := ⟨show ∀ w ∈ [Cond.instanceMethod yX5_look, Cond.selects RX5 yX5_look yX5_look, Cond.initialized RX5, Cond.code yX5_look cX5_look 6 none], w ∈ BIG from List.forall_mem_cons.mpr ⟨bk_678, List.forall_mem_cons.mpr ⟨bk_679, List.forall_mem_cons.mpr ⟨bk_71, List.forall_mem_cons.mpr ⟨bk_680, fun _ h => absurd h List.not_mem_nil⟩⟩⟩⟩, by decide +kernel, by decide +kernel, by decide +kernel⟩
theorem wok_X5_sum : wok M_X5_sum := ⟨show ∀ w ∈ [Cond.instanceMethod yX5_sum, Cond.selects RX5 yX5_sum yX5_sum, Cond.initialized RX5, Cond.code yX5_sum cX5_sum 3 (some .int)], w ∈ BIG from List.forall_mem_cons.mpr ⟨bk_695, List.forall_mem_cons.mpr ⟨bk_696, List.forall_mem_cons.mpr ⟨bk_71, List.forall_mem_cons.mpr ⟨bk_697, fun _ h => absurd h List.not_mem_nil⟩⟩⟩⟩, by decide +kernel, by decide +kernel, by decide +kernel⟩
theorem wok_X5_seenIn : wok M_X5_seenIn := ⟨show ∀ w ∈ [Cond.instanceMethod yX5_seenIn, Cond.selects RX5 yX5_seenIn yX5_seenIn, Cond.initialized RX5, Cond.code yX5_seenIn cX5_seenIn 5 (some .int)], w ∈ BIG from List.forall_mem_cons.mpr ⟨bk_691, List.forall_mem_cons.mpr ⟨bk_692, List.forall_mem_cons.mpr ⟨bk_71, List.forall_mem_cons.mpr ⟨bk_693, fun _ h => absurd h List.not_mem_nil⟩⟩⟩⟩, by decide +kernel, by decide +kernel, by decide +kernel⟩
theorem wok_X5_firstSeen : wok M_X5_firstSeen := ⟨show ∀ w ∈ [Cond.instanceMethod yX5_firstSeen, Cond.selects RX5 yX5_firstSeen yX5_firstSeen, Cond.initialized RX5, Cond.code yX5_firstSeen cX5_firstSeen 3 (some .int)], w ∈ BIG from List.forall_mem_cons.mpr ⟨bk_886, List.forall_mem_cons.mpr ⟨bk_887, List.forall_mem_cons.mpr ⟨bk_71, List.forall_mem_cons.mpr ⟨bk_888, fun _ h => absurd h List.not_mem_nil⟩⟩⟩⟩, by decide +kernel, by decide +kernel, by decide +kernel⟩
theorem wok_X6_init : wok M_X6_init := ⟨show ∀ w ∈ [Cond.instanceMethod yX6_init, Cond.initialized RX6, Cond.code yX6_init cX6_init 3 none], w ∈ BIG from List.forall_mem_cons.mpr ⟨bk_99, List.forall_mem_cons.mpr ⟨bk_65, List.forall_mem_cons.mpr ⟨bk_100, fun _ h => absurd h List.not_mem_nil⟩⟩⟩, by decide +kernel, by decide +kernel, by decide +kernel⟩
theorem wok_X6_size : wok M_X6_size := ⟨show ∀ w ∈ [Cond.instanceMethod yX6_size, Cond.selects RX6 yX6_size yX6_size, Cond.initialized RX6, Cond.code yX6_size cX6_size 1 (some .int)], w ∈ BIG from List.forall_mem_cons.mpr ⟨bk_302, List.forall_mem_cons.mpr ⟨bk_303, List.forall_mem_cons.mpr ⟨bk_65, List.forall_mem_cons.mpr ⟨bk_304, fun _ h => absurd h List.not_mem_nil⟩⟩⟩⟩, by decide +kernel, by decide +kernel, by decide +kernel⟩
theorem wok_X6_empty : wok M_X6_empty := ⟨show ∀ w ∈ [Cond.instanceMethod yX6_empty, Cond.selects RX6 yX6_empty yX6_empty, Cond.initialized RX6, Cond.code yX6_empty cX6_empty 1 none], w ∈ BIG from List.forall_mem_cons.mpr ⟨bk_370, List.forall_mem_cons.mpr ⟨bk_371, List.forall_mem_cons.mpr ⟨bk_65, List.forall_mem_cons.mpr ⟨bk_372, fun _ h => absurd h List.not_mem_nil⟩⟩⟩⟩, by decide +kernel, by decide +kernel, by decide +kernel⟩
theorem wok_X6_add : wok M_X6_add := ⟨show ∀ w ∈ [Cond.instanceMethod yX6_add, Cond.selects RX6 yX6_add yX6_add, Cond.initialized RX6, Cond.code yX6_add cX6_add 5 none], w ∈ BIG from List.forall_mem_cons.mpr ⟨bk_433, List.forall_mem_cons.mpr ⟨bk_434, List.forall_mem_cons.mpr ⟨bk_65, List.forall_mem_cons.mpr ⟨bk_435, fun _ h => absurd h List.not_mem_nil⟩⟩⟩⟩, by decide +kernel, by decide +kernel, by decide +kernel⟩
theorem wok_X6_numberAt : wok M_X6_numberAt := ⟨show ∀ w ∈ [Cond.instanceMethod yX6_numberAt, Cond.selects RX6 yX6_numberAt yX6_numberAt, Cond.initialized RX6, Cond.code yX6_numberAt cX6_numberAt 2 (some .int)], w ∈ BIG from List.forall_mem_cons.mpr ⟨bk_330, List.forall_mem_cons.mpr ⟨bk_331, List.forall_mem_cons.mpr ⟨bk_65, List.forall_mem_cons.mpr ⟨bk_332, fun _ h => absurd h List.not_mem_nil⟩⟩⟩⟩, by decide +kernel, by decide +kernel, by decide +kernel⟩
theorem wok_X6_firstAt : wok M_X6_firstAt := ⟨show ∀ w ∈ [Cond.instanceMethod yX6_firstAt, Cond.selects RX6 yX6_firstAt yX6_firstAt, Cond.initialized RX6, Cond.code yX6_firstAt cX6_firstAt 2 (some .int)], w ∈ BIG from List.forall_mem_cons.mpr ⟨bk_314, List.forall_mem_cons.mpr ⟨bk_315, List.forall_mem_cons.mpr ⟨bk_65, List.forall_mem_cons.mpr ⟨bk_316, fun _ h => absurd h List.not_mem_nil⟩⟩⟩⟩, by decide +kernel, by decide +kernel, by decide +kernel⟩
theorem wok_X6_lastAt : wok M_X6_lastAt := ⟨show ∀ w ∈ [Cond.instanceMethod yX6_lastAt, Cond.selects RX6 yX6_lastAt yX6_lastAt, Cond.initialized RX6, Cond.code yX6_lastAt cX6_lastAt 2 (some .int)], w ∈ BIG from List.forall_mem_cons.mpr ⟨bk_390, List.forall_mem_cons.mpr ⟨bk_391, List.forall_mem_cons.mpr ⟨bk_65, List.forall_mem_cons.mpr ⟨bk_392, fun _ h => absurd h List.not_mem_nil⟩⟩⟩⟩, by decide +kernel, by decide +kernel, by decide +kernel⟩
theorem wok_X6_valueAt : wok M_X6_valueAt := ⟨show ∀ w ∈ [Cond.instanceMethod yX6_valueAt, Cond.selects RX6 yX6_valueAt yX6_valueAt, Cond.initialized RX6, Cond.code yX6_valueAt cX6_valueAt 2 (some .int)], w ∈ BIG from List.forall_mem_cons.mpr ⟨bk_429, List.forall_mem_cons.mpr ⟨bk_430, List.forall_mem_cons.mpr ⟨bk_65, List.forall_mem_cons.mpr ⟨bk_431, fun _ h => absurd h List.not_mem_nil⟩⟩⟩⟩, by decide +kernel, by decide +kernel, by decide +kernel⟩
theorem wok_X6_isEntry : wok M_X6_isEntry := ⟨show ∀ w ∈ [Cond.instanceMethod yX6_isEntry, Cond.selects RX6 yX6_isEntry yX6_isEntry, Cond.initialized RX6, Cond.code yX6_isEntry cX6_isEntry 2 (some .boolean)], w ∈ BIG from List.forall_mem_cons.mpr ⟨bk_306, List.forall_mem_cons.mpr ⟨bk_307, List.forall_mem_cons.mpr ⟨bk_65, List.forall_mem_cons.mpr ⟨bk_308, fun _ h => absurd h List.not_mem_nil⟩⟩⟩⟩, by decide +kernel, by decide +kernel, by decide +kernel⟩
theorem wok_X6_concerns : wok M_X6_concerns := ⟨show ∀ w ∈ [Cond.instanceMethod yX6_concerns, Cond.selects RX6 yX6_concerns yX6_concerns, Cond.initialized RX6, Cond.code yX6_concerns cX6_concerns 3 (some .boolean)], w ∈ BIG from List.forall_mem_cons.mpr ⟨bk_334, List.forall_mem_cons.mpr ⟨bk_335, List.forall_mem_cons.mpr ⟨bk_65, List.forall_mem_cons.mpr ⟨bk_336, fun _ h => absurd h List.not_mem_nil⟩⟩⟩⟩, by decide +kernel, by decide +kernel, by decide +kernel⟩
theorem wok_X6_replace : wok M_X6_replace := ⟨show ∀ w ∈ [Cond.instanceMethod yX6_replace, Cond.selects RX6 yX6_replace yX6_replace, Cond.initialized RX6, Cond.code yX6_replace cX6_replace 6 none], w ∈ BIG from List.forall_mem_cons.mpr ⟨bk_450, List.forall_mem_cons.mpr ⟨bk_451, List.forall_mem_cons.mpr ⟨bk_65, List.forall_mem_cons.mpr ⟨bk_452, fun _ h => absurd h List.not_mem_nil⟩⟩⟩⟩, by decide +kernel, by decide +kernel, by decide +kernel⟩
theorem wok_X7_init : wok M_X7_init := ⟨show ∀ w ∈ [Cond.instanceMethod yX7_init, Cond.initialized RX7, Cond.code yX7_init cX7_init 3 none], w ∈ BIG from List.forall_mem_cons.mpr ⟨bk_85, List.forall_mem_cons.mpr ⟨bk_63, List.forall_mem_cons.mpr ⟨bk_86, fun _ h => absurd h List.not_mem_nil⟩⟩⟩, by decide +kernel, by decide +kernel, by decide +kernel⟩
theorem wok_X7_append : wok M_X7_append := ⟨show ∀ w ∈ [Cond.instanceMethod yX7_append, Cond.selects RX7 yX7_append yX7_append, Cond.initialized RX7, Cond.code yX7_append cX7_append 2 (some .int)], w ∈ BIG from List.forall_mem_cons.mpr ⟨bk_476, List.forall_mem_cons.mpr ⟨bk_477, List.forall_mem_cons.mpr ⟨bk_63, List.forall_mem_cons.mpr ⟨bk_478, fun _ h => absurd h List.not_mem_nil⟩⟩⟩⟩, by decide +kernel, by decide +kernel, by decide +kernel⟩
theorem wok_X7_clearText : wok M_X7_clearText := ⟨show ∀ w ∈ [Cond.instanceMethod yX7_clearText, Cond.selects RX7 yX7_clearText yX7_clearText, Cond.initialized RX7, Cond.code yX7_clearText cX7_clearText 2 (some .int)], w ∈ BIG from List.forall_mem_cons.mpr ⟨bk_255, List.forall_mem_cons.mpr ⟨bk_256, List.forall_mem_cons.mpr ⟨bk_63, List.forall_mem_cons.mpr ⟨bk_257, fun _ h => absurd h List.not_mem_nil⟩⟩⟩⟩, by decide +kernel, by decide +kernel, by decide +kernel⟩
theorem wok_X7_errorPosition : wok M_X7_errorPosition := ⟨show ∀ w ∈ [Cond.instanceMethod yX7_errorPosition, Cond.selects RX7 yX7_errorPosition yX7_errorPosition, Cond.initialized RX7, Cond.code yX7_errorPosition cX7_errorPosition 1 (some .int)], w ∈ BIG from List.forall_mem_cons.mpr ⟨bk_267, List.forall_mem_cons.mpr ⟨bk_268, List.forall_mem_cons.mpr ⟨bk_63, List.forall_mem_cons.mpr ⟨bk_269, fun _ h => absurd h List.not_mem_nil⟩⟩⟩⟩, by decide +kernel, by decide +kernel, by decide +kernel⟩
theorem wok_X7_load : wok M_X7_load := ⟨show ∀ w ∈ [Cond.instanceMethod yX7_load, Cond.selects RX7 yX7_load yX7_load, Cond.initialized RX7, Cond.code yX7_load cX7_load 3 (some .int)], w ∈ BIG from List.forall_mem_cons.mpr ⟨bk_575, List.forall_mem_cons.mpr ⟨bk_576, List.forall_mem_cons.mpr ⟨bk_63, List.forall_mem_cons.mpr ⟨bk_577, fun _ h => absurd h List.not_mem_nil⟩⟩⟩⟩, by decide +kernel, by decide +kernel, by decide +kernel⟩
theorem wok_X7_about : wok M_X7_about := ⟨show ∀ w ∈ [Cond.instanceMethod yX7_about, Cond.selects RX7 yX7_about yX7_about, Cond.initialized RX7, Cond.code yX7_about cX7_about 2 (some .int)], w ∈ BIG from List.forall_mem_cons.mpr ⟨bk_657, List.forall_mem_cons.mpr ⟨bk_658, List.forall_mem_cons.mpr ⟨bk_63, List.forall_mem_cons.mpr ⟨bk_659, fun _ h => absurd h List.not_mem_nil⟩⟩⟩⟩, by decide +kernel, by decide +kernel, by decide +kernel⟩
theorem wok_X7_get : wok M_X7_get := ⟨show ∀ w ∈ [Cond.instanceMethod yX7_get, Cond.selects RX7 yX7_get yX7_get, Cond.initialized RX7, Cond.code yX7_get cX7_get 4 (some .int)], w ∈ BIG from List.forall_mem_cons.mpr ⟨bk_708, List.forall_mem_cons.mpr ⟨bk_709, List.forall_mem_cons.mpr ⟨bk_63, List.forall_mem_cons.mpr ⟨bk_710, fun _ h => absurd h List.not_mem_nil⟩⟩⟩⟩, by decide +kernel, by decide +kernel, by decide +kernel⟩
theorem wok_X7_run : wok M_X7_run := ⟨show ∀ w ∈ [Cond.instanceMethod yX7_run, Cond.selects RX7 yX7_run yX7_run, Cond.initialized RX7, Cond.code yX7_run cX7_run 3 (some .int)], w ∈ BIG from List.forall_mem_cons.mpr ⟨bk_742, List.forall_mem_cons.mpr ⟨bk_743, List.forall_mem_cons.mpr ⟨bk_63, List.forall_mem_cons.mpr ⟨bk_744, fun _ h => absurd h List.not_mem_nil⟩⟩⟩⟩, by decide +kernel, by decide +kernel, by decide +kernel⟩
theorem wok_X7_write : wok M_X7_write := ⟨show ∀ w ∈ [Cond.instanceMethod yX7_write, Cond.selects RX7 yX7_write yX7_write, Cond.initialized RX7, Cond.code yX7_write cX7_write 5 (some .int)], w ∈ BIG from List.forall_mem_cons.mpr ⟨bk_776, List.forall_mem_cons.mpr ⟨bk_777, List.forall_mem_cons.mpr ⟨bk_63, List.forall_mem_cons.mpr ⟨bk_778, fun _ h => absurd h List.not_mem_nil⟩⟩⟩⟩, by decide +kernel, by decide +kernel, by decide +kernel⟩
theorem wok_X7_eye : wok M_X7_eye := ⟨show ∀ w ∈ [Cond.instanceMethod yX7_eye, Cond.selects RX7 yX7_eye yX7_eye, Cond.initialized RX7, Cond.code yX7_eye cX7_eye 2 (some .int)], w ∈ BIG from List.forall_mem_cons.mpr ⟨bk_787, List.forall_mem_cons.mpr ⟨bk_788, List.forall_mem_cons.mpr ⟨bk_63, List.forall_mem_cons.mpr ⟨bk_789, fun _ h => absurd h List.not_mem_nil⟩⟩⟩⟩, by decide +kernel, by decide +kernel, by decide +kernel⟩
theorem wok_X7_put : wok M_X7_put := ⟨show ∀ w ∈ [Cond.instanceMethod yX7_put, Cond.selects RX7 yX7_put yX7_put, Cond.initialized RX7, Cond.code yX7_put cX7_put 3 (some .int)], w ∈ BIG from List.forall_mem_cons.mpr ⟨bk_796, List.forall_mem_cons.mpr ⟨bk_797, List.forall_mem_cons.mpr ⟨bk_63, List.forall_mem_cons.mpr ⟨bk_798, fun _ h => absurd h List.not_mem_nil⟩⟩⟩⟩, by decide +kernel, by decide +kernel, by decide +kernel⟩
theorem wok_X7_bury : wok M_X7_bury := ⟨show ∀ w ∈ [Cond.instanceMethod yX7_bury, Cond.selects RX7 yX7_bury yX7_bury, Cond.initialized RX7, Cond.code yX7_bury cX7_bury 3 (some .int)], w ∈ BIG from List.forall_mem_cons.mpr ⟨bk_814, List.forall_mem_cons.mpr ⟨bk_815, List.forall_mem_cons.mpr ⟨bk_63, List.forall_mem_cons.mpr ⟨bk_816, fun _ h => absurd h List.not_mem_nil⟩⟩⟩⟩, by decide +kernel, by decide +kernel, by decide +kernel⟩
theorem wok_X7_open : wok M_X7_open := ⟨show ∀ w ∈ [Cond.instanceMethod yX7_open, Cond.selects RX7 yX7_open yX7_open, Cond.initialized RX7, Cond.code yX7_open cX7_open 1 (some .int)], w ∈ BIG from List.forall_mem_cons.mpr ⟨bk_822, List.forall_mem_cons.mpr ⟨bk_823, List.forall_mem_cons.mpr ⟨bk_63, List.forall_mem_cons.mpr ⟨bk_824, fun _ h => absurd h List.not_mem_nil⟩⟩⟩⟩, by decide +kernel, by decide +kernel, by decide +kernel⟩
theorem wok_X7_close : wok M_X7_close := ⟨show ∀ w ∈ [Cond.instanceMethod yX7_close, Cond.selects RX7 yX7_close yX7_close, Cond.initialized RX7, Cond.code yX7_close cX7_close 2 (some .int)], w ∈ BIG from List.forall_mem_cons.mpr ⟨bk_832, List.forall_mem_cons.mpr ⟨bk_833, List.forall_mem_cons.mpr ⟨bk_63, List.forall_mem_cons.mpr ⟨bk_834, fun _ h => absurd h List.not_mem_nil⟩⟩⟩⟩, by decide +kernel, by decide +kernel, by decide +kernel⟩
theorem wok_X7_flush : wok M_X7_flush := ⟨show ∀ w ∈ [Cond.instanceMethod yX7_flush, Cond.selects RX7 yX7_flush yX7_flush, Cond.initialized RX7, Cond.code yX7_flush cX7_flush 1 (some .int)], w ∈ BIG from List.forall_mem_cons.mpr ⟨bk_840, List.forall_mem_cons.mpr ⟨bk_841, List.forall_mem_cons.mpr ⟨bk_63, List.forall_mem_cons.mpr ⟨bk_842, fun _ h => absurd h List.not_mem_nil⟩⟩⟩⟩, by decide +kernel, by decide +kernel, by decide +kernel⟩
theorem wok_X7_merge : wok M_X7_merge := ⟨show ∀ w ∈ [Cond.instanceMethod yX7_merge, Cond.selects RX7 yX7_merge yX7_merge, Cond.initialized RX7, Cond.code yX7_merge cX7_merge 2 (some .int)], w ∈ BIG from List.forall_mem_cons.mpr ⟨bk_849, List.forall_mem_cons.mpr ⟨bk_850, List.forall_mem_cons.mpr ⟨bk_63, List.forall_mem_cons.mpr ⟨bk_851, fun _ h => absurd h List.not_mem_nil⟩⟩⟩⟩, by decide +kernel, by decide +kernel, by decide +kernel⟩
theorem wok_X7_undo : wok M_X7_undo := ⟨show ∀ w ∈ [Cond.instanceMethod yX7_undo, Cond.selects RX7 yX7_undo yX7_undo, Cond.initialized RX7, Cond.code yX7_undo cX7_undo 1 (some .int)], w ∈ BIG from List.forall_mem_cons.mpr ⟨bk_858, List.forall_mem_cons.mpr ⟨bk_859, List.forall_mem_cons.mpr ⟨bk_63, List.forall_mem_cons.mpr ⟨bk_860, fun _ h => absurd h List.not_mem_nil⟩⟩⟩⟩, by decide +kernel, by decide +kernel, by decide +kernel⟩
theorem wok_X7_looks : wok M_X7_looks := ⟨show ∀ w ∈ [Cond.instanceMethod yX7_looks, Cond.selects RX7 yX7_looks yX7_looks, Cond.initialized RX7, Cond.code yX7_looks cX7_looks 5 (some .int)], w ∈ BIG from List.forall_mem_cons.mpr ⟨bk_874, List.forall_mem_cons.mpr ⟨bk_875, List.forall_mem_cons.mpr ⟨bk_63, List.forall_mem_cons.mpr ⟨bk_876, fun _ h => absurd h List.not_mem_nil⟩⟩⟩⟩, by decide +kernel, by decide +kernel, by decide +kernel⟩
theorem wok_X7_next : wok M_X7_next := ⟨show ∀ w ∈ [Cond.instanceMethod yX7_next, Cond.selects RX7 yX7_next yX7_next, Cond.initialized RX7, Cond.code yX7_next cX7_next 3 (some .int)], w ∈ BIG from List.forall_mem_cons.mpr ⟨bk_882, List.forall_mem_cons.mpr ⟨bk_883, List.forall_mem_cons.mpr ⟨bk_63, List.forall_mem_cons.mpr ⟨bk_884, fun _ h => absurd h List.not_mem_nil⟩⟩⟩⟩, by decide +kernel, by decide +kernel, by decide +kernel⟩
theorem wok_X7_count : wok M_X7_count := ⟨show ∀ w ∈ [Cond.instanceMethod yX7_count, Cond.selects RX7 yX7_count yX7_count, Cond.initialized RX7, Cond.code yX7_count cX7_count 4 (some .int)], w ∈ BIG from List.forall_mem_cons.mpr ⟨bk_893, List.forall_mem_cons.mpr ⟨bk_894, List.forall_mem_cons.mpr ⟨bk_63, List.forall_mem_cons.mpr ⟨bk_895, fun _ h => absurd h List.not_mem_nil⟩⟩⟩⟩, by decide +kernel, by decide +kernel, by decide +kernel⟩
theorem wok_X7_hidden : wok M_X7_hidden := ⟨show ∀ w ∈ [Cond.instanceMethod yX7_hidden, Cond.selects RX7 yX7_hidden yX7_hidden, Cond.initialized RX7, Cond.code yX7_hidden cX7_hidden 3 (some .int)], w ∈ BIG from List.forall_mem_cons.mpr ⟨bk_294, List.forall_mem_cons.mpr ⟨bk_295, List.forall_mem_cons.mpr ⟨bk_63, List.forall_mem_cons.mpr ⟨bk_296, fun _ h => absurd h List.not_mem_nil⟩⟩⟩⟩, by decide +kernel, by decide +kernel, by decide +kernel⟩
theorem wok_X7_grave : wok M_X7_grave := ⟨show ∀ w ∈ [Cond.instanceMethod yX7_grave, Cond.selects RX7 yX7_grave yX7_grave, Cond.initialized RX7, Cond.code yX7_grave cX7_grave 3 (some .int)], w ∈ BIG from List.forall_mem_cons.mpr ⟨bk_900, List.forall_mem_cons.mpr ⟨bk_901, List.forall_mem_cons.mpr ⟨bk_63, List.forall_mem_cons.mpr ⟨bk_902, fun _ h => absurd h List.not_mem_nil⟩⟩⟩⟩, by decide +kernel, by decide +kernel, by decide +kernel⟩
theorem wok_X7_saves : wok M_X7_saves := ⟨show ∀ w ∈ [Cond.instanceMethod yX7_saves, Cond.selects RX7 yX7_saves yX7_saves, Cond.initialized RX7, Cond.code yX7_saves cX7_saves 2 (some .int)], w ∈ BIG from List.forall_mem_cons.mpr ⟨bk_908, List.forall_mem_cons.mpr ⟨bk_909, List.forall_mem_cons.mpr ⟨bk_63, List.forall_mem_cons.mpr ⟨bk_910, fun _ h => absurd h List.not_mem_nil⟩⟩⟩⟩, by decide +kernel, by decide +kernel, by decide +kernel⟩
theorem wok_X7_best : wok M_X7_best := ⟨show ∀ w ∈ [Cond.instanceMethod yX7_best, Cond.selects RX7 yX7_best yX7_best, Cond.initialized RX7, Cond.code yX7_best cX7_best 4 (some .int)], w ∈ BIG from List.forall_mem_cons.mpr ⟨bk_338, List.forall_mem_cons.mpr ⟨bk_339, List.forall_mem_cons.mpr ⟨bk_63, List.forall_mem_cons.mpr ⟨bk_340, fun _ h => absurd h List.not_mem_nil⟩⟩⟩⟩, by decide +kernel, by decide +kernel, by decide +kernel⟩
theorem wok_X7_fewest : wok M_X7_fewest := ⟨show ∀ w ∈ [Cond.instanceMethod yX7_fewest, Cond.selects RX7 yX7_fewest yX7_fewest, Cond.initialized RX7, Cond.code yX7_fewest cX7_fewest 2 (some .int)], w ∈ BIG from List.forall_mem_cons.mpr ⟨bk_442, List.forall_mem_cons.mpr ⟨bk_443, List.forall_mem_cons.mpr ⟨bk_63, List.forall_mem_cons.mpr ⟨bk_444, fun _ h => absurd h List.not_mem_nil⟩⟩⟩⟩, by decide +kernel, by decide +kernel, by decide +kernel⟩
theorem wok_X7_runScript : wok M_X7_runScript := ⟨show ∀ w ∈ [Cond.instanceMethod yX7_runScript, Cond.selects RX7 yX7_runScript yX7_runScript, Cond.initialized RX7, Cond.code yX7_runScript cX7_runScript 6 (some .int)], w ∈ BIG from List.forall_mem_cons.mpr ⟨bk_915, List.forall_mem_cons.mpr ⟨bk_916, List.forall_mem_cons.mpr ⟨bk_63, List.forall_mem_cons.mpr ⟨bk_917, fun _ h => absurd h List.not_mem_nil⟩⟩⟩⟩, by decide +kernel, by decide +kernel, by decide +kernel⟩
theorem wok_X7_simulate : wok M_X7_simulate := ⟨show ∀ w ∈ [Cond.instanceMethod yX7_simulate, Cond.selects RX7 yX7_simulate yX7_simulate, Cond.initialized RX7, Cond.code yX7_simulate cX7_simulate 7 (some .int)], w ∈ BIG from List.forall_mem_cons.mpr ⟨bk_932, List.forall_mem_cons.mpr ⟨bk_933, List.forall_mem_cons.mpr ⟨bk_63, List.forall_mem_cons.mpr ⟨bk_934, fun _ h => absurd h List.not_mem_nil⟩⟩⟩⟩, by decide +kernel, by decide +kernel, by decide +kernel⟩
theorem wok_X7_save : wok M_X7_save := ⟨show ∀ w ∈ [Cond.instanceMethod yX7_save, Cond.selects RX7 yX7_save yX7_save, Cond.initialized RX7, Cond.code yX7_save cX7_save 2 (some .int)], w ∈ BIG from List.forall_mem_cons.mpr ⟨bk_947, List.forall_mem_cons.mpr ⟨bk_948, List.forall_mem_cons.mpr ⟨bk_63, List.forall_mem_cons.mpr ⟨bk_949, fun _ h => absurd h List.not_mem_nil⟩⟩⟩⟩, by decide +kernel, by decide +kernel, by decide +kernel⟩
theorem wok_X7_restore : wok M_X7_restore := ⟨show ∀ w ∈ [Cond.instanceMethod yX7_restore, Cond.selects RX7 yX7_restore yX7_restore, Cond.initialized RX7, Cond.code yX7_restore cX7_restore 2 (some .int)], w ∈ BIG from List.forall_mem_cons.mpr ⟨bk_955, List.forall_mem_cons.mpr ⟨bk_956, List.forall_mem_cons.mpr ⟨bk_63, List.forall_mem_cons.mpr ⟨bk_957, fun _ h => absurd h List.not_mem_nil⟩⟩⟩⟩, by decide +kernel, by decide +kernel, by decide +kernel⟩
theorem wok_X7_isKey : wok M_X7_isKey := ⟨show ∀ w ∈ [Cond.static yX7_isKey, Cond.initialized RX7, Cond.code yX7_isKey cX7_isKey 1 (some .boolean)], w ∈ BIG from List.forall_mem_cons.mpr ⟨bk_600, List.forall_mem_cons.mpr ⟨bk_63, List.forall_mem_cons.mpr ⟨bk_601, fun _ h => absurd h List.not_mem_nil⟩⟩⟩, by decide +kernel, by decide +kernel, by decide +kernel⟩
theorem wok_X7_isValue : wok M_X7_isValue := ⟨show ∀ w ∈ [Cond.static yX7_isValue, Cond.initialized RX7, Cond.code yX7_isValue cX7_isValue 1 (some .boolean)], w ∈ BIG from List.forall_mem_cons.mpr ⟨bk_603, List.forall_mem_cons.mpr ⟨bk_63, List.forall_mem_cons.mpr ⟨bk_604, fun _ h => absurd h List.not_mem_nil⟩⟩⟩, by decide +kernel, by decide +kernel, by decide +kernel⟩
theorem wok_X7_seenNow : wok M_X7_seenNow := ⟨show ∀ w ∈ [Cond.instanceMethod yX7_seenNow, Cond.selects RX7 yX7_seenNow yX7_seenNow, Cond.initialized RX7, Cond.code yX7_seenNow cX7_seenNow 2 (some .int)], w ∈ BIG from List.forall_mem_cons.mpr ⟨bk_675, List.forall_mem_cons.mpr ⟨bk_6, List.forall_mem_cons.mpr ⟨bk_63, List.forall_mem_cons.mpr ⟨bk_676, fun _ h => absurd h List.not_mem_nil⟩⟩⟩⟩, by decide +kernel, by decide +kernel, by decide +kernel⟩
theorem wok_X7_doTextCommand : wok M_X7_doTextCommand := ⟨show ∀ w ∈ [Cond.instanceMethod yX7_doTextCommand, Cond.selects RX7 yX7_doTextCommand yX7_doTextCommand, Cond.initialized RX7, Cond.code yX7_doTextCommand cX7_doTextCommand 2 (some .boolean)], w ∈ BIG from List.forall_mem_cons.mpr ⟨bk_591, List.forall_mem_cons.mpr ⟨bk_5, List.forall_mem_cons.mpr ⟨bk_63, List.forall_mem_cons.mpr ⟨bk_592, fun _ h => absurd h List.not_mem_nil⟩⟩⟩⟩, by decide +kernel, by decide +kernel, by decide +kernel⟩
theorem wok_X7_withoutLast : wok M_X7_withoutLast := ⟨show ∀ w ∈ [Cond.static yX7_withoutLast, Cond.initialized RX7, Cond.code yX7_withoutLast cX7_withoutLast 6 (some .long)], w ∈ BIG from List.forall_mem_cons.mpr ⟨bk_920, List.forall_mem_cons.mpr ⟨bk_63, List.forall_mem_cons.mpr ⟨bk_921, fun _ h => absurd h List.not_mem_nil⟩⟩⟩, by decide +kernel, by decide +kernel, by decide +kernel⟩
theorem wok_X7_doGroup : wok M_X7_doGroup := ⟨show ∀ w ∈ [Cond.instanceMethod yX7_doGroup, Cond.selects RX7 yX7_doGroup yX7_doGroup, Cond.initialized RX7, Cond.code yX7_doGroup cX7_doGroup 6 (some .boolean)], w ∈ BIG from List.forall_mem_cons.mpr ⟨bk_926, List.forall_mem_cons.mpr ⟨bk_7, List.forall_mem_cons.mpr ⟨bk_63, List.forall_mem_cons.mpr ⟨bk_927, fun _ h => absurd h List.not_mem_nil⟩⟩⟩⟩, by decide +kernel, by decide +kernel, by decide +kernel⟩
theorem wok_X7_doTurn : wok M_X7_doTurn := ⟨show ∀ w ∈ [Cond.instanceMethod yX7_doTurn, Cond.selects RX7 yX7_doTurn yX7_doTurn, Cond.initialized RX7, Cond.code yX7_doTurn cX7_doTurn 4 none], w ∈ BIG from List.forall_mem_cons.mpr ⟨bk_940, List.forall_mem_cons.mpr ⟨bk_8, List.forall_mem_cons.mpr ⟨bk_63, List.forall_mem_cons.mpr ⟨bk_941, fun _ h => absurd h List.not_mem_nil⟩⟩⟩⟩, by decide +kernel, by decide +kernel, by decide +kernel⟩
theorem wok_X8_init : wok M_X8_init := ⟨show ∀ w ∈ [Cond.instanceMethod yX8_init, Cond.initialized RX8, Cond.code yX8_init cX8_init 1 none], w ∈ BIG from List.forall_mem_cons.mpr ⟨bk_962, List.forall_mem_cons.mpr ⟨bk_72, List.forall_mem_cons.mpr ⟨bk_963, fun _ h => absurd h List.not_mem_nil⟩⟩⟩, by decide +kernel, by decide +kernel, by decide +kernel⟩
theorem wok_X8_thrown : wok M_X8_thrown := ⟨show ∀ w ∈ [Cond.instanceMethod yX8_thrown, Cond.selects RX8 yX8_thrown yX8_thrown, Cond.initialized RX8, Cond.code yX8_thrown cX8_thrown 1 (some .int)], w ∈ BIG from List.forall_mem_cons.mpr ⟨bk_1018, List.forall_mem_cons.mpr ⟨bk_1019, List.forall_mem_cons.mpr ⟨bk_72, List.forall_mem_cons.mpr ⟨bk_1020, fun _ h => absurd h List.not_mem_nil⟩⟩⟩⟩, by decide +kernel, by decide +kernel, by decide +kernel⟩
theorem wok_X8_in : wok M_X8_in := ⟨show ∀ w ∈ [Cond.static yX8_in, Cond.initialized RX8, Cond.code yX8_in cX8_in 3 (some .boolean)], w ∈ BIG from List.forall_mem_cons.mpr ⟨bk_1026, List.forall_mem_cons.mpr ⟨bk_72, List.forall_mem_cons.mpr ⟨bk_1027, fun _ h => absurd h List.not_mem_nil⟩⟩⟩, by decide +kernel, by decide +kernel, by decide +kernel⟩
theorem wok_X8_holds : wok M_X8_holds := ⟨show ∀ w ∈ [Cond.instanceMethod yX8_holds, Cond.selects RX8 yX8_holds yX8_holds, Cond.initialized RX8, Cond.code yX8_holds cX8_holds 2 (some .boolean)], w ∈ BIG from List.forall_mem_cons.mpr ⟨bk_1030, List.forall_mem_cons.mpr ⟨bk_9, List.forall_mem_cons.mpr ⟨bk_72, List.forall_mem_cons.mpr ⟨bk_1031, fun _ h => absurd h List.not_mem_nil⟩⟩⟩⟩, by decide +kernel, by decide +kernel, by decide +kernel⟩
theorem wok_X8_of : wok M_X8_of := ⟨show ∀ w ∈ [Cond.static yX8_of, Cond.initialized RX8, Cond.code yX8_of cX8_of 2 (some .int)], w ∈ BIG from List.forall_mem_cons.mpr ⟨bk_1092, List.forall_mem_cons.mpr ⟨bk_72, List.forall_mem_cons.mpr ⟨bk_1093, fun _ h => absurd h List.not_mem_nil⟩⟩⟩, by decide +kernel, by decide +kernel, by decide +kernel⟩
theorem wok_X8_isKey : wok M_X8_isKey := ⟨show ∀ w ∈ [Cond.static yX8_isKey, Cond.initialized RX8, Cond.code yX8_isKey cX8_isKey 1 (some .boolean)], w ∈ BIG from List.forall_mem_cons.mpr ⟨bk_1065, List.forall_mem_cons.mpr ⟨bk_72, List.forall_mem_cons.mpr ⟨bk_1066, fun _ h => absurd h List.not_mem_nil⟩⟩⟩, by decide +kernel, by decide +kernel, by decide +kernel⟩
theorem wok_X8_isRun : wok M_X8_isRun := ⟨show ∀ w ∈ [Cond.instanceMethod yX8_isRun, Cond.selects RX8 yX8_isRun yX8_isRun, Cond.initialized RX8, Cond.code yX8_isRun cX8_isRun 2 (some .boolean)], w ∈ BIG from List.forall_mem_cons.mpr ⟨bk_1128, List.forall_mem_cons.mpr ⟨bk_30, List.forall_mem_cons.mpr ⟨bk_72, List.forall_mem_cons.mpr ⟨bk_1129, fun _ h => absurd h List.not_mem_nil⟩⟩⟩⟩, by decide +kernel, by decide +kernel, by decide +kernel⟩
theorem wok_X8_isEye : wok M_X8_isEye := ⟨show ∀ w ∈ [Cond.instanceMethod yX8_isEye, Cond.selects RX8 yX8_isEye yX8_isEye, Cond.initialized RX8, Cond.code yX8_isEye cX8_isEye 2 (some .boolean)], w ∈ BIG from List.forall_mem_cons.mpr ⟨bk_1132, List.forall_mem_cons.mpr ⟨bk_31, List.forall_mem_cons.mpr ⟨bk_72, List.forall_mem_cons.mpr ⟨bk_1133, fun _ h => absurd h List.not_mem_nil⟩⟩⟩⟩, by decide +kernel, by decide +kernel, by decide +kernel⟩
theorem wok_X8_remember : wok M_X8_remember := ⟨show ∀ w ∈ [Cond.instanceMethod yX8_remember, Cond.selects RX8 yX8_remember yX8_remember, Cond.initialized RX8, Cond.code yX8_remember cX8_remember 2 none], w ∈ BIG from List.forall_mem_cons.mpr ⟨bk_1236, List.forall_mem_cons.mpr ⟨bk_50, List.forall_mem_cons.mpr ⟨bk_72, List.forall_mem_cons.mpr ⟨bk_1237, fun _ h => absurd h List.not_mem_nil⟩⟩⟩⟩, by decide +kernel, by decide +kernel, by decide +kernel⟩
theorem wok_X8_putAside : wok M_X8_putAside := ⟨show ∀ w ∈ [Cond.instanceMethod yX8_putAside, Cond.selects RX8 yX8_putAside yX8_putAside, Cond.initialized RX8, Cond.code yX8_putAside cX8_putAside 2 none], w ∈ BIG from List.forall_mem_cons.mpr ⟨bk_1329, List.forall_mem_cons.mpr ⟨bk_57, List.forall_mem_cons.mpr ⟨bk_72, List.forall_mem_cons.mpr ⟨bk_1330, fun _ h => absurd h List.not_mem_nil⟩⟩⟩⟩, by decide +kernel, by decide +kernel, by decide +kernel⟩
theorem wok_X8_putBack : wok M_X8_putBack := ⟨show ∀ w ∈ [Cond.instanceMethod yX8_putBack, Cond.selects RX8 yX8_putBack yX8_putBack, Cond.initialized RX8, Cond.code yX8_putBack cX8_putBack 2 none], w ∈ BIG from List.forall_mem_cons.mpr ⟨bk_1337, List.forall_mem_cons.mpr ⟨bk_59, List.forall_mem_cons.mpr ⟨bk_72, List.forall_mem_cons.mpr ⟨bk_1338, fun _ h => absurd h List.not_mem_nil⟩⟩⟩⟩, by decide +kernel, by decide +kernel, by decide +kernel⟩
theorem wok_X8_begin : wok M_X8_begin := ⟨show ∀ w ∈ [Cond.instanceMethod yX8_begin, Cond.selects RX8 yX8_begin yX8_begin, Cond.initialized RX8, Cond.code yX8_begin cX8_begin 4 (some .int)], w ∈ BIG from List.forall_mem_cons.mpr ⟨bk_1073, List.forall_mem_cons.mpr ⟨bk_17, List.forall_mem_cons.mpr ⟨bk_72, List.forall_mem_cons.mpr ⟨bk_1074, fun _ h => absurd h List.not_mem_nil⟩⟩⟩⟩, by decide +kernel, by decide +kernel, by decide +kernel⟩
theorem wok_X8_manyIn : wok M_X8_manyIn := ⟨show ∀ w ∈ [Cond.instanceMethod yX8_manyIn, Cond.selects RX8 yX8_manyIn yX8_manyIn, Cond.initialized RX8, Cond.code yX8_manyIn cX8_manyIn 2 (some .int)], w ∈ BIG from List.forall_mem_cons.mpr ⟨bk_1216, List.forall_mem_cons.mpr ⟨bk_48, List.forall_mem_cons.mpr ⟨bk_72, List.forall_mem_cons.mpr ⟨bk_1217, fun _ h => absurd h List.not_mem_nil⟩⟩⟩⟩, by decide +kernel, by decide +kernel, by decide +kernel⟩
theorem wok_X8_all : wok M_X8_all := ⟨show ∀ w ∈ [Cond.instanceMethod yX8_all, Cond.selects RX8 yX8_all yX8_all, Cond.initialized RX8, Cond.code yX8_all cX8_all 1 (some .int)], w ∈ BIG from List.forall_mem_cons.mpr ⟨bk_1069, List.forall_mem_cons.mpr ⟨bk_16, List.forall_mem_cons.mpr ⟨bk_72, List.forall_mem_cons.mpr ⟨bk_1070, fun _ h => absurd h List.not_mem_nil⟩⟩⟩⟩, by decide +kernel, by decide +kernel, by decide +kernel⟩
theorem wok_X8_concerns : wok M_X8_concerns := ⟨show ∀ w ∈ [Cond.instanceMethod yX8_concerns, Cond.selects RX8 yX8_concerns yX8_concerns, Cond.initialized RX8, Cond.code yX8_concerns cX8_concerns 3 (some .boolean)], w ∈ BIG from List.forall_mem_cons.mpr ⟨bk_1100, List.forall_mem_cons.mpr ⟨bk_23, List.forall_mem_cons.mpr ⟨bk_72, List.forall_mem_cons.mpr ⟨bk_1101, fun _ h => absurd h List.not_mem_nil⟩⟩⟩⟩, by decide +kernel, by decide +kernel, by decide +kernel⟩
theorem wok_X8_isEntry : wok M_X8_isEntry := ⟨show ∀ w ∈ [Cond.instanceMethod yX8_isEntry, Cond.selects RX8 yX8_isEntry yX8_isEntry, Cond.initialized RX8, Cond.code yX8_isEntry cX8_isEntry 2 (some .boolean)], w ∈ BIG from List.forall_mem_cons.mpr ⟨bk_1089, List.forall_mem_cons.mpr ⟨bk_21, List.forall_mem_cons.mpr ⟨bk_72, List.forall_mem_cons.mpr ⟨bk_1090, fun _ h => absurd h List.not_mem_nil⟩⟩⟩⟩, by decide +kernel, by decide +kernel, by decide +kernel⟩
theorem wok_X8_newest : wok M_X8_newest := ⟨show ∀ w ∈ [Cond.instanceMethod yX8_newest, Cond.selects RX8 yX8_newest yX8_newest, Cond.initialized RX8, Cond.code yX8_newest cX8_newest 6 (some .int)], w ∈ BIG from List.forall_mem_cons.mpr ⟨bk_1156, List.forall_mem_cons.mpr ⟨bk_37, List.forall_mem_cons.mpr ⟨bk_72, List.forall_mem_cons.mpr ⟨bk_1157, fun _ h => absurd h List.not_mem_nil⟩⟩⟩⟩, by decide +kernel, by decide +kernel, by decide +kernel⟩
theorem wok_X8_upTo : wok M_X8_upTo := ⟨show ∀ w ∈ [Cond.instanceMethod yX8_upTo, Cond.selects RX8 yX8_upTo yX8_upTo, Cond.initialized RX8, Cond.code yX8_upTo cX8_upTo 2 (some .int)], w ∈ BIG from List.forall_mem_cons.mpr ⟨bk_1152, List.forall_mem_cons.mpr ⟨bk_36, List.forall_mem_cons.mpr ⟨bk_72, List.forall_mem_cons.mpr ⟨bk_1153, fun _ h => absurd h List.not_mem_nil⟩⟩⟩⟩, by decide +kernel, by decide +kernel, by decide +kernel⟩
theorem wok_X8_seen : wok M_X8_seen := ⟨show ∀ w ∈ [Cond.instanceMethod yX8_seen, Cond.selects RX8 yX8_seen yX8_seen, Cond.initialized RX8, Cond.code yX8_seen cX8_seen 4 (some .int)], w ∈ BIG from List.forall_mem_cons.mpr ⟨bk_1148, List.forall_mem_cons.mpr ⟨bk_35, List.forall_mem_cons.mpr ⟨bk_72, List.forall_mem_cons.mpr ⟨bk_1149, fun _ h => absurd h List.not_mem_nil⟩⟩⟩⟩, by decide +kernel, by decide +kernel, by decide +kernel⟩
theorem wok_X8_countSeen : wok M_X8_countSeen := ⟨show ∀ w ∈ [Cond.instanceMethod yX8_countSeen, Cond.selects RX8 yX8_countSeen yX8_countSeen, Cond.initialized RX8, Cond.code yX8_countSeen cX8_countSeen 6 (some .int)], w ∈ BIG from List.forall_mem_cons.mpr ⟨bk_1144, List.forall_mem_cons.mpr ⟨bk_34, List.forall_mem_cons.mpr ⟨bk_72, List.forall_mem_cons.mpr ⟨bk_1145, fun _ h => absurd h List.not_mem_nil⟩⟩⟩⟩, by decide +kernel, by decide +kernel, by decide +kernel⟩
theorem wok_X8_areParted : wok M_X8_areParted := ⟨show ∀ w ∈ [Cond.instanceMethod yX8_areParted, Cond.selects RX8 yX8_areParted yX8_areParted, Cond.initialized RX8, Cond.code yX8_areParted cX8_areParted 5 (some .boolean)], w ∈ BIG from List.forall_mem_cons.mpr ⟨bk_1104, List.forall_mem_cons.mpr ⟨bk_24, List.forall_mem_cons.mpr ⟨bk_72, List.forall_mem_cons.mpr ⟨bk_1105, fun _ h => absurd h List.not_mem_nil⟩⟩⟩⟩, by decide +kernel, by decide +kernel, by decide +kernel⟩
theorem wok_X8_isCovered : wok M_X8_isCovered := ⟨show ∀ w ∈ [Cond.instanceMethod yX8_isCovered, Cond.selects RX8 yX8_isCovered yX8_isCovered, Cond.initialized RX8, Cond.code yX8_isCovered cX8_isCovered 9 (some .boolean)], w ∈ BIG from List.forall_mem_cons.mpr ⟨bk_1096, List.forall_mem_cons.mpr ⟨bk_22, List.forall_mem_cons.mpr ⟨bk_72, List.forall_mem_cons.mpr ⟨bk_1097, fun _ h => absurd h List.not_mem_nil⟩⟩⟩⟩, by decide +kernel, by decide +kernel, by decide +kernel⟩
theorem wok_X8_hasOlderEntry : wok M_X8_hasOlderEntry := ⟨show ∀ w ∈ [Cond.instanceMethod yX8_hasOlderEntry, Cond.selects RX8 yX8_hasOlderEntry yX8_hasOlderEntry, Cond.initialized RX8, Cond.code yX8_hasOlderEntry cX8_hasOlderEntry 7 (some .boolean)], w ∈ BIG from List.forall_mem_cons.mpr ⟨bk_1116, List.forall_mem_cons.mpr ⟨bk_27, List.forall_mem_cons.mpr ⟨bk_72, List.forall_mem_cons.mpr ⟨bk_1117, fun _ h => absurd h List.not_mem_nil⟩⟩⟩⟩, by decide +kernel, by decide +kernel, by decide +kernel⟩
theorem wok_X8_leave : wok M_X8_leave := ⟨show ∀ w ∈ [Cond.instanceMethod yX8_leave, Cond.selects RX8 yX8_leave yX8_leave, Cond.initialized RX8, Cond.code yX8_leave cX8_leave 4 none], w ∈ BIG from List.forall_mem_cons.mpr ⟨bk_1108, List.forall_mem_cons.mpr ⟨bk_25, List.forall_mem_cons.mpr ⟨bk_72, List.forall_mem_cons.mpr ⟨bk_1109, fun _ h => absurd h List.not_mem_nil⟩⟩⟩⟩, by decide +kernel, by decide +kernel, by decide +kernel⟩
theorem wok_X8_clean : wok M_X8_clean := ⟨show ∀ w ∈ [Cond.instanceMethod yX8_clean, Cond.selects RX8 yX8_clean yX8_clean, Cond.initialized RX8, Cond.code yX8_clean cX8_clean 5 none], w ∈ BIG from List.forall_mem_cons.mpr ⟨bk_1085, List.forall_mem_cons.mpr ⟨bk_20, List.forall_mem_cons.mpr ⟨bk_72, List.forall_mem_cons.mpr ⟨bk_1086, fun _ h => absurd h List.not_mem_nil⟩⟩⟩⟩, by decide +kernel, by decide +kernel, by decide +kernel⟩
theorem wok_X8_cut : wok M_X8_cut := ⟨show ∀ w ∈ [Cond.instanceMethod yX8_cut, Cond.selects RX8 yX8_cut yX8_cut, Cond.initialized RX8, Cond.code yX8_cut cX8_cut 8 none], w ∈ BIG from List.forall_mem_cons.mpr ⟨bk_1112, List.forall_mem_cons.mpr ⟨bk_26, List.forall_mem_cons.mpr ⟨bk_72, List.forall_mem_cons.mpr ⟨bk_1113, fun _ h => absurd h List.not_mem_nil⟩⟩⟩⟩, by decide +kernel, by decide +kernel, by decide +kernel⟩
theorem wok_X8_replace : wok M_X8_replace := ⟨show ∀ w ∈ [Cond.instanceMethod yX8_replace, Cond.selects RX8 yX8_replace yX8_replace, Cond.initialized RX8, Cond.code yX8_replace cX8_replace 7 none], w ∈ BIG from List.forall_mem_cons.mpr ⟨bk_1164, List.forall_mem_cons.mpr ⟨bk_39, List.forall_mem_cons.mpr ⟨bk_72, List.forall_mem_cons.mpr ⟨bk_1165, fun _ h => absurd h List.not_mem_nil⟩⟩⟩⟩, by decide +kernel, by decide +kernel, by decide +kernel⟩
theorem wok_X8_isRoomFor : wok M_X8_isRoomFor := ⟨show ∀ w ∈ [Cond.instanceMethod yX8_isRoomFor, Cond.selects RX8 yX8_isRoomFor yX8_isRoomFor, Cond.initialized RX8, Cond.code yX8_isRoomFor cX8_isRoomFor 3 (some .boolean)], w ∈ BIG from List.forall_mem_cons.mpr ⟨bk_1120, List.forall_mem_cons.mpr ⟨bk_28, List.forall_mem_cons.mpr ⟨bk_72, List.forall_mem_cons.mpr ⟨bk_1121, fun _ h => absurd h List.not_mem_nil⟩⟩⟩⟩, by decide +kernel, by decide +kernel, by decide +kernel⟩
theorem wok_X8_putFault : wok M_X8_putFault := ⟨show ∀ w ∈ [Cond.instanceMethod yX8_putFault, Cond.selects RX8 yX8_putFault yX8_putFault, Cond.initialized RX8, Cond.code yX8_putFault cX8_putFault 3 (some .int)], w ∈ BIG from List.forall_mem_cons.mpr ⟨bk_1062, List.forall_mem_cons.mpr ⟨bk_15, List.forall_mem_cons.mpr ⟨bk_72, List.forall_mem_cons.mpr ⟨bk_1063, fun _ h => absurd h List.not_mem_nil⟩⟩⟩⟩, by decide +kernel, by decide +kernel, by decide +kernel⟩
theorem wok_X8_writes : wok M_X8_writes := ⟨show ∀ w ∈ [Cond.instanceMethod yX8_writes, Cond.selects RX8 yX8_writes yX8_writes, Cond.initialized RX8, Cond.code yX8_writes cX8_writes 5 (some .int)], w ∈ BIG from List.forall_mem_cons.mpr ⟨bk_1136, List.forall_mem_cons.mpr ⟨bk_32, List.forall_mem_cons.mpr ⟨bk_72, List.forall_mem_cons.mpr ⟨bk_1137, fun _ h => absurd h List.not_mem_nil⟩⟩⟩⟩, by decide +kernel, by decide +kernel, by decide +kernel⟩
theorem wok_X8_buryFault : wok M_X8_buryFault := ⟨show ∀ w ∈ [Cond.instanceMethod yX8_buryFault, Cond.selects RX8 yX8_buryFault yX8_buryFault, Cond.initialized RX8, Cond.code yX8_buryFault cX8_buryFault 3 (some .int)], w ∈ BIG from List.forall_mem_cons.mpr ⟨bk_1077, List.forall_mem_cons.mpr ⟨bk_18, List.forall_mem_cons.mpr ⟨bk_72, List.forall_mem_cons.mpr ⟨bk_1078, fun _ h => absurd h List.not_mem_nil⟩⟩⟩⟩, by decide +kernel, by decide +kernel, by decide +kernel⟩
theorem wok_X8_buries : wok M_X8_buries := ⟨show ∀ w ∈ [Cond.instanceMethod yX8_buries, Cond.selects RX8 yX8_buries yX8_buries, Cond.initialized RX8, Cond.code yX8_buries cX8_buries 5 (some .int)], w ∈ BIG from List.forall_mem_cons.mpr ⟨bk_1140, List.forall_mem_cons.mpr ⟨bk_33, List.forall_mem_cons.mpr ⟨bk_72, List.forall_mem_cons.mpr ⟨bk_1141, fun _ h => absurd h List.not_mem_nil⟩⟩⟩⟩, by decide +kernel, by decide +kernel, by decide +kernel⟩
theorem wok_X8_opens : wok M_X8_opens := ⟨show ∀ w ∈ [Cond.instanceMethod yX8_opens, Cond.selects RX8 yX8_opens yX8_opens, Cond.initialized RX8, Cond.code yX8_opens cX8_opens 1 (some .int)], w ∈ BIG from List.forall_mem_cons.mpr ⟨bk_1172, List.forall_mem_cons.mpr ⟨bk_41, List.forall_mem_cons.mpr ⟨bk_72, List.forall_mem_cons.mpr ⟨bk_1173, fun _ h => absurd h List.not_mem_nil⟩⟩⟩⟩, by decide +kernel, by decide +kernel, by decide +kernel⟩
theorem wok_X8_closes : wok M_X8_closes := ⟨show ∀ w ∈ [Cond.instanceMethod yX8_closes, Cond.selects RX8 yX8_closes yX8_closes, Cond.initialized RX8, Cond.code yX8_closes cX8_closes 2 (some .int)], w ∈ BIG from List.forall_mem_cons.mpr ⟨bk_1176, List.forall_mem_cons.mpr ⟨bk_42, List.forall_mem_cons.mpr ⟨bk_72, List.forall_mem_cons.mpr ⟨bk_1177, fun _ h => absurd h List.not_mem_nil⟩⟩⟩⟩, by decide +kernel, by decide +kernel, by decide +kernel⟩
theorem wok_X8_flushFault : wok M_X8_flushFault := ⟨show ∀ w ∈ [Cond.instanceMethod yX8_flushFault, Cond.selects RX8 yX8_flushFault yX8_flushFault, Cond.initialized RX8, Cond.code yX8_flushFault cX8_flushFault 1 (some .int)], w ∈ BIG from List.forall_mem_cons.mpr ⟨bk_1081, List.forall_mem_cons.mpr ⟨bk_19, List.forall_mem_cons.mpr ⟨bk_72, List.forall_mem_cons.mpr ⟨bk_1082, fun _ h => absurd h List.not_mem_nil⟩⟩⟩⟩, by decide +kernel, by decide +kernel, by decide +kernel⟩
theorem wok_X8_flushes : wok M_X8_flushes := ⟨show ∀ w ∈ [Cond.instanceMethod yX8_flushes, Cond.selects RX8 yX8_flushes yX8_flushes, Cond.initialized RX8, Cond.code yX8_flushes cX8_flushes 2 (some .int)], w ∈ BIG from List.forall_mem_cons.mpr ⟨bk_1160, List.forall_mem_cons.mpr ⟨bk_38, List.forall_mem_cons.mpr ⟨bk_72, List.forall_mem_cons.mpr ⟨bk_1161, fun _ h => absurd h List.not_mem_nil⟩⟩⟩⟩, by decide +kernel, by decide +kernel, by decide +kernel⟩
theorem wok_X8_mergeFault : wok M_X8_mergeFault := ⟨show ∀ w ∈ [Cond.instanceMethod yX8_mergeFault, Cond.selects RX8 yX8_mergeFault yX8_mergeFault, Cond.initialized RX8, Cond.code yX8_mergeFault cX8_mergeFault 4 (some .int)], w ∈ BIG from List.forall_mem_cons.mpr ⟨bk_1124, List.forall_mem_cons.mpr ⟨bk_29, List.forall_mem_cons.mpr ⟨bk_72, List.forall_mem_cons.mpr ⟨bk_1125, fun _ h => absurd h List.not_mem_nil⟩⟩⟩⟩, by decide +kernel, by decide +kernel, by decide +kernel⟩
theorem wok_X8_merges : wok M_X8_merges := ⟨show ∀ w ∈ [Cond.instanceMethod yX8_merges, Cond.selects RX8 yX8_merges yX8_merges, Cond.initialized RX8, Cond.code yX8_merges cX8_merges 4 (some .int)], w ∈ BIG from List.forall_mem_cons.mpr ⟨bk_1168, List.forall_mem_cons.mpr ⟨bk_40, List.forall_mem_cons.mpr ⟨bk_72, List.forall_mem_cons.mpr ⟨bk_1169, fun _ h => absurd h List.not_mem_nil⟩⟩⟩⟩, by decide +kernel, by decide +kernel, by decide +kernel⟩
theorem wok_X8_append : wok M_X8_append := ⟨show ∀ w ∈ [Cond.instanceMethod yX8_append, Cond.selects RX8 yX8_append yX8_append, Cond.initialized RX8, Cond.code yX8_append cX8_append 2 (some .int)], w ∈ BIG from List.forall_mem_cons.mpr ⟨bk_1022, List.forall_mem_cons.mpr ⟨bk_1023, List.forall_mem_cons.mpr ⟨bk_72, List.forall_mem_cons.mpr ⟨bk_1024, fun _ h => absurd h List.not_mem_nil⟩⟩⟩⟩, by decide +kernel, by decide +kernel, by decide +kernel⟩
theorem wok_X8_clearText : wok M_X8_clearText := ⟨show ∀ w ∈ [Cond.instanceMethod yX8_clearText, Cond.selects RX8 yX8_clearText yX8_clearText, Cond.initialized RX8, Cond.code yX8_clearText cX8_clearText 2 (some .int)], w ∈ BIG from List.forall_mem_cons.mpr ⟨bk_1033, List.forall_mem_cons.mpr ⟨bk_1034, List.forall_mem_cons.mpr ⟨bk_72, List.forall_mem_cons.mpr ⟨bk_1035, fun _ h => absurd h List.not_mem_nil⟩⟩⟩⟩, by decide +kernel, by decide +kernel, by decide +kernel⟩
theorem wok_X8_sign : wok M_X8_sign := ⟨show ∀ w ∈ [Cond.instanceMethod yX8_sign, Cond.selects RX8 yX8_sign yX8_sign, Cond.initialized RX8, Cond.code yX8_sign cX8_sign 4 (some .int)], w ∈ BIG from List.forall_mem_cons.mpr ⟨bk_1046, List.forall_mem_cons.mpr ⟨bk_11, List.forall_mem_cons.mpr ⟨bk_72, List.forall_mem_cons.mpr ⟨bk_1047, fun _ h => absurd h List.not_mem_nil⟩⟩⟩⟩, by decide +kernel, by decide +kernel, by decide +kernel⟩
theorem wok_X8_key : wok M_X8_key := ⟨show ∀ w ∈ [Cond.instanceMethod yX8_key, Cond.selects RX8 yX8_key yX8_key, Cond.initialized RX8, Cond.code yX8_key cX8_key 2 (some .int)], w ∈ BIG from List.forall_mem_cons.mpr ⟨bk_1054, List.forall_mem_cons.mpr ⟨bk_13, List.forall_mem_cons.mpr ⟨bk_72, List.forall_mem_cons.mpr ⟨bk_1055, fun _ h => absurd h List.not_mem_nil⟩⟩⟩⟩, by decide +kernel, by decide +kernel, by decide +kernel⟩
theorem wok_X8_command : wok M_X8_command := ⟨show ∀ w ∈ [Cond.instanceMethod yX8_command, Cond.selects RX8 yX8_command yX8_command, Cond.initialized RX8, Cond.code yX8_command cX8_command 2 none], w ∈ BIG from List.forall_mem_cons.mpr ⟨bk_1050, List.forall_mem_cons.mpr ⟨bk_12, List.forall_mem_cons.mpr ⟨bk_72, List.forall_mem_cons.mpr ⟨bk_1051, fun _ h => absurd h List.not_mem_nil⟩⟩⟩⟩, by decide +kernel, by decide +kernel, by decide +kernel⟩
theorem wok_X8_does : wok M_X8_does := ⟨show ∀ w ∈ [Cond.instanceMethod yX8_does, Cond.selects RX8 yX8_does yX8_does, Cond.initialized RX8, Cond.code yX8_does cX8_does 4 (some .boolean)], w ∈ BIG from List.forall_mem_cons.mpr ⟨bk_1058, List.forall_mem_cons.mpr ⟨bk_14, List.forall_mem_cons.mpr ⟨bk_72, List.forall_mem_cons.mpr ⟨bk_1059, fun _ h => absurd h List.not_mem_nil⟩⟩⟩⟩, by decide +kernel, by decide +kernel, by decide +kernel⟩
theorem wok_X8_go : wok M_X8_go := ⟨show ∀ w ∈ [Cond.instanceMethod yX8_go, Cond.selects RX8 yX8_go yX8_go, Cond.initialized RX8, Cond.code yX8_go cX8_go 4 (some .int)], w ∈ BIG from List.forall_mem_cons.mpr ⟨bk_1042, List.forall_mem_cons.mpr ⟨bk_10, List.forall_mem_cons.mpr ⟨bk_72, List.forall_mem_cons.mpr ⟨bk_1043, fun _ h => absurd h List.not_mem_nil⟩⟩⟩⟩, by decide +kernel, by decide +kernel, by decide +kernel⟩
theorem wok_X8_errorPosition : wok M_X8_errorPosition := ⟨show ∀ w ∈ [Cond.instanceMethod yX8_errorPosition, Cond.selects RX8 yX8_errorPosition yX8_errorPosition, Cond.initialized RX8, Cond.code yX8_errorPosition cX8_errorPosition 2 (some .int)], w ∈ BIG from List.forall_mem_cons.mpr ⟨bk_1037, List.forall_mem_cons.mpr ⟨bk_1038, List.forall_mem_cons.mpr ⟨bk_72, List.forall_mem_cons.mpr ⟨bk_1039, fun _ h => absurd h List.not_mem_nil⟩⟩⟩⟩, by decide +kernel, by decide +kernel, by decide +kernel⟩
theorem wok_X8_load : wok M_X8_load := ⟨show ∀ w ∈ [Cond.instanceMethod yX8_load, Cond.selects RX8 yX8_load yX8_load, Cond.initialized RX8, Cond.code yX8_load cX8_load 3 (some .int)], w ∈ BIG from List.forall_mem_cons.mpr ⟨bk_1179, List.forall_mem_cons.mpr ⟨bk_1180, List.forall_mem_cons.mpr ⟨bk_72, List.forall_mem_cons.mpr ⟨bk_1181, fun _ h => absurd h List.not_mem_nil⟩⟩⟩⟩, by decide +kernel, by decide +kernel, by decide +kernel⟩
theorem wok_X8_sumSeen : wok M_X8_sumSeen := ⟨show ∀ w ∈ [Cond.instanceMethod yX8_sumSeen, Cond.selects RX8 yX8_sumSeen yX8_sumSeen, Cond.initialized RX8, Cond.code yX8_sumSeen cX8_sumSeen 4 (some .int)], w ∈ BIG from List.forall_mem_cons.mpr ⟨bk_1196, List.forall_mem_cons.mpr ⟨bk_45, List.forall_mem_cons.mpr ⟨bk_72, List.forall_mem_cons.mpr ⟨bk_1197, fun _ h => absurd h List.not_mem_nil⟩⟩⟩⟩, by decide +kernel, by decide +kernel, by decide +kernel⟩
theorem wok_X8_kinds : wok M_X8_kinds := ⟨show ∀ w ∈ [Cond.instanceMethod yX8_kinds, Cond.selects RX8 yX8_kinds yX8_kinds, Cond.initialized RX8, Cond.code yX8_kinds cX8_kinds 6 (some .int)], w ∈ BIG from List.forall_mem_cons.mpr ⟨bk_1192, List.forall_mem_cons.mpr ⟨bk_44, List.forall_mem_cons.mpr ⟨bk_72, List.forall_mem_cons.mpr ⟨bk_1193, fun _ h => absurd h List.not_mem_nil⟩⟩⟩⟩, by decide +kernel, by decide +kernel, by decide +kernel⟩
theorem wok_X8_told : wok M_X8_told := ⟨show ∀ w ∈ [Cond.instanceMethod yX8_told, Cond.selects RX8 yX8_told yX8_told, Cond.initialized RX8, Cond.code yX8_told cX8_told 2 (some .int)], w ∈ BIG from List.forall_mem_cons.mpr ⟨bk_1188, List.forall_mem_cons.mpr ⟨bk_43, List.forall_mem_cons.mpr ⟨bk_72, List.forall_mem_cons.mpr ⟨bk_1189, fun _ h => absurd h List.not_mem_nil⟩⟩⟩⟩, by decide +kernel, by decide +kernel, by decide +kernel⟩
theorem wok_X8_about : wok M_X8_about := ⟨show ∀ w ∈ [Cond.instanceMethod yX8_about, Cond.selects RX8 yX8_about yX8_about, Cond.initialized RX8, Cond.code yX8_about cX8_about 2 (some .int)], w ∈ BIG from List.forall_mem_cons.mpr ⟨bk_1183, List.forall_mem_cons.mpr ⟨bk_1184, List.forall_mem_cons.mpr ⟨bk_72, List.forall_mem_cons.mpr ⟨bk_1185, fun _ h => absurd h List.not_mem_nil⟩⟩⟩⟩, by decide +kernel, by decide +kernel, by decide +kernel⟩
theorem wok_X8_isView : wok M_X8_isView := ⟨show ∀ w ∈ [Cond.instanceMethod yX8_isView, Cond.selects RX8 yX8_isView yX8_isView, Cond.initialized RX8, Cond.code yX8_isView cX8_isView 2 (some .boolean)], w ∈ BIG from List.forall_mem_cons.mpr ⟨bk_1204, List.forall_mem_cons.mpr ⟨bk_46, List.forall_mem_cons.mpr ⟨bk_72, List.forall_mem_cons.mpr ⟨bk_1205, fun _ h => absurd h List.not_mem_nil⟩⟩⟩⟩, by decide +kernel, by decide +kernel, by decide +kernel⟩
theorem wok_X8_get : wok M_X8_get := ⟨show ∀ w ∈ [Cond.instanceMethod yX8_get, Cond.selects RX8 yX8_get yX8_get, Cond.initialized RX8, Cond.code yX8_get cX8_get 3 (some .int)], w ∈ BIG from List.forall_mem_cons.mpr ⟨bk_1199, List.forall_mem_cons.mpr ⟨bk_1200, List.forall_mem_cons.mpr ⟨bk_72, List.forall_mem_cons.mpr ⟨bk_1201, fun _ h => absurd h List.not_mem_nil⟩⟩⟩⟩, by decide +kernel, by decide +kernel, by decide +kernel⟩
theorem wok_X8_keysOf : wok M_X8_keysOf := ⟨show ∀ w ∈ [Cond.instanceMethod yX8_keysOf, Cond.selects RX8 yX8_keysOf yX8_keysOf, Cond.initialized RX8, Cond.code yX8_keysOf cX8_keysOf 7 (some .int)], w ∈ BIG from List.forall_mem_cons.mpr ⟨bk_1220, List.forall_mem_cons.mpr ⟨bk_49, List.forall_mem_cons.mpr ⟨bk_72, List.forall_mem_cons.mpr ⟨bk_1221, fun _ h => absurd h List.not_mem_nil⟩⟩⟩⟩, by decide +kernel, by decide +kernel, by decide +kernel⟩
theorem wok_X8_ofRun : wok M_X8_ofRun := ⟨show ∀ w ∈ [Cond.instanceMethod yX8_ofRun, Cond.selects RX8 yX8_ofRun yX8_ofRun, Cond.initialized RX8, Cond.code yX8_ofRun cX8_ofRun 5 (some .int)], w ∈ BIG from List.forall_mem_cons.mpr ⟨bk_1212, List.forall_mem_cons.mpr ⟨bk_47, List.forall_mem_cons.mpr ⟨bk_72, List.forall_mem_cons.mpr ⟨bk_1213, fun _ h => absurd h List.not_mem_nil⟩⟩⟩⟩, by decide +kernel, by decide +kernel, by decide +kernel⟩
theorem wok_X8_run : wok M_X8_run := ⟨show ∀ w ∈ [Cond.instanceMethod yX8_run, Cond.selects RX8 yX8_run yX8_run, Cond.initialized RX8, Cond.code yX8_run cX8_run 3 (some .int)], w ∈ BIG from List.forall_mem_cons.mpr ⟨bk_1207, List.forall_mem_cons.mpr ⟨bk_1208, List.forall_mem_cons.mpr ⟨bk_72, List.forall_mem_cons.mpr ⟨bk_1209, fun _ h => absurd h List.not_mem_nil⟩⟩⟩⟩, by decide +kernel, by decide +kernel, by decide +kernel⟩
theorem wok_X8_write : wok M_X8_write := ⟨show ∀ w ∈ [Cond.instanceMethod yX8_write, Cond.selects RX8 yX8_write yX8_write, Cond.initialized RX8, Cond.code yX8_write cX8_write 5 (some .int)], w ∈ BIG from List.forall_mem_cons.mpr ⟨bk_1223, List.forall_mem_cons.mpr ⟨bk_1224, List.forall_mem_cons.mpr ⟨bk_72, List.forall_mem_cons.mpr ⟨bk_1225, fun _ h => absurd h List.not_mem_nil⟩⟩⟩⟩, by decide +kernel, by decide +kernel, by decide +kernel⟩
theorem wok_X8_eye : wok M_X8_eye := ⟨show ∀ w ∈ [Cond.instanceMethod yX8_eye, Cond.selects RX8 yX8_eye yX8_eye, Cond.initialized RX8, Cond.code yX8_eye cX8_eye 2 (some .int)], w ∈ BIG from List.forall_mem_cons.mpr ⟨bk_1227, List.forall_mem_cons.mpr ⟨bk_1228, List.forall_mem_cons.mpr ⟨bk_72, List.forall_mem_cons.mpr ⟨bk_1229, fun _ h => absurd h List.not_mem_nil⟩⟩⟩⟩, by decide +kernel, by decide +kernel, by decide +kernel⟩
theorem wok_X8_put : wok M_X8_put := ⟨show ∀ w ∈ [Cond.instanceMethod yX8_put, Cond.selects RX8 yX8_put yX8_put, Cond.initialized RX8, Cond.code yX8_put cX8_put 3 (some .int)], w ∈ BIG from List.forall_mem_cons.mpr ⟨bk_1231, List.forall_mem_cons.mpr ⟨bk_1232, List.forall_mem_cons.mpr ⟨bk_72, List.forall_mem_cons.mpr ⟨bk_1233, fun _ h => absurd h List.not_mem_nil⟩⟩⟩⟩, by decide +kernel, by decide +kernel, by decide +kernel⟩
theorem wok_X8_bury : wok M_X8_bury := ⟨show ∀ w ∈ [Cond.instanceMethod yX8_bury, Cond.selects RX8 yX8_bury yX8_bury, Cond.initialized RX8, Cond.code yX8_bury cX8_bury 3 (some .int)], w ∈ BIG from List.forall_mem_cons.mpr ⟨bk_1239, List.forall_mem_cons.mpr ⟨bk_1240, List.forall_mem_cons.mpr ⟨bk_72, List.forall_mem_cons.mpr ⟨bk_1241, fun _ h => absurd h List.not_mem_nil⟩⟩⟩⟩, by decide +kernel, by decide +kernel, by decide +kernel⟩
theorem wok_X8_open : wok M_X8_open := ⟨show ∀ w ∈ [Cond.instanceMethod yX8_open, Cond.selects RX8 yX8_open yX8_open, Cond.initialized RX8, Cond.code yX8_open cX8_open 1 (some .int)], w ∈ BIG from List.forall_mem_cons.mpr ⟨bk_1243, List.forall_mem_cons.mpr ⟨bk_1244, List.forall_mem_cons.mpr ⟨bk_72, List.forall_mem_cons.mpr ⟨bk_1245, fun _ h => absurd h List.not_mem_nil⟩⟩⟩⟩, by decide +kernel, by decide +kernel, by decide +kernel⟩
theorem wok_X8_close : wok M_X8_close := ⟨show ∀ w ∈ [Cond.instanceMethod yX8_close, Cond.selects RX8 yX8_close yX8_close, Cond.initialized RX8, Cond.code yX8_close cX8_close 2 (some .int)], w ∈ BIG from List.forall_mem_cons.mpr ⟨bk_1247, List.forall_mem_cons.mpr ⟨bk_1248, List.forall_mem_cons.mpr ⟨bk_72, List.forall_mem_cons.mpr ⟨bk_1249, fun _ h => absurd h List.not_mem_nil⟩⟩⟩⟩, by decide +kernel, by decide +kernel, by decide +kernel⟩
theorem wok_X8_flush : wok M_X8_flush := ⟨show ∀ w ∈ [Cond.instanceMethod yX8_flush, Cond.selects RX8 yX8_flush yX8_flush, Cond.initialized RX8, Cond.code yX8_flush cX8_flush 1 (some .int)], w ∈ BIG from List.forall_mem_cons.mpr ⟨bk_1251, List.forall_mem_cons.mpr ⟨bk_1252, List.forall_mem_cons.mpr ⟨bk_72, List.forall_mem_cons.mpr ⟨bk_1253, fun _ h => absurd h List.not_mem_nil⟩⟩⟩⟩, by decide +kernel, by decide +kernel, by decide +kernel⟩
theorem wok_X8_merge : wok M_X8_merge := ⟨show ∀ w ∈ [Cond.instanceMethod yX8_merge, Cond.selects RX8 yX8_merge yX8_merge, Cond.initialized RX8, Cond.code yX8_merge cX8_merge 2 (some .int)], w ∈ BIG from List.forall_mem_cons.mpr ⟨bk_1255, List.forall_mem_cons.mpr ⟨bk_1256, List.forall_mem_cons.mpr ⟨bk_72, List.forall_mem_cons.mpr ⟨bk_1257, fun _ h => absurd h List.not_mem_nil⟩⟩⟩⟩, by decide +kernel, by decide +kernel, by decide +kernel⟩
theorem wok_X8_undo : wok M_X8_undo := ⟨show ∀ w ∈ [Cond.instanceMethod yX8_undo, Cond.selects RX8 yX8_undo yX8_undo, Cond.initialized RX8, Cond.code yX8_undo cX8_undo 2 (some .int)], w ∈ BIG from List.forall_mem_cons.mpr ⟨bk_1259, List.forall_mem_cons.mpr ⟨bk_1260, List.forall_mem_cons.mpr ⟨bk_72, List.forall_mem_cons.mpr ⟨bk_1261, fun _ h => absurd h List.not_mem_nil⟩⟩⟩⟩, by decide +kernel, by decide +kernel, by decide +kernel⟩
theorem wok_X8_isIn : wok M_X8_isIn := ⟨show ∀ w ∈ [Cond.instanceMethod yX8_isIn, Cond.selects RX8 yX8_isIn yX8_isIn, Cond.initialized RX8, Cond.code yX8_isIn cX8_isIn 5 (some .boolean)], w ∈ BIG from List.forall_mem_cons.mpr ⟨bk_1272, List.forall_mem_cons.mpr ⟨bk_52, List.forall_mem_cons.mpr ⟨bk_72, List.forall_mem_cons.mpr ⟨bk_1273, fun _ h => absurd h List.not_mem_nil⟩⟩⟩⟩, by decide +kernel, by decide +kernel, by decide +kernel⟩
theorem wok_X8_lookedAt : wok M_X8_lookedAt := ⟨show ∀ w ∈ [Cond.instanceMethod yX8_lookedAt, Cond.selects RX8 yX8_lookedAt yX8_lookedAt, Cond.initialized RX8, Cond.code yX8_lookedAt cX8_lookedAt 4 (some .int)], w ∈ BIG from List.forall_mem_cons.mpr ⟨bk_1268, List.forall_mem_cons.mpr ⟨bk_51, List.forall_mem_cons.mpr ⟨bk_72, List.forall_mem_cons.mpr ⟨bk_1269, fun _ h => absurd h List.not_mem_nil⟩⟩⟩⟩, by decide +kernel, by decide +kernel, by decide +kernel⟩
theorem wok_X8_looks : wok M_X8_looks := ⟨show ∀ w ∈ [Cond.instanceMethod yX8_looks, Cond.selects RX8 yX8_looks yX8_looks, Cond.initialized RX8, Cond.code yX8_looks cX8_looks 2 (some .int)], w ∈ BIG from List.forall_mem_cons.mpr ⟨bk_1263, List.forall_mem_cons.mpr ⟨bk_1264, List.forall_mem_cons.mpr ⟨bk_72, List.forall_mem_cons.mpr ⟨bk_1265, fun _ h => absurd h List.not_mem_nil⟩⟩⟩⟩, by decide +kernel, by decide +kernel, by decide +kernel⟩
theorem wok_X8_nextSeen : wok M_X8_nextSeen := ⟨show ∀ w ∈ [Cond.instanceMethod yX8_nextSeen, Cond.selects RX8 yX8_nextSeen yX8_nextSeen, Cond.initialized RX8, Cond.code yX8_nextSeen cX8_nextSeen 4 (some .int)], w ∈ BIG from List.forall_mem_cons.mpr ⟨bk_1280, List.forall_mem_cons.mpr ⟨bk_53, List.forall_mem_cons.mpr ⟨bk_72, List.forall_mem_cons.mpr ⟨bk_1281, fun _ h => absurd h List.not_mem_nil⟩⟩⟩⟩, by decide +kernel, by decide +kernel, by decide +kernel⟩
theorem wok_X8_next : wok M_X8_next := ⟨show ∀ w ∈ [Cond.instanceMethod yX8_next, Cond.selects RX8 yX8_next yX8_next, Cond.initialized RX8, Cond.code yX8_next cX8_next 3 (some .int)], w ∈ BIG from List.forall_mem_cons.mpr ⟨bk_1275, List.forall_mem_cons.mpr ⟨bk_1276, List.forall_mem_cons.mpr ⟨bk_72, List.forall_mem_cons.mpr ⟨bk_1277, fun _ h => absurd h List.not_mem_nil⟩⟩⟩⟩, by decide +kernel, by decide +kernel, by decide +kernel⟩
theorem wok_X8_count : wok M_X8_count := ⟨show ∀ w ∈ [Cond.instanceMethod yX8_count, Cond.selects RX8 yX8_count yX8_count, Cond.initialized RX8, Cond.code yX8_count cX8_count 5 (some .int)], w ∈ BIG from List.forall_mem_cons.mpr ⟨bk_1283, List.forall_mem_cons.mpr ⟨bk_1284, List.forall_mem_cons.mpr ⟨bk_72, List.forall_mem_cons.mpr ⟨bk_1285, fun _ h => absurd h List.not_mem_nil⟩⟩⟩⟩, by decide +kernel, by decide +kernel, by decide +kernel⟩
theorem wok_X8_hidden : wok M_X8_hidden := ⟨show ∀ w ∈ [Cond.instanceMethod yX8_hidden, Cond.selects RX8 yX8_hidden yX8_hidden, Cond.initialized RX8, Cond.code yX8_hidden cX8_hidden 5 (some .int)], w ∈ BIG from List.forall_mem_cons.mpr ⟨bk_1287, List.forall_mem_cons.mpr ⟨bk_1288, List.forall_mem_cons.mpr ⟨bk_72, List.forall_mem_cons.mpr ⟨bk_1289, fun _ h => absurd h List.not_mem_nil⟩⟩⟩⟩, by decide +kernel, by decide +kernel, by decide +kernel⟩
theorem wok_X8_newestGrave : wok M_X8_newestGrave := ⟨show ∀ w ∈ [Cond.instanceMethod yX8_newestGrave, Cond.selects RX8 yX8_newestGrave yX8_newestGrave, Cond.initialized RX8, Cond.code yX8_newestGrave cX8_newestGrave 4 (some .int)], w ∈ BIG from List.forall_mem_cons.mpr ⟨bk_1296, List.forall_mem_cons.mpr ⟨bk_54, List.forall_mem_cons.mpr ⟨bk_72, List.forall_mem_cons.mpr ⟨bk_1297, fun _ h => absurd h List.not_mem_nil⟩⟩⟩⟩, by decide +kernel, by decide +kernel, by decide +kernel⟩
theorem wok_X8_grave : wok M_X8_grave := ⟨show ∀ w ∈ [Cond.instanceMethod yX8_grave, Cond.selects RX8 yX8_grave yX8_grave, Cond.initialized RX8, Cond.code yX8_grave cX8_grave 2 (some .int)], w ∈ BIG from List.forall_mem_cons.mpr ⟨bk_1291, List.forall_mem_cons.mpr ⟨bk_1292, List.forall_mem_cons.mpr ⟨bk_72, List.forall_mem_cons.mpr ⟨bk_1293, fun _ h => absurd h List.not_mem_nil⟩⟩⟩⟩, by decide +kernel, by decide +kernel, by decide +kernel⟩
theorem wok_X8_savedBy : wok M_X8_savedBy := ⟨show ∀ w ∈ [Cond.instanceMethod yX8_savedBy, Cond.selects RX8 yX8_savedBy yX8_savedBy, Cond.initialized RX8, Cond.code yX8_savedBy cX8_savedBy 2 (some .int)], w ∈ BIG from List.forall_mem_cons.mpr ⟨bk_1304, List.forall_mem_cons.mpr ⟨bk_55, List.forall_mem_cons.mpr ⟨bk_72, List.forall_mem_cons.mpr ⟨bk_1305, fun _ h => absurd h List.not_mem_nil⟩⟩⟩⟩, by decide +kernel, by decide +kernel, by decide +kernel⟩
theorem wok_X8_saves : wok M_X8_saves := ⟨show ∀ w ∈ [Cond.instanceMethod yX8_saves, Cond.selects RX8 yX8_saves yX8_saves, Cond.initialized RX8, Cond.code yX8_saves cX8_saves 2 (some .int)], w ∈ BIG from List.forall_mem_cons.mpr ⟨bk_1299, List.forall_mem_cons.mpr ⟨bk_1300, List.forall_mem_cons.mpr ⟨bk_72, List.forall_mem_cons.mpr ⟨bk_1301, fun _ h => absurd h List.not_mem_nil⟩⟩⟩⟩, by decide +kernel, by decide +kernel, by decide +kernel⟩
theorem wok_X8_best : wok M_X8_best := ⟨show ∀ w ∈ [Cond.instanceMethod yX8_best, Cond.selects RX8 yX8_best yX8_best, Cond.initialized RX8, Cond.code yX8_best cX8_best 6 (some .int)], w ∈ BIG from List.forall_mem_cons.mpr ⟨bk_1307, List.forall_mem_cons.mpr ⟨bk_1308, List.forall_mem_cons.mpr ⟨bk_72, List.forall_mem_cons.mpr ⟨bk_1309, fun _ h => absurd h List.not_mem_nil⟩⟩⟩⟩, by decide +kernel, by decide +kernel, by decide +kernel⟩
theorem wok_X8_fewest : wok M_X8_fewest := ⟨show ∀ w ∈ [Cond.instanceMethod yX8_fewest, Cond.selects RX8 yX8_fewest yX8_fewest, Cond.initialized RX8, Cond.code yX8_fewest cX8_fewest 1 (some .int)], w ∈ BIG from List.forall_mem_cons.mpr ⟨bk_1311, List.forall_mem_cons.mpr ⟨bk_1312, List.forall_mem_cons.mpr ⟨bk_72, List.forall_mem_cons.mpr ⟨bk_1313, fun _ h => absurd h List.not_mem_nil⟩⟩⟩⟩, by decide +kernel, by decide +kernel, by decide +kernel⟩
theorem wok_X8_doesWell : wok M_X8_doesWell := ⟨show ∀ w ∈ [Cond.instanceMethod yX8_doesWell, Cond.selects RX8 yX8_doesWell yX8_doesWell, Cond.initialized RX8, Cond.code yX8_doesWell cX8_doesWell 7 (some .boolean)], w ∈ BIG from List.forall_mem_cons.mpr ⟨bk_1333, List.forall_mem_cons.mpr ⟨bk_58, List.forall_mem_cons.mpr ⟨bk_72, List.forall_mem_cons.mpr ⟨bk_1334, fun _ h => absurd h List.not_mem_nil⟩⟩⟩⟩, by decide +kernel, by decide +kernel, by decide +kernel⟩
theorem wok_X8_ran : wok M_X8_ran := ⟨show ∀ w ∈ [Cond.instanceMethod yX8_ran, Cond.selects RX8 yX8_ran yX8_ran, Cond.initialized RX8, Cond.code yX8_ran cX8_ran 11 (some .int)], w ∈ BIG from List.forall_mem_cons.mpr ⟨bk_1323, List.forall_mem_cons.mpr ⟨bk_56, List.forall_mem_cons.mpr ⟨bk_72, List.forall_mem_cons.mpr ⟨bk_1324, fun _ h => absurd h List.not_mem_nil⟩⟩⟩⟩, by decide +kernel, by decide +kernel, by decide +kernel⟩
theorem wok_X8_runScript : wok M_X8_runScript := ⟨show ∀ w ∈ [Cond.instanceMethod yX8_runScript, Cond.selects RX8 yX8_runScript yX8_runScript, Cond.initialized RX8, Cond.code yX8_runScript cX8_runScript 6 (some .int)], w ∈ BIG from List.forall_mem_cons.mpr ⟨bk_1315, List.forall_mem_cons.mpr ⟨bk_1316, List.forall_mem_cons.mpr ⟨bk_72, List.forall_mem_cons.mpr ⟨bk_1317, fun _ h => absurd h List.not_mem_nil⟩⟩⟩⟩, by decide +kernel, by decide +kernel, by decide +kernel⟩
theorem wok_X8_turn : wok M_X8_turn := ⟨show ∀ w ∈ [Cond.instanceMethod yX8_turn, Cond.selects RX8 yX8_turn yX8_turn, Cond.initialized RX8, Cond.code yX8_turn cX8_turn 6 none], w ∈ BIG from List.forall_mem_cons.mpr ⟨bk_1351, List.forall_mem_cons.mpr ⟨bk_61, List.forall_mem_cons.mpr ⟨bk_72, List.forall_mem_cons.mpr ⟨bk_1352, fun _ h => absurd h List.not_mem_nil⟩⟩⟩⟩, by decide +kernel, by decide +kernel, by decide +kernel⟩
theorem wok_X8_simulated : wok M_X8_simulated := ⟨show ∀ w ∈ [Cond.instanceMethod yX8_simulated, Cond.selects RX8 yX8_simulated yX8_simulated, Cond.initialized RX8, Cond.code yX8_simulated cX8_simulated 7 (some .int)], w ∈ BIG from List.forall_mem_cons.mpr ⟨bk_1345, List.forall_mem_cons.mpr ⟨bk_60, List.forall_mem_cons.mpr ⟨bk_72, List.forall_mem_cons.mpr ⟨bk_1346, fun _ h => absurd h List.not_mem_nil⟩⟩⟩⟩, by decide +kernel, by decide +kernel, by decide +kernel⟩
theorem wok_X8_simulate : wok M_X8_simulate := ⟨show ∀ w ∈ [Cond.instanceMethod yX8_simulate, Cond.selects RX8 yX8_simulate yX8_simulate, Cond.initialized RX8, Cond.code yX8_simulate cX8_simulate 4 (some .int)], w ∈ BIG from List.forall_mem_cons.mpr ⟨bk_1340, List.forall_mem_cons.mpr ⟨bk_1341, List.forall_mem_cons.mpr ⟨bk_72, List.forall_mem_cons.mpr ⟨bk_1342, fun _ h => absurd h List.not_mem_nil⟩⟩⟩⟩, by decide +kernel, by decide +kernel, by decide +kernel⟩
theorem wok_X8_save : wok M_X8_save := ⟨show ∀ w ∈ [Cond.instanceMethod yX8_save, Cond.selects RX8 yX8_save yX8_save, Cond.initialized RX8, Cond.code yX8_save cX8_save 3 (some .int)], w ∈ BIG from List.forall_mem_cons.mpr ⟨bk_1354, List.forall_mem_cons.mpr ⟨bk_1355, List.forall_mem_cons.mpr ⟨bk_72, List.forall_mem_cons.mpr ⟨bk_1356, fun _ h => absurd h List.not_mem_nil⟩⟩⟩⟩, by decide +kernel, by decide +kernel, by decide +kernel⟩
theorem wok_X8_restore : wok M_X8_restore := ⟨show ∀ w ∈ [Cond.instanceMethod yX8_restore, Cond.selects RX8 yX8_restore yX8_restore, Cond.initialized RX8, Cond.code yX8_restore cX8_restore 3 (some .int)], w ∈ BIG from List.forall_mem_cons.mpr ⟨bk_1358, List.forall_mem_cons.mpr ⟨bk_1359, List.forall_mem_cons.mpr ⟨bk_72, List.forall_mem_cons.mpr ⟨bk_1360, fun _ h => absurd h List.not_mem_nil⟩⟩⟩⟩, by decide +kernel, by decide +kernel, by decide +kernel⟩
theorem wok_J13_bitCount_95d88 : wok M_J13_bitCount_95d88 := ⟨show ∀ w ∈ [Cond.static yJ13_bitCount_95d88, Cond.initialized RJ13, Cond.code yJ13_bitCount_95d88 cJ13_bitCount_95d88 2 (some .int)], w ∈ BIG from List.forall_mem_cons.mpr ⟨bk_766, List.forall_mem_cons.mpr ⟨bk_81, List.forall_mem_cons.mpr ⟨bk_767, fun _ h => absurd h List.not_mem_nil⟩⟩⟩, by decide +kernel, by decide +kernel, by decide +kernel⟩
theorem wok_J7_fill_53178 : wok M_J7_fill_53178 := ⟨show ∀ w ∈ [Cond.static yJ7_fill_53178, Cond.initialized RJ7, Cond.code yJ7_fill_53178 cJ7_fill_53178 4 none], w ∈ BIG from List.forall_mem_cons.mpr ⟨bk_682, List.forall_mem_cons.mpr ⟨bk_79, List.forall_mem_cons.mpr ⟨bk_683, fun _ h => absurd h List.not_mem_nil⟩⟩⟩, by decide +kernel, by decide +kernel, by decide +kernel⟩
theorem wokW_L_append : wokW M_L_append [(0, 9, 12, 13), (0, 9, 15, 15)] := ⟨show ∀ w ∈ [Cond.static yL_append, Cond.initialized RL, Cond.codeWith yL_append cL_append 4 (some .int) [(0, 9, 12, 13), (0, 9, 15, 15)]], w ∈ BIG from List.forall_mem_cons.mpr ⟨bk_471, List.forall_mem_cons.mpr ⟨bk_62, List.forall_mem_cons.mpr ⟨bk_472, fun _ h => absurd h List.not_mem_nil⟩⟩⟩, by decide +kernel, by decide +kernel, by decide +kernel⟩
theorem wokW_L_load : wokW M_L_load [(0, 8, 11, 15)] := ⟨show ∀ w ∈ [Cond.static yL_load, Cond.initialized RL, Cond.codeWith yL_load cL_load 3 (some .int) [(0, 8, 11, 15)]], w ∈ BIG from List.forall_mem_cons.mpr ⟨bk_572, List.forall_mem_cons.mpr ⟨bk_62, List.forall_mem_cons.mpr ⟨bk_573, fun _ h => absurd h List.not_mem_nil⟩⟩⟩, by decide +kernel, by decide +kernel, by decide +kernel⟩
theorem wokW_L_about : wokW M_L_about [(0, 9, 12, 13)] := ⟨show ∀ w ∈ [Cond.static yL_about, Cond.initialized RL, Cond.codeWith yL_about cL_about 4 (some .int) [(0, 9, 12, 13)]], w ∈ BIG from List.forall_mem_cons.mpr ⟨bk_654, List.forall_mem_cons.mpr ⟨bk_62, List.forall_mem_cons.mpr ⟨bk_655, fun _ h => absurd h List.not_mem_nil⟩⟩⟩, by decide +kernel, by decide +kernel, by decide +kernel⟩
theorem wokW_L_get : wokW M_L_get [(0, 10, 13, 28)] := ⟨show ∀ w ∈ [Cond.static yL_get, Cond.initialized RL, Cond.codeWith yL_get cL_get 5 (some .int) [(0, 10, 13, 28)]], w ∈ BIG from List.forall_mem_cons.mpr ⟨bk_704, List.forall_mem_cons.mpr ⟨bk_62, List.forall_mem_cons.mpr ⟨bk_705, fun _ h => absurd h List.not_mem_nil⟩⟩⟩, by decide +kernel, by decide +kernel, by decide +kernel⟩
theorem wokW_L_run : wokW M_L_run [(0, 10, 13, 28), (0, 10, 17, 13)] := ⟨show ∀ w ∈ [Cond.static yL_run, Cond.initialized RL, Cond.codeWith yL_run cL_run 5 (some .int) [(0, 10, 13, 28), (0, 10, 17, 13)]], w ∈ BIG from List.forall_mem_cons.mpr ⟨bk_739, List.forall_mem_cons.mpr ⟨bk_62, List.forall_mem_cons.mpr ⟨bk_740, fun _ h => absurd h List.not_mem_nil⟩⟩⟩, by decide +kernel, by decide +kernel, by decide +kernel⟩
theorem wokW_L_write : wokW M_L_write [(0, 12, 15, 28), (0, 12, 19, 13)] := ⟨show ∀ w ∈ [Cond.static yL_write, Cond.initialized RL, Cond.codeWith yL_write cL_write 6 (some .int) [(0, 12, 15, 28), (0, 12, 19, 13)]], w ∈ BIG from List.forall_mem_cons.mpr ⟨bk_773, List.forall_mem_cons.mpr ⟨bk_62, List.forall_mem_cons.mpr ⟨bk_774, fun _ h => absurd h List.not_mem_nil⟩⟩⟩, by decide +kernel, by decide +kernel, by decide +kernel⟩
theorem wokW_L_eye : wokW M_L_eye [(0, 9, 12, 28)] := ⟨show ∀ w ∈ [Cond.static yL_eye, Cond.initialized RL, Cond.codeWith yL_eye cL_eye 4 (some .int) [(0, 9, 12, 28)]], w ∈ BIG from List.forall_mem_cons.mpr ⟨bk_784, List.forall_mem_cons.mpr ⟨bk_62, List.forall_mem_cons.mpr ⟨bk_785, fun _ h => absurd h List.not_mem_nil⟩⟩⟩, by decide +kernel, by decide +kernel, by decide +kernel⟩
theorem wokW_L_put : wokW M_L_put [(0, 10, 13, 28), (0, 10, 17, 13), (0, 10, 21, 15)] := ⟨show ∀ w ∈ [Cond.static yL_put, Cond.initialized RL, Cond.codeWith yL_put cL_put 5 (some .int) [(0, 10, 13, 28), (0, 10, 17, 13), (0, 10, 21, 15)]], w ∈ BIG from List.forall_mem_cons.mpr ⟨bk_793, List.forall_mem_cons.mpr ⟨bk_62, List.forall_mem_cons.mpr ⟨bk_794, fun _ h => absurd h List.not_mem_nil⟩⟩⟩, by decide +kernel, by decide +kernel, by decide +kernel⟩
theorem wokW_L_bury : wokW M_L_bury [(0, 10, 13, 28), (0, 10, 17, 13), (0, 10, 21, 15)] := ⟨show ∀ w ∈ [Cond.static yL_bury, Cond.initialized RL, Cond.codeWith yL_bury cL_bury 5 (some .int) [(0, 10, 13, 28), (0, 10, 17, 13), (0, 10, 21, 15)]], w ∈ BIG from List.forall_mem_cons.mpr ⟨bk_811, List.forall_mem_cons.mpr ⟨bk_62, List.forall_mem_cons.mpr ⟨bk_812, fun _ h => absurd h List.not_mem_nil⟩⟩⟩, by decide +kernel, by decide +kernel, by decide +kernel⟩
theorem wokW_L_open : wokW M_L_open [(0, 8, 11, 15)] := ⟨show ∀ w ∈ [Cond.static yL_open, Cond.initialized RL, Cond.codeWith yL_open cL_open 3 (some .int) [(0, 8, 11, 15)]], w ∈ BIG from List.forall_mem_cons.mpr ⟨bk_819, List.forall_mem_cons.mpr ⟨bk_62, List.forall_mem_cons.mpr ⟨bk_820, fun _ h => absurd h List.not_mem_nil⟩⟩⟩, by decide +kernel, by decide +kernel, by decide +kernel⟩
theorem wokW_L_close : wokW M_L_close [(0, 9, 12, 28)] := ⟨show ∀ w ∈ [Cond.static yL_close, Cond.initialized RL, Cond.codeWith yL_close cL_close 4 (some .int) [(0, 9, 12, 28)]], w ∈ BIG from List.forall_mem_cons.mpr ⟨bk_829, List.forall_mem_cons.mpr ⟨bk_62, List.forall_mem_cons.mpr ⟨bk_830, fun _ h => absurd h List.not_mem_nil⟩⟩⟩, by decide +kernel, by decide +kernel, by decide +kernel⟩
theorem wokW_L_flush : wokW M_L_flush [(0, 8, 11, 15)] := ⟨show ∀ w ∈ [Cond.static yL_flush, Cond.initialized RL, Cond.codeWith yL_flush cL_flush 3 (some .int) [(0, 8, 11, 15)]], w ∈ BIG from List.forall_mem_cons.mpr ⟨bk_837, List.forall_mem_cons.mpr ⟨bk_62, List.forall_mem_cons.mpr ⟨bk_838, fun _ h => absurd h List.not_mem_nil⟩⟩⟩, by decide +kernel, by decide +kernel, by decide +kernel⟩
theorem wokW_L_merge : wokW M_L_merge [(0, 9, 12, 28), (0, 9, 15, 15)] := ⟨show ∀ w ∈ [Cond.static yL_merge, Cond.initialized RL, Cond.codeWith yL_merge cL_merge 4 (some .int) [(0, 9, 12, 28), (0, 9, 15, 15)]], w ∈ BIG from List.forall_mem_cons.mpr ⟨bk_846, List.forall_mem_cons.mpr ⟨bk_62, List.forall_mem_cons.mpr ⟨bk_847, fun _ h => absurd h List.not_mem_nil⟩⟩⟩, by decide +kernel, by decide +kernel, by decide +kernel⟩
theorem wokW_L_undo : wokW M_L_undo [(0, 8, 11, 15)] := ⟨show ∀ w ∈ [Cond.static yL_undo, Cond.initialized RL, Cond.codeWith yL_undo cL_undo 3 (some .int) [(0, 8, 11, 15)]], w ∈ BIG from List.forall_mem_cons.mpr ⟨bk_855, List.forall_mem_cons.mpr ⟨bk_62, List.forall_mem_cons.mpr ⟨bk_856, fun _ h => absurd h List.not_mem_nil⟩⟩⟩, by decide +kernel, by decide +kernel, by decide +kernel⟩
theorem wokW_L_looks : wokW M_L_looks [(0, 9, 12, 28)] := ⟨show ∀ w ∈ [Cond.static yL_looks, Cond.initialized RL, Cond.codeWith yL_looks cL_looks 4 (some .int) [(0, 9, 12, 28)]], w ∈ BIG from List.forall_mem_cons.mpr ⟨bk_871, List.forall_mem_cons.mpr ⟨bk_62, List.forall_mem_cons.mpr ⟨bk_872, fun _ h => absurd h List.not_mem_nil⟩⟩⟩, by decide +kernel, by decide +kernel, by decide +kernel⟩
theorem wokW_L_next : wokW M_L_next [(0, 10, 13, 28)] := ⟨show ∀ w ∈ [Cond.static yL_next, Cond.initialized RL, Cond.codeWith yL_next cL_next 5 (some .int) [(0, 10, 13, 28)]], w ∈ BIG from List.forall_mem_cons.mpr ⟨bk_879, List.forall_mem_cons.mpr ⟨bk_62, List.forall_mem_cons.mpr ⟨bk_880, fun _ h => absurd h List.not_mem_nil⟩⟩⟩, by decide +kernel, by decide +kernel, by decide +kernel⟩
theorem wokW_L_count : wokW M_L_count [(0, 12, 15, 28), (0, 12, 19, 13)] := ⟨show ∀ w ∈ [Cond.static yL_count, Cond.initialized RL, Cond.codeWith yL_count cL_count 6 (some .int) [(0, 12, 15, 28), (0, 12, 19, 13)]], w ∈ BIG from List.forall_mem_cons.mpr ⟨bk_890, List.forall_mem_cons.mpr ⟨bk_62, List.forall_mem_cons.mpr ⟨bk_891, fun _ h => absurd h List.not_mem_nil⟩⟩⟩, by decide +kernel, by decide +kernel, by decide +kernel⟩
theorem wokW_L_grave : wokW M_L_grave [(0, 9, 12, 28)] := ⟨show ∀ w ∈ [Cond.static yL_grave, Cond.initialized RL, Cond.codeWith yL_grave cL_grave 4 (some .int) [(0, 9, 12, 28)]], w ∈ BIG from List.forall_mem_cons.mpr ⟨bk_897, List.forall_mem_cons.mpr ⟨bk_62, List.forall_mem_cons.mpr ⟨bk_898, fun _ h => absurd h List.not_mem_nil⟩⟩⟩, by decide +kernel, by decide +kernel, by decide +kernel⟩
theorem wokW_L_saves : wokW M_L_saves [(0, 9, 12, 28), (0, 9, 15, 15)] := ⟨show ∀ w ∈ [Cond.static yL_saves, Cond.initialized RL, Cond.codeWith yL_saves cL_saves 4 (some .int) [(0, 9, 12, 28), (0, 9, 15, 15)]], w ∈ BIG from List.forall_mem_cons.mpr ⟨bk_905, List.forall_mem_cons.mpr ⟨bk_62, List.forall_mem_cons.mpr ⟨bk_906, fun _ h => absurd h List.not_mem_nil⟩⟩⟩, by decide +kernel, by decide +kernel, by decide +kernel⟩
theorem wokW_L_runScript : wokW M_L_runScript [(0, 11, 14, 13)] := ⟨show ∀ w ∈ [Cond.static yL_runScript, Cond.initialized RL, Cond.codeWith yL_runScript cL_runScript 6 (some .int) [(0, 11, 14, 13)]], w ∈ BIG from List.forall_mem_cons.mpr ⟨bk_912, List.forall_mem_cons.mpr ⟨bk_62, List.forall_mem_cons.mpr ⟨bk_913, fun _ h => absurd h List.not_mem_nil⟩⟩⟩, by decide +kernel, by decide +kernel, by decide +kernel⟩
theorem wokW_L_simulate : wokW M_L_simulate [(0, 11, 14, 13)] := ⟨show ∀ w ∈ [Cond.static yL_simulate, Cond.initialized RL, Cond.codeWith yL_simulate cL_simulate 6 (some .int) [(0, 11, 14, 13)]], w ∈ BIG from List.forall_mem_cons.mpr ⟨bk_929, List.forall_mem_cons.mpr ⟨bk_62, List.forall_mem_cons.mpr ⟨bk_930, fun _ h => absurd h List.not_mem_nil⟩⟩⟩, by decide +kernel, by decide +kernel, by decide +kernel⟩
theorem wokW_L_save : wokW M_L_save [(0, 9, 12, 28)] := ⟨show ∀ w ∈ [Cond.static yL_save, Cond.initialized RL, Cond.codeWith yL_save cL_save 4 (some .int) [(0, 9, 12, 28)]], w ∈ BIG from List.forall_mem_cons.mpr ⟨bk_944, List.forall_mem_cons.mpr ⟨bk_62, List.forall_mem_cons.mpr ⟨bk_945, fun _ h => absurd h List.not_mem_nil⟩⟩⟩, by decide +kernel, by decide +kernel, by decide +kernel⟩
theorem wokW_L_restore : wokW M_L_restore [(0, 9, 12, 28), (0, 9, 15, 15)] := ⟨show ∀ w ∈ [Cond.static yL_restore, Cond.initialized RL, Cond.codeWith yL_restore cL_restore 4 (some .int) [(0, 9, 12, 28), (0, 9, 15, 15)]], w ∈ BIG from List.forall_mem_cons.mpr ⟨bk_952, List.forall_mem_cons.mpr ⟨bk_62, List.forall_mem_cons.mpr ⟨bk_953, fun _ h => absurd h List.not_mem_nil⟩⟩⟩, by decide +kernel, by decide +kernel, by decide +kernel⟩
theorem fl_RX0_14 : FLD 0 RX0 14 0 := ⟨RX0, TX0, 5, rfl, by decide, layX0, rfl, Or.inl bk_136⟩
theorem fl_RX0_22 : FLD 0 RX0 22 1 := ⟨RX0, TX0, 5, rfl, by decide, layX0, rfl, Or.inl bk_138⟩
theorem fl_RX0_27 : FLD 0 RX0 27 2 := ⟨RX0, TX0, 5, rfl, by decide, layX0, rfl, Or.inl bk_139⟩
theorem fl_RX0_31 : FLD 0 RX0 31 3 := ⟨RX0, TX0, 5, rfl, by decide, layX0, rfl, Or.inl bk_140⟩
theorem fl_RX0_34 : FLD 0 RX0 34 4 := ⟨RX0, TX0, 5, rfl, by decide, layX0, rfl, Or.inl bk_141⟩
theorem fl_RX0_57 : FLD 3 RX0 57 1 := ⟨RX3, TX3, 8, rfl, by decide, layX3, rfl, Or.inr ⟨_, tk_177⟩⟩
theorem fl_RX1_11 : FLD 1 RX1 11 0 := ⟨RX1, TX1, 3, rfl, by decide, layX1, rfl, Or.inl bk_211⟩
theorem fl_RX1_20 : FLD 1 RX1 20 2 := ⟨RX1, TX1, 3, rfl, by decide, layX1, rfl, Or.inl bk_213⟩
theorem fl_RX1_24 : FLD 1 RX1 24 1 := ⟨RX1, TX1, 3, rfl, by decide, layX1, rfl, Or.inl bk_212⟩
theorem fl_RX2_15 : FLD 2 RX2 15 1 := ⟨RX2, TX2, 2, rfl, by decide, layX2, rfl, Or.inl bk_130⟩
theorem fl_RX2_9 : FLD 2 RX2 9 0 := ⟨RX2, TX2, 2, rfl, by decide, layX2, rfl, Or.inl bk_129⟩
theorem fl_RX3_122 : FLD 0 RX3 122 0 := ⟨RX0, TX0, 5, rfl, by decide, layX0, rfl, Or.inr ⟨_, tk_137⟩⟩
theorem fl_RX3_15 : FLD 3 RX3 15 3 := ⟨RX3, TX3, 8, rfl, by decide, layX3, rfl, Or.inl bk_180⟩
theorem fl_RX3_18 : FLD 3 RX3 18 0 := ⟨RX3, TX3, 8, rfl, by decide, layX3, rfl, Or.inl bk_174⟩
theorem fl_RX3_27 : FLD 3 RX3 27 1 := ⟨RX3, TX3, 8, rfl, by decide, layX3, rfl, Or.inl bk_175⟩
theorem fl_RX3_34 : FLD 3 RX3 34 4 := ⟨RX3, TX3, 8, rfl, by decide, layX3, rfl, Or.inl bk_181⟩
theorem fl_RX3_38 : FLD 3 RX3 38 5 := ⟨RX3, TX3, 8, rfl, by decide, layX3, rfl, Or.inl bk_182⟩
theorem fl_RX3_41 : FLD 3 RX3 41 6 := ⟨RX3, TX3, 8, rfl, by decide, layX3, rfl, Or.inl bk_183⟩
theorem fl_RX3_44 : FLD 3 RX3 44 7 := ⟨RX3, TX3, 8, rfl, by decide, layX3, rfl, Or.inl bk_184⟩
theorem fl_RX3_9 : FLD 3 RX3 9 2 := ⟨RX3, TX3, 8, rfl, by decide, layX3, rfl, Or.inl bk_179⟩
theorem fl_RX4_15 : FLD 4 RX4 15 1 := ⟨RX4, TX4, 2, rfl, by decide, layX4, rfl, Or.inl bk_160⟩
theorem fl_RX4_9 : FLD 4 RX4 9 0 := ⟨RX4, TX4, 2, rfl, by decide, layX4, rfl, Or.inl bk_159⟩
theorem fl_RX5_21 : FLD 3 RX5 21 1 := ⟨RX3, TX3, 8, rfl, by decide, layX3, rfl, Or.inr ⟨_, tk_176⟩⟩
theorem fl_RX5_9 : FLD 5 RX5 9 0 := ⟨RX5, TX5, 1, rfl, by decide, layX5, rfl, Or.inl bk_227⟩
theorem fl_RX6_15 : FLD 6 RX6 15 0 := ⟨RX6, TX6, 5, rfl, by decide, layX6, rfl, Or.inl bk_105⟩
theorem fl_RX6_21 : FLD 6 RX6 21 1 := ⟨RX6, TX6, 5, rfl, by decide, layX6, rfl, Or.inl bk_106⟩
theorem fl_RX6_24 : FLD 6 RX6 24 2 := ⟨RX6, TX6, 5, rfl, by decide, layX6, rfl, Or.inl bk_107⟩
theorem fl_RX6_27 : FLD 6 RX6 27 3 := ⟨RX6, TX6, 5, rfl, by decide, layX6, rfl, Or.inl bk_108⟩
theorem fl_RX6_30 : FLD 6 RX6 30 4 := ⟨RX6, TX6, 5, rfl, by decide, layX6, rfl, Or.inl bk_109⟩
theorem fl_RX7_15 : FLD 7 RX7 15 0 := ⟨RX7, TX7, 7, rfl, by decide, layX7, rfl, Or.inl bk_232⟩
theorem fl_RX7_162 : FLD 3 RX7 162 1 := ⟨RX3, TX3, 8, rfl, by decide, layX3, rfl, Or.inr ⟨_, tk_178⟩⟩
theorem fl_RX7_24 : FLD 7 RX7 24 1 := ⟨RX7, TX7, 7, rfl, by decide, layX7, rfl, Or.inl bk_233⟩
theorem fl_RX7_28 : FLD 7 RX7 28 2 := ⟨RX7, TX7, 7, rfl, by decide, layX7, rfl, Or.inl bk_234⟩
theorem fl_RX7_36 : FLD 7 RX7 36 3 := ⟨RX7, TX7, 7, rfl, by decide, layX7, rfl, Or.inl bk_235⟩
theorem fl_RX7_40 : FLD 7 RX7 40 4 := ⟨RX7, TX7, 7, rfl, by decide, layX7, rfl, Or.inl bk_236⟩
theorem fl_RX7_44 : FLD 7 RX7 44 5 := ⟨RX7, TX7, 7, rfl, by decide, layX7, rfl, Or.inl bk_237⟩
theorem fl_RX7_51 : FLD 7 RX7 51 6 := ⟨RX7, TX7, 7, rfl, by decide, layX7, rfl, Or.inl bk_238⟩
theorem fl_RX8_121 : FLD 8 RX8 121 8 := ⟨RX8, TX8, 17, rfl, by decide, layX8, rfl, Or.inl bk_973⟩
theorem fl_RX8_127 : FLD 8 RX8 127 12 := ⟨RX8, TX8, 17, rfl, by decide, layX8, rfl, Or.inl bk_977⟩
theorem fl_RX8_13 : FLD 8 RX8 13 2 := ⟨RX8, TX8, 17, rfl, by decide, layX8, rfl, Or.inl bk_967⟩
theorem fl_RX8_130 : FLD 8 RX8 130 13 := ⟨RX8, TX8, 17, rfl, by decide, layX8, rfl, Or.inl bk_978⟩
theorem fl_RX8_137 : FLD 8 RX8 137 14 := ⟨RX8, TX8, 17, rfl, by decide, layX8, rfl, Or.inl bk_979⟩
theorem fl_RX8_143 : FLD 8 RX8 143 15 := ⟨RX8, TX8, 17, rfl, by decide, layX8, rfl, Or.inl bk_980⟩
theorem fl_RX8_146 : FLD 8 RX8 146 16 := ⟨RX8, TX8, 17, rfl, by decide, layX8, rfl, Or.inl bk_981⟩
theorem fl_RX8_16 : FLD 8 RX8 16 3 := ⟨RX8, TX8, 17, rfl, by decide, layX8, rfl, Or.inl bk_968⟩
theorem fl_RX8_19 : FLD 8 RX8 19 5 := ⟨RX8, TX8, 17, rfl, by decide, layX8, rfl, Or.inl bk_970⟩
theorem fl_RX8_22 : FLD 8 RX8 22 6 := ⟨RX8, TX8, 17, rfl, by decide, layX8, rfl, Or.inl bk_971⟩
theorem fl_RX8_26 : FLD 8 RX8 26 7 := ⟨RX8, TX8, 17, rfl, by decide, layX8, rfl, Or.inl bk_972⟩
theorem fl_RX8_29 : FLD 8 RX8 29 9 := ⟨RX8, TX8, 17, rfl, by decide, layX8, rfl, Or.inl bk_974⟩
theorem fl_RX8_32 : FLD 8 RX8 32 11 := ⟨RX8, TX8, 17, rfl, by decide, layX8, rfl, Or.inl bk_976⟩
theorem fl_RX8_35 : FLD 8 RX8 35 0 := ⟨RX8, TX8, 17, rfl, by decide, layX8, rfl, Or.inl bk_965⟩
theorem fl_RX8_43 : FLD 8 RX8 43 4 := ⟨RX8, TX8, 17, rfl, by decide, layX8, rfl, Or.inl bk_969⟩
theorem fl_RX8_7 : FLD 8 RX8 7 1 := ⟨RX8, TX8, 17, rfl, by decide, layX8, rfl, Or.inl bk_966⟩
theorem fl_RX8_78 : FLD 8 RX8 78 10 := ⟨RX8, TX8, 17, rfl, by decide, layX8, rfl, Or.inl bk_975⟩
theorem pf_RX0_14 : PFL 0 RX0 14 0 (.object "RangeGraves$Writes") true := ⟨RX0, TX0, 5, tyX0, rfl, by decide, layX0, rfl, bk_136, tyX0_ok, nmX0, rfl, rfl, fun _ => rfl⟩
theorem pf_RX0_22 : PFL 0 RX0 22 1 (.array (.object "RangeGraves$Keys")) true := ⟨RX0, TX0, 5, tyX0, rfl, by decide, layX0, rfl, bk_138, tyX0_ok, nmX0, rfl, rfl, fun _ => rfl⟩
theorem pf_RX0_27 : PFL 0 RX0 27 2 (.object "RangeGraves$Keys") true := ⟨RX0, TX0, 5, tyX0, rfl, by decide, layX0, rfl, bk_139, tyX0_ok, nmX0, rfl, rfl, fun _ => rfl⟩
theorem pf_RX0_31 : PFL 0 RX0 31 3 (.object "RangeGraves$Keys") true := ⟨RX0, TX0, 5, tyX0, rfl, by decide, layX0, rfl, bk_140, tyX0_ok, nmX0, rfl, rfl, fun _ => rfl⟩
theorem pf_RX0_34 : PFL 0 RX0 34 4 (.object "RangeGraves$Keys") true := ⟨RX0, TX0, 5, tyX0, rfl, by decide, layX0, rfl, bk_141, tyX0_ok, nmX0, rfl, rfl, fun _ => rfl⟩
theorem pf_RX1_11 : PFL 1 RX1 11 0 (.array (.object "RangeGraves$Store")) true := ⟨RX1, TX1, 3, tyX1, rfl, by decide, layX1, rfl, bk_211, tyX1_ok, nmX1, rfl, rfl, fun _ => rfl⟩
theorem pf_RX1_20 : PFL 1 RX1 20 2 .int false := ⟨RX1, TX1, 3, tyX1, rfl, by decide, layX1, rfl, bk_213, tyX1_ok, nmX1, rfl, rfl, fun h => by cases h⟩
theorem pf_RX1_24 : PFL 1 RX1 24 1 .int false := ⟨RX1, TX1, 3, tyX1, rfl, by decide, layX1, rfl, bk_212, tyX1_ok, nmX1, rfl, rfl, fun h => by cases h⟩
theorem pf_RX2_15 : PFL 2 RX2 15 1 .long false := ⟨RX2, TX2, 2, tyX2, rfl, by decide, layX2, rfl, bk_130, tyX2_ok, nmX2, rfl, rfl, fun h => by cases h⟩
theorem pf_RX2_9 : PFL 2 RX2 9 0 .long false := ⟨RX2, TX2, 2, tyX2, rfl, by decide, layX2, rfl, bk_129, tyX2_ok, nmX2, rfl, rfl, fun h => by cases h⟩
theorem pf_RX3_15 : PFL 3 RX3 15 3 (.array .int) true := ⟨RX3, TX3, 8, tyX3, rfl, by decide, layX3, rfl, bk_180, tyX3_ok, nmX3, rfl, rfl, fun _ => rfl⟩
theorem pf_RX3_18 : PFL 3 RX3 18 0 (.object "RangeGraves$Cleaner") true := ⟨RX3, TX3, 8, tyX3, rfl, by decide, layX3, rfl, bk_174, tyX3_ok, nmX3, rfl, rfl, fun _ => rfl⟩
theorem pf_RX3_27 : PFL 3 RX3 27 1 (.object "RangeGraves$Writes") true := ⟨RX3, TX3, 8, tyX3, rfl, by decide, layX3, rfl, bk_175, tyX3_ok, nmX3, rfl, rfl, fun _ => rfl⟩
theorem pf_RX3_34 : PFL 3 RX3 34 4 .int false := ⟨RX3, TX3, 8, tyX3, rfl, by decide, layX3, rfl, bk_181, tyX3_ok, nmX3, rfl, rfl, fun h => by cases h⟩
theorem pf_RX3_38 : PFL 3 RX3 38 5 .int false := ⟨RX3, TX3, 8, tyX3, rfl, by decide, layX3, rfl, bk_182, tyX3_ok, nmX3, rfl, rfl, fun h => by cases h⟩
theorem pf_RX3_41 : PFL 3 RX3 41 6 .int false := ⟨RX3, TX3, 8, tyX3, rfl, by decide, layX3, rfl, bk_183, tyX3_ok, nmX3, rfl, rfl, fun h => by cases h⟩
theorem pf_RX3_44 : PFL 3 RX3 44 7 .int false := ⟨RX3, TX3, 8, tyX3, rfl, by decide, layX3, rfl, bk_184, tyX3_ok, nmX3, rfl, rfl, fun h => by cases h⟩
theorem pf_RX3_9 : PFL 3 RX3 9 2 (.array .int) true := ⟨RX3, TX3, 8, tyX3, rfl, by decide, layX3, rfl, bk_179, tyX3_ok, nmX3, rfl, rfl, fun _ => rfl⟩
theorem pf_RX4_15 : PFL 4 RX4 15 1 .int false := ⟨RX4, TX4, 2, tyX4, rfl, by decide, layX4, rfl, bk_160, tyX4_ok, nmX4, rfl, rfl, fun h => by cases h⟩
theorem pf_RX4_9 : PFL 4 RX4 9 0 (.array .int) true := ⟨RX4, TX4, 2, tyX4, rfl, by decide, layX4, rfl, bk_159, tyX4_ok, nmX4, rfl, rfl, fun _ => rfl⟩
theorem pf_RX5_9 : PFL 5 RX5 9 0 (.array .int) true := ⟨RX5, TX5, 1, tyX5, rfl, by decide, layX5, rfl, bk_227, tyX5_ok, nmX5, rfl, rfl, fun _ => rfl⟩
theorem pf_RX6_15 : PFL 6 RX6 15 0 (.array .int) true := ⟨RX6, TX6, 5, tyX6, rfl, by decide, layX6, rfl, bk_105, tyX6_ok, nmX6, rfl, rfl, fun _ => rfl⟩
theorem pf_RX6_21 : PFL 6 RX6 21 1 (.array .int) true := ⟨RX6, TX6, 5, tyX6, rfl, by decide, layX6, rfl, bk_106, tyX6_ok, nmX6, rfl, rfl, fun _ => rfl⟩
theorem pf_RX6_24 : PFL 6 RX6 24 2 (.array .int) true := ⟨RX6, TX6, 5, tyX6, rfl, by decide, layX6, rfl, bk_107, tyX6_ok, nmX6, rfl, rfl, fun _ => rfl⟩
theorem pf_RX6_27 : PFL 6 RX6 27 3 (.array .int) true := ⟨RX6, TX6, 5, tyX6, rfl, by decide, layX6, rfl, bk_108, tyX6_ok, nmX6, rfl, rfl, fun _ => rfl⟩
theorem pf_RX6_30 : PFL 6 RX6 30 4 .int false := ⟨RX6, TX6, 5, tyX6, rfl, by decide, layX6, rfl, bk_109, tyX6_ok, nmX6, rfl, rfl, fun h => by cases h⟩
theorem pf_RX7_15 : PFL 7 RX7 15 0 (.object "RangeGraves$Text") true := ⟨RX7, TX7, 7, tyX7, rfl, by decide, layX7, rfl, bk_232, tyX7_ok, nmX7, rfl, rfl, fun _ => rfl⟩
theorem pf_RX7_24 : PFL 7 RX7 24 1 (.object "RangeGraves$Store") true := ⟨RX7, TX7, 7, tyX7, rfl, by decide, layX7, rfl, bk_233, tyX7_ok, nmX7, rfl, rfl, fun _ => rfl⟩
theorem pf_RX7_28 : PFL 7 RX7 28 2 (.object "RangeGraves$Store") true := ⟨RX7, TX7, 7, tyX7, rfl, by decide, layX7, rfl, bk_234, tyX7_ok, nmX7, rfl, rfl, fun _ => rfl⟩
theorem pf_RX7_36 : PFL 7 RX7 36 3 (.object "RangeGraves$History") true := ⟨RX7, TX7, 7, tyX7, rfl, by decide, layX7, rfl, bk_235, tyX7_ok, nmX7, rfl, rfl, fun _ => rfl⟩
theorem pf_RX7_40 : PFL 7 RX7 40 4 (.array (.object "RangeGraves$Store")) true := ⟨RX7, TX7, 7, tyX7, rfl, by decide, layX7, rfl, bk_236, tyX7_ok, nmX7, rfl, rfl, fun _ => rfl⟩
theorem pf_RX7_44 : PFL 7 RX7 44 5 (.array .boolean) true := ⟨RX7, TX7, 7, tyX7, rfl, by decide, layX7, rfl, bk_237, tyX7_ok, nmX7, rfl, rfl, fun _ => rfl⟩
theorem pf_RX7_51 : PFL 7 RX7 51 6 (.object "RangeGraves$View") true := ⟨RX7, TX7, 7, tyX7, rfl, by decide, layX7, rfl, bk_238, tyX7_ok, nmX7, rfl, rfl, fun _ => rfl⟩
theorem pf_RX8_121 : PFL 8 RX8 121 8 .int false := ⟨RX8, TX8, 17, tyX8, rfl, by decide, layX8, rfl, bk_973, tyX8_ok, nmX8, rfl, rfl, fun h => by cases h⟩
theorem pf_RX8_127 : PFL 8 RX8 127 12 .int false := ⟨RX8, TX8, 17, tyX8, rfl, by decide, layX8, rfl, bk_977, tyX8_ok, nmX8, rfl, rfl, fun h => by cases h⟩
theorem pf_RX8_13 : PFL 8 RX8 13 2 (.array .int) true := ⟨RX8, TX8, 17, tyX8, rfl, by decide, layX8, rfl, bk_967, tyX8_ok, nmX8, rfl, rfl, fun _ => rfl⟩
theorem pf_RX8_130 : PFL 8 RX8 130 13 .boolean false := ⟨RX8, TX8, 17, tyX8, rfl, by decide, layX8, rfl, bk_978, tyX8_ok, nmX8, rfl, rfl, fun h => by cases h⟩
theorem pf_RX8_137 : PFL 8 RX8 137 14 .int false := ⟨RX8, TX8, 17, tyX8, rfl, by decide, layX8, rfl, bk_979, tyX8_ok, nmX8, rfl, rfl, fun h => by cases h⟩
theorem pf_RX8_143 : PFL 8 RX8 143 15 .int false := ⟨RX8, TX8, 17, tyX8, rfl, by decide, layX8, rfl, bk_980, tyX8_ok, nmX8, rfl, rfl, fun h => by cases h⟩
theorem pf_RX8_146 : PFL 8 RX8 146 16 .int false := ⟨RX8, TX8, 17, tyX8, rfl, by decide, layX8, rfl, bk_981, tyX8_ok, nmX8, rfl, rfl, fun h => by cases h⟩
theorem pf_RX8_16 : PFL 8 RX8 16 3 (.array .int) true := ⟨RX8, TX8, 17, tyX8, rfl, by decide, layX8, rfl, bk_968, tyX8_ok, nmX8, rfl, rfl, fun _ => rfl⟩
theorem pf_RX8_19 : PFL 8 RX8 19 5 (.array .int) true := ⟨RX8, TX8, 17, tyX8, rfl, by decide, layX8, rfl, bk_970, tyX8_ok, nmX8, rfl, rfl, fun _ => rfl⟩
theorem pf_RX8_22 : PFL 8 RX8 22 6 (.array .boolean) true := ⟨RX8, TX8, 17, tyX8, rfl, by decide, layX8, rfl, bk_971, tyX8_ok, nmX8, rfl, rfl, fun _ => rfl⟩
theorem pf_RX8_26 : PFL 8 RX8 26 7 (.array .int) true := ⟨RX8, TX8, 17, tyX8, rfl, by decide, layX8, rfl, bk_972, tyX8_ok, nmX8, rfl, rfl, fun _ => rfl⟩
theorem pf_RX8_29 : PFL 8 RX8 29 9 (.array .int) true := ⟨RX8, TX8, 17, tyX8, rfl, by decide, layX8, rfl, bk_974, tyX8_ok, nmX8, rfl, rfl, fun _ => rfl⟩
theorem pf_RX8_32 : PFL 8 RX8 32 11 (.array .boolean) true := ⟨RX8, TX8, 17, tyX8, rfl, by decide, layX8, rfl, bk_976, tyX8_ok, nmX8, rfl, rfl, fun _ => rfl⟩
theorem pf_RX8_35 : PFL 8 RX8 35 0 .int false := ⟨RX8, TX8, 17, tyX8, rfl, by decide, layX8, rfl, bk_965, tyX8_ok, nmX8, rfl, rfl, fun h => by cases h⟩
theorem pf_RX8_43 : PFL 8 RX8 43 4 .int false := ⟨RX8, TX8, 17, tyX8, rfl, by decide, layX8, rfl, bk_969, tyX8_ok, nmX8, rfl, rfl, fun h => by cases h⟩
theorem pf_RX8_7 : PFL 8 RX8 7 1 (.array .int) true := ⟨RX8, TX8, 17, tyX8, rfl, by decide, layX8, rfl, bk_966, tyX8_ok, nmX8, rfl, rfl, fun _ => rfl⟩
theorem pf_RX8_78 : PFL 8 RX8 78 10 .int false := ⟨RX8, TX8, 17, tyX8, rfl, by decide, layX8, rfl, bk_975, tyX8_ok, nmX8, rfl, rfl, fun h => by cases h⟩
theorem nw_RL_8 : NEWC 7 RL 8 7 [.null, .null, .null, .null, .null, .null, .null] := ⟨RX7, TX7, tyX7, rfl, layX7, tyX7_ok, bk_82, bk_83, bk_63, by decide +kernel⟩
theorem nw_RL_91 : NEWC 8 RL 91 17 [.int 0, .null, .null, .null, .int 0, .null, .null, .null, .int 0, .null, .int 0, .null, .int 0, .int 0, .int 0, .int 0, .int 0] := ⟨RX8, TX8, tyX8, rfl, layX8, tyX8_ok, bk_959, bk_960, bk_72, by decide +kernel⟩
theorem nw_RX0_20 : NEWC 2 RX0 20 2 [.long 0, .long 0] := ⟨RX2, TX2, tyX2, rfl, layX2, tyX2_ok, bk_122, bk_124, bk_67, by decide +kernel⟩
theorem nw_RX0_9 : NEWC 6 RX0 9 5 [.null, .null, .null, .null, .int 0] := ⟨RX6, TX6, tyX6, rfl, layX6, tyX6_ok, bk_96, bk_97, bk_65, by decide +kernel⟩
theorem nw_RX1_9 : NEWC 3 RX1 9 8 [.null, .null, .null, .null, .int 0, .int 0, .int 0, .int 0] := ⟨RX3, TX3, tyX3, rfl, layX3, tyX3_ok, bk_208, bk_167, bk_69, by decide +kernel⟩
theorem nw_RX3_22 : NEWC 6 RX3 22 5 [.null, .null, .null, .null, .int 0] := ⟨RX6, TX6, tyX6, rfl, layX6, tyX6_ok, bk_172, bk_97, bk_65, by decide +kernel⟩
theorem nw_RX3_75 : NEWC 2 RX3 75 2 [.long 0, .long 0] := ⟨RX2, TX2, tyX2, rfl, layX2, tyX2_ok, bk_757, bk_124, bk_67, by decide +kernel⟩
theorem nw_RX7_12 : NEWC 4 RX7 12 2 [.null, .int 0] := ⟨RX4, TX4, tyX4, rfl, layX4, tyX4_ok, bk_153, bk_154, bk_68, by decide +kernel⟩
theorem nw_RX7_19 : NEWC 3 RX7 19 8 [.null, .null, .null, .null, .int 0, .int 0, .int 0, .int 0] := ⟨RX3, TX3, tyX3, rfl, layX3, tyX3_ok, bk_166, bk_167, bk_69, by decide +kernel⟩
theorem nw_RX7_31 : NEWC 1 RX7 31 3 [.null, .int 0, .int 0] := ⟨RX1, TX1, tyX1, rfl, layX1, tyX1_ok, bk_202, bk_203, bk_70, by decide +kernel⟩
theorem nw_RX7_48 : NEWC 5 RX7 48 1 [.null] := ⟨RX5, TX5, tyX5, rfl, layX5, tyX5_ok, bk_221, bk_222, bk_71, by decide +kernel⟩
theorem nw_RX7_9 : NEWC 0 RX7 9 5 [.null, .null, .null, .null, .null] := ⟨RX0, TX0, tyX0, rfl, layX0, tyX0_ok, bk_90, bk_91, bk_64, by decide +kernel⟩
theorem ck_L_about_21 : CK M_L_about M_X7_about 21 := ⟨Or.inl bk_656, by decide, by decide⟩
theorem ck_L_append_7 : CK M_L_append M_X7_append 7 := ⟨Or.inl bk_475, by decide, by decide⟩
theorem ck_L_bury_43 : CK M_L_bury M_X7_bury 43 := ⟨Or.inl bk_813, by decide, by decide⟩
theorem ck_L_close_49 : CK M_L_close M_X7_close 49 := ⟨Or.inl bk_831, by decide, by decide⟩
theorem ck_L_count_67 : CK M_L_count M_X7_count 67 := ⟨Or.inl bk_892, by decide, by decide⟩
theorem ck_L_eye_37 : CK M_L_eye M_X7_eye 37 := ⟨Or.inl bk_786, by decide, by decide⟩
theorem ck_L_flush_52 : CK M_L_flush M_X7_flush 52 := ⟨Or.inl bk_839, by decide, by decide⟩
theorem ck_L_get_24 : CK M_L_get M_X7_get 24 := ⟨Or.inl bk_707, by decide, by decide⟩
theorem ck_L_grave_70 : CK M_L_grave M_X7_grave 70 := ⟨Or.inl bk_899, by decide, by decide⟩
theorem ck_L_law_100 : CK M_L_law M_X8_thrown 100 := ⟨Or.inl bk_1017, by decide, by decide⟩
theorem ck_L_law_103 : CK M_L_law M_X7_clearText 103 := ⟨Or.inl bk_254, by decide, by decide⟩
theorem ck_L_law_106 : CK M_L_law M_X8_clearText 106 := ⟨Or.inl bk_1032, by decide, by decide⟩
theorem ck_L_law_107 : CK M_L_law M_X7_errorPosition 107 := ⟨Or.inl bk_266, by decide, by decide⟩
theorem ck_L_law_110 : CK M_L_law M_X8_errorPosition 110 := ⟨Or.inl bk_1036, by decide, by decide⟩
theorem ck_L_law_111 : CK M_L_law M_L_load 111 := ⟨Or.inl bk_571, by decide, by decide⟩
theorem ck_L_law_114 : CK M_L_law M_X8_load 114 := ⟨Or.inl bk_1178, by decide, by decide⟩
theorem ck_L_law_115 : CK M_L_law M_L_about 115 := ⟨Or.inl bk_653, by decide, by decide⟩
theorem ck_L_law_117 : CK M_L_law M_X8_about 117 := ⟨Or.inl bk_1182, by decide, by decide⟩
theorem ck_L_law_118 : CK M_L_law M_L_get 118 := ⟨Or.inl bk_703, by decide, by decide⟩
theorem ck_L_law_121 : CK M_L_law M_X8_get 121 := ⟨Or.inl bk_1198, by decide, by decide⟩
theorem ck_L_law_122 : CK M_L_law M_L_run 122 := ⟨Or.inl bk_738, by decide, by decide⟩
theorem ck_L_law_124 : CK M_L_law M_X8_run 124 := ⟨Or.inl bk_1206, by decide, by decide⟩
theorem ck_L_law_125 : CK M_L_law M_L_write 125 := ⟨Or.inl bk_772, by decide, by decide⟩
theorem ck_L_law_128 : CK M_L_law M_X8_write 128 := ⟨Or.inl bk_1222, by decide, by decide⟩
theorem ck_L_law_129 : CK M_L_law M_L_eye 129 := ⟨Or.inl bk_783, by decide, by decide⟩
theorem ck_L_law_131 : CK M_L_law M_X8_eye 131 := ⟨Or.inl bk_1226, by decide, by decide⟩
theorem ck_L_law_132 : CK M_L_law M_L_put 132 := ⟨Or.inl bk_792, by decide, by decide⟩
theorem ck_L_law_134 : CK M_L_law M_X8_put 134 := ⟨Or.inl bk_1230, by decide, by decide⟩
theorem ck_L_law_135 : CK M_L_law M_L_bury 135 := ⟨Or.inl bk_810, by decide, by decide⟩
theorem ck_L_law_137 : CK M_L_law M_X8_bury 137 := ⟨Or.inl bk_1238, by decide, by decide⟩
theorem ck_L_law_138 : CK M_L_law M_L_open 138 := ⟨Or.inl bk_818, by decide, by decide⟩
theorem ck_L_law_140 : CK M_L_law M_X8_open 140 := ⟨Or.inl bk_1242, by decide, by decide⟩
theorem ck_L_law_141 : CK M_L_law M_L_close 141 := ⟨Or.inl bk_828, by decide, by decide⟩
theorem ck_L_law_143 : CK M_L_law M_X8_close 143 := ⟨Or.inl bk_1246, by decide, by decide⟩
theorem ck_L_law_144 : CK M_L_law M_L_flush 144 := ⟨Or.inl bk_836, by decide, by decide⟩
theorem ck_L_law_146 : CK M_L_law M_X8_flush 146 := ⟨Or.inl bk_1250, by decide, by decide⟩
theorem ck_L_law_147 : CK M_L_law M_L_merge 147 := ⟨Or.inl bk_845, by decide, by decide⟩
theorem ck_L_law_149 : CK M_L_law M_X8_merge 149 := ⟨Or.inl bk_1254, by decide, by decide⟩
theorem ck_L_law_150 : CK M_L_law M_L_undo 150 := ⟨Or.inl bk_854, by decide, by decide⟩
theorem ck_L_law_152 : CK M_L_law M_X8_undo 152 := ⟨Or.inl bk_1258, by decide, by decide⟩
theorem ck_L_law_153 : CK M_L_law M_L_looks 153 := ⟨Or.inl bk_870, by decide, by decide⟩
theorem ck_L_law_155 : CK M_L_law M_X8_looks 155 := ⟨Or.inl bk_1262, by decide, by decide⟩
theorem ck_L_law_156 : CK M_L_law M_L_next 156 := ⟨Or.inl bk_878, by decide, by decide⟩
theorem ck_L_law_158 : CK M_L_law M_X8_next 158 := ⟨Or.inl bk_1274, by decide, by decide⟩
theorem ck_L_law_159 : CK M_L_law M_L_count 159 := ⟨Or.inl bk_889, by decide, by decide⟩
theorem ck_L_law_161 : CK M_L_law M_X8_count 161 := ⟨Or.inl bk_1282, by decide, by decide⟩
theorem ck_L_law_162 : CK M_L_law M_X7_hidden 162 := ⟨Or.inl bk_293, by decide, by decide⟩
theorem ck_L_law_165 : CK M_L_law M_X8_hidden 165 := ⟨Or.inl bk_1286, by decide, by decide⟩
theorem ck_L_law_166 : CK M_L_law M_L_grave 166 := ⟨Or.inl bk_896, by decide, by decide⟩
theorem ck_L_law_168 : CK M_L_law M_X8_grave 168 := ⟨Or.inl bk_1290, by decide, by decide⟩
theorem ck_L_law_169 : CK M_L_law M_L_saves 169 := ⟨Or.inl bk_904, by decide, by decide⟩
theorem ck_L_law_171 : CK M_L_law M_X8_saves 171 := ⟨Or.inl bk_1298, by decide, by decide⟩
theorem ck_L_law_172 : CK M_L_law M_X7_best 172 := ⟨Or.inl bk_337, by decide, by decide⟩
theorem ck_L_law_175 : CK M_L_law M_X8_best 175 := ⟨Or.inl bk_1306, by decide, by decide⟩
theorem ck_L_law_176 : CK M_L_law M_X7_fewest 176 := ⟨Or.inl bk_441, by decide, by decide⟩
theorem ck_L_law_179 : CK M_L_law M_X8_fewest 179 := ⟨Or.inl bk_1310, by decide, by decide⟩
theorem ck_L_law_182 : CK M_L_law M_L_runScript 182 := ⟨Or.inl bk_911, by decide, by decide⟩
theorem ck_L_law_185 : CK M_L_law M_X8_runScript 185 := ⟨Or.inl bk_1314, by decide, by decide⟩
theorem ck_L_law_186 : CK M_L_law M_L_simulate 186 := ⟨Or.inl bk_928, by decide, by decide⟩
theorem ck_L_law_189 : CK M_L_law M_X8_simulate 189 := ⟨Or.inl bk_1339, by decide, by decide⟩
theorem ck_L_law_190 : CK M_L_law M_L_save 190 := ⟨Or.inl bk_943, by decide, by decide⟩
theorem ck_L_law_192 : CK M_L_law M_X8_save 192 := ⟨Or.inl bk_1353, by decide, by decide⟩
theorem ck_L_law_193 : CK M_L_law M_L_restore 193 := ⟨Or.inl bk_951, by decide, by decide⟩
theorem ck_L_law_195 : CK M_L_law M_X8_restore 195 := ⟨Or.inl bk_1357, by decide, by decide⟩
theorem ck_L_law_90 : CK M_L_law M_X7_init 90 := ⟨Or.inl bk_84, by decide, by decide⟩
theorem ck_L_law_93 : CK M_L_law M_X8_init 93 := ⟨Or.inl bk_961, by decide, by decide⟩
theorem ck_L_law_94 : CK M_L_law M_L_append 94 := ⟨Or.inl bk_470, by decide, by decide⟩
theorem ck_L_law_99 : CK M_L_law M_X8_append 99 := ⟨Or.inl bk_1021, by decide, by decide⟩
theorem ck_L_load_17 : CK M_L_load M_X7_load 17 := ⟨Or.inl bk_574, by decide, by decide⟩
theorem ck_L_looks_61 : CK M_L_looks M_X7_looks 61 := ⟨Or.inl bk_873, by decide, by decide⟩
theorem ck_L_merge_55 : CK M_L_merge M_X7_merge 55 := ⟨Or.inl bk_848, by decide, by decide⟩
theorem ck_L_next_64 : CK M_L_next M_X7_next 64 := ⟨Or.inl bk_881, by decide, by decide⟩
theorem ck_L_open_46 : CK M_L_open M_X7_open 46 := ⟨Or.inl bk_821, by decide, by decide⟩
theorem ck_L_put_40 : CK M_L_put M_X7_put 40 := ⟨Or.inl bk_795, by decide, by decide⟩
theorem ck_L_restore_87 : CK M_L_restore M_X7_restore 87 := ⟨Or.inl bk_954, by decide, by decide⟩
theorem ck_L_runScript_76 : CK M_L_runScript M_X7_runScript 76 := ⟨Or.inl bk_914, by decide, by decide⟩
theorem ck_L_run_30 : CK M_L_run M_X7_run 30 := ⟨Or.inl bk_741, by decide, by decide⟩
theorem ck_L_save_84 : CK M_L_save M_X7_save 84 := ⟨Or.inl bk_946, by decide, by decide⟩
theorem ck_L_saves_73 : CK M_L_saves M_X7_saves 73 := ⟨Or.inl bk_907, by decide, by decide⟩
theorem ck_L_simulate_80 : CK M_L_simulate M_X7_simulate 80 := ⟨Or.inl bk_931, by decide, by decide⟩
theorem ck_L_undo_58 : CK M_L_undo M_X7_undo 58 := ⟨Or.inl bk_857, by decide, by decide⟩
theorem ck_L_write_33 : CK M_L_write M_X7_write 33 := ⟨Or.inl bk_775, by decide, by decide⟩
theorem ck_X0_addRows_102 : CK M_X0_addRows M_X2_has 102 := ⟨Or.inl bk_424, by decide, by decide⟩
theorem ck_X0_addRows_105 : CK M_X0_addRows M_X6_valueAt 105 := ⟨Or.inl bk_428, by decide, by decide⟩
theorem ck_X0_addRows_108 : CK M_X0_addRows M_X6_add 108 := ⟨Or.inl bk_432, by decide, by decide⟩
theorem ck_X0_addRows_71 : CK M_X0_addRows M_X6_numberAt 71 := ⟨Or.inl bk_379, by decide, by decide⟩
theorem ck_X0_addRows_78 : CK M_X0_addRows M_X6_firstAt 78 := ⟨Or.inl bk_388, by decide, by decide⟩
theorem ck_X0_addRows_81 : CK M_X0_addRows M_X6_lastAt 81 := ⟨Or.inl bk_389, by decide, by decide⟩
theorem ck_X0_clean_37 : CK M_X0_clean M_X6_empty 37 := ⟨Or.inl bk_369, by decide, by decide⟩
theorem ck_X0_clean_40 : CK M_X0_clean M_X3_startOf 40 := ⟨Or.inl bk_373, by decide, by decide⟩
theorem ck_X0_clean_46 : CK M_X0_clean M_X3_endOf 46 := ⟨Or.inl bk_374, by decide, by decide⟩
theorem ck_X0_clean_49 : CK M_X0_clean M_X0_dropHidden 49 := ⟨Or.inl bk_375, by decide, by decide⟩
theorem ck_X0_clean_53 : CK M_X0_clean M_X3_runs 53 := ⟨Or.inl bk_407, by decide, by decide⟩
theorem ck_X0_clean_60 : CK M_X0_clean M_X0_dropNeedless 60 := ⟨Or.inl bk_408, by decide, by decide⟩
theorem ck_X0_clean_64 : CK M_X0_clean M_X0_addRows 64 := ⟨Or.inl bk_420, by decide, by decide⟩
theorem ck_X0_clean_68 : CK M_X0_clean M_X6_size 68 := ⟨Or.inl bk_436, by decide, by decide⟩
theorem ck_X0_dropHidden_71 : CK M_X0_dropHidden M_X6_numberAt 71 := ⟨Or.inl bk_379, by decide, by decide⟩
theorem ck_X0_dropHidden_74 : CK M_X0_dropHidden M_X3_eyesBefore 74 := ⟨Or.inl bk_380, by decide, by decide⟩
theorem ck_X0_dropHidden_77 : CK M_X0_dropHidden M_X2_empty 77 := ⟨Or.inl bk_384, by decide, by decide⟩
theorem ck_X0_dropHidden_78 : CK M_X0_dropHidden M_X6_firstAt 78 := ⟨Or.inl bk_388, by decide, by decide⟩
theorem ck_X0_dropHidden_81 : CK M_X0_dropHidden M_X6_lastAt 81 := ⟨Or.inl bk_389, by decide, by decide⟩
theorem ck_X0_dropHidden_84 : CK M_X0_dropHidden M_X2_addRow 84 := ⟨Or.inl bk_393, by decide, by decide⟩
theorem ck_X0_dropHidden_88 : CK M_X0_dropHidden M_X6_isEntry 88 := ⟨Or.inl bk_402, by decide, by decide⟩
theorem ck_X0_dropHidden_92 : CK M_X0_dropHidden M_X2_removeAll 92 := ⟨Or.inl bk_403, by decide, by decide⟩
theorem ck_X0_dropNeedless_77 : CK M_X0_dropNeedless M_X2_empty 77 := ⟨Or.inl bk_384, by decide, by decide⟩
theorem ck_X0_dropNeedless_88 : CK M_X0_dropNeedless M_X6_isEntry 88 := ⟨Or.inl bk_402, by decide, by decide⟩
theorem ck_X0_dropNeedless_96 : CK M_X0_dropNeedless M_X2_addAll 96 := ⟨Or.inl bk_412, by decide, by decide⟩
theorem ck_X0_dropNeedless_99 : CK M_X0_dropNeedless M_X2_keepOnly 99 := ⟨Or.inl bk_416, by decide, by decide⟩
theorem ck_X0_init_11 : CK M_X0_init M_X6_init 11 := ⟨Or.inl bk_98, by decide, by decide⟩
theorem ck_X0_init_26 : CK M_X0_init M_X2_init 26 := ⟨Or.inr ⟨_, tk_125⟩, by decide, by decide⟩
theorem ck_X1_init_17 : CK M_X1_init M_X3_init 17 := ⟨Or.inl bk_210, by decide, by decide⟩
theorem ck_X1_remember_27 : CK M_X1_remember M_X3_become 27 := ⟨Or.inl bk_808, by decide, by decide⟩
theorem ck_X1_takeBack_27 : CK M_X1_takeBack M_X3_become 27 := ⟨Or.inl bk_808, by decide, by decide⟩
theorem ck_X2_size_29 : CK M_X2_size M_J13_bitCount_95d88 29 := ⟨Or.inl bk_765, by decide, by decide⟩
theorem ck_X3_addWrite_118 : CK M_X3_addWrite M_X6_add 118 := ⟨Or.inl bk_613, by decide, by decide⟩
theorem ck_X3_become_47 : CK M_X3_become M_X6_size 47 := ⟨Or.inl bk_301, by decide, by decide⟩
theorem ck_X3_become_51 : CK M_X3_become M_X6_replace 51 := ⟨Or.inl bk_449, by decide, by decide⟩
theorem ck_X3_canFlush_109 : CK M_X3_canFlush M_X3_sizeOf 109 := ⟨Or.inl bk_353, by decide, by decide⟩
theorem ck_X3_canFlush_112 : CK M_X3_canFlush M_X0_clean 112 := ⟨Or.inl bk_365, by decide, by decide⟩
theorem ck_X3_canFlush_69 : CK M_X3_canFlush M_X3_startOf 69 := ⟨Or.inl bk_361, by decide, by decide⟩
theorem ck_X3_canMerge_109 : CK M_X3_canMerge M_X3_sizeOf 109 := ⟨Or.inl bk_353, by decide, by decide⟩
theorem ck_X3_canMerge_112 : CK M_X3_canMerge M_X0_clean 112 := ⟨Or.inl bk_365, by decide, by decide⟩
theorem ck_X3_canMerge_47 : CK M_X3_canMerge M_X6_size 47 := ⟨Or.inl bk_301, by decide, by decide⟩
theorem ck_X3_canMerge_61 : CK M_X3_canMerge M_X3_isRun 61 := ⟨Or.inl bk_349, by decide, by decide⟩
theorem ck_X3_dropEye_89 : CK M_X3_dropEye M_X3_isEye 89 := ⟨Or.inl bk_321, by decide, by decide⟩
theorem ck_X3_empty_31 : CK M_X3_empty M_X6_empty 31 := ⟨Or.inl bk_583, by decide, by decide⟩
theorem ck_X3_endOf_47 : CK M_X3_endOf M_X6_size 47 := ⟨Or.inl bk_301, by decide, by decide⟩
theorem ck_X3_entriesIn_72 : CK M_X3_entriesIn M_X6_isEntry 72 := ⟨Or.inl bk_672, by decide, by decide⟩
theorem ck_X3_flushMemory_109 : CK M_X3_flushMemory M_X3_sizeOf 109 := ⟨Or.inl bk_353, by decide, by decide⟩
theorem ck_X3_flushMemory_112 : CK M_X3_flushMemory M_X0_clean 112 := ⟨Or.inl bk_365, by decide, by decide⟩
theorem ck_X3_flushMemory_47 : CK M_X3_flushMemory M_X6_size 47 := ⟨Or.inl bk_301, by decide, by decide⟩
theorem ck_X3_flushMemory_51 : CK M_X3_flushMemory M_X6_replace 51 := ⟨Or.inl bk_449, by decide, by decide⟩
theorem ck_X3_flushMemory_65 : CK M_X3_flushMemory M_X3_endOf 65 := ⟨Or.inl bk_357, by decide, by decide⟩
theorem ck_X3_flushMemory_69 : CK M_X3_flushMemory M_X3_startOf 69 := ⟨Or.inl bk_361, by decide, by decide⟩
theorem ck_X3_init_24 : CK M_X3_init M_X6_init 24 := ⟨Or.inl bk_173, by decide, by decide⟩
theorem ck_X3_isFull_47 : CK M_X3_isFull M_X6_size 47 := ⟨Or.inl bk_301, by decide, by decide⟩
theorem ck_X3_isPlace_61 : CK M_X3_isPlace M_X3_isRun 61 := ⟨Or.inl bk_349, by decide, by decide⟩
theorem ck_X3_isSeen_106 : CK M_X3_isSeen M_X3_limitOf 106 := ⟨Or.inl bk_317, by decide, by decide⟩
theorem ck_X3_isSeen_78 : CK M_X3_isSeen M_X6_firstAt 78 := ⟨Or.inl bk_313, by decide, by decide⟩
theorem ck_X3_isSeen_99 : CK M_X3_isSeen M_X3_newestFor 99 := ⟨Or.inl bk_325, by decide, by decide⟩
theorem ck_X3_isView_89 : CK M_X3_isView M_X3_isEye 89 := ⟨Or.inl bk_321, by decide, by decide⟩
theorem ck_X3_keysIn_65 : CK M_X3_keysIn M_X3_endOf 65 := ⟨Or.inl bk_357, by decide, by decide⟩
theorem ck_X3_keysIn_69 : CK M_X3_keysIn M_X3_startOf 69 := ⟨Or.inl bk_361, by decide, by decide⟩
theorem ck_X3_keysIn_77 : CK M_X3_keysIn M_X2_init 77 := ⟨Or.inr ⟨_, tk_758⟩, by decide, by decide⟩
theorem ck_X3_keysIn_78 : CK M_X3_keysIn M_X6_firstAt 78 := ⟨Or.inl bk_313, by decide, by decide⟩
theorem ck_X3_keysIn_81 : CK M_X3_keysIn M_X6_lastAt 81 := ⟨Or.inl bk_759, by decide, by decide⟩
theorem ck_X3_keysIn_84 : CK M_X3_keysIn M_X2_addRow 84 := ⟨Or.inl bk_760, by decide, by decide⟩
theorem ck_X3_keysIn_88 : CK M_X3_keysIn M_X2_size 88 := ⟨Or.inl bk_761, by decide, by decide⟩
theorem ck_X3_limitOf_89 : CK M_X3_limitOf M_X3_isEye 89 := ⟨Or.inl bk_321, by decide, by decide⟩
theorem ck_X3_mergeRuns_109 : CK M_X3_mergeRuns M_X3_sizeOf 109 := ⟨Or.inl bk_353, by decide, by decide⟩
theorem ck_X3_mergeRuns_112 : CK M_X3_mergeRuns M_X0_clean 112 := ⟨Or.inl bk_365, by decide, by decide⟩
theorem ck_X3_mergeRuns_51 : CK M_X3_mergeRuns M_X6_replace 51 := ⟨Or.inl bk_449, by decide, by decide⟩
theorem ck_X3_mergeRuns_65 : CK M_X3_mergeRuns M_X3_endOf 65 := ⟨Or.inl bk_357, by decide, by decide⟩
theorem ck_X3_mergeRuns_69 : CK M_X3_mergeRuns M_X3_startOf 69 := ⟨Or.inl bk_361, by decide, by decide⟩
theorem ck_X3_newestFor_47 : CK M_X3_newestFor M_X6_size 47 := ⟨Or.inl bk_301, by decide, by decide⟩
theorem ck_X3_newestFor_92 : CK M_X3_newestFor M_X6_numberAt 92 := ⟨Or.inl bk_329, by decide, by decide⟩
theorem ck_X3_newestFor_95 : CK M_X3_newestFor M_X6_concerns 95 := ⟨Or.inl bk_333, by decide, by decide⟩
theorem ck_X3_savedBy_109 : CK M_X3_savedBy M_X3_sizeOf 109 := ⟨Or.inl bk_353, by decide, by decide⟩
theorem ck_X3_savedBy_112 : CK M_X3_savedBy M_X0_clean 112 := ⟨Or.inl bk_365, by decide, by decide⟩
theorem ck_X3_sizeOf_65 : CK M_X3_sizeOf M_X3_endOf 65 := ⟨Or.inl bk_357, by decide, by decide⟩
theorem ck_X3_sizeOf_69 : CK M_X3_sizeOf M_X3_startOf 69 := ⟨Or.inl bk_361, by decide, by decide⟩
theorem ck_X3_size_47 : CK M_X3_size M_X6_size 47 := ⟨Or.inl bk_301, by decide, by decide⟩
theorem ck_X3_tryBury_125 : CK M_X3_tryBury M_X7_isKey 125 := ⟨Or.inr ⟨_, tk_599⟩, by decide, by decide⟩
theorem ck_X3_tryBury_131 : CK M_X3_tryBury M_X3_isFull 131 := ⟨Or.inl bk_605, by decide, by decide⟩
theorem ck_X3_tryBury_135 : CK M_X3_tryBury M_X3_addWrite 135 := ⟨Or.inl bk_609, by decide, by decide⟩
theorem ck_X3_tryClose_145 : CK M_X3_tryClose M_X3_dropEye 145 := ⟨Or.inl bk_649, by decide, by decide⟩
theorem ck_X3_tryClose_89 : CK M_X3_tryClose M_X3_isEye 89 := ⟨Or.inl bk_321, by decide, by decide⟩
theorem ck_X3_tryFlush_148 : CK M_X3_tryFlush M_X3_canFlush 148 := ⟨Or.inl bk_622, by decide, by decide⟩
theorem ck_X3_tryFlush_151 : CK M_X3_tryFlush M_X3_flushMemory 151 := ⟨Or.inl bk_626, by decide, by decide⟩
theorem ck_X3_tryMerge_154 : CK M_X3_tryMerge M_X3_canMerge 154 := ⟨Or.inl bk_631, by decide, by decide⟩
theorem ck_X3_tryMerge_157 : CK M_X3_tryMerge M_X3_mergeRuns 157 := ⟨Or.inl bk_632, by decide, by decide⟩
theorem ck_X3_tryOpen_139 : CK M_X3_tryOpen M_X3_canOpen 139 := ⟨Or.inl bk_637, by decide, by decide⟩
theorem ck_X3_tryOpen_142 : CK M_X3_tryOpen M_X3_addEye 142 := ⟨Or.inl bk_641, by decide, by decide⟩
theorem ck_X3_tryPut_125 : CK M_X3_tryPut M_X7_isKey 125 := ⟨Or.inr ⟨_, tk_599⟩, by decide, by decide⟩
theorem ck_X3_tryPut_128 : CK M_X3_tryPut M_X7_isValue 128 := ⟨Or.inr ⟨_, tk_602⟩, by decide, by decide⟩
theorem ck_X3_tryPut_131 : CK M_X3_tryPut M_X3_isFull 131 := ⟨Or.inl bk_605, by decide, by decide⟩
theorem ck_X3_tryPut_135 : CK M_X3_tryPut M_X3_addWrite 135 := ⟨Or.inl bk_609, by decide, by decide⟩
theorem ck_X3_valueFor_103 : CK M_X3_valueFor M_X6_valueAt 103 := ⟨Or.inl bk_737, by decide, by decide⟩
theorem ck_X3_valueFor_99 : CK M_X3_valueFor M_X3_newestFor 99 := ⟨Or.inl bk_325, by decide, by decide⟩
theorem ck_X4_digitFits_19 : CK M_X4_digitFits M_X4_signAt 19 := ⟨Or.inl bk_274, by decide, by decide⟩
theorem ck_X4_digitFits_30 : CK M_X4_digitFits M_X4_isDigit 30 := ⟨Or.inl bk_285, by decide, by decide⟩
theorem ck_X4_digitFits_34 : CK M_X4_digitFits M_X4_digitsAt 34 := ⟨Or.inl bk_289, by decide, by decide⟩
theorem ck_X4_digitsAt_19 : CK M_X4_digitsAt M_X4_signAt 19 := ⟨Or.inl bk_274, by decide, by decide⟩
theorem ck_X4_firstError_19 : CK M_X4_firstError M_X4_signAt 19 := ⟨Or.inl bk_274, by decide, by decide⟩
theorem ck_X4_firstError_23 : CK M_X4_firstError M_X4_digitsOf 23 := ⟨Or.inl bk_278, by decide, by decide⟩
theorem ck_X4_firstError_26 : CK M_X4_firstError M_X4_digitFits 26 := ⟨Or.inl bk_281, by decide, by decide⟩
theorem ck_X4_isDigit_19 : CK M_X4_isDigit M_X4_signAt 19 := ⟨Or.inl bk_274, by decide, by decide⟩
theorem ck_X5_look_15 : CK M_X5_look M_J7_fill_53178 15 := ⟨Or.inl bk_681, by decide, by decide⟩
theorem ck_X5_look_27 : CK M_X5_look M_X6_size 27 := ⟨Or.inl bk_684, by decide, by decide⟩
theorem ck_X5_look_33 : CK M_X5_look M_X6_numberAt 33 := ⟨Or.inl bk_685, by decide, by decide⟩
theorem ck_X5_look_37 : CK M_X5_look M_X6_firstAt 37 := ⟨Or.inl bk_686, by decide, by decide⟩
theorem ck_X5_look_46 : CK M_X5_look M_X6_lastAt 46 := ⟨Or.inl bk_688, by decide, by decide⟩
theorem ck_X5_look_49 : CK M_X5_look M_X6_valueAt 49 := ⟨Or.inl bk_689, by decide, by decide⟩
theorem ck_X7_about_101 : CK M_X7_about M_X3_sizeOf 101 := ⟨Or.inl bk_461, by decide, by decide⟩
theorem ck_X7_about_105 : CK M_X7_about M_X3_runs 105 := ⟨Or.inl bk_341, by decide, by decide⟩
theorem ck_X7_about_108 : CK M_X7_about M_X3_eyes 108 := ⟨Or.inl bk_664, by decide, by decide⟩
theorem ck_X7_about_111 : CK M_X7_about M_X3_size 111 := ⟨Or.inl bk_297, by decide, by decide⟩
theorem ck_X7_about_114 : CK M_X7_about M_X3_entriesIn 114 := ⟨Or.inl bk_668, by decide, by decide⟩
theorem ck_X7_about_118 : CK M_X7_about M_X7_seenNow 118 := ⟨Or.inl bk_673, by decide, by decide⟩
theorem ck_X7_about_122 : CK M_X7_about M_X5_look 122 := ⟨Or.inl bk_677, by decide, by decide⟩
theorem ck_X7_about_126 : CK M_X7_about M_X5_sum 126 := ⟨Or.inl bk_694, by decide, by decide⟩
theorem ck_X7_about_129 : CK M_X7_about M_X3_fewer 129 := ⟨Or.inl bk_698, by decide, by decide⟩
theorem ck_X7_about_98 : CK M_X7_about M_X3_latest 98 := ⟨Or.inl bk_660, by decide, by decide⟩
theorem ck_X7_append_62 : CK M_X7_append M_X4_isFull 62 := ⟨Or.inl bk_547, by decide, by decide⟩
theorem ck_X7_append_71 : CK M_X7_append M_X4_addSign 71 := ⟨Or.inl bk_567, by decide, by decide⟩
theorem ck_X7_append_75 : CK M_X7_append M_X4_length 75 := ⟨Or.inl bk_258, by decide, by decide⟩
theorem ck_X7_best_105 : CK M_X7_best M_X3_runs 105 := ⟨Or.inl bk_341, by decide, by decide⟩
theorem ck_X7_best_237 : CK M_X7_best M_X3_canMerge 237 := ⟨Or.inl bk_345, by decide, by decide⟩
theorem ck_X7_best_267 : CK M_X7_best M_X3_savedBy 267 := ⟨Or.inl bk_437, by decide, by decide⟩
theorem ck_X7_bury_122 : CK M_X7_bury M_X5_look 122 := ⟨Or.inl bk_677, by decide, by decide⟩
theorem ck_X7_bury_134 : CK M_X7_bury M_X7_isKey 134 := ⟨Or.inl bk_711, by decide, by decide⟩
theorem ck_X7_bury_199 : CK M_X7_bury M_X3_isFull 199 := ⟨Or.inl bk_802, by decide, by decide⟩
theorem ck_X7_bury_202 : CK M_X7_bury M_X1_remember 202 := ⟨Or.inl bk_804, by decide, by decide⟩
theorem ck_X7_bury_206 : CK M_X7_bury M_X3_addWrite 206 := ⟨Or.inl bk_809, by decide, by decide⟩
theorem ck_X7_bury_212 : CK M_X7_bury M_X5_seenIn 212 := ⟨Or.inl bk_690, by decide, by decide⟩
theorem ck_X7_bury_98 : CK M_X7_bury M_X3_latest 98 := ⟨Or.inl bk_660, by decide, by decide⟩
theorem ck_X7_clearText_75 : CK M_X7_clearText M_X4_length 75 := ⟨Or.inl bk_258, by decide, by decide⟩
theorem ck_X7_clearText_79 : CK M_X7_clearText M_X4_empty 79 := ⟨Or.inl bk_262, by decide, by decide⟩
theorem ck_X7_close_108 : CK M_X7_close M_X3_eyes 108 := ⟨Or.inl bk_664, by decide, by decide⟩
theorem ck_X7_close_187 : CK M_X7_close M_X3_isEye 187 := ⟨Or.inl bk_790, by decide, by decide⟩
theorem ck_X7_close_202 : CK M_X7_close M_X1_remember 202 := ⟨Or.inl bk_804, by decide, by decide⟩
theorem ck_X7_close_223 : CK M_X7_close M_X3_dropEye 223 := ⟨Or.inl bk_835, by decide, by decide⟩
theorem ck_X7_count_122 : CK M_X7_count M_X5_look 122 := ⟨Or.inl bk_677, by decide, by decide⟩
theorem ck_X7_count_134 : CK M_X7_count M_X7_isKey 134 := ⟨Or.inl bk_711, by decide, by decide⟩
theorem ck_X7_count_137 : CK M_X7_count M_X3_isView 137 := ⟨Or.inl bk_712, by decide, by decide⟩
theorem ck_X7_count_145 : CK M_X7_count M_X3_limitOf 145 := ⟨Or.inl bk_732, by decide, by decide⟩
theorem ck_X7_count_212 : CK M_X7_count M_X5_seenIn 212 := ⟨Or.inl bk_690, by decide, by decide⟩
theorem ck_X7_doGroup_111 : CK M_X7_doGroup M_X3_size 111 := ⟨Or.inl bk_297, by decide, by decide⟩
theorem ck_X7_doGroup_145 : CK M_X7_doGroup M_X3_limitOf 145 := ⟨Or.inl bk_732, by decide, by decide⟩
theorem ck_X7_doGroup_148 : CK M_X7_doGroup M_X3_valueFor 148 := ⟨Or.inl bk_733, by decide, by decide⟩
theorem ck_X7_doGroup_187 : CK M_X7_doGroup M_X3_isEye 187 := ⟨Or.inl bk_790, by decide, by decide⟩
theorem ck_X7_doGroup_308 : CK M_X7_doGroup M_X3_tryPut 308 := ⟨Or.inl bk_595, by decide, by decide⟩
theorem ck_X7_doGroup_311 : CK M_X7_doGroup M_X3_tryBury 311 := ⟨Or.inl bk_614, by decide, by decide⟩
theorem ck_X7_doGroup_314 : CK M_X7_doGroup M_X3_tryFlush 314 := ⟨Or.inl bk_618, by decide, by decide⟩
theorem ck_X7_doGroup_317 : CK M_X7_doGroup M_X3_tryMerge 317 := ⟨Or.inl bk_627, by decide, by decide⟩
theorem ck_X7_doGroup_320 : CK M_X7_doGroup M_X3_tryOpen 320 := ⟨Or.inl bk_633, by decide, by decide⟩
theorem ck_X7_doGroup_323 : CK M_X7_doGroup M_X3_tryClose 323 := ⟨Or.inl bk_645, by decide, by decide⟩
theorem ck_X7_doGroup_98 : CK M_X7_doGroup M_X3_latest 98 := ⟨Or.inl bk_660, by decide, by decide⟩
theorem ck_X7_doTextCommand_302 : CK M_X7_doTextCommand M_X4_signAt 302 := ⟨Or.inl bk_593, by decide, by decide⟩
theorem ck_X7_doTextCommand_305 : CK M_X7_doTextCommand M_X4_digitsAt 305 := ⟨Or.inl bk_594, by decide, by decide⟩
theorem ck_X7_doTextCommand_308 : CK M_X7_doTextCommand M_X3_tryPut 308 := ⟨Or.inl bk_595, by decide, by decide⟩
theorem ck_X7_doTextCommand_311 : CK M_X7_doTextCommand M_X3_tryBury 311 := ⟨Or.inl bk_614, by decide, by decide⟩
theorem ck_X7_doTextCommand_314 : CK M_X7_doTextCommand M_X3_tryFlush 314 := ⟨Or.inl bk_618, by decide, by decide⟩
theorem ck_X7_doTextCommand_317 : CK M_X7_doTextCommand M_X3_tryMerge 317 := ⟨Or.inl bk_627, by decide, by decide⟩
theorem ck_X7_doTextCommand_320 : CK M_X7_doTextCommand M_X3_tryOpen 320 := ⟨Or.inl bk_633, by decide, by decide⟩
theorem ck_X7_doTextCommand_323 : CK M_X7_doTextCommand M_X3_tryClose 323 := ⟨Or.inl bk_645, by decide, by decide⟩
theorem ck_X7_doTurn_308 : CK M_X7_doTurn M_X3_tryPut 308 := ⟨Or.inl bk_595, by decide, by decide⟩
theorem ck_X7_doTurn_311 : CK M_X7_doTurn M_X3_tryBury 311 := ⟨Or.inl bk_614, by decide, by decide⟩
theorem ck_X7_doTurn_314 : CK M_X7_doTurn M_X3_tryFlush 314 := ⟨Or.inl bk_618, by decide, by decide⟩
theorem ck_X7_doTurn_317 : CK M_X7_doTurn M_X3_tryMerge 317 := ⟨Or.inl bk_627, by decide, by decide⟩
theorem ck_X7_doTurn_320 : CK M_X7_doTurn M_X3_tryOpen 320 := ⟨Or.inl bk_633, by decide, by decide⟩
theorem ck_X7_doTurn_323 : CK M_X7_doTurn M_X3_tryClose 323 := ⟨Or.inl bk_645, by decide, by decide⟩
theorem ck_X7_errorPosition_82 : CK M_X7_errorPosition M_X4_firstError 82 := ⟨Or.inl bk_270, by decide, by decide⟩
theorem ck_X7_eye_145 : CK M_X7_eye M_X3_limitOf 145 := ⟨Or.inl bk_732, by decide, by decide⟩
theorem ck_X7_eye_187 : CK M_X7_eye M_X3_isEye 187 := ⟨Or.inl bk_790, by decide, by decide⟩
theorem ck_X7_fewest_101 : CK M_X7_fewest M_X3_sizeOf 101 := ⟨Or.inl bk_461, by decide, by decide⟩
theorem ck_X7_fewest_105 : CK M_X7_fewest M_X3_runs 105 := ⟨Or.inl bk_341, by decide, by decide⟩
theorem ck_X7_fewest_111 : CK M_X7_fewest M_X3_size 111 := ⟨Or.inl bk_297, by decide, by decide⟩
theorem ck_X7_fewest_231 : CK M_X7_fewest M_X3_flushMemory 231 := ⟨Or.inl bk_462, by decide, by decide⟩
theorem ck_X7_fewest_242 : CK M_X7_fewest M_X3_mergeRuns 242 := ⟨Or.inl bk_466, by decide, by decide⟩
theorem ck_X7_fewest_270 : CK M_X7_fewest M_X3_become 270 := ⟨Or.inl bk_445, by decide, by decide⟩
theorem ck_X7_fewest_273 : CK M_X7_fewest M_X3_dropAllEyes 273 := ⟨Or.inl bk_457, by decide, by decide⟩
theorem ck_X7_flush_202 : CK M_X7_flush M_X1_remember 202 := ⟨Or.inl bk_804, by decide, by decide⟩
theorem ck_X7_flush_226 : CK M_X7_flush M_X3_canFlush 226 := ⟨Or.inl bk_843, by decide, by decide⟩
theorem ck_X7_flush_231 : CK M_X7_flush M_X3_flushMemory 231 := ⟨Or.inl bk_462, by decide, by decide⟩
theorem ck_X7_get_134 : CK M_X7_get M_X7_isKey 134 := ⟨Or.inl bk_711, by decide, by decide⟩
theorem ck_X7_get_137 : CK M_X7_get M_X3_isView 137 := ⟨Or.inl bk_712, by decide, by decide⟩
theorem ck_X7_get_145 : CK M_X7_get M_X3_limitOf 145 := ⟨Or.inl bk_732, by decide, by decide⟩
theorem ck_X7_get_148 : CK M_X7_get M_X3_valueFor 148 := ⟨Or.inl bk_733, by decide, by decide⟩
theorem ck_X7_grave_111 : CK M_X7_grave M_X3_size 111 := ⟨Or.inl bk_297, by decide, by decide⟩
theorem ck_X7_grave_134 : CK M_X7_grave M_X7_isKey 134 := ⟨Or.inl bk_711, by decide, by decide⟩
theorem ck_X7_grave_166 : CK M_X7_grave M_X6_numberAt 166 := ⟨Or.inl bk_752, by decide, by decide⟩
theorem ck_X7_grave_257 : CK M_X7_grave M_X6_isEntry 257 := ⟨Or.inl bk_305, by decide, by decide⟩
theorem ck_X7_grave_263 : CK M_X7_grave M_X6_concerns 263 := ⟨Or.inl bk_903, by decide, by decide⟩
theorem ck_X7_hidden_111 : CK M_X7_hidden M_X3_size 111 := ⟨Or.inl bk_297, by decide, by decide⟩
theorem ck_X7_hidden_257 : CK M_X7_hidden M_X6_isEntry 257 := ⟨Or.inl bk_305, by decide, by decide⟩
theorem ck_X7_hidden_260 : CK M_X7_hidden M_X3_isSeen 260 := ⟨Or.inl bk_309, by decide, by decide⟩
theorem ck_X7_init_11 : CK M_X7_init M_X0_init 11 := ⟨Or.inl bk_92, by decide, by decide⟩
theorem ck_X7_init_14 : CK M_X7_init M_X4_init 14 := ⟨Or.inr ⟨_, tk_155⟩, by decide, by decide⟩
theorem ck_X7_init_21 : CK M_X7_init M_X3_init 21 := ⟨Or.inl bk_168, by decide, by decide⟩
theorem ck_X7_init_33 : CK M_X7_init M_X1_init 33 := ⟨Or.inl bk_204, by decide, by decide⟩
theorem ck_X7_init_50 : CK M_X7_init M_X5_init 50 := ⟨Or.inr ⟨_, tk_223⟩, by decide, by decide⟩
theorem ck_X7_load_75 : CK M_X7_load M_X4_length 75 := ⟨Or.inl bk_258, by decide, by decide⟩
theorem ck_X7_load_82 : CK M_X7_load M_X4_firstError 82 := ⟨Or.inl bk_270, by decide, by decide⟩
theorem ck_X7_load_87 : CK M_X7_load M_X3_empty 87 := ⟨Or.inl bk_579, by decide, by decide⟩
theorem ck_X7_load_88 : CK M_X7_load M_X1_forgetAll 88 := ⟨Or.inl bk_584, by decide, by decide⟩
theorem ck_X7_load_91 : CK M_X7_load M_X4_isDigit 91 := ⟨Or.inl bk_588, by decide, by decide⟩
theorem ck_X7_load_95 : CK M_X7_load M_X7_doTextCommand 95 := ⟨Or.inl bk_589, by decide, by decide⟩
theorem ck_X7_looks_101 : CK M_X7_looks M_X3_sizeOf 101 := ⟨Or.inl bk_461, by decide, by decide⟩
theorem ck_X7_looks_105 : CK M_X7_looks M_X3_runs 105 := ⟨Or.inl bk_341, by decide, by decide⟩
theorem ck_X7_looks_134 : CK M_X7_looks M_X7_isKey 134 := ⟨Or.inl bk_711, by decide, by decide⟩
theorem ck_X7_looks_156 : CK M_X7_looks M_X3_startOf 156 := ⟨Or.inl bk_750, by decide, by decide⟩
theorem ck_X7_looks_251 : CK M_X7_looks M_X3_newestFor 251 := ⟨Or.inl bk_877, by decide, by decide⟩
theorem ck_X7_looks_98 : CK M_X7_looks M_X3_latest 98 := ⟨Or.inl bk_660, by decide, by decide⟩
theorem ck_X7_merge_202 : CK M_X7_merge M_X1_remember 202 := ⟨Or.inl bk_804, by decide, by decide⟩
theorem ck_X7_merge_234 : CK M_X7_merge M_X3_isRun 234 := ⟨Or.inl bk_852, by decide, by decide⟩
theorem ck_X7_merge_237 : CK M_X7_merge M_X3_canMerge 237 := ⟨Or.inl bk_345, by decide, by decide⟩
theorem ck_X7_merge_242 : CK M_X7_merge M_X3_mergeRuns 242 := ⟨Or.inl bk_466, by decide, by decide⟩
theorem ck_X7_next_122 : CK M_X7_next M_X5_look 122 := ⟨Or.inl bk_677, by decide, by decide⟩
theorem ck_X7_next_134 : CK M_X7_next M_X7_isKey 134 := ⟨Or.inl bk_711, by decide, by decide⟩
theorem ck_X7_next_137 : CK M_X7_next M_X3_isView 137 := ⟨Or.inl bk_712, by decide, by decide⟩
theorem ck_X7_next_145 : CK M_X7_next M_X3_limitOf 145 := ⟨Or.inl bk_732, by decide, by decide⟩
theorem ck_X7_next_254 : CK M_X7_next M_X5_firstSeen 254 := ⟨Or.inl bk_885, by decide, by decide⟩
theorem ck_X7_open_108 : CK M_X7_open M_X3_eyes 108 := ⟨Or.inl bk_664, by decide, by decide⟩
theorem ck_X7_open_202 : CK M_X7_open M_X1_remember 202 := ⟨Or.inl bk_804, by decide, by decide⟩
theorem ck_X7_open_215 : CK M_X7_open M_X3_canOpen 215 := ⟨Or.inl bk_825, by decide, by decide⟩
theorem ck_X7_open_220 : CK M_X7_open M_X3_addEye 220 := ⟨Or.inl bk_827, by decide, by decide⟩
theorem ck_X7_put_134 : CK M_X7_put M_X7_isKey 134 := ⟨Or.inl bk_711, by decide, by decide⟩
theorem ck_X7_put_194 : CK M_X7_put M_X7_isValue 194 := ⟨Or.inl bk_800, by decide, by decide⟩
theorem ck_X7_put_199 : CK M_X7_put M_X3_isFull 199 := ⟨Or.inl bk_802, by decide, by decide⟩
theorem ck_X7_put_202 : CK M_X7_put M_X1_remember 202 := ⟨Or.inl bk_804, by decide, by decide⟩
theorem ck_X7_put_206 : CK M_X7_put M_X3_addWrite 206 := ⟨Or.inl bk_809, by decide, by decide⟩
theorem ck_X7_put_98 : CK M_X7_put M_X3_latest 98 := ⟨Or.inl bk_660, by decide, by decide⟩
theorem ck_X7_restore_111 : CK M_X7_restore M_X3_size 111 := ⟨Or.inl bk_297, by decide, by decide⟩
theorem ck_X7_restore_270 : CK M_X7_restore M_X3_become 270 := ⟨Or.inl bk_445, by decide, by decide⟩
theorem ck_X7_restore_88 : CK M_X7_restore M_X1_forgetAll 88 := ⟨Or.inl bk_584, by decide, by decide⟩
theorem ck_X7_runScript_270 : CK M_X7_runScript M_X3_become 270 := ⟨Or.inl bk_445, by decide, by decide⟩
theorem ck_X7_runScript_278 : CK M_X7_runScript M_X7_withoutLast 278 := ⟨Or.inl bk_919, by decide, by decide⟩
theorem ck_X7_runScript_286 : CK M_X7_runScript M_X7_doGroup 286 := ⟨Or.inl bk_924, by decide, by decide⟩
theorem ck_X7_run_101 : CK M_X7_run M_X3_sizeOf 101 := ⟨Or.inl bk_461, by decide, by decide⟩
theorem ck_X7_run_114 : CK M_X7_run M_X3_entriesIn 114 := ⟨Or.inl bk_668, by decide, by decide⟩
theorem ck_X7_run_151 : CK M_X7_run M_X3_isPlace 151 := ⟨Or.inl bk_745, by decide, by decide⟩
theorem ck_X7_run_156 : CK M_X7_run M_X3_startOf 156 := ⟨Or.inl bk_750, by decide, by decide⟩
theorem ck_X7_run_159 : CK M_X7_run M_X3_endOf 159 := ⟨Or.inl bk_751, by decide, by decide⟩
theorem ck_X7_run_166 : CK M_X7_run M_X6_numberAt 166 := ⟨Or.inl bk_752, by decide, by decide⟩
theorem ck_X7_run_171 : CK M_X7_run M_X3_keysIn 171 := ⟨Or.inl bk_753, by decide, by decide⟩
theorem ck_X7_save_111 : CK M_X7_save M_X3_size 111 := ⟨Or.inl bk_297, by decide, by decide⟩
theorem ck_X7_save_270 : CK M_X7_save M_X3_become 270 := ⟨Or.inl bk_445, by decide, by decide⟩
theorem ck_X7_saves_234 : CK M_X7_saves M_X3_isRun 234 := ⟨Or.inl bk_852, by decide, by decide⟩
theorem ck_X7_saves_237 : CK M_X7_saves M_X3_canMerge 237 := ⟨Or.inl bk_345, by decide, by decide⟩
theorem ck_X7_saves_267 : CK M_X7_saves M_X3_savedBy 267 := ⟨Or.inl bk_437, by decide, by decide⟩
theorem ck_X7_seenNow_122 : CK M_X7_seenNow M_X5_look 122 := ⟨Or.inl bk_677, by decide, by decide⟩
theorem ck_X7_seenNow_212 : CK M_X7_seenNow M_X5_seenIn 212 := ⟨Or.inl bk_690, by decide, by decide⟩
theorem ck_X7_seenNow_98 : CK M_X7_seenNow M_X3_latest 98 := ⟨Or.inl bk_660, by decide, by decide⟩
theorem ck_X7_simulate_111 : CK M_X7_simulate M_X3_size 111 := ⟨Or.inl bk_297, by decide, by decide⟩
theorem ck_X7_simulate_118 : CK M_X7_simulate M_X7_seenNow 118 := ⟨Or.inl bk_673, by decide, by decide⟩
theorem ck_X7_simulate_270 : CK M_X7_simulate M_X3_become 270 := ⟨Or.inl bk_445, by decide, by decide⟩
theorem ck_X7_simulate_295 : CK M_X7_simulate M_X7_doTurn 295 := ⟨Or.inl bk_938, by decide, by decide⟩
theorem ck_X7_undo_245 : CK M_X7_undo M_X1_size 245 := ⟨Or.inl bk_861, by decide, by decide⟩
theorem ck_X7_undo_248 : CK M_X7_undo M_X1_takeBack 248 := ⟨Or.inl bk_866, by decide, by decide⟩
theorem ck_X7_write_101 : CK M_X7_write M_X3_sizeOf 101 := ⟨Or.inl bk_461, by decide, by decide⟩
theorem ck_X7_write_151 : CK M_X7_write M_X3_isPlace 151 := ⟨Or.inl bk_745, by decide, by decide⟩
theorem ck_X7_write_156 : CK M_X7_write M_X3_startOf 156 := ⟨Or.inl bk_750, by decide, by decide⟩
theorem ck_X7_write_166 : CK M_X7_write M_X6_numberAt 166 := ⟨Or.inl bk_752, by decide, by decide⟩
theorem ck_X7_write_178 : CK M_X7_write M_X6_firstAt 178 := ⟨Or.inl bk_780, by decide, by decide⟩
theorem ck_X7_write_181 : CK M_X7_write M_X6_lastAt 181 := ⟨Or.inl bk_781, by decide, by decide⟩
theorem ck_X7_write_184 : CK M_X7_write M_X6_valueAt 184 := ⟨Or.inl bk_782, by decide, by decide⟩
theorem ck_X8_about_124 : CK M_X8_about M_X8_holds 124 := ⟨Or.inl bk_1028, by decide, by decide⟩
theorem ck_X8_about_197 : CK M_X8_about M_X8_told 197 := ⟨Or.inl bk_1186, by decide, by decide⟩
theorem ck_X8_about_39 : CK M_X8_about M_X8_in 39 := ⟨Or.inl bk_1025, by decide, by decide⟩
theorem ck_X8_all_46 : CK M_X8_all M_X8_begin 46 := ⟨Or.inl bk_1071, by decide, by decide⟩
theorem ck_X8_append_124 : CK M_X8_append M_X8_holds 124 := ⟨Or.inl bk_1028, by decide, by decide⟩
theorem ck_X8_append_39 : CK M_X8_append M_X8_in 39 := ⟨Or.inl bk_1025, by decide, by decide⟩
theorem ck_X8_best_158 : CK M_X8_best M_X8_mergeFault 158 := ⟨Or.inl bk_1122, by decide, by decide⟩
theorem ck_X8_best_227 : CK M_X8_best M_X8_savedBy 227 := ⟨Or.inl bk_1302, by decide, by decide⟩
theorem ck_X8_buries_100 : CK M_X8_buries M_X8_countSeen 100 := ⟨Or.inl bk_1142, by decide, by decide⟩
theorem ck_X8_buries_104 : CK M_X8_buries M_X8_writes 104 := ⟨Or.inl bk_1134, by decide, by decide⟩
theorem ck_X8_buryFault_54 : CK M_X8_buryFault M_X8_all 54 := ⟨Or.inl bk_1067, by decide, by decide⟩
theorem ck_X8_buryFault_97 : CK M_X8_buryFault M_X8_isKey 97 := ⟨Or.inl bk_1064, by decide, by decide⟩
theorem ck_X8_bury_124 : CK M_X8_bury M_X8_holds 124 := ⟨Or.inl bk_1028, by decide, by decide⟩
theorem ck_X8_bury_152 : CK M_X8_bury M_X8_buryFault 152 := ⟨Or.inl bk_1075, by decide, by decide⟩
theorem ck_X8_bury_164 : CK M_X8_bury M_X8_buries 164 := ⟨Or.inl bk_1138, by decide, by decide⟩
theorem ck_X8_bury_212 : CK M_X8_bury M_X8_remember 212 := ⟨Or.inl bk_1234, by decide, by decide⟩
theorem ck_X8_clean_50 : CK M_X8_clean M_X8_of 50 := ⟨Or.inl bk_1091, by decide, by decide⟩
theorem ck_X8_clean_68 : CK M_X8_clean M_X8_isEntry 68 := ⟨Or.inl bk_1087, by decide, by decide⟩
theorem ck_X8_clean_81 : CK M_X8_clean M_X8_isCovered 81 := ⟨Or.inl bk_1094, by decide, by decide⟩
theorem ck_X8_clean_85 : CK M_X8_clean M_X8_leave 85 := ⟨Or.inl bk_1106, by decide, by decide⟩
theorem ck_X8_clean_89 : CK M_X8_clean M_X8_cut 89 := ⟨Or.inl bk_1110, by decide, by decide⟩
theorem ck_X8_close_124 : CK M_X8_close M_X8_holds 124 := ⟨Or.inl bk_1028, by decide, by decide⟩
theorem ck_X8_close_161 : CK M_X8_close M_X8_isEye 161 := ⟨Or.inl bk_1130, by decide, by decide⟩
theorem ck_X8_close_176 : CK M_X8_close M_X8_closes 176 := ⟨Or.inl bk_1174, by decide, by decide⟩
theorem ck_X8_close_212 : CK M_X8_close M_X8_remember 212 := ⟨Or.inl bk_1234, by decide, by decide⟩
theorem ck_X8_command_134 : CK M_X8_command M_X8_sign 134 := ⟨Or.inl bk_1044, by decide, by decide⟩
theorem ck_X8_command_140 : CK M_X8_command M_X8_key 140 := ⟨Or.inl bk_1052, by decide, by decide⟩
theorem ck_X8_concerns_39 : CK M_X8_concerns M_X8_in 39 := ⟨Or.inl bk_1025, by decide, by decide⟩
theorem ck_X8_concerns_50 : CK M_X8_concerns M_X8_of 50 := ⟨Or.inl bk_1091, by decide, by decide⟩
theorem ck_X8_countSeen_72 : CK M_X8_countSeen M_X8_seen 72 := ⟨Or.inl bk_1146, by decide, by decide⟩
theorem ck_X8_count_100 : CK M_X8_count M_X8_countSeen 100 := ⟨Or.inl bk_1142, by decide, by decide⟩
theorem ck_X8_count_124 : CK M_X8_count M_X8_holds 124 := ⟨Or.inl bk_1028, by decide, by decide⟩
theorem ck_X8_count_200 : CK M_X8_count M_X8_isView 200 := ⟨Or.inl bk_1202, by decide, by decide⟩
theorem ck_X8_count_97 : CK M_X8_count M_X8_isKey 97 := ⟨Or.inl bk_1064, by decide, by decide⟩
theorem ck_X8_cut_50 : CK M_X8_cut M_X8_of 50 := ⟨Or.inl bk_1091, by decide, by decide⟩
theorem ck_X8_cut_81 : CK M_X8_cut M_X8_isCovered 81 := ⟨Or.inl bk_1094, by decide, by decide⟩
theorem ck_X8_cut_85 : CK M_X8_cut M_X8_leave 85 := ⟨Or.inl bk_1106, by decide, by decide⟩
theorem ck_X8_cut_93 : CK M_X8_cut M_X8_hasOlderEntry 93 := ⟨Or.inl bk_1114, by decide, by decide⟩
theorem ck_X8_doesWell_161 : CK M_X8_doesWell M_X8_isEye 161 := ⟨Or.inl bk_1130, by decide, by decide⟩
theorem ck_X8_doesWell_182 : CK M_X8_doesWell M_X8_does 182 := ⟨Or.inl bk_1056, by decide, by decide⟩
theorem ck_X8_doesWell_54 : CK M_X8_doesWell M_X8_all 54 := ⟨Or.inl bk_1067, by decide, by decide⟩
theorem ck_X8_doesWell_72 : CK M_X8_doesWell M_X8_seen 72 := ⟨Or.inl bk_1146, by decide, by decide⟩
theorem ck_X8_does_104 : CK M_X8_does M_X8_writes 104 := ⟨Or.inl bk_1134, by decide, by decide⟩
theorem ck_X8_does_149 : CK M_X8_does M_X8_putFault 149 := ⟨Or.inl bk_1060, by decide, by decide⟩
theorem ck_X8_does_152 : CK M_X8_does M_X8_buryFault 152 := ⟨Or.inl bk_1075, by decide, by decide⟩
theorem ck_X8_does_155 : CK M_X8_does M_X8_flushFault 155 := ⟨Or.inl bk_1079, by decide, by decide⟩
theorem ck_X8_does_158 : CK M_X8_does M_X8_mergeFault 158 := ⟨Or.inl bk_1122, by decide, by decide⟩
theorem ck_X8_does_161 : CK M_X8_does M_X8_isEye 161 := ⟨Or.inl bk_1130, by decide, by decide⟩
theorem ck_X8_does_164 : CK M_X8_does M_X8_buries 164 := ⟨Or.inl bk_1138, by decide, by decide⟩
theorem ck_X8_does_167 : CK M_X8_does M_X8_flushes 167 := ⟨Or.inl bk_1158, by decide, by decide⟩
theorem ck_X8_does_170 : CK M_X8_does M_X8_merges 170 := ⟨Or.inl bk_1166, by decide, by decide⟩
theorem ck_X8_does_173 : CK M_X8_does M_X8_opens 173 := ⟨Or.inl bk_1170, by decide, by decide⟩
theorem ck_X8_does_176 : CK M_X8_does M_X8_closes 176 := ⟨Or.inl bk_1174, by decide, by decide⟩
theorem ck_X8_errorPosition_186 : CK M_X8_errorPosition M_X8_go 186 := ⟨Or.inl bk_1040, by decide, by decide⟩
theorem ck_X8_eye_124 : CK M_X8_eye M_X8_holds 124 := ⟨Or.inl bk_1028, by decide, by decide⟩
theorem ck_X8_eye_161 : CK M_X8_eye M_X8_isEye 161 := ⟨Or.inl bk_1130, by decide, by decide⟩
theorem ck_X8_fewest_100 : CK M_X8_fewest M_X8_countSeen 100 := ⟨Or.inl bk_1142, by decide, by decide⟩
theorem ck_X8_fewest_54 : CK M_X8_fewest M_X8_all 54 := ⟨Or.inl bk_1067, by decide, by decide⟩
theorem ck_X8_flushFault_107 : CK M_X8_flushFault M_X8_clean 107 := ⟨Or.inl bk_1083, by decide, by decide⟩
theorem ck_X8_flushFault_111 : CK M_X8_flushFault M_X8_isRoomFor 111 := ⟨Or.inl bk_1118, by decide, by decide⟩
theorem ck_X8_flushFault_46 : CK M_X8_flushFault M_X8_begin 46 := ⟨Or.inl bk_1071, by decide, by decide⟩
theorem ck_X8_flushFault_54 : CK M_X8_flushFault M_X8_all 54 := ⟨Or.inl bk_1067, by decide, by decide⟩
theorem ck_X8_flush_124 : CK M_X8_flush M_X8_holds 124 := ⟨Or.inl bk_1028, by decide, by decide⟩
theorem ck_X8_flush_155 : CK M_X8_flush M_X8_flushFault 155 := ⟨Or.inl bk_1079, by decide, by decide⟩
theorem ck_X8_flush_167 : CK M_X8_flush M_X8_flushes 167 := ⟨Or.inl bk_1158, by decide, by decide⟩
theorem ck_X8_flush_212 : CK M_X8_flush M_X8_remember 212 := ⟨Or.inl bk_1234, by decide, by decide⟩
theorem ck_X8_flushes_114 : CK M_X8_flushes M_X8_replace 114 := ⟨Or.inl bk_1162, by decide, by decide⟩
theorem ck_X8_flushes_46 : CK M_X8_flushes M_X8_begin 46 := ⟨Or.inl bk_1071, by decide, by decide⟩
theorem ck_X8_flushes_54 : CK M_X8_flushes M_X8_all 54 := ⟨Or.inl bk_1067, by decide, by decide⟩
theorem ck_X8_get_124 : CK M_X8_get M_X8_holds 124 := ⟨Or.inl bk_1028, by decide, by decide⟩
theorem ck_X8_get_200 : CK M_X8_get M_X8_isView 200 := ⟨Or.inl bk_1202, by decide, by decide⟩
theorem ck_X8_get_72 : CK M_X8_get M_X8_seen 72 := ⟨Or.inl bk_1146, by decide, by decide⟩
theorem ck_X8_get_97 : CK M_X8_get M_X8_isKey 97 := ⟨Or.inl bk_1064, by decide, by decide⟩
theorem ck_X8_go_134 : CK M_X8_go M_X8_sign 134 := ⟨Or.inl bk_1044, by decide, by decide⟩
theorem ck_X8_go_179 : CK M_X8_go M_X8_command 179 := ⟨Or.inl bk_1048, by decide, by decide⟩
theorem ck_X8_go_182 : CK M_X8_go M_X8_does 182 := ⟨Or.inl bk_1056, by decide, by decide⟩
theorem ck_X8_grave_124 : CK M_X8_grave M_X8_holds 124 := ⟨Or.inl bk_1028, by decide, by decide⟩
theorem ck_X8_grave_224 : CK M_X8_grave M_X8_newestGrave 224 := ⟨Or.inl bk_1294, by decide, by decide⟩
theorem ck_X8_grave_97 : CK M_X8_grave M_X8_isKey 97 := ⟨Or.inl bk_1064, by decide, by decide⟩
theorem ck_X8_hasOlderEntry_50 : CK M_X8_hasOlderEntry M_X8_of 50 := ⟨Or.inl bk_1091, by decide, by decide⟩
theorem ck_X8_hasOlderEntry_58 : CK M_X8_hasOlderEntry M_X8_concerns 58 := ⟨Or.inl bk_1098, by decide, by decide⟩
theorem ck_X8_hasOlderEntry_68 : CK M_X8_hasOlderEntry M_X8_isEntry 68 := ⟨Or.inl bk_1087, by decide, by decide⟩
theorem ck_X8_hidden_50 : CK M_X8_hidden M_X8_of 50 := ⟨Or.inl bk_1091, by decide, by decide⟩
theorem ck_X8_hidden_54 : CK M_X8_hidden M_X8_all 54 := ⟨Or.inl bk_1067, by decide, by decide⟩
theorem ck_X8_hidden_62 : CK M_X8_hidden M_X8_upTo 62 := ⟨Or.inl bk_1150, by decide, by decide⟩
theorem ck_X8_hidden_65 : CK M_X8_hidden M_X8_newest 65 := ⟨Or.inl bk_1154, by decide, by decide⟩
theorem ck_X8_hidden_68 : CK M_X8_hidden M_X8_isEntry 68 := ⟨Or.inl bk_1087, by decide, by decide⟩
theorem ck_X8_isCovered_50 : CK M_X8_isCovered M_X8_of 50 := ⟨Or.inl bk_1091, by decide, by decide⟩
theorem ck_X8_isCovered_58 : CK M_X8_isCovered M_X8_concerns 58 := ⟨Or.inl bk_1098, by decide, by decide⟩
theorem ck_X8_isCovered_68 : CK M_X8_isCovered M_X8_isEntry 68 := ⟨Or.inl bk_1087, by decide, by decide⟩
theorem ck_X8_isCovered_75 : CK M_X8_isCovered M_X8_areParted 75 := ⟨Or.inl bk_1102, by decide, by decide⟩
theorem ck_X8_isEntry_50 : CK M_X8_isEntry M_X8_of 50 := ⟨Or.inl bk_1091, by decide, by decide⟩
theorem ck_X8_isEye_39 : CK M_X8_isEye M_X8_in 39 := ⟨Or.inl bk_1025, by decide, by decide⟩
theorem ck_X8_isIn_203 : CK M_X8_isIn M_X8_manyIn 203 := ⟨Or.inl bk_1214, by decide, by decide⟩
theorem ck_X8_isIn_46 : CK M_X8_isIn M_X8_begin 46 := ⟨Or.inl bk_1071, by decide, by decide⟩
theorem ck_X8_isIn_58 : CK M_X8_isIn M_X8_concerns 58 := ⟨Or.inl bk_1098, by decide, by decide⟩
theorem ck_X8_isKey_39 : CK M_X8_isKey M_X8_in 39 := ⟨Or.inl bk_1025, by decide, by decide⟩
theorem ck_X8_isRoomFor_54 : CK M_X8_isRoomFor M_X8_all 54 := ⟨Or.inl bk_1067, by decide, by decide⟩
theorem ck_X8_isRun_39 : CK M_X8_isRun M_X8_in 39 := ⟨Or.inl bk_1025, by decide, by decide⟩
theorem ck_X8_isView_161 : CK M_X8_isView M_X8_isEye 161 := ⟨Or.inl bk_1130, by decide, by decide⟩
theorem ck_X8_key_134 : CK M_X8_key M_X8_sign 134 := ⟨Or.inl bk_1044, by decide, by decide⟩
theorem ck_X8_keysOf_58 : CK M_X8_keysOf M_X8_concerns 58 := ⟨Or.inl bk_1098, by decide, by decide⟩
theorem ck_X8_kinds_68 : CK M_X8_kinds M_X8_isEntry 68 := ⟨Or.inl bk_1087, by decide, by decide⟩
theorem ck_X8_leave_50 : CK M_X8_leave M_X8_of 50 := ⟨Or.inl bk_1091, by decide, by decide⟩
theorem ck_X8_load_124 : CK M_X8_load M_X8_holds 124 := ⟨Or.inl bk_1028, by decide, by decide⟩
theorem ck_X8_load_186 : CK M_X8_load M_X8_go 186 := ⟨Or.inl bk_1040, by decide, by decide⟩
theorem ck_X8_lookedAt_203 : CK M_X8_lookedAt M_X8_manyIn 203 := ⟨Or.inl bk_1214, by decide, by decide⟩
theorem ck_X8_lookedAt_215 : CK M_X8_lookedAt M_X8_isIn 215 := ⟨Or.inl bk_1270, by decide, by decide⟩
theorem ck_X8_looks_124 : CK M_X8_looks M_X8_holds 124 := ⟨Or.inl bk_1028, by decide, by decide⟩
theorem ck_X8_looks_218 : CK M_X8_looks M_X8_lookedAt 218 := ⟨Or.inl bk_1266, by decide, by decide⟩
theorem ck_X8_looks_97 : CK M_X8_looks M_X8_isKey 97 := ⟨Or.inl bk_1064, by decide, by decide⟩
theorem ck_X8_mergeFault_107 : CK M_X8_mergeFault M_X8_clean 107 := ⟨Or.inl bk_1083, by decide, by decide⟩
theorem ck_X8_mergeFault_111 : CK M_X8_mergeFault M_X8_isRoomFor 111 := ⟨Or.inl bk_1118, by decide, by decide⟩
theorem ck_X8_mergeFault_118 : CK M_X8_mergeFault M_X8_isRun 118 := ⟨Or.inl bk_1126, by decide, by decide⟩
theorem ck_X8_mergeFault_46 : CK M_X8_mergeFault M_X8_begin 46 := ⟨Or.inl bk_1071, by decide, by decide⟩
theorem ck_X8_merge_124 : CK M_X8_merge M_X8_holds 124 := ⟨Or.inl bk_1028, by decide, by decide⟩
theorem ck_X8_merge_158 : CK M_X8_merge M_X8_mergeFault 158 := ⟨Or.inl bk_1122, by decide, by decide⟩
theorem ck_X8_merge_170 : CK M_X8_merge M_X8_merges 170 := ⟨Or.inl bk_1166, by decide, by decide⟩
theorem ck_X8_merge_212 : CK M_X8_merge M_X8_remember 212 := ⟨Or.inl bk_1234, by decide, by decide⟩
theorem ck_X8_merges_114 : CK M_X8_merges M_X8_replace 114 := ⟨Or.inl bk_1162, by decide, by decide⟩
theorem ck_X8_merges_46 : CK M_X8_merges M_X8_begin 46 := ⟨Or.inl bk_1071, by decide, by decide⟩
theorem ck_X8_newestGrave_50 : CK M_X8_newestGrave M_X8_of 50 := ⟨Or.inl bk_1091, by decide, by decide⟩
theorem ck_X8_newestGrave_54 : CK M_X8_newestGrave M_X8_all 54 := ⟨Or.inl bk_1067, by decide, by decide⟩
theorem ck_X8_newestGrave_58 : CK M_X8_newestGrave M_X8_concerns 58 := ⟨Or.inl bk_1098, by decide, by decide⟩
theorem ck_X8_newestGrave_68 : CK M_X8_newestGrave M_X8_isEntry 68 := ⟨Or.inl bk_1087, by decide, by decide⟩
theorem ck_X8_newest_50 : CK M_X8_newest M_X8_of 50 := ⟨Or.inl bk_1091, by decide, by decide⟩
theorem ck_X8_newest_54 : CK M_X8_newest M_X8_all 54 := ⟨Or.inl bk_1067, by decide, by decide⟩
theorem ck_X8_newest_58 : CK M_X8_newest M_X8_concerns 58 := ⟨Or.inl bk_1098, by decide, by decide⟩
theorem ck_X8_nextSeen_72 : CK M_X8_nextSeen M_X8_seen 72 := ⟨Or.inl bk_1146, by decide, by decide⟩
theorem ck_X8_next_124 : CK M_X8_next M_X8_holds 124 := ⟨Or.inl bk_1028, by decide, by decide⟩
theorem ck_X8_next_200 : CK M_X8_next M_X8_isView 200 := ⟨Or.inl bk_1202, by decide, by decide⟩
theorem ck_X8_next_221 : CK M_X8_next M_X8_nextSeen 221 := ⟨Or.inl bk_1278, by decide, by decide⟩
theorem ck_X8_next_97 : CK M_X8_next M_X8_isKey 97 := ⟨Or.inl bk_1064, by decide, by decide⟩
theorem ck_X8_ofRun_190 : CK M_X8_ofRun M_X8_kinds 190 := ⟨Or.inl bk_1190, by decide, by decide⟩
theorem ck_X8_ofRun_203 : CK M_X8_ofRun M_X8_manyIn 203 := ⟨Or.inl bk_1214, by decide, by decide⟩
theorem ck_X8_ofRun_206 : CK M_X8_ofRun M_X8_keysOf 206 := ⟨Or.inl bk_1218, by decide, by decide⟩
theorem ck_X8_ofRun_46 : CK M_X8_ofRun M_X8_begin 46 := ⟨Or.inl bk_1071, by decide, by decide⟩
theorem ck_X8_ofRun_50 : CK M_X8_ofRun M_X8_of 50 := ⟨Or.inl bk_1091, by decide, by decide⟩
theorem ck_X8_open_124 : CK M_X8_open M_X8_holds 124 := ⟨Or.inl bk_1028, by decide, by decide⟩
theorem ck_X8_open_173 : CK M_X8_open M_X8_opens 173 := ⟨Or.inl bk_1170, by decide, by decide⟩
theorem ck_X8_open_212 : CK M_X8_open M_X8_remember 212 := ⟨Or.inl bk_1234, by decide, by decide⟩
theorem ck_X8_putFault_39 : CK M_X8_putFault M_X8_in 39 := ⟨Or.inl bk_1025, by decide, by decide⟩
theorem ck_X8_putFault_54 : CK M_X8_putFault M_X8_all 54 := ⟨Or.inl bk_1067, by decide, by decide⟩
theorem ck_X8_putFault_97 : CK M_X8_putFault M_X8_isKey 97 := ⟨Or.inl bk_1064, by decide, by decide⟩
theorem ck_X8_put_104 : CK M_X8_put M_X8_writes 104 := ⟨Or.inl bk_1134, by decide, by decide⟩
theorem ck_X8_put_124 : CK M_X8_put M_X8_holds 124 := ⟨Or.inl bk_1028, by decide, by decide⟩
theorem ck_X8_put_149 : CK M_X8_put M_X8_putFault 149 := ⟨Or.inl bk_1060, by decide, by decide⟩
theorem ck_X8_put_212 : CK M_X8_put M_X8_remember 212 := ⟨Or.inl bk_1234, by decide, by decide⟩
theorem ck_X8_ran_234 : CK M_X8_ran M_X8_putAside 234 := ⟨Or.inl bk_1327, by decide, by decide⟩
theorem ck_X8_ran_237 : CK M_X8_ran M_X8_doesWell 237 := ⟨Or.inl bk_1331, by decide, by decide⟩
theorem ck_X8_ran_240 : CK M_X8_ran M_X8_putBack 240 := ⟨Or.inl bk_1335, by decide, by decide⟩
theorem ck_X8_replace_50 : CK M_X8_replace M_X8_of 50 := ⟨Or.inl bk_1091, by decide, by decide⟩
theorem ck_X8_replace_54 : CK M_X8_replace M_X8_all 54 := ⟨Or.inl bk_1067, by decide, by decide⟩
theorem ck_X8_restore_124 : CK M_X8_restore M_X8_holds 124 := ⟨Or.inl bk_1028, by decide, by decide⟩
theorem ck_X8_restore_39 : CK M_X8_restore M_X8_in 39 := ⟨Or.inl bk_1025, by decide, by decide⟩
theorem ck_X8_restore_54 : CK M_X8_restore M_X8_all 54 := ⟨Or.inl bk_1067, by decide, by decide⟩
theorem ck_X8_runScript_124 : CK M_X8_runScript M_X8_holds 124 := ⟨Or.inl bk_1028, by decide, by decide⟩
theorem ck_X8_runScript_249 : CK M_X8_runScript M_X8_ran 249 := ⟨Or.inl bk_1321, by decide, by decide⟩
theorem ck_X8_runScript_39 : CK M_X8_runScript M_X8_in 39 := ⟨Or.inl bk_1025, by decide, by decide⟩
theorem ck_X8_run_118 : CK M_X8_run M_X8_isRun 118 := ⟨Or.inl bk_1126, by decide, by decide⟩
theorem ck_X8_run_124 : CK M_X8_run M_X8_holds 124 := ⟨Or.inl bk_1028, by decide, by decide⟩
theorem ck_X8_run_209 : CK M_X8_run M_X8_ofRun 209 := ⟨Or.inl bk_1210, by decide, by decide⟩
theorem ck_X8_run_39 : CK M_X8_run M_X8_in 39 := ⟨Or.inl bk_1025, by decide, by decide⟩
theorem ck_X8_save_124 : CK M_X8_save M_X8_holds 124 := ⟨Or.inl bk_1028, by decide, by decide⟩
theorem ck_X8_save_39 : CK M_X8_save M_X8_in 39 := ⟨Or.inl bk_1025, by decide, by decide⟩
theorem ck_X8_save_54 : CK M_X8_save M_X8_all 54 := ⟨Or.inl bk_1067, by decide, by decide⟩
theorem ck_X8_saves_124 : CK M_X8_saves M_X8_holds 124 := ⟨Or.inl bk_1028, by decide, by decide⟩
theorem ck_X8_saves_158 : CK M_X8_saves M_X8_mergeFault 158 := ⟨Or.inl bk_1122, by decide, by decide⟩
theorem ck_X8_saves_227 : CK M_X8_saves M_X8_savedBy 227 := ⟨Or.inl bk_1302, by decide, by decide⟩
theorem ck_X8_seen_50 : CK M_X8_seen M_X8_of 50 := ⟨Or.inl bk_1091, by decide, by decide⟩
theorem ck_X8_seen_62 : CK M_X8_seen M_X8_upTo 62 := ⟨Or.inl bk_1150, by decide, by decide⟩
theorem ck_X8_seen_65 : CK M_X8_seen M_X8_newest 65 := ⟨Or.inl bk_1154, by decide, by decide⟩
theorem ck_X8_seen_68 : CK M_X8_seen M_X8_isEntry 68 := ⟨Or.inl bk_1087, by decide, by decide⟩
theorem ck_X8_sign_39 : CK M_X8_sign M_X8_in 39 := ⟨Or.inl bk_1025, by decide, by decide⟩
theorem ck_X8_simulate_124 : CK M_X8_simulate M_X8_holds 124 := ⟨Or.inl bk_1028, by decide, by decide⟩
theorem ck_X8_simulate_261 : CK M_X8_simulate M_X8_simulated 261 := ⟨Or.inl bk_1343, by decide, by decide⟩
theorem ck_X8_simulate_39 : CK M_X8_simulate M_X8_in 39 := ⟨Or.inl bk_1025, by decide, by decide⟩
theorem ck_X8_simulated_100 : CK M_X8_simulated M_X8_countSeen 100 := ⟨Or.inl bk_1142, by decide, by decide⟩
theorem ck_X8_simulated_234 : CK M_X8_simulated M_X8_putAside 234 := ⟨Or.inl bk_1327, by decide, by decide⟩
theorem ck_X8_simulated_240 : CK M_X8_simulated M_X8_putBack 240 := ⟨Or.inl bk_1335, by decide, by decide⟩
theorem ck_X8_simulated_257 : CK M_X8_simulated M_X8_turn 257 := ⟨Or.inl bk_1349, by decide, by decide⟩
theorem ck_X8_simulated_54 : CK M_X8_simulated M_X8_all 54 := ⟨Or.inl bk_1067, by decide, by decide⟩
theorem ck_X8_sumSeen_72 : CK M_X8_sumSeen M_X8_seen 72 := ⟨Or.inl bk_1146, by decide, by decide⟩
theorem ck_X8_told_100 : CK M_X8_told M_X8_countSeen 100 := ⟨Or.inl bk_1142, by decide, by decide⟩
theorem ck_X8_told_190 : CK M_X8_told M_X8_kinds 190 := ⟨Or.inl bk_1190, by decide, by decide⟩
theorem ck_X8_told_194 : CK M_X8_told M_X8_sumSeen 194 := ⟨Or.inl bk_1194, by decide, by decide⟩
theorem ck_X8_told_54 : CK M_X8_told M_X8_all 54 := ⟨Or.inl bk_1067, by decide, by decide⟩
theorem ck_X8_turn_182 : CK M_X8_turn M_X8_does 182 := ⟨Or.inl bk_1056, by decide, by decide⟩
theorem ck_X8_undo_124 : CK M_X8_undo M_X8_holds 124 := ⟨Or.inl bk_1028, by decide, by decide⟩
theorem ck_X8_write_118 : CK M_X8_write M_X8_isRun 118 := ⟨Or.inl bk_1126, by decide, by decide⟩
theorem ck_X8_write_124 : CK M_X8_write M_X8_holds 124 := ⟨Or.inl bk_1028, by decide, by decide⟩
theorem ck_X8_write_203 : CK M_X8_write M_X8_manyIn 203 := ⟨Or.inl bk_1214, by decide, by decide⟩
theorem ck_X8_write_39 : CK M_X8_write M_X8_in 39 := ⟨Or.inl bk_1025, by decide, by decide⟩
theorem ck_X8_write_46 : CK M_X8_write M_X8_begin 46 := ⟨Or.inl bk_1071, by decide, by decide⟩
theorem ck_X8_write_50 : CK M_X8_write M_X8_of 50 := ⟨Or.inl bk_1091, by decide, by decide⟩
theorem ck_X8_writes_50 : CK M_X8_writes M_X8_of 50 := ⟨Or.inl bk_1091, by decide, by decide⟩
theorem ck_X8_writes_54 : CK M_X8_writes M_X8_all 54 := ⟨Or.inl bk_1067, by decide, by decide⟩
theorem tr_RX7_140_142_144 : THR RX7 140 142 144 "java/lang/IndexOutOfBoundsException" "no such key or eye" := ⟨bk_716, bk_80, tk_725, by decide +kernel, thg_140_144, thw_140_144, thv_140_144⟩
theorem tr_RX7_140_154_144 : THR RX7 140 154 144 "java/lang/IndexOutOfBoundsException" "no such run" := ⟨bk_716, bk_80, tk_749, by decide +kernel, thg_140_144, thw_140_144, thv_140_144⟩
theorem tr_RX7_140_190_144 : THR RX7 140 190 144 "java/lang/IndexOutOfBoundsException" "no such eye" := ⟨bk_716, bk_80, tk_791, by decide +kernel, thg_140_144, thw_140_144, thv_140_144⟩
theorem tr_RX7_140_192_144 : THR RX7 140 192 144 "java/lang/IndexOutOfBoundsException" "no such key" := ⟨bk_716, bk_80, tk_799, by decide +kernel, thg_140_144, thw_140_144, thv_140_144⟩
theorem tr_RX7_140_298_144 : THR RX7 140 298 144 "java/lang/IndexOutOfBoundsException" "no such save slot" := ⟨bk_716, bk_80, tk_950, by decide +kernel, thg_140_144, thw_140_144, thv_140_144⟩
theorem tr_RX7_55_132_59 : THR RX7 55 132 59 "java/lang/IllegalArgumentException" "what is 0 to 8" := ⟨bk_479, bk_76, tk_702, by decide +kernel, thg_55_59, thw_55_59, thv_55_59⟩
theorem tr_RX7_55_174_59 : THR RX7 55 174 59 "java/lang/IllegalArgumentException" "what is 0 to 4" := ⟨bk_479, bk_76, tk_771, by decide +kernel, thg_55_59, thw_55_59, thv_55_59⟩
theorem tr_RX7_55_176_59 : THR RX7 55 176 59 "java/lang/IllegalArgumentException" "j is not negative, and what is 0 to 3" := ⟨bk_479, bk_76, tk_779, by decide +kernel, thg_55_59, thw_55_59, thv_55_59⟩
theorem tr_RX7_55_197_59 : THR RX7 55 197 59 "java/lang/IllegalArgumentException" "a value is 1 to 999" := ⟨bk_479, bk_76, tk_801, by decide +kernel, thg_55_59, thw_55_59, thv_55_59⟩
theorem tr_RX7_55_210_59 : THR RX7 55 210 59 "java/lang/IllegalArgumentException" "the last key is less than the first one" := ⟨bk_479, bk_76, tk_817, by decide +kernel, thg_55_59, thw_55_59, thv_55_59⟩
theorem tr_RX7_55_276_59 : THR RX7 55 276 59 "java/lang/IllegalArgumentException" "a script has 1 to 3 commands" := ⟨bk_479, bk_76, tk_918, by decide +kernel, thg_55_59, thw_55_59, thv_55_59⟩
theorem tr_RX7_55_282_59 : THR RX7 55 282 59 "java/lang/IllegalArgumentException" "a script is a number of at most 5 * n digits" := ⟨bk_479, bk_76, tk_923, by decide +kernel, thg_55_59, thw_55_59, thv_55_59⟩
theorem tr_RX7_55_289_59 : THR RX7 55 289 59 "java/lang/IllegalArgumentException" "there are 1 to 60 turns" := ⟨bk_479, bk_76, tk_935, by decide +kernel, thg_55_59, thw_55_59, thv_55_59⟩
theorem tr_RX7_55_57_59 : THR RX7 55 57 59 "java/lang/IllegalArgumentException" "a character code is 0 to 255" := ⟨bk_479, bk_76, tk_520, by decide +kernel, thg_55_59, thw_55_59, thv_55_59⟩
theorem tr_RX7_66_200_70 : THR RX7 66 200 70 "java/lang/IllegalStateException" "there are 48 writes" := ⟨bk_551, bk_77, tk_803, by decide +kernel, thg_66_70, thw_66_70, thv_66_70⟩
theorem tr_RX7_66_218_70 : THR RX7 66 218 70 "java/lang/IllegalStateException" "2 eyes are open" := ⟨bk_551, bk_77, tk_826, by decide +kernel, thg_66_70, thw_66_70, thv_66_70⟩
theorem tr_RX7_66_229_70 : THR RX7 66 229 70 "java/lang/IllegalStateException" "memory is empty, there are 5 runs, or it is too much" := ⟨bk_551, bk_77, tk_844, by decide +kernel, thg_66_70, thw_66_70, thv_66_70⟩
theorem tr_RX7_66_240_70 : THR RX7 66 240 70 "java/lang/IllegalStateException" "there is no run behind it, or it is too much" := ⟨bk_551, bk_77, tk_853, by decide +kernel, thg_66_70, thw_66_70, thv_66_70⟩
theorem tr_RX7_66_246_70 : THR RX7 66 246 70 "java/lang/IllegalStateException" "no state is remembered" := ⟨bk_551, bk_77, tk_865, by decide +kernel, thg_66_70, thw_66_70, thv_66_70⟩
theorem tr_RX7_66_300_70 : THR RX7 66 300 70 "java/lang/IllegalStateException" "nothing has been saved in this slot" := ⟨bk_551, bk_77, tk_958, by decide +kernel, thg_66_70, thw_66_70, thv_66_70⟩
theorem tr_RX7_66_68_70 : THR RX7 66 68 70 "java/lang/IllegalStateException" "the text already has 120 characters" := ⟨bk_551, bk_77, tk_560, by decide +kernel, thg_66_70, thw_66_70, thv_66_70⟩
theorem tr_RX7_66_85_70 : THR RX7 66 85 70 "java/lang/IllegalStateException" "the text is not a history" := ⟨bk_551, bk_77, tk_578, by decide +kernel, thg_66_70, thw_66_70, thv_66_70⟩
theorem hd_L_about_IllegalArgumentException : HD RL [(0, 9, 12, 13)] 4 "java/lang/IllegalArgumentException" 12 := ⟨[], (0, 9, 12, 13), [], "java/lang/IllegalArgumentException", rfl, fun _ h => absurd h List.not_mem_nil, by decide, by decide, bk_473, tk_481, rfl⟩
theorem hd_L_append_IllegalArgumentException : HD RL [(0, 9, 12, 13), (0, 9, 15, 15)] 4 "java/lang/IllegalArgumentException" 12 := ⟨[], (0, 9, 12, 13), [(0, 9, 15, 15)], "java/lang/IllegalArgumentException", rfl, fun _ h => absurd h List.not_mem_nil, by decide, by decide, bk_473, tk_481, rfl⟩
theorem hd_L_append_IllegalStateException : HD RL [(0, 9, 12, 13), (0, 9, 15, 15)] 4 "java/lang/IllegalStateException" 15 := ⟨[(0, 9, 12, 13)], (0, 9, 15, 15), [], "java/lang/IllegalStateException", rfl, List.forall_mem_cons.mpr ⟨⟨by decide, "java/lang/IllegalArgumentException", bk_473, by decide +kernel⟩, fun _ h => absurd h List.not_mem_nil⟩, by decide, by decide, bk_474, tk_553, rfl⟩
theorem hd_L_bury_IllegalArgumentException : HD RL [(0, 10, 13, 28), (0, 10, 17, 13), (0, 10, 21, 15)] 5 "java/lang/IllegalArgumentException" 17 := ⟨[(0, 10, 13, 28)], (0, 10, 17, 13), [(0, 10, 21, 15)], "java/lang/IllegalArgumentException", rfl, List.forall_mem_cons.mpr ⟨⟨by decide, "java/lang/IndexOutOfBoundsException", bk_706, by decide +kernel⟩, fun _ h => absurd h List.not_mem_nil⟩, by decide, by decide, bk_473, tk_481, rfl⟩
theorem hd_L_bury_IllegalStateException : HD RL [(0, 10, 13, 28), (0, 10, 17, 13), (0, 10, 21, 15)] 5 "java/lang/IllegalStateException" 21 := ⟨[(0, 10, 13, 28), (0, 10, 17, 13)], (0, 10, 21, 15), [], "java/lang/IllegalStateException", rfl, List.forall_mem_cons.mpr ⟨⟨by decide, "java/lang/IndexOutOfBoundsException", bk_706, by decide +kernel⟩, List.forall_mem_cons.mpr ⟨⟨by decide, "java/lang/IllegalArgumentException", bk_473, by decide +kernel⟩, fun _ h => absurd h List.not_mem_nil⟩⟩, by decide, by decide, bk_474, tk_553, rfl⟩
theorem hd_L_bury_IndexOutOfBoundsException : HD RL [(0, 10, 13, 28), (0, 10, 17, 13), (0, 10, 21, 15)] 5 "java/lang/IndexOutOfBoundsException" 13 := ⟨[], (0, 10, 13, 28), [(0, 10, 17, 13), (0, 10, 21, 15)], "java/lang/IndexOutOfBoundsException", rfl, fun _ h => absurd h List.not_mem_nil, by decide, by decide, bk_706, tk_718, rfl⟩
theorem hd_L_close_IndexOutOfBoundsException : HD RL [(0, 9, 12, 28)] 4 "java/lang/IndexOutOfBoundsException" 12 := ⟨[], (0, 9, 12, 28), [], "java/lang/IndexOutOfBoundsException", rfl, fun _ h => absurd h List.not_mem_nil, by decide, by decide, bk_706, tk_718, rfl⟩
theorem hd_L_count_IllegalArgumentException : HD RL [(0, 12, 15, 28), (0, 12, 19, 13)] 7 "java/lang/IllegalArgumentException" 19 := ⟨[(0, 12, 15, 28)], (0, 12, 19, 13), [], "java/lang/IllegalArgumentException", rfl, List.forall_mem_cons.mpr ⟨⟨by decide, "java/lang/IndexOutOfBoundsException", bk_706, by decide +kernel⟩, fun _ h => absurd h List.not_mem_nil⟩, by decide, by decide, bk_473, tk_481, rfl⟩
theorem hd_L_count_IndexOutOfBoundsException : HD RL [(0, 12, 15, 28), (0, 12, 19, 13)] 7 "java/lang/IndexOutOfBoundsException" 15 := ⟨[], (0, 12, 15, 28), [(0, 12, 19, 13)], "java/lang/IndexOutOfBoundsException", rfl, fun _ h => absurd h List.not_mem_nil, by decide, by decide, bk_706, tk_718, rfl⟩
theorem hd_L_eye_IndexOutOfBoundsException : HD RL [(0, 9, 12, 28)] 4 "java/lang/IndexOutOfBoundsException" 12 := ⟨[], (0, 9, 12, 28), [], "java/lang/IndexOutOfBoundsException", rfl, fun _ h => absurd h List.not_mem_nil, by decide, by decide, bk_706, tk_718, rfl⟩
theorem hd_L_flush_IllegalStateException : HD RL [(0, 8, 11, 15)] 3 "java/lang/IllegalStateException" 11 := ⟨[], (0, 8, 11, 15), [], "java/lang/IllegalStateException", rfl, fun _ h => absurd h List.not_mem_nil, by decide, by decide, bk_474, tk_553, rfl⟩
theorem hd_L_get_IndexOutOfBoundsException : HD RL [(0, 10, 13, 28)] 5 "java/lang/IndexOutOfBoundsException" 13 := ⟨[], (0, 10, 13, 28), [], "java/lang/IndexOutOfBoundsException", rfl, fun _ h => absurd h List.not_mem_nil, by decide, by decide, bk_706, tk_718, rfl⟩
theorem hd_L_grave_IndexOutOfBoundsException : HD RL [(0, 9, 12, 28)] 4 "java/lang/IndexOutOfBoundsException" 12 := ⟨[], (0, 9, 12, 28), [], "java/lang/IndexOutOfBoundsException", rfl, fun _ h => absurd h List.not_mem_nil, by decide, by decide, bk_706, tk_718, rfl⟩
theorem hd_L_load_IllegalStateException : HD RL [(0, 8, 11, 15)] 3 "java/lang/IllegalStateException" 11 := ⟨[], (0, 8, 11, 15), [], "java/lang/IllegalStateException", rfl, fun _ h => absurd h List.not_mem_nil, by decide, by decide, bk_474, tk_553, rfl⟩
theorem hd_L_looks_IndexOutOfBoundsException : HD RL [(0, 9, 12, 28)] 4 "java/lang/IndexOutOfBoundsException" 12 := ⟨[], (0, 9, 12, 28), [], "java/lang/IndexOutOfBoundsException", rfl, fun _ h => absurd h List.not_mem_nil, by decide, by decide, bk_706, tk_718, rfl⟩
theorem hd_L_merge_IllegalStateException : HD RL [(0, 9, 12, 28), (0, 9, 15, 15)] 4 "java/lang/IllegalStateException" 15 := ⟨[(0, 9, 12, 28)], (0, 9, 15, 15), [], "java/lang/IllegalStateException", rfl, List.forall_mem_cons.mpr ⟨⟨by decide, "java/lang/IndexOutOfBoundsException", bk_706, by decide +kernel⟩, fun _ h => absurd h List.not_mem_nil⟩, by decide, by decide, bk_474, tk_553, rfl⟩
theorem hd_L_merge_IndexOutOfBoundsException : HD RL [(0, 9, 12, 28), (0, 9, 15, 15)] 4 "java/lang/IndexOutOfBoundsException" 12 := ⟨[], (0, 9, 12, 28), [(0, 9, 15, 15)], "java/lang/IndexOutOfBoundsException", rfl, fun _ h => absurd h List.not_mem_nil, by decide, by decide, bk_706, tk_718, rfl⟩
theorem hd_L_next_IndexOutOfBoundsException : HD RL [(0, 10, 13, 28)] 5 "java/lang/IndexOutOfBoundsException" 13 := ⟨[], (0, 10, 13, 28), [], "java/lang/IndexOutOfBoundsException", rfl, fun _ h => absurd h List.not_mem_nil, by decide, by decide, bk_706, tk_718, rfl⟩
theorem hd_L_open_IllegalStateException : HD RL [(0, 8, 11, 15)] 3 "java/lang/IllegalStateException" 11 := ⟨[], (0, 8, 11, 15), [], "java/lang/IllegalStateException", rfl, fun _ h => absurd h List.not_mem_nil, by decide, by decide, bk_474, tk_553, rfl⟩
theorem hd_L_put_IllegalArgumentException : HD RL [(0, 10, 13, 28), (0, 10, 17, 13), (0, 10, 21, 15)] 5 "java/lang/IllegalArgumentException" 17 := ⟨[(0, 10, 13, 28)], (0, 10, 17, 13), [(0, 10, 21, 15)], "java/lang/IllegalArgumentException", rfl, List.forall_mem_cons.mpr ⟨⟨by decide, "java/lang/IndexOutOfBoundsException", bk_706, by decide +kernel⟩, fun _ h => absurd h List.not_mem_nil⟩, by decide, by decide, bk_473, tk_481, rfl⟩
theorem hd_L_put_IllegalStateException : HD RL [(0, 10, 13, 28), (0, 10, 17, 13), (0, 10, 21, 15)] 5 "java/lang/IllegalStateException" 21 := ⟨[(0, 10, 13, 28), (0, 10, 17, 13)], (0, 10, 21, 15), [], "java/lang/IllegalStateException", rfl, List.forall_mem_cons.mpr ⟨⟨by decide, "java/lang/IndexOutOfBoundsException", bk_706, by decide +kernel⟩, List.forall_mem_cons.mpr ⟨⟨by decide, "java/lang/IllegalArgumentException", bk_473, by decide +kernel⟩, fun _ h => absurd h List.not_mem_nil⟩⟩, by decide, by decide, bk_474, tk_553, rfl⟩
theorem hd_L_put_IndexOutOfBoundsException : HD RL [(0, 10, 13, 28), (0, 10, 17, 13), (0, 10, 21, 15)] 5 "java/lang/IndexOutOfBoundsException" 13 := ⟨[], (0, 10, 13, 28), [(0, 10, 17, 13), (0, 10, 21, 15)], "java/lang/IndexOutOfBoundsException", rfl, fun _ h => absurd h List.not_mem_nil, by decide, by decide, bk_706, tk_718, rfl⟩
theorem hd_L_restore_IllegalStateException : HD RL [(0, 9, 12, 28), (0, 9, 15, 15)] 4 "java/lang/IllegalStateException" 15 := ⟨[(0, 9, 12, 28)], (0, 9, 15, 15), [], "java/lang/IllegalStateException", rfl, List.forall_mem_cons.mpr ⟨⟨by decide, "java/lang/IndexOutOfBoundsException", bk_706, by decide +kernel⟩, fun _ h => absurd h List.not_mem_nil⟩, by decide, by decide, bk_474, tk_553, rfl⟩
theorem hd_L_restore_IndexOutOfBoundsException : HD RL [(0, 9, 12, 28), (0, 9, 15, 15)] 4 "java/lang/IndexOutOfBoundsException" 12 := ⟨[], (0, 9, 12, 28), [(0, 9, 15, 15)], "java/lang/IndexOutOfBoundsException", rfl, fun _ h => absurd h List.not_mem_nil, by decide, by decide, bk_706, tk_718, rfl⟩
theorem hd_L_runScript_IllegalArgumentException : HD RL [(0, 11, 14, 13)] 6 "java/lang/IllegalArgumentException" 14 := ⟨[], (0, 11, 14, 13), [], "java/lang/IllegalArgumentException", rfl, fun _ h => absurd h List.not_mem_nil, by decide, by decide, bk_473, tk_481, rfl⟩
theorem hd_L_run_IllegalArgumentException : HD RL [(0, 10, 13, 28), (0, 10, 17, 13)] 5 "java/lang/IllegalArgumentException" 17 := ⟨[(0, 10, 13, 28)], (0, 10, 17, 13), [], "java/lang/IllegalArgumentException", rfl, List.forall_mem_cons.mpr ⟨⟨by decide, "java/lang/IndexOutOfBoundsException", bk_706, by decide +kernel⟩, fun _ h => absurd h List.not_mem_nil⟩, by decide, by decide, bk_473, tk_481, rfl⟩
theorem hd_L_run_IndexOutOfBoundsException : HD RL [(0, 10, 13, 28), (0, 10, 17, 13)] 5 "java/lang/IndexOutOfBoundsException" 13 := ⟨[], (0, 10, 13, 28), [(0, 10, 17, 13)], "java/lang/IndexOutOfBoundsException", rfl, fun _ h => absurd h List.not_mem_nil, by decide, by decide, bk_706, tk_718, rfl⟩
theorem hd_L_save_IndexOutOfBoundsException : HD RL [(0, 9, 12, 28)] 4 "java/lang/IndexOutOfBoundsException" 12 := ⟨[], (0, 9, 12, 28), [], "java/lang/IndexOutOfBoundsException", rfl, fun _ h => absurd h List.not_mem_nil, by decide, by decide, bk_706, tk_718, rfl⟩
theorem hd_L_saves_IllegalStateException : HD RL [(0, 9, 12, 28), (0, 9, 15, 15)] 4 "java/lang/IllegalStateException" 15 := ⟨[(0, 9, 12, 28)], (0, 9, 15, 15), [], "java/lang/IllegalStateException", rfl, List.forall_mem_cons.mpr ⟨⟨by decide, "java/lang/IndexOutOfBoundsException", bk_706, by decide +kernel⟩, fun _ h => absurd h List.not_mem_nil⟩, by decide, by decide, bk_474, tk_553, rfl⟩
theorem hd_L_saves_IndexOutOfBoundsException : HD RL [(0, 9, 12, 28), (0, 9, 15, 15)] 4 "java/lang/IndexOutOfBoundsException" 12 := ⟨[], (0, 9, 12, 28), [(0, 9, 15, 15)], "java/lang/IndexOutOfBoundsException", rfl, fun _ h => absurd h List.not_mem_nil, by decide, by decide, bk_706, tk_718, rfl⟩
theorem hd_L_simulate_IllegalArgumentException : HD RL [(0, 11, 14, 13)] 6 "java/lang/IllegalArgumentException" 14 := ⟨[], (0, 11, 14, 13), [], "java/lang/IllegalArgumentException", rfl, fun _ h => absurd h List.not_mem_nil, by decide, by decide, bk_473, tk_481, rfl⟩
theorem hd_L_undo_IllegalStateException : HD RL [(0, 8, 11, 15)] 3 "java/lang/IllegalStateException" 11 := ⟨[], (0, 8, 11, 15), [], "java/lang/IllegalStateException", rfl, fun _ h => absurd h List.not_mem_nil, by decide, by decide, bk_474, tk_553, rfl⟩
theorem hd_L_write_IllegalArgumentException : HD RL [(0, 12, 15, 28), (0, 12, 19, 13)] 7 "java/lang/IllegalArgumentException" 19 := ⟨[(0, 12, 15, 28)], (0, 12, 19, 13), [], "java/lang/IllegalArgumentException", rfl, List.forall_mem_cons.mpr ⟨⟨by decide, "java/lang/IndexOutOfBoundsException", bk_706, by decide +kernel⟩, fun _ h => absurd h List.not_mem_nil⟩, by decide, by decide, bk_473, tk_481, rfl⟩
theorem hd_L_write_IndexOutOfBoundsException : HD RL [(0, 12, 15, 28), (0, 12, 19, 13)] 7 "java/lang/IndexOutOfBoundsException" 15 := ⟨[], (0, 12, 15, 28), [(0, 12, 19, 13)], "java/lang/IndexOutOfBoundsException", rfl, fun _ h => absurd h List.not_mem_nil, by decide, by decide, bk_706, tk_718, rfl⟩
