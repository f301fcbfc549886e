/-! the calls of the law: their codes, and that all stays as it should be -/
theorem push_mem {l : List SG} {S T : SG} (h : T ∈ push l S) : T ∈ l ∨ T = S := by
  unfold push at h
  rcases List.mem_append.mp h with h | h
  · split at h
    · exact Or.inl (List.mem_of_mem_tail h)
    · exact Or.inl h
  · exact Or.inr (List.mem_singleton.mp h)
theorem AOK_push {A : AB} {M M' : Int} (H : AOK A M) {T : SG} (hT : GOK T M') (h : M ≤ M' ∧ M' < 1000000) : AOK (T, push A.2.1 A.1, A.2.2) M' := by
  refine ⟨hT, fun U hU => ?_, fun U hU => GOK_up (H.2.2.1 U hU) h, fun U hU => GOK_up (H.2.2.2 U hU) h⟩
  rcases push_mem hU with hU | rfl
  · exact GOK_up (H.2.1 U hU) h
  · exact GOK_up H.1 h
theorem a_put {A : AB} {M : Int} (H : AOK A M) (hM : M + 200 < 1000000) (k v : Int) : AOK (xPut A k v).2.2 (M + 200) := by
  unfold xPut
  by_cases c : putF A.1 k v = 0
  · rw [if_neg (by omega)]
    have h1 := getD_ok H.1 (by omega) 112 k v
    rw [show cmdS 112 k v A.1 = cPut A.1 k v from rfl] at h1
    unfold cPut at h1
    rw [if_pos c] at h1
    exact AOK_push H (GOK_up h1 (by omega)) (by omega)
  · rw [if_pos c]
    exact AOK_up H (by omega)
theorem a_bury {A : AB} {M : Int} (H : AOK A M) (hM : M + 200 < 1000000) (k v : Int) : AOK (xBury A k v).2.2 (M + 200) := by
  unfold xBury
  by_cases c : buryF A.1 k v = 0
  · rw [if_neg (by omega)]
    have h1 := getD_ok H.1 (by omega) 120 k v
    rw [show cmdS 120 k v A.1 = cBury A.1 k v from rfl] at h1
    unfold cBury at h1
    rw [if_pos c] at h1
    exact AOK_push H (GOK_up h1 (by omega)) (by omega)
  · rw [if_pos c]
    exact AOK_up H (by omega)
theorem a_open {A : AB} {M : Int} (H : AOK A M) (hM : M + 200 < 1000000) : AOK (xOpen A).2.2 (M + 200) := by
  unfold xOpen
  by_cases c : A.1.2.2.1.length < 2
  · rw [if_neg (by omega)]
    have h1 := getD_ok H.1 (by omega) 111 0 0
    rw [show cmdS 111 0 0 A.1 = cOpen A.1 from rfl] at h1
    unfold cOpen at h1
    rw [if_pos c] at h1
    exact AOK_push H (GOK_up h1 (by omega)) (by omega)
  · rw [if_pos c]
    exact AOK_up H (by omega)
theorem a_close {A : AB} {M : Int} (H : AOK A M) (hM : M + 200 < 1000000) (i : Int) : AOK (xClose A i).2.2 (M + 200) := by
  unfold xClose
  by_cases c : 0 ≤ i ∧ i < A.1.2.2.1.length
  · rw [if_neg (by omega)]
    have h1 := getD_ok H.1 (by omega) 99 i 0
    rw [show cmdS 99 i 0 A.1 = cClose A.1 i from rfl] at h1
    unfold cClose at h1
    rw [if_pos c] at h1
    exact AOK_push H (GOK_up h1 (by omega)) (by omega)
  · rw [if_pos c]
    exact AOK_up H (by omega)
theorem a_flush {A : AB} {M : Int} (H : AOK A M) (hM : M + 200 < 1000000) : AOK (xFlush A).2.2 (M + 200) := by
  unfold xFlush
  by_cases c : flF A.1 = 0
  · rw [if_neg (by omega)]
    have h1 := getD_ok H.1 (by omega) 102 0 0
    rw [show cmdS 102 0 0 A.1 = cFlush A.1 from rfl] at h1
    unfold cFlush at h1
    rw [if_pos c] at h1
    exact AOK_push H (GOK_up h1 (by omega)) (by omega)
  · rw [if_pos c]
    exact AOK_up H (by omega)
theorem a_merge {A : AB} {M : Int} (H : AOK A M) (hM : M + 200 < 1000000) (i : Int) : AOK (xMerge A i).2.2 (M + 200) := by
  unfold xMerge
  by_cases c : mgF A.1 i = 0
  · rw [if_neg (by omega)]
    have h1 := getD_ok H.1 (by omega) 109 i 0
    rw [show cmdS 109 i 0 A.1 = cMerge A.1 i from rfl] at h1
    unfold cMerge at h1
    rw [if_pos c] at h1
    exact AOK_push H (GOK_up h1 (by omega)) (by omega)
  · rw [if_pos c]
    exact AOK_up H (by omega)
theorem a_undo {A : AB} {M : Int} (H : AOK A M) (hM : M + 200 < 1000000) : AOK (xUndo A).2.2 (M + 200) := by
  have H' := AOK_up (M' := M + 200) H (by omega)
  by_cases c : A.2.1.length = 0
  · rw [xUndo_0 c]
    exact H'
  · rw [xUndo_1 (by omega)]
    exact ⟨H'.2.1 _ (List.getElem_mem _), fun T hT => H'.2.1 T (List.dropLast_subset _ hT), H'.2.2.1, H'.2.2.2⟩
theorem a_save {A : AB} {M : Int} (H : AOK A M) (hM : M + 200 < 1000000) (i : Int) : AOK (xSave A i).2.2 (M + 200) := by
  have H' := AOK_up (M' := M + 200) H (by omega)
  unfold xSave
  by_cases c : 0 ≤ i ∧ i ≤ 1
  · rw [if_neg (by omega)]
    refine ⟨H'.1, H'.2.1, fun T hT => ?_, fun T hT => ?_⟩
    · dsimp only at hT
      unfold sSet at hT
      split at hT
      · rw [← Option.some.inj hT]
        exact H'.1
      · exact H'.2.2.1 T hT
    · dsimp only at hT
      unfold sSet at hT
      split at hT
      · exact H'.2.2.2 T hT
      · rw [← Option.some.inj hT]
        exact H'.1
  · rw [if_pos c]
    exact H'
theorem a_rest {A : AB} {M : Int} (H : AOK A M) (hM : M + 200 < 1000000) (i : Int) : AOK (xRest A i).2.2 (M + 200) := by
  have H' := AOK_up (M' := M + 200) H (by omega)
  by_cases c : 0 ≤ i ∧ i ≤ 1
  · cases hg : sGet A.2.2.1 i with
    | none =>
      rw [xRest_n c hg]
      exact H'
    | some T =>
      rw [xRest_s c hg]
      exact ⟨slot_ok H' hg, fun U hU => absurd hU List.not_mem_nil, H'.2.2.1, H'.2.2.2⟩
  · rw [xRest_0 c]
    exact H'
theorem a_load {A : AB} {M : Int} (H : AOK A M) (hM : 0 ≤ M ∧ M + 200 < 1000000) : AOK (xLoad A).2.2 (M + 200) := by
  unfold xLoad
  by_cases c : errP A.2.2.2 = -1
  · rw [if_neg (by omega)]
    have h1 := runF_ok (l := A.2.2.2) (Mz := 200) (by omega) 200 1 emp 0 emp_ok
    exact ⟨GOK_up h1 (by omega), fun U hU => absurd hU List.not_mem_nil, fun U hU => absurd hU (by simp), fun U hU => absurd hU (by simp)⟩
  · rw [if_pos c]
    exact AOK_up H (by omega)
theorem a_append {A : AB} {M : Int} (H : AOK A M) (hM : M + 200 < 1000000) (c : Int) : AOK (xAppend A c).2.2 (M + 200) := by
  have H' := AOK_up (M' := M + 200) H (by omega)
  unfold xAppend
  split
  · exact H'
  · split
    · exact H'
    · exact H'
theorem s_about (A : AB) (w : Int) : (xAbout A w).2.2 = A := by
  unfold xAbout
  repeat' split
  all_goals rfl
theorem s_get (A : AB) (k i : Int) : (xGet A k i).2.2 = A := by
  unfold xGet
  repeat' split
  all_goals rfl
theorem s_run (A : AB) (i w : Int) : (xRun A i w).2.2 = A := by
  unfold xRun
  repeat' split
  all_goals rfl
theorem s_write (A : AB) (i j w : Int) : (xWrite A i j w).2.2 = A := by
  unfold xWrite
  repeat' split
  all_goals rfl
theorem s_eye (A : AB) (i : Int) : (xEye A i).2.2 = A := by
  unfold xEye
  repeat' split
  all_goals rfl
theorem s_looks (A : AB) (k : Int) : (xLooks A k).2.2 = A := by
  unfold xLooks
  repeat' split
  all_goals rfl
theorem s_next (A : AB) (k i : Int) : (xNext A k i).2.2 = A := by
  unfold xNext
  repeat' split
  all_goals rfl
theorem s_count (A : AB) (p q i : Int) : (xCount A p q i).2.2 = A := by
  unfold xCount
  repeat' split
  all_goals rfl
theorem s_grave (A : AB) (k : Int) : (xGrave A k).2.2 = A := by
  unfold xGrave
  repeat' split
  all_goals rfl
theorem s_saves (A : AB) (i : Int) : (xSaves A i).2.2 = A := by
  unfold xSaves
  repeat' split
  all_goals rfl
theorem s_script (A : AB) (n : Int) (w : Int64) : (xScript A n w).2.2 = A := by
  unfold xScript
  repeat' split
  all_goals rfl
theorem s_sim (A : AB) (w : Int64) (n : Int) : (xSim A w n).2.2 = A := by
  unfold xSim
  repeat' split
  all_goals rfl
theorem k_append (A : AB) (c : Int) : 0 ≤ (xAppend A c).1 ∧ (xAppend A c).1 ≤ 2 := by
  unfold xAppend
  repeat' split
  all_goals (dsimp only; omega)
theorem k_load (A : AB) : 0 ≤ (xLoad A).1 ∧ (xLoad A).1 ≤ 1 := by
  unfold xLoad
  repeat' split
  all_goals (dsimp only; omega)
theorem k_about (A : AB) (w : Int) : 0 ≤ (xAbout A w).1 ∧ (xAbout A w).1 ≤ 1 := by
  unfold xAbout
  repeat' split
  all_goals (dsimp only; omega)
theorem k_get (A : AB) (k i : Int) : 0 ≤ (xGet A k i).1 ∧ (xGet A k i).1 ≤ 1 := by
  unfold xGet
  repeat' split
  all_goals (dsimp only; omega)
theorem k_run (A : AB) (i w : Int) : 0 ≤ (xRun A i w).1 ∧ (xRun A i w).1 ≤ 2 := by
  unfold xRun
  repeat' split
  all_goals (dsimp only; omega)
theorem k_write (A : AB) (i j w : Int) : 0 ≤ (xWrite A i j w).1 ∧ (xWrite A i j w).1 ≤ 2 := by
  unfold xWrite
  repeat' split
  all_goals (dsimp only; omega)
theorem k_eye (A : AB) (i : Int) : 0 ≤ (xEye A i).1 ∧ (xEye A i).1 ≤ 1 := by
  unfold xEye
  repeat' split
  all_goals (dsimp only; omega)
theorem k_put (A : AB) (k v : Int) : 0 ≤ (xPut A k v).1 ∧ (xPut A k v).1 ≤ 3 := by
  have := putF_rng A.1 k v
  unfold xPut
  repeat' split
  all_goals (dsimp only; omega)
theorem k_bury (A : AB) (p q : Int) : 0 ≤ (xBury A p q).1 ∧ (xBury A p q).1 ≤ 3 := by
  have := buryF_rng A.1 p q
  unfold xBury
  repeat' split
  all_goals (dsimp only; omega)
theorem k_open (A : AB) : 0 ≤ (xOpen A).1 ∧ (xOpen A).1 ≤ 1 := by
  unfold xOpen
  repeat' split
  all_goals (dsimp only; omega)
theorem k_close (A : AB) (i : Int) : 0 ≤ (xClose A i).1 ∧ (xClose A i).1 ≤ 1 := by
  unfold xClose
  repeat' split
  all_goals (dsimp only; omega)
theorem k_flush (A : AB) : 0 ≤ (xFlush A).1 ∧ (xFlush A).1 ≤ 1 := by
  have := flF_rng A.1
  unfold xFlush
  repeat' split
  all_goals (dsimp only; omega)
theorem k_merge (A : AB) (i : Int) : 0 ≤ (xMerge A i).1 ∧ (xMerge A i).1 ≤ 2 := by
  have := mgF_rng A.1 i
  unfold xMerge
  repeat' split
  all_goals (dsimp only; omega)
theorem k_undo (A : AB) : 0 ≤ (xUndo A).1 ∧ (xUndo A).1 ≤ 1 := by
  by_cases c : A.2.1.length = 0
  · rw [xUndo_0 c]
    exact ⟨by dsimp only; omega, by dsimp only; omega⟩
  · rw [xUndo_1 (by omega)]
    exact ⟨Int.le_refl _, by dsimp only; omega⟩
theorem k_looks (A : AB) (k : Int) : 0 ≤ (xLooks A k).1 ∧ (xLooks A k).1 ≤ 1 := by
  unfold xLooks
  repeat' split
  all_goals (dsimp only; omega)
theorem k_next (A : AB) (k i : Int) : 0 ≤ (xNext A k i).1 ∧ (xNext A k i).1 ≤ 1 := by
  unfold xNext
  repeat' split
  all_goals (dsimp only; omega)
theorem k_count (A : AB) (p q i : Int) : 0 ≤ (xCount A p q i).1 ∧ (xCount A p q i).1 ≤ 2 := by
  unfold xCount
  repeat' split
  all_goals (dsimp only; omega)
theorem k_grave (A : AB) (k : Int) : 0 ≤ (xGrave A k).1 ∧ (xGrave A k).1 ≤ 1 := by
  unfold xGrave
  repeat' split
  all_goals (dsimp only; omega)
theorem k_saves (A : AB) (i : Int) : 0 ≤ (xSaves A i).1 ∧ (xSaves A i).1 ≤ 2 := by
  have := mgF_rng A.1 i
  unfold xSaves
  repeat' split
  all_goals (dsimp only; omega)
theorem k_save (A : AB) (i : Int) : 0 ≤ (xSave A i).1 ∧ (xSave A i).1 ≤ 1 := by
  unfold xSave
  repeat' split
  all_goals (dsimp only; omega)
theorem k_restore (A : AB) (i : Int) : 0 ≤ (xRest A i).1 ∧ (xRest A i).1 ≤ 2 := by
  by_cases c : 0 ≤ i ∧ i ≤ 1
  · cases hg : sGet A.2.2.1 i with
    | none =>
      rw [xRest_n c hg]
      exact ⟨by dsimp only; omega, by dsimp only; omega⟩
    | some T =>
      rw [xRest_s c hg]
      exact ⟨Int.le_refl _, by dsimp only; omega⟩
  · rw [xRest_0 c]
    exact ⟨by dsimp only; omega, by dsimp only; omega⟩
theorem k_script (A : AB) (n : Int) (w : Int64) : 0 ≤ (xScript A n w).1 ∧ (xScript A n w).1 ≤ 1 := by
  unfold xScript
  repeat' split
  all_goals (dsimp only; omega)
theorem k_sim (A : AB) (w : Int64) (n : Int) : 0 ≤ (xSim A w n).1 ∧ (xSim A w n).1 ≤ 1 := by
  unfold xSim
  repeat' split
  all_goals (dsimp only; omega)
theorem W_append {h : HP} {x o : Nat} {A : AB} (e : CLS h x A) {c : Int} (hc : -2147483648 ≤ c ∧ c < 2147483648) (out : OUTA h o) (ho : x + 311 ≤ o) : WP (f_L_append h x (zI c) o) (WRP x o (xAppend A c).2.2 (xAppend A c).1 (xAppend A c).2.1 h) := by
  unfold f_L_append b_L_append_0
  exact wrap2 (C_append e hc) (by decide) (k_append A c) out ho
theorem W_load {h : HP} {x o : Nat} {A : AB} (e : CLS h x A) (out : OUTA h o) (ho : x + 311 ≤ o) : WP (f_L_load h x o) (WRP x o (xLoad A).2.2 (xLoad A).1 (xLoad A).2.1 h) := by
  unfold f_L_load b_L_load_0
  exact wrap1 (C_load e) (k_load A) out ho
theorem W_about {h : HP} {x o : Nat} {A : AB} (e : CLS h x A) {M : Int} (H : AOK A M) {w : Int} (hw : -2147483648 ≤ w ∧ w < 2147483648) (out : OUTA h o) (ho : x + 311 ≤ o) : WP (f_L_about h x (zI w) o) (WRP x o (xAbout A w).2.2 (xAbout A w).1 (xAbout A w).2.1 h) := by
  unfold f_L_about b_L_about_0
  exact wrap1 (C_about e H.1 hw) (k_about A w) out ho
theorem W_get {h : HP} {x o : Nat} {A : AB} (e : CLS h x A) {M : Int} (H : AOK A M) {k i : Int} (hk : -2147483648 ≤ k ∧ k < 2147483648) (hi : -2147483648 ≤ i ∧ i < 2147483648) (out : OUTA h o) (ho : x + 311 ≤ o) : WP (f_L_get h x (zI k) (zI i) o) (WRP x o (xGet A k i).2.2 (xGet A k i).1 (xGet A k i).2.1 h) := by
  unfold f_L_get b_L_get_0
  rw [s_get]
  exact wrapP1 e (C_get e H.1 hk hi) (k_get A k i) out ho
theorem W_run {h : HP} {x o : Nat} {A : AB} (e : CLS h x A) {M : Int} (H : AOK A M) {i w : Int} (hi : -2147483648 ≤ i ∧ i < 2147483648) (hw : -2147483648 ≤ w ∧ w < 2147483648) (out : OUTA h o) (ho : x + 311 ≤ o) : WP (f_L_run h x (zI i) (zI w) o) (WRP x o (xRun A i w).2.2 (xRun A i w).1 (xRun A i w).2.1 h) := by
  unfold f_L_run b_L_run_0
  rw [s_run]
  exact wrapP2 e (C_run e H.1 hi hw) (by decide) (k_run A i w) out ho
theorem W_write {h : HP} {x o : Nat} {A : AB} (e : CLS h x A) {M : Int} (H : AOK A M) {i j w : Int} (hi : -2147483648 ≤ i ∧ i < 2147483648) (hj : -2147483648 ≤ j ∧ j < 2147483648) (hw : -2147483648 ≤ w ∧ w < 2147483648) (out : OUTA h o) (ho : x + 311 ≤ o) : WP (f_L_write h x (zI i) (zI j) (zI w) o) (WRP x o (xWrite A i j w).2.2 (xWrite A i j w).1 (xWrite A i j w).2.1 h) := by
  unfold f_L_write b_L_write_0
  rw [s_write]
  exact wrapP2 e (C_write e H.1 hi hj hw) (by decide) (k_write A i j w) out ho
theorem W_eye {h : HP} {x o : Nat} {A : AB} (e : CLS h x A) {i : Int} (hi : -2147483648 ≤ i ∧ i < 2147483648) (out : OUTA h o) (ho : x + 311 ≤ o) : WP (f_L_eye h x (zI i) o) (WRP x o (xEye A i).2.2 (xEye A i).1 (xEye A i).2.1 h) := by
  unfold f_L_eye b_L_eye_0
  rw [s_eye]
  exact wrapP1 e (C_eye e hi) (k_eye A i) out ho
theorem W_put {h : HP} {x o : Nat} {A : AB} (e : CLS h x A) {M : Int} (H : AOK A M) {k v : Int} (hk : -2147483648 ≤ k ∧ k < 2147483648) (hv : -2147483648 ≤ v ∧ v < 2147483648) (out : OUTA h o) (ho : x + 311 ≤ o) : WP (f_L_put h x (zI k) (zI v) o) (WRP x o (xPut A k v).2.2 (xPut A k v).1 (xPut A k v).2.1 h) := by
  unfold f_L_put b_L_put_0
  exact wrap3 (C_put e H.1 hk hv) (by decide) (k_put A k v) out ho
theorem W_bury {h : HP} {x o : Nat} {A : AB} (e : CLS h x A) {M : Int} (H : AOK A M) {p q : Int} (hp : -2147483648 ≤ p ∧ p < 2147483648) (hq : -2147483648 ≤ q ∧ q < 2147483648) (out : OUTA h o) (ho : x + 311 ≤ o) : WP (f_L_bury h x (zI p) (zI q) o) (WRP x o (xBury A p q).2.2 (xBury A p q).1 (xBury A p q).2.1 h) := by
  unfold f_L_bury b_L_bury_0
  exact wrap3 (C_bury e H.1 hp hq) (by decide) (k_bury A p q) out ho
theorem W_open {h : HP} {x o : Nat} {A : AB} (e : CLS h x A) {M : Int} (H : AOK A M) (out : OUTA h o) (ho : x + 311 ≤ o) : WP (f_L_open h x o) (WRP x o (xOpen A).2.2 (xOpen A).1 (xOpen A).2.1 h) := by
  unfold f_L_open b_L_open_0
  exact wrap1 (C_open e H.1) (k_open A) out ho
theorem W_close {h : HP} {x o : Nat} {A : AB} (e : CLS h x A) {M : Int} (H : AOK A M) {i : Int} (hi : -2147483648 ≤ i ∧ i < 2147483648) (out : OUTA h o) (ho : x + 311 ≤ o) : WP (f_L_close h x (zI i) o) (WRP x o (xClose A i).2.2 (xClose A i).1 (xClose A i).2.1 h) := by
  unfold f_L_close b_L_close_0
  exact wrap1 (C_close e H.1 hi) (k_close A i) out ho
theorem W_flush {h : HP} {x o : Nat} {A : AB} (e : CLS h x A) {M : Int} (H : AOK A M) (out : OUTA h o) (ho : x + 311 ≤ o) : WP (f_L_flush h x o) (WRP x o (xFlush A).2.2 (xFlush A).1 (xFlush A).2.1 h) := by
  unfold f_L_flush b_L_flush_0
  exact wrap1 (C_flush e H.1) (k_flush A) out ho
theorem W_merge {h : HP} {x o : Nat} {A : AB} (e : CLS h x A) {M : Int} (H : AOK A M) {i : Int} (hi : -2147483648 ≤ i ∧ i < 2147483648) (out : OUTA h o) (ho : x + 311 ≤ o) : WP (f_L_merge h x (zI i) o) (WRP x o (xMerge A i).2.2 (xMerge A i).1 (xMerge A i).2.1 h) := by
  unfold f_L_merge b_L_merge_0
  exact wrap2 (C_merge e H.1 hi) (by decide) (k_merge A i) out ho
theorem W_undo {h : HP} {x o : Nat} {A : AB} (e : CLS h x A) {M : Int} (H : AOK A M) (out : OUTA h o) (ho : x + 311 ≤ o) : WP (f_L_undo h x o) (WRP x o (xUndo A).2.2 (xUndo A).1 (xUndo A).2.1 h) := by
  unfold f_L_undo b_L_undo_0
  exact wrap1 (C_undo e H) (k_undo A) out ho
theorem W_looks {h : HP} {x o : Nat} {A : AB} (e : CLS h x A) {M : Int} (H : AOK A M) {k : Int} (hk : -2147483648 ≤ k ∧ k < 2147483648) (out : OUTA h o) (ho : x + 311 ≤ o) : WP (f_L_looks h x (zI k) o) (WRP x o (xLooks A k).2.2 (xLooks A k).1 (xLooks A k).2.1 h) := by
  unfold f_L_looks b_L_looks_0
  rw [s_looks]
  exact wrapP1 e (C_looks e H.1 hk) (k_looks A k) out ho
theorem W_next {h : HP} {x o : Nat} {A : AB} (e : CLS h x A) {M : Int} (H : AOK A M) {k i : Int} (hk : -2147483648 ≤ k ∧ k < 2147483648) (hi : -2147483648 ≤ i ∧ i < 2147483648) (out : OUTA h o) (ho : x + 311 ≤ o) : WP (f_L_next h x (zI k) (zI i) o) (WRP x o (xNext A k i).2.2 (xNext A k i).1 (xNext A k i).2.1 h) := by
  unfold f_L_next b_L_next_0
  exact wrap1 (C_next e H.1 hk hi) (k_next A k i) out ho
theorem W_count {h : HP} {x o : Nat} {A : AB} (e : CLS h x A) {M : Int} (H : AOK A M) {p q i : Int} (hp : -2147483648 ≤ p ∧ p < 2147483648) (hq : -2147483648 ≤ q ∧ q < 2147483648) (hi : -2147483648 ≤ i ∧ i < 2147483648) (out : OUTA h o) (ho : x + 311 ≤ o) : WP (f_L_count h x (zI p) (zI q) (zI i) o) (WRP x o (xCount A p q i).2.2 (xCount A p q i).1 (xCount A p q i).2.1 h) := by
  unfold f_L_count b_L_count_0
  exact wrap2 (C_count e H.1 hp hq hi) (by decide) (k_count A p q i) out ho
theorem W_grave {h : HP} {x o : Nat} {A : AB} (e : CLS h x A) {M : Int} (H : AOK A M) {k : Int} (hk : -2147483648 ≤ k ∧ k < 2147483648) (out : OUTA h o) (ho : x + 311 ≤ o) : WP (f_L_grave h x (zI k) o) (WRP x o (xGrave A k).2.2 (xGrave A k).1 (xGrave A k).2.1 h) := by
  unfold f_L_grave b_L_grave_0
  rw [s_grave]
  exact wrapP1 e (C_grave e H.1 hk) (k_grave A k) out ho
theorem W_saves {h : HP} {x o : Nat} {A : AB} (e : CLS h x A) {M : Int} (H : AOK A M) {i : Int} (hi : -2147483648 ≤ i ∧ i < 2147483648) (out : OUTA h o) (ho : x + 311 ≤ o) : WP (f_L_saves h x (zI i) o) (WRP x o (xSaves A i).2.2 (xSaves A i).1 (xSaves A i).2.1 h) := by
  unfold f_L_saves b_L_saves_0
  exact wrap2 (C_saves e H.1 hi) (by decide) (k_saves A i) out ho
theorem W_save {h : HP} {x o : Nat} {A : AB} (e : CLS h x A) {M : Int} (H : AOK A M) {i : Int} (hi : -2147483648 ≤ i ∧ i < 2147483648) (out : OUTA h o) (ho : x + 311 ≤ o) : WP (f_L_save h x (zI i) o) (WRP x o (xSave A i).2.2 (xSave A i).1 (xSave A i).2.1 h) := by
  unfold f_L_save b_L_save_0
  exact wrap1 (C_save e H.1 hi) (k_save A i) out ho
theorem W_restore {h : HP} {x o : Nat} {A : AB} (e : CLS h x A) {M : Int} (H : AOK A M) {i : Int} (hi : -2147483648 ≤ i ∧ i < 2147483648) (out : OUTA h o) (ho : x + 311 ≤ o) : WP (f_L_restore h x (zI i) o) (WRP x o (xRest A i).2.2 (xRest A i).1 (xRest A i).2.1 h) := by
  unfold f_L_restore b_L_restore_0
  exact wrap2 (C_rest e H hi) (by decide) (k_restore A i) out ho
theorem W_script {h : HP} {x o : Nat} {A : AB} (e : CLS h x A) {M : Int} (H : AOK A M) (hM : M + 200 < 1000000) {n : Int} (hn : -2147483648 ≤ n ∧ n < 2147483648) (w : Int64) (out : OUTA h o) (ho : x + 311 ≤ o) : WP (f_L_runScript h x (zI n) w o) (WRP x o (xScript A n w).2.2 (xScript A n w).1 (xScript A n w).2.1 h) := by
  unfold f_L_runScript b_L_runScript_0
  exact wrap1 (C_script e H.1 (by omega) hn w) (k_script A n w) out ho
theorem W_sim {h : HP} {x o : Nat} {A : AB} (e : CLS h x A) {M : Int} (H : AOK A M) (hM : M + 200 < 1000000) {n : Int} (hn : -2147483648 ≤ n ∧ n < 2147483648) (w : Int64) (out : OUTA h o) (ho : x + 311 ≤ o) : WP (f_L_simulate h x w (zI n) o) (WRP x o (xSim A w n).2.2 (xSim A w n).1 (xSim A w n).2.1 h) := by
  unfold f_L_simulate b_L_simulate_0
  exact wrap1 (C_sim e H.1 (by omega) hn w) (k_sim A w n) out ho
