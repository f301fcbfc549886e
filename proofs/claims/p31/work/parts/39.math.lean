def xBury (A : AB) (p q : Int) : Int × Int × AB := if buryF A.1 p q ≠ 0 then (buryF A.1 p q, 0, A) else (0, cnt (fun k => vw A.1 k (-1) ≠ 0) p.toNat (q + 1 - p).toNat, wadd A.1 p q 0, push A.2.1 A.1, A.2.2)
theorem C_bury {h : HP} {x : Nat} {A : AB} (e : CLS h x A) {M : Int} (H : GOK A.1 M) {p q : Int} (hp : -2147483648 ≤ p ∧ p < 2147483648) (hq : -2147483648 ≤ q ∧ q < 2147483648) : WP (f_X7_bury h x (zI p) (zI q)) (CLR7 x (xBury A p q).2.2 [IOB, IAE, ISE] (xBury A p q).1 (xBury A p q).2.1 h) := by
  have g := CLS_g e
  have s := CLS_S e
  have hS := H.2
  unfold SML at hS
  unfold f_X7_bury b_X7_bury_0 b_X7_bury_14 xBury
  refine wb g.1 ?_
  refine wb (X7_isKey_is h hp) ?_
  by_cases c1 : 0 ≤ p ∧ p ≤ 99
  · rw [tB_1 c1]
    refine wf (by decide) ?_
    refine wb (X7_isKey_is h hq) ?_
    by_cases c2 : 0 ≤ q ∧ q ≤ 99
    · have n12 : ¬ (¬ (0 ≤ p ∧ p ≤ 99) ∨ ¬ (0 ≤ q ∧ q ≤ 99)) := by omega
      rw [tB_1 c2]
      refine wf (by decide) ?_
      by_cases c4 : p ≤ q
      · refine wt ((zI_le (by omega)).mpr c4) ?_
        refine wb g.2.2.1 ?_
        refine wb (X3_isFull_is s) ?_
        by_cases c3 : 48 ≤ A.1.1.length
        · have hF : buryF A.1 p q = 3 := by
            unfold buryF
            rw [if_neg n12, if_neg (by omega), if_pos (by omega)]
          rw [tB_1 c3, hF]
          refine wf (by decide) ?_
          exact wr ⟨rfl, e, OFF_refl _ _ _⟩
        · have hF : buryF A.1 p q = 0 := by
            unfold buryF
            rw [if_neg n12, if_neg (by omega), if_neg (by omega)]
          rw [tB_0 c3, hF, if_neg (show ¬ ((0 : Int) ≠ 0) by omega)]
          refine wt rfl ?_
          refine wb g.2.2.2.2.1 ?_
          refine wb g.2.2.1 ?_
          refine wpb (C_rem e hS.1) ?_
          rintro h1 ⟨q1, q2⟩
          refine wb (CLS_g q1).2.2.2.2.2.2.2 ?_
          refine wb (CLS_g q1).2.2.1 ?_
          refine wb (CLS_g q1).2.2.1 ?_
          refine wb (X3_latest_is (CLS_S q1)) ?_
          dsimp only
          rw [← lim_m1 A.1]
          refine wpb (C_look q1 H (-1)) ?_
          rintro h2 ⟨q3, q4, q5⟩
          refine wb (CLS_g q3).2.2.1 ?_
          rw [zl0]
          refine wpb (X3_addWrite_is (CLS_S q3) p q 0 (by dsimp only; omega)) ?_
          rintro h3 ⟨q6, q7⟩
          have e3 := CLS_st q3 (FR_c q7 (by omega)) (CLN_off q3.2.1 q7 (by omega)) q6
          refine wb (CLS_g e3).2.2.2.2.2.2.2 ?_
          refine wb (X5_seenIn_is (VIEW_off q4 q7 (by omega)) (fun k _ => vw_rng H.1 k (-1)) (s := p) (t := q) (by omega) (by omega)) ?_
          exact wr ⟨rfl, e3, OFF_trans (OFF_wide q2 (by omega)) (OFF_trans (OFF_wide q5 (by omega)) (OFF_wide q7 (by omega)))⟩
      · refine wf (fun d => c4 ((zI_le (by omega)).mp d)) ?_
        have hF : buryF A.1 p q = 2 := by
          unfold buryF
          rw [if_neg n12, if_pos (by omega)]
        rw [hF]
        exact wr ⟨rfl, e, OFF_refl _ _ _⟩
    · have hF : buryF A.1 p q = 1 := by
        unfold buryF
        rw [if_pos (Or.inr c2)]
      rw [tB_0 c2, hF]
      refine wt rfl ?_
      exact wr ⟨rfl, e, OFF_refl _ _ _⟩
  · have hF : buryF A.1 p q = 1 := by
      unfold buryF
      rw [if_pos (Or.inl c1)]
    rw [tB_0 c1, hF]
    refine wt rfl ?_
    exact wr ⟨rfl, e, OFF_refl _ _ _⟩
def xOpen (A : AB) : Int × Int × AB := if ¬ A.1.2.2.1.length < 2 then (1, 0, A) else (0, A.1.2.2.1.length, (A.1.1, A.1.2.1, A.1.2.2.1 ++ [A.1.2.2.2.1], A.1.2.2.2.1, A.1.2.2.2.2), push A.2.1 A.1, A.2.2)
theorem C_open {h : HP} {x : Nat} {A : AB} (e : CLS h x A) {M : Int} (H : GOK A.1 M) : WP (f_X7_open h x) (CLR7 x (xOpen A).2.2 [ISE] (xOpen A).1 (xOpen A).2.1 h) := by
  have g := CLS_g e
  have s := CLS_S e
  have hS := H.2
  unfold SML at hS
  unfold f_X7_open b_X7_open_0 xOpen
  refine wb g.1 ?_
  refine wb g.2.2.1 ?_
  refine wb (X3_canOpen_is s) ?_
  by_cases c1 : A.1.2.2.1.length < 2
  · rw [tB_1 c1, if_neg (show ¬ ¬ A.1.2.2.1.length < 2 by omega)]
    refine wf (by decide) ?_
    refine wb g.2.2.2.2.1 ?_
    refine wb g.2.2.1 ?_
    refine wpb (C_rem e hS.1) ?_
    rintro h1 ⟨q1, q2⟩
    refine wb (CLS_g q1).2.2.1 ?_
    refine wpb (X3_addEye_is (CLS_S q1) c1) ?_
    rintro h2 ⟨q3, q4⟩
    have e2 := CLS_st q1 (FR_c q4 (by omega)) (CLN_off q1.2.1 q4 (by omega)) q3
    refine wb (CLS_g e2).2.2.1 ?_
    refine wb (X3_eyes_is q3) ?_
    refine wr ⟨?_, e2, OFF_trans (OFF_wide q2 (by omega)) (OFF_wide q4 (by omega))⟩
    dsimp only
    rw [List.length_append, List.length_singleton, EXC_0 _ rfl, zl1, zI_sub]
    exact congrArg Sum.inl (congrArg zI (by omega))
  · rw [tB_0 c1, if_pos c1]
    refine wt rfl ?_
    exact wr ⟨rfl, e, OFF_refl _ _ _⟩
def xClose (A : AB) (i : Int) : Int × Int × AB := if ¬ (0 ≤ i ∧ i < A.1.2.2.1.length) then (1, 0, A) else (0, A.1.2.2.1.length - 1, (A.1.1, A.1.2.1, A.1.2.2.1.eraseIdx i.toNat, A.1.2.2.2.1, A.1.2.2.2.2), push A.2.1 A.1, A.2.2)
theorem C_close {h : HP} {x : Nat} {A : AB} (e : CLS h x A) {M : Int} (H : GOK A.1 M) {i : Int} (hi : -2147483648 ≤ i ∧ i < 2147483648) : WP (f_X7_close h x (zI i)) (CLR7 x (xClose A i).2.2 [IOB] (xClose A i).1 (xClose A i).2.1 h) := by
  have g := CLS_g e
  have s := CLS_S e
  have hS := H.2
  unfold SML at hS
  unfold f_X7_close b_X7_close_0 xClose
  refine wb g.1 ?_
  refine wb g.2.2.1 ?_
  refine wb (X3_isEye_is s hi) ?_
  by_cases c1 : 0 ≤ i ∧ i < A.1.2.2.1.length
  · rw [tB_1 c1, if_neg (show ¬ ¬ (0 ≤ i ∧ i < A.1.2.2.1.length) by omega)]
    refine wf (by decide) ?_
    refine wb g.2.2.2.2.1 ?_
    refine wb g.2.2.1 ?_
    refine wpb (C_rem e hS.1) ?_
    rintro h1 ⟨q1, q2⟩
    refine wb (CLS_g q1).2.2.1 ?_
    refine wpb (X3_dropEye_is (CLS_S q1) c1) ?_
    rintro h2 ⟨q3, q4⟩
    have e2 := CLS_st q1 (FR_c q4 (by omega)) (CLN_off q1.2.1 q4 (by omega)) q3
    refine wb (CLS_g e2).2.2.1 ?_
    refine wb (X3_eyes_is q3) ?_
    refine wr ⟨?_, e2, OFF_trans (OFF_wide q2 (by omega)) (OFF_wide q4 (by omega))⟩
    dsimp only
    rw [List.length_eraseIdx_of_lt (by omega), EXC_0 _ rfl]
    exact congrArg Sum.inl (congrArg zI (by omega))
  · rw [tB_0 c1, if_pos c1]
    refine wt rfl ?_
    exact wr ⟨rfl, e, OFF_refl _ _ _⟩
def xFlush (A : AB) : Int × Int × AB := if flF A.1 ≠ 0 then (flF A.1, 0, A) else (0, (flK A.1).length, flS A.1, push A.2.1 A.1, A.2.2)
theorem C_flush {h : HP} {x : Nat} {A : AB} (e : CLS h x A) {M : Int} (H : GOK A.1 M) : WP (f_X7_flush h x) (CLR7 x (xFlush A).2.2 [ISE] (xFlush A).1 (xFlush A).2.1 h) := by
  have g := CLS_g e
  have s := CLS_S e
  have hS := H.2
  unfold SML at hS
  have hE := H.1.2.2.2.2.2.2
  have hp := plc hE (i := -1) (by omega)
  have hlen := clP_len H.1 hS.1 hS.2.2 (nw := -1) (ol := -1) (by omega)
  have hr := flF_rng A.1
  unfold f_X7_flush b_X7_flush_0 xFlush
  refine wb g.1 ?_
  refine wb g.2.2.1 ?_
  refine wpb (X3_canFlush_is e.2.1 s H.1 ⟨hS.1, hS.2.1⟩ (by omega)) ?_
  rintro ⟨z, h1⟩ ⟨q1, q2, q3⟩
  dsimp only at q1 q2 q3 ⊢
  subst q1
  have e1 := CLS_cl e q3 q2
  by_cases c : flF A.1 = 0
  · rw [tB_1 c, if_neg (show ¬ (flF A.1 ≠ 0) by omega)]
    refine wf (by decide) ?_
    refine wb (CLS_g e1).2.2.2.2.1 ?_
    refine wb (CLS_g e1).2.2.1 ?_
    refine wpb (C_rem e1 hS.1) ?_
    rintro h2 ⟨r1, r2⟩
    have h0 := flF_0 c
    refine wb (CLS_g r1).2.2.1 ?_
    refine wpb (X3_flushMemory_is r1.2.1 (CLS_S r1) H.1 (by dsimp only; omega) (by omega) hlen (by dsimp only; omega)) ?_
    rintro ⟨y, h3⟩ ⟨t1, t2, t3, t4⟩
    dsimp only at t1 t2 t3 t4 ⊢
    subst t1
    refine wr ⟨rfl, CLS_st r1 t4 t3 t2, OFF_trans (OFF_wide q3 (by omega)) (OFF_trans (OFF_wide r2 (by omega)) (fun b hb => t4 b (by omega) (by omega)))⟩
  · have : flF A.1 = 1 := by omega
    rw [tB_0 c, if_pos c, this]
    refine wt rfl ?_
    exact wr ⟨rfl, e1, OFF_wide q3 (by omega)⟩
def xMerge (A : AB) (i : Int) : Int × Int × AB := if mgF A.1 i ≠ 0 then (mgF A.1 i, 0, A) else (0, (mgK A.1 i).length, mgS A.1 i, push A.2.1 A.1, A.2.2)
theorem C_merge {h : HP} {x : Nat} {A : AB} (e : CLS h x A) {M : Int} (H : GOK A.1 M) {i : Int} (hi : -2147483648 ≤ i ∧ i < 2147483648) : WP (f_X7_merge h x (zI i)) (CLR7 x (xMerge A i).2.2 [IOB, ISE] (xMerge A i).1 (xMerge A i).2.1 h) := by
  have g := CLS_g e
  have s := CLS_S e
  have hS := H.2
  unfold SML at hS
  have hE := H.1.2.2.2.2.2.2
  have hr := mgF_rng A.1 i
  unfold f_X7_merge b_X7_merge_0 xMerge
  refine wb g.1 ?_
  refine wb g.2.2.1 ?_
  refine wb (X3_isRun_is s hi) ?_
  by_cases c1 : 0 ≤ i ∧ i < A.1.2.1.length
  · rw [tB_1 c1]
    refine wf (by decide) ?_
    refine wb g.2.2.1 ?_
    refine wpb (X3_canMerge_is e.2.1 s H.1 ⟨hS.1, hS.2.1⟩ (by omega) hi) ?_
    rintro ⟨z, h1⟩ ⟨q1, q2, q3⟩
    dsimp only at q1 q2 q3 ⊢
    subst q1
    have e1 := CLS_cl e q3 q2
    by_cases c : mgF A.1 i = 0
    · rw [tB_1 c, if_neg (show ¬ (mgF A.1 i ≠ 0) by omega)]
      refine wf (by decide) ?_
      refine wb (CLS_g e1).2.2.2.2.1 ?_
      refine wb (CLS_g e1).2.2.1 ?_
      refine wpb (C_rem e1 hS.1) ?_
      rintro h2 ⟨r1, r2⟩
      obtain ⟨h0, h48⟩ := mgF_0 c
      obtain ⟨p1, p2, p3, p4, p5, p6, p7⟩ := mg_pre hE h0
      have hlen := clP_len H.1 hS.1 hS.2.2 (nw := i) (ol := i + 1) (by omega)
      refine wb (CLS_g r1).2.2.1 ?_
      refine wpb (X3_mergeRuns_is r1.2.1 (CLS_S r1) H.1 (by dsimp only; omega) (by omega) h0 hlen (by dsimp only; omega)) ?_
      rintro ⟨y, h3⟩ ⟨t1, t2, t3, t4⟩
      dsimp only at t1 t2 t3 t4 ⊢
      subst t1
      refine wr ⟨rfl, CLS_st r1 t4 t3 t2, OFF_trans (OFF_wide q3 (by omega)) (OFF_trans (OFF_wide r2 (by omega)) (fun b hb => t4 b (by omega) (by omega)))⟩
    · have hF : mgF A.1 i = 2 := by
        have : mgF A.1 i ≠ 1 := by
          unfold mgF
          rw [if_neg (by omega)]
          split
          · omega
          · split <;> omega
        omega
      rw [tB_0 c, if_pos c, hF]
      refine wt rfl ?_
      exact wr ⟨rfl, e1, OFF_wide q3 (by omega)⟩
  · have hF : mgF A.1 i = 1 := by
      unfold mgF
      rw [if_pos c1]
    rw [tB_0 c1, hF]
    refine wt rfl ?_
    exact wr ⟨rfl, e, OFF_refl _ _ _⟩
def xUndo (A : AB) : Int × Int × AB := match A.2.1.getLast? with
  | none => (1, 0, A)
  | some T => (0, A.2.1.length - 1, T, A.2.1.dropLast, A.2.2)
theorem xUndo_0 {A : AB} (h : A.2.1.length = 0) : xUndo A = (1, 0, A) := by
  unfold xUndo
  rw [List.length_eq_zero_iff.mp h]
  rfl
theorem xUndo_1 {A : AB} (h : 0 < A.2.1.length) : xUndo A = (0, (A.2.1.length : Int) - 1, A.2.1[A.2.1.length - 1], A.2.1.dropLast, A.2.2) := by
  unfold xUndo
  rw [List.getLast?_eq_getElem?, List.getElem?_eq_getElem (by omega)]
theorem C_undo {h : HP} {x : Nat} {A : AB} (e : CLS h x A) {M : Int} (H : AOK A M) : WP (f_X7_undo h x) (CLR7 x (xUndo A).2.2 [ISE] (xUndo A).1 (xUndo A).2.1 h) := by
  have g := CLS_g e
  unfold f_X7_undo b_X7_undo_0
  refine wb g.1 ?_
  refine wb g.2.2.2.2.1 ?_
  refine wb (X1_size_is e.2.2.2.2.2.1) ?_
  rw [zl0]
  have hl14 : A.2.1.length ≤ 14 := by
    obtain ⟨o, G, e0, e1, e2, e3, e4, r⟩ := e.2.2.2.2.2.1
    exact e4
  by_cases c : A.2.1.length = 0
  · rw [xUndo_0 c]
    refine wt ((zI_inj (by omega)).mpr (by omega)) ?_
    exact wr ⟨rfl, e, OFF_refl _ _ _⟩
  · rw [xUndo_1 (by omega)]
    refine wf (fun d => c (by have := (zI_inj (by omega)).mp d; omega)) ?_
    refine wb g.2.2.2.2.1 ?_
    refine wb g.2.2.1 ?_
    have hT := (H.2.1 _ (List.getElem_mem (l := A.2.1) (n := A.2.1.length - 1) (by omega))).2
    unfold SML at hT
    refine wpb (X1_takeBack_is e.2.2.2.2.2.1 (by omega) (CLS_S e) (by omega) (by omega)) ?_
    rintro h1 ⟨q1, q2, q3⟩
    have e1 : CLS h1 x (A.2.1[A.2.1.length - 1], A.2.1.dropLast, A.2.2) := by
      obtain ⟨e0, e1, e2, e3, ⟨T, e4⟩, e5, e6, f, e7⟩ := e
      exact ⟨(q3 _ (by omega) (by omega)).trans e0, CLN_mv e1 fun b h1 h2 => q3 b (by omega) (by omega), TXT_mv e2 fun b h1 h2 => q3 b (by omega) (by omega), q2, ⟨T, STO_mv e4 fun b h1 h2 => q3 b (by omega) (by omega)⟩, q1, SLC_mv e6 fun b h1 h2 => q3 b (by omega) (by omega), f, VIEW_mv e7 fun b h1 h2 => q3 b (by omega) (by omega)⟩
    refine wb (CLS_g e1).2.2.2.2.1 ?_
    refine wb (X1_size_is q1) ?_
    refine wr ⟨?_, e1, fun b hb => q3 b (by omega) (by omega)⟩
    dsimp only
    rw [List.length_dropLast, EXC_0 _ rfl]
    exact congrArg Sum.inl (congrArg zI (by omega))
def xSaves (A : AB) (i : Int) : Int × Int × AB := if mgF A.1 i ≠ 0 then (mgF A.1 i, 0, A) else (0, mgV A.1 i, A)
theorem mgF_12 {S : SG} {i : Int} (c1 : 0 ≤ i ∧ i < S.2.1.length) (c : mgF S i ≠ 0) : mgF S i = 2 := by
  unfold mgF at c ⊢
  rw [if_neg (by omega)] at c ⊢
  split at c
  · rw [if_pos (by assumption)]
  · rw [if_neg (by assumption)]
    split at c
    · omega
    · rw [if_neg (by assumption)]
theorem mgF_no {S : SG} {i : Int} (c1 : ¬ (0 ≤ i ∧ i < S.2.1.length)) : mgF S i = 1 := by
  unfold mgF
  rw [if_pos c1]
theorem mgV_rng {S : SG} {M : Int} (H : GOK S M) {i : Int} (hi : 0 ≤ i ∧ i + 1 < S.2.1.length) : -1000 < mgV S i ∧ mgV S i < 1000 := by
  have hS := H.2
  unfold SML at hS
  have hE := H.1.2.2.2.2.2.2
  obtain ⟨p1, p2, p3, p4, p5, p6, p7⟩ := mg_pre hE hi
  have hlen := clP_len H.1 hS.1 hS.2.2 (nw := i) (ol := i + 1) (by omega)
  unfold mgV mgK
  omega
theorem C_saves {h : HP} {x : Nat} {A : AB} (e : CLS h x A) {M : Int} (H : GOK A.1 M) {i : Int} (hi : -2147483648 ≤ i ∧ i < 2147483648) : WP (f_X7_saves h x (zI i)) (CLR7 x (xSaves A i).2.2 [IOB, ISE] (xSaves A i).1 (xSaves A i).2.1 h) := by
  have g := CLS_g e
  have s := CLS_S e
  have hS := H.2
  unfold SML at hS
  unfold f_X7_saves b_X7_saves_0 xSaves
  refine wb g.1 ?_
  refine wb g.2.2.1 ?_
  refine wb (X3_isRun_is s hi) ?_
  by_cases c1 : 0 ≤ i ∧ i < A.1.2.1.length
  · rw [tB_1 c1]
    refine wf (by decide) ?_
    refine wb g.2.2.1 ?_
    refine wpb (X3_canMerge_is e.2.1 s H.1 ⟨hS.1, hS.2.1⟩ (by omega) hi) ?_
    rintro ⟨z, h1⟩ ⟨q1, q2, q3⟩
    dsimp only at q1 q2 q3 ⊢
    subst q1
    have e1 := CLS_cl e q3 q2
    by_cases c : mgF A.1 i = 0
    · rw [tB_1 c, if_neg (show ¬ (mgF A.1 i ≠ 0) by omega)]
      refine wf (by decide) ?_
      refine wb (CLS_g e1).2.2.1 ?_
      refine wpb (X3_savedBy_is e1.2.1 (CLS_S e1) H.1 ⟨hS.1, hS.2.1⟩ (by omega) (mgF_0 c).1) ?_
      rintro ⟨y, h2⟩ ⟨t1, t2, t3⟩
      dsimp only at t1 t2 t3 ⊢
      subst t1
      exact wr ⟨rfl, CLS_cl e1 t3 t2, OFF_trans (OFF_wide q3 (by omega)) (OFF_wide t3 (by omega))⟩
    · rw [tB_0 c, if_pos c, mgF_12 c1 c]
      refine wt rfl ?_
      exact wr ⟨rfl, e1, OFF_wide q3 (by omega)⟩
  · rw [tB_0 c1, mgF_no c1]
    refine wt rfl ?_
    exact wr ⟨rfl, e, OFF_refl _ _ _⟩
def bst (S : SG) : Nat → Int → Int → Int → Int
  | 0, _, fd, _ => fd
  | r + 1, j, fd, mo => if mgF S j = 0 ∧ (fd = -1 ∨ mo < mgV S j) then bst S r (j + 1) j (mgV S j) else bst S r (j + 1) fd mo
theorem C_bstL {x : Nat} {A : AB} {M : Int} (H : GOK A.1 M) {h0 : HP} : ∀ (r n : Nat) (h : HP) (j fd mo : Int), r < n → 0 ≤ j → j + r = A.1.2.1.length → (-1 ≤ fd ∧ fd < 6) → (-1000 < mo ∧ mo < 1000) → CLS h x A → OFF x 311 h0 h → WP (b_X7_best_6 x n h (zI fd) (zI mo) (zI j)) (fun r' => r'.1 = zI (bst A.1 r j fd mo) ∧ CLS r'.2 x A ∧ OFF x 311 h0 r'.2) := by
  have hS := H.2
  unfold SML at hS
  intro r
  induction r with
  | zero =>
    intro n h j fd mo hn hj0 hj hf hm e o
    obtain ⟨n, rfl⟩ : ∃ k, n = k + 1 := ⟨n - 1, by omega⟩
    unfold b_X7_best_6 c_X7_best_6
    refine wb (CLS_g e).2.2.1 ?_
    refine wb (X3_runs_is (CLS_S e)) ?_
    refine wt ((zI_le (by omega)).mpr (by omega)) ?_
    exact wr ⟨rfl, e, o⟩
  | succ r ih =>
    intro n h j fd mo hn hj0 hj hf hm e o
    obtain ⟨n, rfl⟩ : ∃ k, n = k + 1 := ⟨n - 1, by omega⟩
    unfold b_X7_best_6 c_X7_best_6
    simp only [b_X7_best_45, show (-1 : Int32) = zI (-1) by decide, zl1, zI_add]
    refine wb (CLS_g e).2.2.1 ?_
    refine wb (X3_runs_is (CLS_S e)) ?_
    refine wf (fun d => absurd ((zI_le (by omega)).mp d) (by omega)) ?_
    refine wb (CLS_g e).2.2.1 ?_
    refine wpb (X3_canMerge_is e.2.1 (CLS_S e) H.1 ⟨hS.1, hS.2.1⟩ (by omega) (i := j) (by omega)) ?_
    rintro ⟨z, h1⟩ ⟨q1, q2, q3⟩
    dsimp only at q1 q2 q3 ⊢
    subst q1
    have e1 := CLS_cl e q3 q2
    have o1 := OFF_trans o (OFF_wide q3 (show x ≤ x + 1 ∧ x + 1 + 158 ≤ x + 311 by omega))
    by_cases c : mgF A.1 j = 0
    · rw [tB_1 c]
      refine wf (by decide) ?_
      have hv := mgV_rng H (mgF_0 c).1
      have sv : ∀ h2, CLS h2 x A → OFF x 311 h0 h2 → WP ((gR 7 1 h2 x).bind fun x1 => (f_X3_savedBy h2 x1 (zI j)).bind fun y2 => b_X7_best_6 x n y2.2 (zI j) y2.1 (zI (j + 1))) (fun r' => r'.1 = zI (bst A.1 r (j + 1) j (mgV A.1 j)) ∧ CLS r'.2 x A ∧ OFF x 311 h0 r'.2) := by
        intro h2 e2 o2
        refine wb (CLS_g e2).2.2.1 ?_
        refine wpb (X3_savedBy_is e2.2.1 (CLS_S e2) H.1 ⟨hS.1, hS.2.1⟩ (by omega) (mgF_0 c).1) ?_
        rintro ⟨y, h3⟩ ⟨t1, t2, t3⟩
        dsimp only at t1 t2 t3 ⊢
        subst t1
        exact ih n h3 (j + 1) j (mgV A.1 j) (by omega) (by omega) (by omega) (by omega) hv (CLS_cl e2 t3 t2) (OFF_trans o2 (OFF_wide t3 (by omega)))
      by_cases c2 : fd = -1
      · refine wt ((zI_inj (by omega)).mpr c2) ?_
        rw [show bst A.1 (r + 1) j fd mo = bst A.1 r (j + 1) j (mgV A.1 j) from if_pos ⟨c, Or.inl c2⟩]
        exact sv h1 e1 o1
      · refine wf (fun d => c2 ((zI_inj (by omega)).mp d)) ?_
        refine wb (CLS_g e1).2.2.1 ?_
        refine wpb (X3_savedBy_is e1.2.1 (CLS_S e1) H.1 ⟨hS.1, hS.2.1⟩ (by omega) (mgF_0 c).1) ?_
        rintro ⟨y, h2⟩ ⟨t1, t2, t3⟩
        dsimp only at t1 t2 t3 ⊢
        subst t1
        have e2 := CLS_cl e1 t3 t2
        have o2 := OFF_trans o1 (OFF_wide t3 (show x ≤ x + 1 ∧ x + 1 + 158 ≤ x + 311 by omega))
        by_cases c3 : mgV A.1 j ≤ mo
        · refine wt ((zI_le (by omega)).mpr c3) ?_
          rw [show bst A.1 (r + 1) j fd mo = bst A.1 r (j + 1) fd mo from if_neg (by omega)]
          exact ih n h2 (j + 1) fd mo (by omega) (by omega) (by omega) hf hm e2 o2
        · refine wf (fun d => c3 ((zI_le (by omega)).mp d)) ?_
          rw [show bst A.1 (r + 1) j fd mo = bst A.1 r (j + 1) j (mgV A.1 j) from if_pos ⟨c, Or.inr (by omega)⟩]
          exact sv h2 e2 o2
    · rw [tB_0 c]
      refine wt rfl ?_
      rw [show bst A.1 (r + 1) j fd mo = bst A.1 r (j + 1) fd mo from if_neg (fun d => c d.1)]
      exact ih n h1 (j + 1) fd mo (by omega) (by omega) (by omega) hf hm e1 o1
theorem C_best {h : HP} {x : Nat} {A : AB} (e : CLS h x A) {M : Int} (H : GOK A.1 M) : WP (f_X7_best h x) (fun r' => r'.1 = zI (bst A.1 A.1.2.1.length 0 (-1) 0) ∧ CLS r'.2 x A ∧ OFF x 311 h r'.2) := by
  have hS := H.2
  unfold SML at hS
  unfold f_X7_best b_X7_best_0
  simp only [show (-1 : Int32) = zI (-1) by decide, zl0]
  refine wb (CLS_g e).1 ?_
  exact C_bstL H A.1.2.1.length FU h 0 (-1) 0 (by unfold FU; omega) (by omega) (by omega) (by omega) (by omega) e (OFF_refl _ _ _)
abbrev emp : SG := ([], [], [], 0, 0)
theorem emp_ok : GOK emp 0 := by
  refine ⟨⟨fun w hw => absurd hw List.not_mem_nil, ?_, fun w hw => absurd hw List.not_mem_nil, fun w hw => absurd hw List.not_mem_nil, fun w hw => absurd hw List.not_mem_nil, ⟨Int.le_refl _, Int.le_refl _, by omega⟩, ?_⟩, by unfold SML; decide⟩
  · rw [ORD_pw]
    exact List.Pairwise.nil
  · refine ⟨fun i hi => absurd hi (Nat.not_lt_zero i), ?_⟩
    intro i hi
    exact absurd hi (by simp)
def r1 (r : Nat) : Nat := if 5 ≤ r % 8 then (if r % 8 = 6 then r / 8 % 5 else r / 8 % 2) else r / 8 % 100
def r2 (r : Nat) : Nat := if 4 ≤ r % 8 then (if r / 8 % 100 + r / 8 / 128 % 20 ≤ 99 then r / 8 % 100 + r / 8 / 128 % 20 else 99) else 1 + r / 8 / 128 % 999
def st1 (w : WR) (k : Int) : Option Bool := if wcB w k = true then some (enB w) else none
def st : List WR → Int → Option Bool
  | [], _ => none
  | w :: l, k => (st l k).or (st1 w k)
def stI (ws : List WR) (j : Nat) : Nat → Int → Option Bool
  | 0, _ => none
  | n + 1, k => (stI ws (j + 1) n k).or (st1 (wat ws j) k)
theorem st_append (a b : List WR) (k : Int) : st (a ++ b) k = (st b k).or (st a k) := by
  induction a with
  | nil =>
    show st b k = (st b k).or none
    rw [Option.or_none]
  | cons w a ih =>
    show (st (a ++ b) k).or (st1 w k) = (st b k).or ((st a k).or (st1 w k))
    rw [ih, Option.or_assoc]
theorem st_sl {ws : List WR} {k : Int} : ∀ (n j : Nat), j + n ≤ ws.length → st ((ws.drop j).take n) k = stI ws j n k := by
  intro n
  induction n with
  | zero =>
    intro j hj
    rw [List.take_zero]
    rfl
  | succ n ih =>
    intro j hj
    rw [List.drop_eq_getElem_cons (by omega), List.take_succ_cons]
    show (st ((ws.drop (j + 1)).take n) k).or (st1 ws[j] k) = (stI ws (j + 1) n k).or (st1 (wat ws j) k)
    rw [ih (j + 1) (by omega), wat_get (by omega)]
theorem st_rowsF {w : WR} {K : Int → Bool} {k : Int} : ∀ (n : Nat) (f c : Int), (f = -1 ∨ (0 ≤ f ∧ f < c)) → 0 ≤ c → st (rowsF w K f c n) k = if ((f ≠ -1 ∧ f ≤ k ∧ k < c) ∨ (c ≤ k ∧ k < c + n ∧ K k = true)) then some (enB w) else none := by
  have one : ∀ (a b : Int), st1 (w.1, a, b, w.2.2.2) k = if a ≤ k ∧ k ≤ b then some (enB w) else none := fun a b => by
    unfold st1
    by_cases c : a ≤ k ∧ k ≤ b
    · rw [if_pos (wcB_iff.mpr c), if_pos c]
      rfl
    · rw [if_neg (fun d => c (wcB_iff.mp d)), if_neg c]
  have oi : ∀ {P Q : Prop} [Decidable P] [Decidable Q], (if P then some (enB w) else none).or (if Q then some (enB w) else none) = if P ∨ Q then some (enB w) else none := by
    intro P Q _ _
    by_cases p : P
    · rw [if_pos p, if_pos (Or.inl p), Option.some_or]
    · rw [if_neg p, Option.none_or]
      by_cases q : Q
      · rw [if_pos q, if_pos (Or.inr q)]
      · rw [if_neg q, if_neg (fun d => d.elim p q)]
  have cg : ∀ {P Q : Prop} [Decidable P] [Decidable Q], (P ↔ Q) → (if P then some (enB w) else none) = if Q then some (enB w) else none := by
    intro P Q _ _ h
    by_cases p : P
    · rw [if_pos p, if_pos (h.mp p)]
    · rw [if_neg p, if_neg (fun d => p (h.mpr d))]
  intro n
  induction n with
  | zero =>
    intro f c hf hc
    rw [rowsF_0]
    by_cases c0 : f = -1
    · rw [if_pos c0, if_neg (by omega)]
      rfl
    · rw [if_neg c0]
      show (none : Option Bool).or (st1 _ k) = _
      rw [Option.none_or, one]
      exact cg (by omega)
  | succ n ih =>
    intro f c hf hc
    rw [rowsF_succ]
    have hk : ∀ K1 : Bool, K c = K1 → ((c ≤ k ∧ k < c + (n + 1 : Nat) ∧ K k = true) ↔ ((k = c ∧ K1 = true) ∨ (c + 1 ≤ k ∧ k < c + 1 + n ∧ K k = true))) := by
      intro K1 h1
      constructor
      · rintro ⟨a1, a2, a3⟩
        by_cases d : k = c
        · subst d
          exact Or.inl ⟨rfl, h1.symm.trans a3⟩
        · exact Or.inr ⟨by omega, by omega, a3⟩
      · rintro (⟨a1, a2⟩ | ⟨a1, a2, a3⟩)
        · subst a1
          exact ⟨by omega, by omega, h1.trans a2⟩
        · exact ⟨by omega, by omega, a3⟩
    by_cases c1 : K c = true
    · rw [if_pos c1]
      have h1 := hk true c1
      by_cases c0 : f = -1
      · rw [if_pos c0, ih c (c + 1) (by omega) (by omega)]
        refine cg ?_
        rw [h1]
        constructor
        · rintro (a | a)
          · exact Or.inr (Or.inl ⟨by omega, rfl⟩)
          · exact Or.inr (Or.inr a)
        · rintro (a | a | a)
          · omega
          · exact Or.inl (by omega)
          · exact Or.inr a
      · rw [if_neg c0, ih f (c + 1) (by omega) (by omega)]
        refine cg ?_
        rw [h1]
        constructor
        · rintro (a | a)
          · by_cases d : k = c
            · exact Or.inr (Or.inl ⟨d, rfl⟩)
            · exact Or.inl (by omega)
          · exact Or.inr (Or.inr a)
        · rintro (a | a | a)
          · exact Or.inl (by omega)
          · exact Or.inl (by omega)
          · exact Or.inr a
    · rw [if_neg c1]
      have h1 := hk false (by cases h : K c <;> simp_all)
      by_cases c0 : f = -1
      · rw [if_pos c0, ih (-1) (c + 1) (by omega) (by omega)]
        refine cg ?_
        rw [h1]
        constructor
        · rintro (a | a)
          · omega
          · exact Or.inr (Or.inr a)
        · rintro (a | a | a)
          · omega
          · exact absurd a.2 (by decide)
          · exact Or.inr a
      · rw [if_neg c0]
        show (st (rowsF w K (-1) (c + 1) n) k).or (st1 _ k) = _
        rw [ih (-1) (c + 1) (by omega) (by omega), one, oi]
        refine cg ?_
        rw [h1]
        constructor
        · rintro ((a | a) | a)
          · omega
          · exact Or.inr (Or.inr a)
          · exact Or.inl (by omega)
        · rintro (a | a | a)
          · exact Or.inr (by omega)
          · exact absurd a.2 (by decide)
          · exact Or.inl (Or.inr a)
theorem st_rws {w : WR} (hw : WOK w) (K : Int → Bool) (k : Int) : st (rws w K) k = if wcB w k = true ∧ K k = true then some (enB w) else none := by
  unfold WOK at hw
  unfold rws
  rw [st_rowsF _ _ _ (Or.inl rfl) (by omega)]
  have e : (((-1 : Int) ≠ -1 ∧ -1 ≤ k ∧ k < w.2.1) ∨ (w.2.1 ≤ k ∧ k < w.2.1 + ((w.2.2.1 + 1 - w.2.1).toNat : Nat) ∧ K k = true)) ↔ (wcB w k = true ∧ K k = true) := by
    rw [wcB_iff]
    constructor
    · rintro (a | a)
      · exact absurd rfl a.1
      · exact ⟨by omega, a.2.2⟩
    · rintro ⟨a, b⟩
      exact Or.inr ⟨by omega, by omega, b⟩
  by_cases c : wcB w k = true ∧ K k = true
  · rw [if_pos c, if_pos (e.mpr c)]
  · rw [if_neg c, if_neg (fun d => c (e.mp d))]
theorem stI_none {ws : List WR} {k : Int} : ∀ {n j : Nat}, stI ws j n k = none → ∀ i, j ≤ i → i < j + n → wcB (wat ws i) k = false := by
  intro n
  induction n with
  | zero =>
    intro j h i h1 h2
    omega
  | succ n ih =>
    intro j h i h1 h2
    have h3 : (stI ws (j + 1) n k).or (st1 (wat ws j) k) = none := h
    rw [Option.or_eq_none_iff] at h3
    by_cases c : i = j
    · subst c
      have h4 := h3.2
      unfold st1 at h4
      by_cases d : wcB (wat ws i) k = true
      · rw [if_pos d] at h4
        exact absurd h4 (by simp)
      · cases hb : wcB (wat ws i) k <;> simp_all
    · exact ih h3.1 i (by omega) (by omega)
theorem stI_some {ws : List WR} {k : Int} {b : Bool} : ∀ {n j : Nat}, stI ws j n k = some b → ∃ i, j ≤ i ∧ i < j + n ∧ wcB (wat ws i) k = true ∧ enB (wat ws i) = b ∧ ∀ i', i < i' → i' < j + n → wcB (wat ws i') k = false := by
  intro n
  induction n with
  | zero =>
    intro j h
    exact absurd h (by simp [stI])
  | succ n ih =>
    intro j h
    have h3 : (stI ws (j + 1) n k).or (st1 (wat ws j) k) = some b := h
    cases hs : stI ws (j + 1) n k with
    | none =>
      rw [hs, Option.none_or] at h3
      unfold st1 at h3
      by_cases d : wcB (wat ws j) k = true
      · rw [if_pos d] at h3
        exact ⟨j, by omega, by omega, d, Option.some.inj h3, fun i' h1 h2 => stI_none hs i' (by omega) (by omega)⟩
      · rw [if_neg d] at h3
        exact absurd h3 (by simp)
    | some b' =>
      rw [hs, Option.some_or] at h3
      have h4 : b' = b := Option.some.inj h3
      subst h4
      obtain ⟨i, h1, h2, h5, h6, h7⟩ := ih hs
      exact ⟨i, by omega, by omega, h5, h6, fun i' a b => h7 i' a (by omega)⟩
