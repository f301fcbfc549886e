/-! next, count, grave -/
def xNext (A : AB) (k e : Int) : Int × Int × AB := if ¬ ((0 ≤ k ∧ k ≤ 99) ∧ -1 ≤ e ∧ e < A.1.2.2.1.length) then (1, 0, A) else (0, fst1 (fun q => vw A.1 q e ≠ 0) k.toNat (100 - k.toNat), A)
theorem C_next {h : HP} {x : Nat} {A : AB} (e : CLS h x A) {M : Int} (H : GOK A.1 M) {k i : Int} (hk : -2147483648 ≤ k ∧ k < 2147483648) (hi : -2147483648 ≤ i ∧ i < 2147483648) : WP (f_X7_next h x (zI k) (zI i)) (CLR7 x (xNext A k i).2.2 [IOB] (xNext A k i).1 (xNext A k i).2.1 h) := by
  have g := CLS_g e
  have s := CLS_S e
  unfold f_X7_next b_X7_next_0 b_X7_next_18 xNext
  refine wb g.1 ?_
  refine wb (X7_isKey_is h hk) ?_
  by_cases c1 : 0 ≤ k ∧ k ≤ 99
  · rw [tB_1 c1]
    refine wf (by decide) ?_
    refine wb g.2.2.1 ?_
    refine wb (X3_isView_is s hi) ?_
    by_cases c2 : -1 ≤ i ∧ i < A.1.2.2.1.length
    · rw [tB_1 c2, if_neg (show ¬ ¬ ((0 ≤ k ∧ k ≤ 99) ∧ -1 ≤ i ∧ i < A.1.2.2.1.length) by omega)]
      refine wf (by decide) ?_
      refine wb g.2.2.2.2.2.2.2 ?_
      refine wb g.2.2.1 ?_
      refine wb g.2.2.1 ?_
      refine wb (X3_limitOf_is s hi) ?_
      refine wpb (C_look e H i) ?_
      rintro h1 ⟨q1, q2, q3⟩
      refine wb (CLS_g q1).2.2.2.2.2.2.2 ?_
      refine wb (X5_firstSeen_is q2 (fun k _ => vw_rng H.1 k i) (s := k) (by omega)) ?_
      exact wr ⟨rfl, q1, OFF_wide q3 (by omega)⟩
    · rw [tB_0 c2, if_pos (show ¬ ((0 ≤ k ∧ k ≤ 99) ∧ -1 ≤ i ∧ i < A.1.2.2.1.length) by omega)]
      refine wt rfl ?_
      exact wr ⟨rfl, e, OFF_refl _ _ _⟩
  · rw [tB_0 c1, if_pos (show ¬ ((0 ≤ k ∧ k ≤ 99) ∧ -1 ≤ i ∧ i < A.1.2.2.1.length) by omega)]
    refine wt rfl ?_
    exact wr ⟨rfl, e, OFF_refl _ _ _⟩
theorem R_next {h : HP} {m : Nat} {v : Nat → Int32} {A : AB} (e : RFV h m v A) {M : Int} (H : GOK A.1 M) {k i : Int} (hk : -2147483648 ≤ k ∧ k < 2147483648) (hi : -2147483648 ≤ i ∧ i < 2147483648) : WP (f_X8_next h m (zI k) (zI i)) (RFR m (xNext A k i).2.2 (xNext A k i).1 (xNext A k i).2.1 h) := by
  have hM := H.1.2.2.2.2.2.1
  unfold f_X8_next b_X8_next_0 b_X8_next_21 xNext
  refine wb (kO_e e.1) ?_
  refine wb (X8_isKey_is h hk) ?_
  by_cases c1 : 0 ≤ k ∧ k ≤ 99
  · rw [tB_1 c1]
    refine wf (by decide) ?_
    refine wb (X8_isView_is e.2.1 hi) ?_
    by_cases c2 : -1 ≤ i ∧ i < A.1.2.2.1.length
    · rw [tB_1 c2, if_neg (show ¬ ¬ ((0 ≤ k ∧ k ≤ 99) ∧ -1 ≤ i ∧ i < A.1.2.2.1.length) by omega)]
      refine wf (by decide) ?_
      exact hold_read e (c := 0) (by omega) (fun _ h' w' e' => X8_nextSeen_is e'.2.1 H.1.1 H.1.2.1 (SOK_Y H.1) ⟨hM.1, hM.2.1⟩ hM.2.2 c2 (by omega)) rfl
    · rw [tB_0 c2, if_pos (show ¬ ((0 ≤ k ∧ k ≤ 99) ∧ -1 ≤ i ∧ i < A.1.2.2.1.length) by omega)]
      refine wt rfl ?_
      exact hold_fail e (c := 1) (by omega) rfl
  · rw [tB_0 c1, if_pos (show ¬ ((0 ≤ k ∧ k ≤ 99) ∧ -1 ≤ i ∧ i < A.1.2.2.1.length) by omega)]
    refine wt rfl ?_
    exact hold_fail e (c := 1) (by omega) rfl
def xCount (A : AB) (p q e : Int) : Int × Int × AB := if ¬ ((0 ≤ p ∧ p ≤ 99) ∧ (0 ≤ q ∧ q ≤ 99) ∧ -1 ≤ e ∧ e < A.1.2.2.1.length) then (1, 0, A) else if q < p then (2, 0, A) else (0, cnt (fun k => vw A.1 k e ≠ 0) p.toNat (q + 1 - p).toNat, A)
theorem C_count {h : HP} {x : Nat} {A : AB} (e : CLS h x A) {M : Int} (H : GOK A.1 M) {p q i : Int} (hp : -2147483648 ≤ p ∧ p < 2147483648) (hq : -2147483648 ≤ q ∧ q < 2147483648) (hi : -2147483648 ≤ i ∧ i < 2147483648) : WP (f_X7_count h x (zI p) (zI q) (zI i)) (CLR7 x (xCount A p q i).2.2 [IOB, IAE] (xCount A p q i).1 (xCount A p q i).2.1 h) := by
  have g := CLS_g e
  have s := CLS_S e
  unfold f_X7_count b_X7_count_0 b_X7_count_25 xCount
  refine wb g.1 ?_
  refine wb (X7_isKey_is h hp) ?_
  by_cases c1 : 0 ≤ p ∧ p ≤ 99
  · rw [tB_1 c1]
    refine wf (by decide) ?_
    refine wb (X7_isKey_is h hq) ?_
    by_cases c3 : 0 ≤ q ∧ q ≤ 99
    · rw [tB_1 c3]
      refine wf (by decide) ?_
      refine wb g.2.2.1 ?_
      refine wb (X3_isView_is s hi) ?_
      by_cases c2 : -1 ≤ i ∧ i < A.1.2.2.1.length
      · rw [tB_1 c2, if_neg (show ¬ ¬ ((0 ≤ p ∧ p ≤ 99) ∧ (0 ≤ q ∧ q ≤ 99) ∧ -1 ≤ i ∧ i < A.1.2.2.1.length) by omega)]
        refine wf (by decide) ?_
        by_cases c4 : p ≤ q
        · refine wt ((zI_le (by omega)).mpr c4) ?_
          rw [if_neg (show ¬ q < p by omega)]
          refine wb g.2.2.2.2.2.2.2 ?_
          refine wb g.2.2.1 ?_
          refine wb g.2.2.1 ?_
          refine wb (X3_limitOf_is s hi) ?_
          refine wpb (C_look e H i) ?_
          rintro h1 ⟨q1, q2, q3⟩
          refine wb (CLS_g q1).2.2.2.2.2.2.2 ?_
          refine wb (X5_seenIn_is q2 (fun k _ => vw_rng H.1 k i) (s := p) (t := q) (by omega) (by omega)) ?_
          exact wr ⟨rfl, q1, OFF_wide q3 (by omega)⟩
        · refine wf (fun d => c4 ((zI_le (by omega)).mp d)) ?_
          rw [if_pos (show q < p by omega)]
          exact wr ⟨rfl, e, OFF_refl _ _ _⟩
      · rw [tB_0 c2, if_pos (show ¬ ((0 ≤ p ∧ p ≤ 99) ∧ (0 ≤ q ∧ q ≤ 99) ∧ -1 ≤ i ∧ i < A.1.2.2.1.length) by omega)]
        refine wt rfl ?_
        exact wr ⟨rfl, e, OFF_refl _ _ _⟩
    · rw [tB_0 c3, if_pos (show ¬ ((0 ≤ p ∧ p ≤ 99) ∧ (0 ≤ q ∧ q ≤ 99) ∧ -1 ≤ i ∧ i < A.1.2.2.1.length) by omega)]
      refine wt rfl ?_
      exact wr ⟨rfl, e, OFF_refl _ _ _⟩
  · rw [tB_0 c1, if_pos (show ¬ ((0 ≤ p ∧ p ≤ 99) ∧ (0 ≤ q ∧ q ≤ 99) ∧ -1 ≤ i ∧ i < A.1.2.2.1.length) by omega)]
    refine wt rfl ?_
    exact wr ⟨rfl, e, OFF_refl _ _ _⟩
theorem R_count {h : HP} {m : Nat} {v : Nat → Int32} {A : AB} (e : RFV h m v A) {M : Int} (H : GOK A.1 M) {p q i : Int} (hp : -2147483648 ≤ p ∧ p < 2147483648) (hq : -2147483648 ≤ q ∧ q < 2147483648) (hi : -2147483648 ≤ i ∧ i < 2147483648) : WP (f_X8_count h m (zI p) (zI q) (zI i)) (RFR m (xCount A p q i).2.2 (xCount A p q i).1 (xCount A p q i).2.1 h) := by
  have hM := H.1.2.2.2.2.2.1
  unfold f_X8_count b_X8_count_0 b_X8_count_36 xCount
  refine wb (kO_e e.1) ?_
  refine wb (X8_isKey_is h hp) ?_
  by_cases c1 : 0 ≤ p ∧ p ≤ 99
  · rw [tB_1 c1]
    refine wf (by decide) ?_
    refine wb (X8_isKey_is h hq) ?_
    by_cases c3 : 0 ≤ q ∧ q ≤ 99
    · rw [tB_1 c3]
      refine wf (by decide) ?_
      refine wb (X8_isView_is e.2.1 hi) ?_
      by_cases c2 : -1 ≤ i ∧ i < A.1.2.2.1.length
      · rw [tB_1 c2, if_neg (show ¬ ¬ ((0 ≤ p ∧ p ≤ 99) ∧ (0 ≤ q ∧ q ≤ 99) ∧ -1 ≤ i ∧ i < A.1.2.2.1.length) by omega)]
        refine wf (by decide) ?_
        by_cases c4 : p ≤ q
        · refine wt ((zI_le (by omega)).mpr c4) ?_
          rw [if_neg (show ¬ q < p by omega)]
          exact hold_read e (c := 0) (by omega) (fun _ h' w' e' => X8_countSeen_is e'.2.1 H.1.1 H.1.2.1 (SOK_Y H.1) ⟨hM.1, hM.2.1⟩ hM.2.2 (by omega) (by omega) c2) rfl
        · refine wf (fun d => c4 ((zI_le (by omega)).mp d)) ?_
          rw [if_pos (show q < p by omega)]
          exact hold_fail e (c := 2) (by omega) rfl
      · rw [tB_0 c2, if_pos (show ¬ ((0 ≤ p ∧ p ≤ 99) ∧ (0 ≤ q ∧ q ≤ 99) ∧ -1 ≤ i ∧ i < A.1.2.2.1.length) by omega)]
        refine wt rfl ?_
        exact hold_fail e (c := 1) (by omega) rfl
    · rw [tB_0 c3, if_pos (show ¬ ((0 ≤ p ∧ p ≤ 99) ∧ (0 ≤ q ∧ q ≤ 99) ∧ -1 ≤ i ∧ i < A.1.2.2.1.length) by omega)]
      refine wt rfl ?_
      exact hold_fail e (c := 1) (by omega) rfl
  · rw [tB_0 c1, if_pos (show ¬ ((0 ≤ p ∧ p ≤ 99) ∧ (0 ≤ q ∧ q ≤ 99) ∧ -1 ≤ i ∧ i < A.1.2.2.1.length) by omega)]
    refine wt rfl ?_
    exact hold_fail e (c := 1) (by omega) rfl
def xGrave (A : AB) (k : Int) : Int × Int × AB := if ¬ (0 ≤ k ∧ k ≤ 99) then (1, 0, A) else (0, grD A.1.1 k A.1.1.length, A)
theorem grave_loop {h : HP} {x : Nat} {A : AB} (e : CLS h x A) {M : Int} (H : GOK A.1 M) {k : Int} (hk : 0 ≤ k ∧ k ≤ 99) : ∀ (j n : Nat), j < n → j ≤ A.1.1.length → b_X7_grave_27 h x (zI k) n (zI ((j : Int) - 1)) = some (.inl (zI (grD A.1.1 k j))) := by
  have g := CLS_g e
  have s := CLS_S e
  have hS := H.2
  unfold SML at hS
  intro j
  induction j with
  | zero =>
    intro n hn hj
    obtain ⟨n, rfl⟩ : ∃ k, n = k + 1 := ⟨n - 1, by omega⟩
    unfold b_X7_grave_27 c_X7_grave_27
    rw [zl0, if_pos ((zI_lt (by omega)).mpr (by omega))]
    rfl
  | succ j ih =>
    intro n hn hj
    obtain ⟨n, rfl⟩ : ∃ k, n = k + 1 := ⟨n - 1, by omega⟩
    have hi := ih n (by omega) (by omega)
    have hw := STO_w s
    unfold b_X7_grave_27 c_X7_grave_27
    rw [show ((j + 1 : Nat) : Int) - 1 = (j : Int) by omega, zl0, if_neg (fun d => absurd ((zI_lt (by omega)).mp d) (by omega)), g.2.2.1, Option.bind_some, hw.1, Option.bind_some, X6_isEntry_is hw.2.1 (by omega) (WSOK_v H.1.1), Option.bind_some, grD_succ, show zI (j : Int) + -1 = zI ((j : Int) - 1) by rw [zl1, zI_neg, zI_add]; rfl, hi]
    by_cases c1 : 0 < (wat A.1.1 j).2.2.2
    · rw [tB_1 c1, if_neg (by decide), if_neg (show ¬ (¬ 0 < (wat A.1.1 j).2.2.2 ∧ (wat A.1.1 j).2.1 ≤ k ∧ k ≤ (wat A.1.1 j).2.2.1) by omega)]
    · rw [tB_0 c1, if_pos (by rfl), Option.bind_some, hw.1, Option.bind_some, X6_concerns_is hw.2.1 (by omega) (by omega) (WSOK_k H.1.1), Option.bind_some]
      by_cases c2 : (wat A.1.1 j).2.1 ≤ k ∧ k ≤ (wat A.1.1 j).2.2.1
      · rw [tB_1 (show (0 ≤ (j : Int) ∧ (j : Int) < A.1.1.length) ∧ (wat A.1.1 j).2.1 ≤ k ∧ k ≤ (wat A.1.1 j).2.2.1 by omega), if_neg (by decide), Option.bind_some, hw.1, Option.bind_some, X6_numberAt_is hw.2.1 (by omega), Option.bind_some, if_pos ⟨c1, c2⟩]
      · rw [tB_0 (show ¬ ((0 ≤ (j : Int) ∧ (j : Int) < A.1.1.length) ∧ (wat A.1.1 j).2.1 ≤ k ∧ k ≤ (wat A.1.1 j).2.2.1) by omega), if_pos (by rfl), if_neg (show ¬ (¬ 0 < (wat A.1.1 j).2.2.2 ∧ (wat A.1.1 j).2.1 ≤ k ∧ k ≤ (wat A.1.1 j).2.2.1) by omega)]
theorem C_grave {h : HP} {x : Nat} {A : AB} (e : CLS h x A) {M : Int} (H : GOK A.1 M) {k : Int} (hk : -2147483648 ≤ k ∧ k < 2147483648) : f_X7_grave h x (zI k) = some (EXC [IOB] (xGrave A k).1 (xGrave A k).2.1) := by
  have g := CLS_g e
  have hS := H.2
  unfold SML at hS
  unfold f_X7_grave b_X7_grave_0 xGrave
  rw [g.1, Option.bind_some, X7_isKey_is h hk, Option.bind_some]
  by_cases c1 : 0 ≤ k ∧ k ≤ 99
  · rw [tB_1 c1, if_neg (by decide), if_neg (show ¬ ¬ (0 ≤ k ∧ k ≤ 99) by omega), g.2.2.1, Option.bind_some, X3_size_is (CLS_S e), Option.bind_some, zl1, zI_sub, grave_loop e H c1 _ FU (by unfold FU; omega) (Nat.le_refl _)]
    rfl
  · rw [tB_0 c1, if_pos rfl, if_pos c1]
    rfl
theorem R_grave {h : HP} {m : Nat} {v : Nat → Int32} {A : AB} (e : RFV h m v A) {M : Int} (H : GOK A.1 M) {k : Int} (hk : -2147483648 ≤ k ∧ k < 2147483648) : WP (f_X8_grave h m (zI k)) (RFR m (xGrave A k).2.2 (xGrave A k).1 (xGrave A k).2.1 h) := by
  unfold f_X8_grave b_X8_grave_0 b_X8_grave_13 xGrave
  refine wb (kO_e e.1) ?_
  refine wb (X8_isKey_is h hk) ?_
  by_cases c1 : 0 ≤ k ∧ k ≤ 99
  · rw [tB_1 c1, if_neg (show ¬ ¬ (0 ≤ k ∧ k ≤ 99) by omega)]
    refine wf (by decide) ?_
    exact hold_read e (c := 0) (by omega) (fun _ h' w' e' => X8_newestGrave_is e'.2.1 H.1.1 H.1.2.1 (by omega)) rfl
  · rw [tB_0 c1, if_pos c1]
    refine wt rfl ?_
    exact hold_fail e (c := 1) (by omega) rfl
