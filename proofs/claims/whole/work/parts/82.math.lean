/-! saves, best -/
def xSaves (A : AB) (i : Int) : Int × Int × AB := if mgF A.1 i ≠ 0 then (mgF A.1 i, 0, A) else (0, mgV A.1 i, A)
theorem mgF_12 {S : SG} {i : Int} (c1 : 0 ≤ i ∧ i < S.2.1.length) (c : mgF S i ≠ 0) : mgF S i = 2 := by
  unfold mgF at c ⊢
  rw [if_neg (by omega)] at c ⊢
  split at c
  · rw [if_pos (by assumption)]
  · rw [if_neg (by assumption)]
    split at c
    · omega
    · rw [if_neg (by assumption)]
theorem mgF_no {S : SG} {i : Int} (c1 : ¬ (0 ≤ i ∧ i < S.2.1.length)) : mgF S i = 1 := by
  unfold mgF
  rw [if_pos c1]
theorem mgV_rng {S : SG} {M : Int} (H : GOK S M) {i : Int} (hi : 0 ≤ i ∧ i + 1 < S.2.1.length) : -1000 < mgV S i ∧ mgV S i < 1000 := by
  have hS := H.2
  unfold SML at hS
  have hE := H.1.2.2.2.2.2.2
  obtain ⟨p1, p2, p3, p4, p5, p6, p7⟩ := mg_pre hE hi
  have hlen := clP_len H.1 hS.1 hS.2.2 (nw := i) (ol := i + 1) (by omega)
  unfold mgV mgK
  omega
theorem C_saves {h : HP} {x : Nat} {A : AB} (e : CLS h x A) {M : Int} (H : GOK A.1 M) {i : Int} (hi : -2147483648 ≤ i ∧ i < 2147483648) : WP (f_X7_saves h x (zI i)) (CLR7 x (xSaves A i).2.2 [IOB, ISE] (xSaves A i).1 (xSaves A i).2.1 h) := by
  have g := CLS_g e
  have s := CLS_S e
  have hS := H.2
  unfold SML at hS
  unfold f_X7_saves b_X7_saves_0 xSaves
  refine wb g.1 ?_
  refine wb g.2.2.1 ?_
  refine wb (X3_isRun_is s hi) ?_
  by_cases c1 : 0 ≤ i ∧ i < A.1.2.1.length
  · rw [tB_1 c1]
    refine wf (by decide) ?_
    refine wb g.2.2.1 ?_
    refine wpb (X3_canMerge_is e.2.1 s H.1 ⟨hS.1, hS.2.1⟩ (by omega) hi) ?_
    rintro ⟨z, h1⟩ ⟨q1, q2, q3⟩
    dsimp only at q1 q2 q3 ⊢
    subst q1
    have e1 := CLS_cl e q3 q2
    by_cases c : mgF A.1 i = 0
    · rw [tB_1 c, if_neg (show ¬ (mgF A.1 i ≠ 0) by omega)]
      refine wf (by decide) ?_
      refine wb (CLS_g e1).2.2.1 ?_
      refine wpb (X3_savedBy_is e1.2.1 (CLS_S e1) H.1 ⟨hS.1, hS.2.1⟩ (by omega) (mgF_0 c).1) ?_
      rintro ⟨y, h2⟩ ⟨t1, t2, t3⟩
      dsimp only at t1 t2 t3 ⊢
      subst t1
      exact wr ⟨rfl, CLS_cl e1 t3 t2, OFF_trans (OFF_wide q3 (by omega)) (OFF_wide t3 (by omega))⟩
    · rw [tB_0 c, if_pos c, mgF_12 c1 c]
      refine wt rfl ?_
      exact wr ⟨rfl, e1, OFF_wide q3 (by omega)⟩
  · rw [tB_0 c1, mgF_no c1]
    refine wt rfl ?_
    exact wr ⟨rfl, e, OFF_refl _ _ _⟩
/-- what the reference's savedBy reads -/
theorem X8_savedBy_is {h : HP} {m : Nat} {v : Nat → Int32} {S : SG} {D : Nat → Bool} {i : Int} (e : CLR h m v S (mgK S i) D) (hi : 0 ≤ i ∧ i + 1 < S.2.1.length) : f_X8_savedBy h m (zI i) = some (zI (mgV S i)) := by
  obtain ⟨e0, ⟨f, e1, e2⟩, e3, -⟩ := e
  obtain ⟨b, u0, u1, -⟩ := e2
  have h2 := plc2 S (i := i) (by omega)
  unfold f_X8_savedBy b_X8_savedBy_0
  simp only [zl1, zI_add]
  rw [kO_e e0, Option.bind_some, gR_e e0 rfl, Option.bind_some, aI_v e1 (z := 1 + i) (by omega) (x := zI (eOf S i - sOf S i)) (by
    have := u1 i.toNat (by omega)
    rw [show (1 + i).toNat = 1 + i.toNat by omega, this, show ((i.toNat : Nat) : Int) = i by omega]), Option.bind_some, Option.bind_some, aI_v e1 (z := 1 + i + 1) (by omega) (x := zI (eOf S (i + 1) - sOf S (i + 1))) (by
    have := u1 (i + 1).toNat (by omega)
    rw [show (1 + i + 1).toNat = 1 + (i + 1).toNat by omega, this, show (((i + 1).toNat : Nat) : Int) = i + 1 by omega]), Option.bind_some, gI_e e0 rfl, Option.bind_some, e3, zI_add, zI_sub]
  congr 2
  unfold mgV
  omega
theorem CLR_h0 {h h' : HP} {m : Nat} {v : Nat → Int32} {S : SG} {K : List WR} {D : Nat → Bool} (e : CLR h m v S K D) (k : OFF m 1 h h') {y : Int32} (k0 : MOB h' m (upd v 0 y)) : CLR h' m (upd v 0 y) S K D := CLR_mv e k0 (upd_ne (by omega)) (k _ (by omega)) fun b hb => k b (by omega)
theorem R_saves {h : HP} {m : Nat} {v0 : Nat → Int32} {A : AB} (e : RFV h m v0 A) {M : Int} (H : GOK A.1 M) {i : Int} (hi : -2147483648 ≤ i ∧ i < 2147483648) : WP (f_X8_saves h m (zI i)) (RFR m (xSaves A i).2.2 (xSaves A i).1 (xSaves A i).2.1 h) := by
  have hr := mgF_rng A.1 i
  unfold f_X8_saves b_X8_saves_0 xSaves
  refine wb (kO_e e.1) ?_
  refine wpb (X8_mergeFault_is e.2.1 e.1 e.2.2.1 H.1 hi) ?_
  rintro ⟨z, h1⟩ ⟨q1, ⟨y, q2, q3⟩, q4, q5, q6⟩
  dsimp only at q1 q2 q3 q4 q5 q6 ⊢
  subst q1
  have e1 : RFV h1 m (upd v0 10 y) A := RFV_4 e (OF4_c q6) q2 (upd_ne (by omega)) (upd_ne (by omega)) q4 q5
  have o1 : OFF m 9 h h1 := OF4_f (OF4_c q6)
  by_cases c : mgF A.1 i = 0
  · obtain ⟨D, q7⟩ := q3 c
    rw [c, if_neg (by omega)]
    refine wpb (X8_holds_is e1 (c := 0) (by omega)) ?_
    rintro ⟨z, h2⟩ ⟨r1, r2, r3⟩
    dsimp only at r1 r2 r3 ⊢
    subst r1
    rw [tB_1 rfl]
    refine wf (by decide) ?_
    refine wb (X8_savedBy_is (CLR_h0 q7 r3 r2.1) (mgF_0 c).1) ?_
    exact wr ⟨⟨_, r2, upd_eq rfl⟩, fun _ => rfl, OFF_trans o1 (OFF_wide r3 (by omega))⟩
  · rw [if_pos c]
    exact act_no e1 o1 (by omega) rfl
/-- the best merging -/
def bst (S : SG) : Nat → Int → Int → Int → Int
  | 0, _, fd, _ => fd
  | r + 1, j, fd, mo => if mgF S j = 0 ∧ (fd = -1 ∨ mo < mgV S j) then bst S r (j + 1) j (mgV S j) else bst S r (j + 1) fd mo
theorem mgF_last {S : SG} {j : Int} (h : j + 1 = S.2.1.length) : mgF S j ≠ 0 := fun c => by
  have := (mgF_0 c).1
  omega
theorem bst_rng {S : SG} {r : Nat} : ∀ {j fd mo : Int}, 0 ≤ j → -1 ≤ fd ∧ fd < j + r → -1 ≤ bst S r j fd mo ∧ bst S r j fd mo < j + r := by
  induction r with
  | zero =>
    intro j fd mo h0 h1
    exact h1
  | succ r ih =>
    intro j fd mo h0 h1
    unfold bst
    split
    · have := ih (j := j + 1) (fd := j) (mo := mgV S j) (by omega) (by omega)
      omega
    · have := ih (j := j + 1) (fd := fd) (mo := mo) (by omega) (by omega)
      omega
theorem C_bstL {x : Nat} {A : AB} {M : Int} (H : GOK A.1 M) {h0 : HP} : ∀ (r n : Nat) (h : HP) (j fd mo : Int), r < n → 0 ≤ j → j + r = A.1.2.1.length → (-1 ≤ fd ∧ fd < 6) → (-1000 < mo ∧ mo < 1000) → CLS h x A → OFF x 311 h0 h → WP (b_X7_best_6 x n h (zI fd) (zI mo) (zI j)) (fun r' => r'.1 = zI (bst A.1 r j fd mo) ∧ CLS r'.2 x A ∧ OFF x 311 h0 r'.2) := by
  have hS := H.2
  unfold SML at hS
  intro r
  induction r with
  | zero =>
    intro n h j fd mo hn hj0 hj hf hm e o
    obtain ⟨n, rfl⟩ : ∃ k, n = k + 1 := ⟨n - 1, by omega⟩
    unfold b_X7_best_6 c_X7_best_6
    refine wb (CLS_g e).2.2.1 ?_
    refine wb (X3_runs_is (CLS_S e)) ?_
    refine wt ((zI_le (by omega)).mpr (by omega)) ?_
    exact wr ⟨rfl, e, o⟩
  | succ r ih =>
    intro n h j fd mo hn hj0 hj hf hm e o
    obtain ⟨n, rfl⟩ : ∃ k, n = k + 1 := ⟨n - 1, by omega⟩
    unfold b_X7_best_6 c_X7_best_6
    simp only [b_X7_best_45, show (-1 : Int32) = zI (-1) by decide, zl1, zI_add]
    refine wb (CLS_g e).2.2.1 ?_
    refine wb (X3_runs_is (CLS_S e)) ?_
    refine wf (fun d => absurd ((zI_le (by omega)).mp d) (by omega)) ?_
    refine wb (CLS_g e).2.2.1 ?_
    refine wpb (X3_canMerge_is e.2.1 (CLS_S e) H.1 ⟨hS.1, hS.2.1⟩ (by omega) (i := j) (by omega)) ?_
    rintro ⟨z, h1⟩ ⟨q1, q2, q3⟩
    dsimp only at q1 q2 q3 ⊢
    subst q1
    have e1 := CLS_cl e q3 q2
    have o1 := OFF_trans o (OFF_wide q3 (show x ≤ x + 1 ∧ x + 1 + 158 ≤ x + 311 by omega))
    by_cases c : mgF A.1 j = 0
    · rw [tB_1 c]
      refine wf (by decide) ?_
      have hv := mgV_rng H (mgF_0 c).1
      have sv : ∀ h2, CLS h2 x A → OFF x 311 h0 h2 → WP ((gR 7 1 h2 x).bind fun x1 => (f_X3_savedBy h2 x1 (zI j)).bind fun y2 => b_X7_best_6 x n y2.2 (zI j) y2.1 (zI (j + 1))) (fun r' => r'.1 = zI (bst A.1 r (j + 1) j (mgV A.1 j)) ∧ CLS r'.2 x A ∧ OFF x 311 h0 r'.2) := by
        intro h2 e2 o2
        refine wb (CLS_g e2).2.2.1 ?_
        refine wpb (X3_savedBy_is e2.2.1 (CLS_S e2) H.1 ⟨hS.1, hS.2.1⟩ (by omega) (mgF_0 c).1) ?_
        rintro ⟨y, h3⟩ ⟨t1, t2, t3⟩
        dsimp only at t1 t2 t3 ⊢
        subst t1
        exact ih n h3 (j + 1) j (mgV A.1 j) (by omega) (by omega) (by omega) (by omega) hv (CLS_cl e2 t3 t2) (OFF_trans o2 (OFF_wide t3 (by omega)))
      by_cases c2 : fd = -1
      · refine wt ((zI_inj (by omega)).mpr c2) ?_
        rw [show bst A.1 (r + 1) j fd mo = bst A.1 r (j + 1) j (mgV A.1 j) from if_pos ⟨c, Or.inl c2⟩]
        exact sv h1 e1 o1
      · refine wf (fun d => c2 ((zI_inj (by omega)).mp d)) ?_
        refine wb (CLS_g e1).2.2.1 ?_
        refine wpb (X3_savedBy_is e1.2.1 (CLS_S e1) H.1 ⟨hS.1, hS.2.1⟩ (by omega) (mgF_0 c).1) ?_
        rintro ⟨y, h2⟩ ⟨t1, t2, t3⟩
        dsimp only at t1 t2 t3 ⊢
        subst t1
        have e2 := CLS_cl e1 t3 t2
        have o2 := OFF_trans o1 (OFF_wide t3 (show x ≤ x + 1 ∧ x + 1 + 158 ≤ x + 311 by omega))
        by_cases c3 : mgV A.1 j ≤ mo
        · refine wt ((zI_le (by omega)).mpr c3) ?_
          rw [show bst A.1 (r + 1) j fd mo = bst A.1 r (j + 1) fd mo from if_neg (by omega)]
          exact ih n h2 (j + 1) fd mo (by omega) (by omega) (by omega) hf hm e2 o2
        · refine wf (fun d => c3 ((zI_le (by omega)).mp d)) ?_
          rw [show bst A.1 (r + 1) j fd mo = bst A.1 r (j + 1) j (mgV A.1 j) from if_pos ⟨c, Or.inr (by omega)⟩]
          exact sv h2 e2 o2
    · rw [tB_0 c]
      refine wt rfl ?_
      rw [show bst A.1 (r + 1) j fd mo = bst A.1 r (j + 1) fd mo from if_neg (fun d => c d.1)]
      exact ih n h1 (j + 1) fd mo (by omega) (by omega) (by omega) hf hm e1 o1
theorem C_best {h : HP} {x : Nat} {A : AB} (e : CLS h x A) {M : Int} (H : GOK A.1 M) : WP (f_X7_best h x) (fun r' => r'.1 = zI (bst A.1 A.1.2.1.length 0 (-1) 0) ∧ CLS r'.2 x A ∧ OFF x 311 h r'.2) := by
  have hS := H.2
  unfold SML at hS
  unfold f_X7_best b_X7_best_0
  simp only [show (-1 : Int32) = zI (-1) by decide, zl0]
  refine wb (CLS_g e).1 ?_
  exact C_bstL H A.1.2.1.length FU h 0 (-1) 0 (by unfold FU; omega) (by omega) (by omega) (by omega) (by omega) e (OFF_refl _ _ _)
theorem R_bstL {m : Nat} {A : AB} {M : Int} (H : GOK A.1 M) {h0 : HP} : ∀ (r n : Nat) (h : HP) (v : Nat → Int32) (j fd mo : Int), r < n → 0 ≤ j → j + r = A.1.2.1.length → (-1 ≤ fd ∧ fd < 6) → (-1000 < mo ∧ mo < 1000) → RFV h m v A → OFF m 9 h0 h → WP (b_X8_best_11 m n h (zI fd) (zI mo) (zI j)) (fun r' => r'.1 = zI (bst A.1 r j fd mo) ∧ (∃ w, RFV r'.2 m w A) ∧ OFF m 9 h0 r'.2) := by
  have hS := H.2
  unfold SML at hS
  intro r
  induction r with
  | zero =>
    intro n h v j fd mo hn hj0 hj hf hm e o
    obtain ⟨n, rfl⟩ : ∃ k, n = k + 1 := ⟨n - 1, by omega⟩
    obtain ⟨f, -, k1, ⟨b, u0, -⟩⟩ := REF_MOB e.2.1 e.1
    unfold b_X8_best_11 c_X8_best_11
    simp only [zl0, zl1, zI_add]
    refine wb (gR_e e.1 rfl) ?_
    refine wb (aI_v k1 (z := 0) (by omega) u0) ?_
    refine wt ((zI_le (by omega)).mpr (by omega)) ?_
    exact wr ⟨rfl, ⟨_, e⟩, o⟩
  | succ r ih =>
    intro n h v j fd mo hn hj0 hj hf hm e o
    obtain ⟨n, rfl⟩ : ∃ k, n = k + 1 := ⟨n - 1, by omega⟩
    obtain ⟨f, -, k1, ⟨b, u0, -⟩⟩ := REF_MOB e.2.1 e.1
    have hr := mgF_rng A.1 j
    unfold b_X8_best_11 c_X8_best_11
    simp only [b_X8_best_54, b_X8_best_66, show (-1 : Int32) = zI (-1) by decide, zl0, zl1, zI_add]
    refine wb (gR_e e.1 rfl) ?_
    refine wb (aI_v k1 (z := 0) (by omega) u0) ?_
    by_cases c0 : A.1.2.1.length ≤ j + 1
    · refine wt ((zI_le (by omega)).mpr c0) ?_
      have hr0 : r = 0 := by omega
      subst hr0
      rw [show bst A.1 (0 + 1) j fd mo = fd from if_neg (fun d => mgF_last (by omega) d.1)]
      exact wr ⟨rfl, ⟨_, e⟩, o⟩
    · refine wf (fun d => c0 ((zI_le (by omega)).mp d)) ?_
      refine wpb (X8_mergeFault_is e.2.1 e.1 e.2.2.1 H.1 (i := j) (by omega)) ?_
      rintro ⟨z, h1⟩ ⟨q1, ⟨y, q2, q3⟩, q4, q5, q6⟩
      dsimp only at q1 q2 q3 q4 q5 q6 ⊢
      subst q1
      have e1 : RFV h1 m (upd v 10 y) A := RFV_4 e (OF4_c q6) q2 (upd_ne (by omega)) (upd_ne (by omega)) q4 q5
      have o1 : OFF m 9 h0 h1 := OFF_trans o (OF4_f (OF4_c q6))
      by_cases c : mgF A.1 j = 0
      · obtain ⟨D, q7⟩ := q3 c
        refine wt ((zI_inj (by omega)).mpr c) ?_
        have hv := mgV_rng H (mgF_0 c).1
        refine wb (X8_savedBy_is q7 (mgF_0 c).1) ?_
        by_cases c2 : fd = -1
        · refine wt ((zI_inj (by omega)).mpr c2) ?_
          refine wf (by decide) ?_
          refine wf (by decide) ?_
          rw [show bst A.1 (r + 1) j fd mo = bst A.1 r (j + 1) j (mgV A.1 j) from if_pos ⟨c, Or.inl c2⟩]
          exact ih n h1 _ (j + 1) j (mgV A.1 j) (by omega) (by omega) (by omega) (by omega) hv e1 o1
        · refine wf (fun d => c2 ((zI_inj (by omega)).mp d)) ?_
          by_cases c3 : mgV A.1 j ≤ mo
          · refine wt ((zI_le (by omega)).mpr c3) ?_
            refine wt (by first | trivial | rfl) ?_
            refine wt (by first | trivial | rfl) ?_
            rw [show bst A.1 (r + 1) j fd mo = bst A.1 r (j + 1) fd mo from if_neg (by omega)]
            exact ih n h1 _ (j + 1) fd mo (by omega) (by omega) (by omega) hf hm e1 o1
          · refine wf (fun d => c3 ((zI_le (by omega)).mp d)) ?_
            refine wf (by decide) ?_
            refine wf (by decide) ?_
            rw [show bst A.1 (r + 1) j fd mo = bst A.1 r (j + 1) j (mgV A.1 j) from if_pos ⟨c, Or.inr (by omega)⟩]
            exact ih n h1 _ (j + 1) j (mgV A.1 j) (by omega) (by omega) (by omega) (by omega) hv e1 o1
      · refine wf (fun d => c ((zI_inj (by omega)).mp d)) ?_
        rw [show bst A.1 (r + 1) j fd mo = bst A.1 r (j + 1) fd mo from if_neg (fun d => c d.1)]
        exact ih n h1 _ (j + 1) fd mo (by omega) (by omega) (by omega) hf hm e1 o1
theorem R_best {h : HP} {m : Nat} {v : Nat → Int32} {A : AB} (e : RFV h m v A) {M : Int} (H : GOK A.1 M) : WP (f_X8_best h m) (fun r' => r'.1 = zI (bst A.1 A.1.2.1.length 0 (-1) 0) ∧ (∃ w, RFV r'.2 m w A) ∧ OFF m 9 h r'.2) := by
  have hS := H.2
  unfold SML at hS
  unfold f_X8_best b_X8_best_0
  simp only [show (-1 : Int32) = zI (-1) by decide, zl0]
  refine wb (kO_e e.1) ?_
  refine wpb (pI_M e.1 (by omega)) ?_
  rintro h1 ⟨q1, q2⟩
  have e1 := RFV_0 e q2 q1 (upd_ne (by omega)) (upd_ne (by omega))
  exact R_bstL H A.1.2.1.length FU h1 _ 0 (-1) 0 (by unfold FU; omega) (by omega) (by omega) (by omega) (by omega) e1 (OFF_wide q2 (by omega))
