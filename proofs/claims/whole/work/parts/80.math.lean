/-! the actions -/
theorem C_rem {h : HP} {x : Nat} {A : AB} (e : CLS h x A) (h48 : A.1.1.length ≤ 48) : WP (f_X1_remember h (x + 177) (x + 161)) (fun h' => CLS h' x (A.1, push A.2.1 A.1, A.2.2) ∧ OFF (x + 177) 114 h h') := by
  refine wm (X1_remember_is e.2.2.2.2.2.1 (CLS_S e) h48 (by omega)) ?_
  rintro h1 ⟨q1, q2⟩
  exact ⟨CLS_hi e q2 q1, q2⟩
theorem R_rem {h : HP} {m : Nat} {v : Nat → Int32} {A : AB} (e : RFV h m v A) : WP (f_X8_remember h m) (fun h' => ∃ w, RFV h' m w (A.1, push A.2.1 A.1, A.2.2) ∧ (∀ i : Nat, i ≠ 4 → w i = v i) ∧ OFF m 4 h h' ∧ h' (m + 1) = h (m + 1)) := by
  refine wm (X8_remember_is e.1 e.2.1 e.2.2.2.2.1) ?_
  rintro h1 ⟨q1, q2, q3, q4, w, q5, q6⟩
  obtain ⟨e1, e2, e3, ⟨g, e4⟩, e5, ⟨sl, z, e6, e7, e8⟩, e9⟩ := e
  exact ⟨w, ⟨q5, q1, ALO_off e3 q3 (by omega), ⟨g, (q4 _ (Or.inr rfl)).trans e4⟩, q2, ⟨sl, z, (q3 _ (by omega)).trans e6, (q3 _ (by omega)).trans e7, e8⟩, RTX_mv e9 (q3 _ (by omega)) (q6 8 (by omega))⟩, q6, q3, q4 _ (Or.inl rfl)⟩
def xPut (A : AB) (k v : Int) : Int × Int × AB := if putF A.1 k v ≠ 0 then (putF A.1 k v, 0, A) else (0, A.1.2.2.2.1 + 1, wadd A.1 k k v, push A.2.1 A.1, A.2.2)
theorem putF_rng (S : SG) (k v : Int) : 0 ≤ putF S k v ∧ putF S k v ≤ 3 := by
  unfold putF
  split
  · omega
  · split
    · omega
    · split <;> omega
theorem buryF_rng (S : SG) (k v : Int) : 0 ≤ buryF S k v ∧ buryF S k v ≤ 3 := by
  unfold buryF
  split
  · omega
  · split
    · omega
    · split <;> omega
theorem flF_rng (S : SG) : 0 ≤ flF S ∧ flF S ≤ 1 := by
  unfold flF
  split
  · omega
  · split <;> omega
theorem mgF_rng (S : SG) (i : Int) : 0 ≤ mgF S i ∧ mgF S i ≤ 2 := by
  unfold mgF
  split
  · omega
  · split
    · omega
    · split <;> omega
theorem C_put {h : HP} {x : Nat} {A : AB} (e : CLS h x A) {M : Int} (H : GOK A.1 M) {k v : Int} (hk : -2147483648 ≤ k ∧ k < 2147483648) (hv : -2147483648 ≤ v ∧ v < 2147483648) : WP (f_X7_put h x (zI k) (zI v)) (CLR7 x (xPut A k v).2.2 [IOB, IAE, ISE] (xPut A k v).1 (xPut A k v).2.1 h) := by
  have g := CLS_g e
  have s := CLS_S e
  have hS := H.2
  unfold SML at hS
  unfold f_X7_put b_X7_put_0 xPut
  refine wb g.1 ?_
  refine wb (X7_isKey_is h hk) ?_
  by_cases c1 : 0 ≤ k ∧ k ≤ 99
  · rw [tB_1 c1]
    refine wf (by decide) ?_
    refine wb (X7_isValue_is h hv) ?_
    by_cases c2 : 1 ≤ v ∧ v ≤ 999
    · rw [tB_1 c2]
      refine wf (by decide) ?_
      refine wb g.2.2.1 ?_
      refine wb (X3_isFull_is s) ?_
      by_cases c3 : 48 ≤ A.1.1.length
      · have hF : putF A.1 k v = 3 := by
          unfold putF
          rw [if_neg (show ¬ ¬ (0 ≤ k ∧ k ≤ 99) by omega), if_neg (show ¬ ¬ (1 ≤ v ∧ v ≤ 999) by omega), if_pos (by omega)]
        rw [tB_1 c3, hF]
        refine wf (by decide) ?_
        exact wr ⟨rfl, e, OFF_refl _ _ _⟩
      · have hF : putF A.1 k v = 0 := by
          unfold putF
          rw [if_neg (show ¬ ¬ (0 ≤ k ∧ k ≤ 99) by omega), if_neg (show ¬ ¬ (1 ≤ v ∧ v ≤ 999) by omega), if_neg (by omega)]
        rw [tB_0 c3, hF, if_neg (show ¬ ((0 : Int) ≠ 0) by omega)]
        refine wt rfl ?_
        refine wb g.2.2.2.2.1 ?_
        refine wb g.2.2.1 ?_
        refine wpb (C_rem e hS.1) ?_
        rintro h1 ⟨q1, q2⟩
        refine wb (CLS_g q1).2.2.1 ?_
        refine wpb (X3_addWrite_is (CLS_S q1) k k v (by dsimp only; omega)) ?_
        rintro h2 ⟨q3, q4⟩
        have e2 := CLS_st q1 (FR_c q4 (by omega)) (CLN_off q1.2.1 q4 (by omega)) q3
        refine wb (CLS_g e2).2.2.1 ?_
        refine wb (X3_latest_is q3) ?_
        exact wr ⟨rfl, e2, OFF_trans (OFF_wide q2 (by omega)) (OFF_wide q4 (by omega))⟩
    · have hF : putF A.1 k v = 2 := by
        unfold putF
        rw [if_neg (show ¬ ¬ (0 ≤ k ∧ k ≤ 99) by omega), if_pos c2]
      rw [tB_0 c2, hF]
      refine wt rfl ?_
      exact wr ⟨rfl, e, OFF_refl _ _ _⟩
  · have hF : putF A.1 k v = 1 := by
      unfold putF
      rw [if_pos c1]
    rw [tB_0 c1, hF]
    refine wt rfl ?_
    exact wr ⟨rfl, e, OFF_refl _ _ _⟩
/-- what holds: an action that may not be -/
theorem act_no {h h0 : HP} {m : Nat} {v : Nat → Int32} {A A' : AB} (e : RFV h m v A) (o : OFF m 9 h0 h) {c y : Int} (hc : c ≠ 0 ∧ -1000 < c ∧ c < 1000) (hA : A' = A) {F : Int32 × HP → Option (Int32 × HP)} : WP ((f_X8_holds h m (zI c)).bind fun y1 => if y1.1 = 0 then some ((0 : Int32), y1.2) else F y1) (RFR m A' c y h0) := by
  subst hA
  refine wm (hold_fail e hc rfl (y := y) (F := F)) ?_
  rintro r ⟨q1, q2, q3⟩
  exact ⟨q1, q2, OFF_trans o q3⟩
theorem RFV_w {h h' : HP} {m : Nat} {v : Nat → Int32} {A : AB} {S : SG} (e : RFV h m v A) (k : OFF (m + 1) 1 h h') (r : REF h' m S) : RFV h' m v (S, A.2) := RFV_4 e (OF4_1 k) ((k _ (by omega)).trans e.1) rfl rfl r (ALO_off e.2.2.1 k (by omega))
theorem R_put {h : HP} {m : Nat} {v0 : Nat → Int32} {A : AB} (e : RFV h m v0 A) {M : Int} (H : GOK A.1 M) {k v : Int} (hk : -2147483648 ≤ k ∧ k < 2147483648) (hv : -2147483648 ≤ v ∧ v < 2147483648) : WP (f_X8_put h m (zI k) (zI v)) (RFR m (xPut A k v).2.2 (xPut A k v).1 (xPut A k v).2.1 h) := by
  have hS := H.2
  unfold SML at hS
  have hr := putF_rng A.1 k v
  unfold f_X8_put b_X8_put_0 xPut
  refine wb (kO_e e.1) ?_
  refine wb (X8_putFault_is e.2.1 hk hv) ?_
  by_cases c : putF A.1 k v = 0
  · rw [c, if_neg (by omega)]
    have h48 : A.1.1.length < 48 := by
      unfold putF at c
      split at c
      · omega
      · split at c
        · omega
        · split at c
          · omega
          · omega
    refine wpb (X8_holds_is e (c := 0) (by omega)) ?_
    rintro ⟨z, h1⟩ ⟨q1, q2, q3⟩
    dsimp only at q1 q2 q3 ⊢
    subst q1
    rw [tB_1 rfl]
    refine wf (by decide) ?_
    refine wpb (R_rem q2) ?_
    rintro h2 ⟨w, r1, r2, r3, r4⟩
    refine wpb (X8_writes_is r1.2.1 h48 k k v) ?_
    rintro ⟨y, h3⟩ ⟨t1, t2, t3⟩
    refine wr ⟨⟨w, RFV_w r1 t3 t2, (r2 0 (by omega)).trans (upd_eq rfl)⟩, fun _ => t1, OFF_trans (OFF_wide q3 (by omega)) (OFF_trans (OFF_wide r3 (by omega)) (OFF_wide t3 (by omega)))⟩
  · rw [if_pos c]
    exact act_no e (OFF_refl _ _ _) (by omega) rfl
def xBury (A : AB) (p q : Int) : Int × Int × AB := if buryF A.1 p q ≠ 0 then (buryF A.1 p q, 0, A) else (0, cnt (fun k => vw A.1 k (-1) ≠ 0) p.toNat (q + 1 - p).toNat, wadd A.1 p q 0, push A.2.1 A.1, A.2.2)
theorem C_bury {h : HP} {x : Nat} {A : AB} (e : CLS h x A) {M : Int} (H : GOK A.1 M) {p q : Int} (hp : -2147483648 ≤ p ∧ p < 2147483648) (hq : -2147483648 ≤ q ∧ q < 2147483648) : WP (f_X7_bury h x (zI p) (zI q)) (CLR7 x (xBury A p q).2.2 [IOB, IAE, ISE] (xBury A p q).1 (xBury A p q).2.1 h) := by
  have g := CLS_g e
  have s := CLS_S e
  have hS := H.2
  unfold SML at hS
  unfold f_X7_bury b_X7_bury_0 b_X7_bury_14 xBury
  refine wb g.1 ?_
  refine wb (X7_isKey_is h hp) ?_
  by_cases c1 : 0 ≤ p ∧ p ≤ 99
  · rw [tB_1 c1]
    refine wf (by decide) ?_
    refine wb (X7_isKey_is h hq) ?_
    by_cases c2 : 0 ≤ q ∧ q ≤ 99
    · have n12 : ¬ (¬ (0 ≤ p ∧ p ≤ 99) ∨ ¬ (0 ≤ q ∧ q ≤ 99)) := by omega
      rw [tB_1 c2]
      refine wf (by decide) ?_
      by_cases c4 : p ≤ q
      · refine wt ((zI_le (by omega)).mpr c4) ?_
        refine wb g.2.2.1 ?_
        refine wb (X3_isFull_is s) ?_
        by_cases c3 : 48 ≤ A.1.1.length
        · have hF : buryF A.1 p q = 3 := by
            unfold buryF
            rw [if_neg n12, if_neg (by omega), if_pos (by omega)]
          rw [tB_1 c3, hF]
          refine wf (by decide) ?_
          exact wr ⟨rfl, e, OFF_refl _ _ _⟩
        · have hF : buryF A.1 p q = 0 := by
            unfold buryF
            rw [if_neg n12, if_neg (by omega), if_neg (by omega)]
          rw [tB_0 c3, hF, if_neg (show ¬ ((0 : Int) ≠ 0) by omega)]
          refine wt rfl ?_
          refine wb g.2.2.2.2.1 ?_
          refine wb g.2.2.1 ?_
          refine wpb (C_rem e hS.1) ?_
          rintro h1 ⟨q1, q2⟩
          refine wb (CLS_g q1).2.2.2.2.2.2.2 ?_
          refine wb (CLS_g q1).2.2.1 ?_
          refine wb (CLS_g q1).2.2.1 ?_
          refine wb (X3_latest_is (CLS_S q1)) ?_
          dsimp only
          rw [← lim_m1 A.1]
          refine wpb (C_look q1 H (-1)) ?_
          rintro h2 ⟨q3, q4, q5⟩
          refine wb (CLS_g q3).2.2.1 ?_
          rw [zl0]
          refine wpb (X3_addWrite_is (CLS_S q3) p q 0 (by dsimp only; omega)) ?_
          rintro h3 ⟨q6, q7⟩
          have e3 := CLS_st q3 (FR_c q7 (by omega)) (CLN_off q3.2.1 q7 (by omega)) q6
          refine wb (CLS_g e3).2.2.2.2.2.2.2 ?_
          refine wb (X5_seenIn_is (VIEW_off q4 q7 (by omega)) (fun k _ => vw_rng H.1 k (-1)) (s := p) (t := q) (by omega) (by omega)) ?_
          exact wr ⟨rfl, e3, OFF_trans (OFF_wide q2 (by omega)) (OFF_trans (OFF_wide q5 (by omega)) (OFF_wide q7 (by omega)))⟩
      · refine wf (fun d => c4 ((zI_le (by omega)).mp d)) ?_
        have hF : buryF A.1 p q = 2 := by
          unfold buryF
          rw [if_neg n12, if_pos (by omega)]
        rw [hF]
        exact wr ⟨rfl, e, OFF_refl _ _ _⟩
    · have hF : buryF A.1 p q = 1 := by
        unfold buryF
        rw [if_pos (Or.inr c2)]
      rw [tB_0 c2, hF]
      refine wt rfl ?_
      exact wr ⟨rfl, e, OFF_refl _ _ _⟩
  · have hF : buryF A.1 p q = 1 := by
      unfold buryF
      rw [if_pos (Or.inl c1)]
    rw [tB_0 c1, hF]
    refine wt rfl ?_
    exact wr ⟨rfl, e, OFF_refl _ _ _⟩
theorem buryF_0 {S : SG} {p q : Int} (c : buryF S p q = 0) (h48 : S.1.length ≤ 48) : S.1.length < 48 ∧ (0 ≤ p ∧ p ≤ q) ∧ q < 100 := by
  unfold buryF at c
  split at c
  · omega
  · split at c
    · omega
    · split at c
      · omega
      · omega
theorem R_bury {h : HP} {m : Nat} {v0 : Nat → Int32} {A : AB} (e : RFV h m v0 A) {M : Int} (H : GOK A.1 M) {p q : Int} (hp : -2147483648 ≤ p ∧ p < 2147483648) (hq : -2147483648 ≤ q ∧ q < 2147483648) : WP (f_X8_bury h m (zI p) (zI q)) (RFR m (xBury A p q).2.2 (xBury A p q).1 (xBury A p q).2.1 h) := by
  have hS := H.2
  unfold SML at hS
  have hM := H.1.2.2.2.2.2.1
  have hr := buryF_rng A.1 p q
  unfold f_X8_bury b_X8_bury_0 xBury
  refine wb (kO_e e.1) ?_
  refine wb (X8_buryFault_is e.2.1 hp hq) ?_
  by_cases c : buryF A.1 p q = 0
  · rw [c, if_neg (by omega)]
    have h48 := buryF_0 c hS.1
    refine wpb (X8_holds_is e (c := 0) (by omega)) ?_
    rintro ⟨z, h1⟩ ⟨q1, q2, q3⟩
    dsimp only at q1 q2 q3 ⊢
    subst q1
    rw [tB_1 rfl]
    refine wf (by decide) ?_
    refine wpb (R_rem q2) ?_
    rintro h2 ⟨w, r1, r2, r3, r4⟩
    refine wpb (X8_buries_is r1.2.1 H.1.1 H.1.2.1 (SOK_Y H.1) ⟨hM.1, hM.2.1⟩ hM.2.2 h48.2.1 h48.2.2 h48.1) ?_
    rintro ⟨y, h3⟩ ⟨t1, t2, t3⟩
    refine wr ⟨⟨w, RFV_w r1 t3 t2, (r2 0 (by omega)).trans (upd_eq rfl)⟩, fun _ => t1, OFF_trans (OFF_wide q3 (by omega)) (OFF_trans (OFF_wide r3 (by omega)) (OFF_wide t3 (by omega)))⟩
  · rw [if_pos c]
    exact act_no e (OFF_refl _ _ _) (by omega) rfl
def xOpen (A : AB) : Int × Int × AB := if ¬ A.1.2.2.1.length < 2 then (1, 0, A) else (0, A.1.2.2.1.length, (A.1.1, A.1.2.1, A.1.2.2.1 ++ [A.1.2.2.2.1], A.1.2.2.2.1, A.1.2.2.2.2), push A.2.1 A.1, A.2.2)
theorem C_open {h : HP} {x : Nat} {A : AB} (e : CLS h x A) {M : Int} (H : GOK A.1 M) : WP (f_X7_open h x) (CLR7 x (xOpen A).2.2 [ISE] (xOpen A).1 (xOpen A).2.1 h) := by
  have g := CLS_g e
  have s := CLS_S e
  have hS := H.2
  unfold SML at hS
  unfold f_X7_open b_X7_open_0 xOpen
  refine wb g.1 ?_
  refine wb g.2.2.1 ?_
  refine wb (X3_canOpen_is s) ?_
  by_cases c1 : A.1.2.2.1.length < 2
  · rw [tB_1 c1, if_neg (show ¬ ¬ A.1.2.2.1.length < 2 by omega)]
    refine wf (by decide) ?_
    refine wb g.2.2.2.2.1 ?_
    refine wb g.2.2.1 ?_
    refine wpb (C_rem e hS.1) ?_
    rintro h1 ⟨q1, q2⟩
    refine wb (CLS_g q1).2.2.1 ?_
    refine wpb (X3_addEye_is (CLS_S q1) c1) ?_
    rintro h2 ⟨q3, q4⟩
    have e2 := CLS_st q1 (FR_c q4 (by omega)) (CLN_off q1.2.1 q4 (by omega)) q3
    refine wb (CLS_g e2).2.2.1 ?_
    refine wb (X3_eyes_is q3) ?_
    refine wr ⟨?_, e2, OFF_trans (OFF_wide q2 (by omega)) (OFF_wide q4 (by omega))⟩
    dsimp only
    rw [List.length_append, List.length_singleton, EXC_0 _ rfl, zl1, zI_sub]
    exact congrArg Sum.inl (congrArg zI (by omega))
  · rw [tB_0 c1, if_pos c1]
    refine wt rfl ?_
    exact wr ⟨rfl, e, OFF_refl _ _ _⟩
theorem R_open {h : HP} {m : Nat} {v0 : Nat → Int32} {A : AB} (e : RFV h m v0 A) {M : Int} (H : GOK A.1 M) : WP (f_X8_open h m) (RFR m (xOpen A).2.2 (xOpen A).1 (xOpen A).2.1 h) := by
  have hS := H.2
  unfold SML at hS
  obtain ⟨f, -, k1, ⟨b, u0, u1, u2, u3, u4, u5, u6, u7⟩⟩ := REF_MOB e.2.1 e.1
  unfold f_X8_open b_X8_open_0 xOpen
  simp only [show (7 : Int32) = zI 7 by decide, show (2 : Int32) = zI 2 by decide]
  refine wb (kO_e e.1) ?_
  refine wb (gR_e e.1 rfl) ?_
  refine wb (aI_v k1 (z := 7) (by omega) u3) ?_
  unfold b_X8_open_17
  by_cases c1 : A.1.2.2.1.length < 2
  · rw [if_neg (show ¬ ¬ A.1.2.2.1.length < 2 by omega)]
    refine wf (fun d => absurd ((zI_inj (by omega)).mp d) (by omega)) ?_
    rw [zl0]
    refine wpb (X8_holds_is e (c := 0) (by omega)) ?_
    rintro ⟨z, h1⟩ ⟨q1, q2, q3⟩
    dsimp only at q1 q2 q3 ⊢
    subst q1
    rw [tB_1 rfl]
    refine wf (by decide) ?_
    refine wpb (R_rem q2) ?_
    rintro h2 ⟨w, r1, r2, r3, r4⟩
    refine wpb (X8_opens_is r1.2.1 c1) ?_
    rintro ⟨y, h3⟩ ⟨t1, t2, t3⟩
    refine wr ⟨⟨w, RFV_w r1 t3 t2, (r2 0 (by omega)).trans (upd_eq rfl)⟩, fun _ => t1, OFF_trans (OFF_wide q3 (by omega)) (OFF_trans (OFF_wide r3 (by omega)) (OFF_wide t3 (by omega)))⟩
  · rw [if_pos c1]
    refine wt ((zI_inj (by omega)).mpr (by omega)) ?_
    exact act_no e (OFF_refl _ _ _) (c := 1) (by omega) rfl
def xClose (A : AB) (i : Int) : Int × Int × AB := if ¬ (0 ≤ i ∧ i < A.1.2.2.1.length) then (1, 0, A) else (0, A.1.2.2.1.length - 1, (A.1.1, A.1.2.1, A.1.2.2.1.eraseIdx i.toNat, A.1.2.2.2.1, A.1.2.2.2.2), push A.2.1 A.1, A.2.2)
theorem C_close {h : HP} {x : Nat} {A : AB} (e : CLS h x A) {M : Int} (H : GOK A.1 M) {i : Int} (hi : -2147483648 ≤ i ∧ i < 2147483648) : WP (f_X7_close h x (zI i)) (CLR7 x (xClose A i).2.2 [IOB] (xClose A i).1 (xClose A i).2.1 h) := by
  have g := CLS_g e
  have s := CLS_S e
  have hS := H.2
  unfold SML at hS
  unfold f_X7_close b_X7_close_0 xClose
  refine wb g.1 ?_
  refine wb g.2.2.1 ?_
  refine wb (X3_isEye_is s hi) ?_
  by_cases c1 : 0 ≤ i ∧ i < A.1.2.2.1.length
  · rw [tB_1 c1, if_neg (show ¬ ¬ (0 ≤ i ∧ i < A.1.2.2.1.length) by omega)]
    refine wf (by decide) ?_
    refine wb g.2.2.2.2.1 ?_
    refine wb g.2.2.1 ?_
    refine wpb (C_rem e hS.1) ?_
    rintro h1 ⟨q1, q2⟩
    refine wb (CLS_g q1).2.2.1 ?_
    refine wpb (X3_dropEye_is (CLS_S q1) c1) ?_
    rintro h2 ⟨q3, q4⟩
    have e2 := CLS_st q1 (FR_c q4 (by omega)) (CLN_off q1.2.1 q4 (by omega)) q3
    refine wb (CLS_g e2).2.2.1 ?_
    refine wb (X3_eyes_is q3) ?_
    refine wr ⟨?_, e2, OFF_trans (OFF_wide q2 (by omega)) (OFF_wide q4 (by omega))⟩
    dsimp only
    rw [List.length_eraseIdx_of_lt (by omega), EXC_0 _ rfl]
    exact congrArg Sum.inl (congrArg zI (by omega))
  · rw [tB_0 c1, if_pos c1]
    refine wt rfl ?_
    exact wr ⟨rfl, e, OFF_refl _ _ _⟩
theorem R_close {h : HP} {m : Nat} {v0 : Nat → Int32} {A : AB} (e : RFV h m v0 A) {M : Int} (H : GOK A.1 M) {i : Int} (hi : -2147483648 ≤ i ∧ i < 2147483648) : WP (f_X8_close h m (zI i)) (RFR m (xClose A i).2.2 (xClose A i).1 (xClose A i).2.1 h) := by
  unfold f_X8_close b_X8_close_0 xClose
  refine wb (kO_e e.1) ?_
  refine wb (X8_isEye_is e.2.1 hi) ?_
  unfold b_X8_close_14
  by_cases c1 : 0 ≤ i ∧ i < A.1.2.2.1.length
  · rw [tB_1 c1, if_neg (show ¬ ¬ (0 ≤ i ∧ i < A.1.2.2.1.length) by omega)]
    refine wf (by decide) ?_
    refine wpb (X8_holds_is e (c := 0) (by omega)) ?_
    rintro ⟨z, h1⟩ ⟨q1, q2, q3⟩
    dsimp only at q1 q2 q3 ⊢
    subst q1
    rw [tB_1 rfl]
    refine wf (by decide) ?_
    refine wpb (R_rem q2) ?_
    rintro h2 ⟨w, r1, r2, r3, r4⟩
    refine wpb (X8_closes_is r1.2.1 c1) ?_
    rintro ⟨y, h3⟩ ⟨t1, t2, t3⟩
    refine wr ⟨⟨w, RFV_w r1 t3 t2, (r2 0 (by omega)).trans (upd_eq rfl)⟩, fun _ => t1, OFF_trans (OFF_wide q3 (by omega)) (OFF_trans (OFF_wide r3 (by omega)) (OFF_wide t3 (by omega)))⟩
  · rw [tB_0 c1, if_pos c1]
    refine wt rfl ?_
    exact act_no e (OFF_refl _ _ _) (c := 1) (by omega) rfl
theorem CLR_mv {h h' : HP} {m : Nat} {v v' : Nat → Int32} {S : SG} {K : List WR} {D : Nat → Bool} (e : CLR h m v S K D) (k0 : MOB h' m v') (h10 : v' 10 = v 10) (k1 : h' (m + 1) = h (m + 1)) (k : ∀ b, b = m + 7 ∨ b = m + 8 → h' b = h b) : CLR h' m v' S K D := by
  obtain ⟨e0, ⟨f, e1, e2⟩, e3, ⟨g, e4, e5⟩, e6, d, e7, e8⟩ := e
  exact ⟨k0, ⟨f, k1.trans e1, e2⟩, h10.trans e3, ⟨g, (k _ (Or.inl rfl)).trans e4, e5⟩, e6, d, (k _ (Or.inr rfl)).trans e7, e8⟩
def xFlush (A : AB) : Int × Int × AB := if flF A.1 ≠ 0 then (flF A.1, 0, A) else (0, (flK A.1).length, flS A.1, push A.2.1 A.1, A.2.2)
theorem C_flush {h : HP} {x : Nat} {A : AB} (e : CLS h x A) {M : Int} (H : GOK A.1 M) : WP (f_X7_flush h x) (CLR7 x (xFlush A).2.2 [ISE] (xFlush A).1 (xFlush A).2.1 h) := by
  have g := CLS_g e
  have s := CLS_S e
  have hS := H.2
  unfold SML at hS
  have hE := H.1.2.2.2.2.2.2
  have hp := plc hE (i := -1) (by omega)
  have hlen := clP_len H.1 hS.1 hS.2.2 (nw := -1) (ol := -1) (by omega)
  have hr := flF_rng A.1
  unfold f_X7_flush b_X7_flush_0 xFlush
  refine wb g.1 ?_
  refine wb g.2.2.1 ?_
  refine wpb (X3_canFlush_is e.2.1 s H.1 ⟨hS.1, hS.2.1⟩ (by omega)) ?_
  rintro ⟨z, h1⟩ ⟨q1, q2, q3⟩
  dsimp only at q1 q2 q3 ⊢
  subst q1
  have e1 := CLS_cl e q3 q2
  by_cases c : flF A.1 = 0
  · rw [tB_1 c, if_neg (show ¬ (flF A.1 ≠ 0) by omega)]
    refine wf (by decide) ?_
    refine wb (CLS_g e1).2.2.2.2.1 ?_
    refine wb (CLS_g e1).2.2.1 ?_
    refine wpb (C_rem e1 hS.1) ?_
    rintro h2 ⟨r1, r2⟩
    have h0 := flF_0 c
    refine wb (CLS_g r1).2.2.1 ?_
    refine wpb (X3_flushMemory_is r1.2.1 (CLS_S r1) H.1 (by dsimp only; omega) (by omega) hlen (by dsimp only; omega)) ?_
    rintro ⟨y, h3⟩ ⟨t1, t2, t3, t4⟩
    dsimp only at t1 t2 t3 t4 ⊢
    subst t1
    refine wr ⟨rfl, CLS_st r1 t4 t3 t2, OFF_trans (OFF_wide q3 (by omega)) (OFF_trans (OFF_wide r2 (by omega)) (fun b hb => t4 b (by omega) (by omega)))⟩
  · have : flF A.1 = 1 := by omega
    rw [tB_0 c, if_pos c, this]
    refine wt rfl ?_
    exact wr ⟨rfl, e1, OFF_wide q3 (by omega)⟩
theorem R_flush {h : HP} {m : Nat} {v0 : Nat → Int32} {A : AB} (e : RFV h m v0 A) {M : Int} (H : GOK A.1 M) : WP (f_X8_flush h m) (RFR m (xFlush A).2.2 (xFlush A).1 (xFlush A).2.1 h) := by
  have hr := flF_rng A.1
  unfold f_X8_flush b_X8_flush_0 xFlush
  refine wb (kO_e e.1) ?_
  refine wpb (X8_flushFault_is e.2.1 e.1 e.2.2.1 H.1) ?_
  rintro ⟨z, h1⟩ ⟨q1, ⟨y, q2, q3⟩, q4, q5, q6⟩
  dsimp only at q1 q2 q3 q4 q5 q6 ⊢
  subst q1
  have e1 : RFV h1 m (upd v0 10 y) A := RFV_4 e (OF4_c q6) q2 (upd_ne (by omega)) (upd_ne (by omega)) q4 q5
  have o1 : OFF m 9 h h1 := OF4_f (OF4_c q6)
  by_cases c : flF A.1 = 0
  · obtain ⟨D, q7⟩ := q3 c
    rw [c, if_neg (by omega)]
    refine wpb (X8_holds_is e1 (c := 0) (by omega)) ?_
    rintro ⟨z, h2⟩ ⟨r1, r2, r3⟩
    dsimp only at r1 r2 r3 ⊢
    subst r1
    rw [tB_1 rfl]
    refine wf (by decide) ?_
    refine wpb (R_rem r2) ?_
    rintro h3 ⟨w, t1, t2, t3, t4⟩
    have q8 := CLR_mv q7 (h' := h3) t1.1 ((t2 10 (by omega)).trans (upd_ne (by omega))) (t4.trans (r3 _ (by omega))) (fun b hb => (t3 b (by omega)).trans (r3 b (by omega)))
    refine wpb (X8_flushes_is q8 H.1 c) ?_
    rintro ⟨y, h4⟩ ⟨p1, p2, p3, p4⟩
    refine wr ⟨⟨w, RFV_w t1 p4 p2, (t2 0 (by omega)).trans (upd_eq rfl)⟩, fun _ => p1, OFF_trans o1 (OFF_trans (OFF_wide r3 (by omega)) (OFF_trans (OFF_wide t3 (by omega)) (OFF_wide p4 (by omega))))⟩
  · rw [if_pos c]
    exact act_no e1 o1 (by omega) rfl
def xMerge (A : AB) (i : Int) : Int × Int × AB := if mgF A.1 i ≠ 0 then (mgF A.1 i, 0, A) else (0, (mgK A.1 i).length, mgS A.1 i, push A.2.1 A.1, A.2.2)
theorem C_merge {h : HP} {x : Nat} {A : AB} (e : CLS h x A) {M : Int} (H : GOK A.1 M) {i : Int} (hi : -2147483648 ≤ i ∧ i < 2147483648) : WP (f_X7_merge h x (zI i)) (CLR7 x (xMerge A i).2.2 [IOB, ISE] (xMerge A i).1 (xMerge A i).2.1 h) := by
  have g := CLS_g e
  have s := CLS_S e
  have hS := H.2
  unfold SML at hS
  have hE := H.1.2.2.2.2.2.2
  have hr := mgF_rng A.1 i
  unfold f_X7_merge b_X7_merge_0 xMerge
  refine wb g.1 ?_
  refine wb g.2.2.1 ?_
  refine wb (X3_isRun_is s hi) ?_
  by_cases c1 : 0 ≤ i ∧ i < A.1.2.1.length
  · rw [tB_1 c1]
    refine wf (by decide) ?_
    refine wb g.2.2.1 ?_
    refine wpb (X3_canMerge_is e.2.1 s H.1 ⟨hS.1, hS.2.1⟩ (by omega) hi) ?_
    rintro ⟨z, h1⟩ ⟨q1, q2, q3⟩
    dsimp only at q1 q2 q3 ⊢
    subst q1
    have e1 := CLS_cl e q3 q2
    by_cases c : mgF A.1 i = 0
    · rw [tB_1 c, if_neg (show ¬ (mgF A.1 i ≠ 0) by omega)]
      refine wf (by decide) ?_
      refine wb (CLS_g e1).2.2.2.2.1 ?_
      refine wb (CLS_g e1).2.2.1 ?_
      refine wpb (C_rem e1 hS.1) ?_
      rintro h2 ⟨r1, r2⟩
      obtain ⟨h0, h48⟩ := mgF_0 c
      obtain ⟨p1, p2, p3, p4, p5, p6, p7⟩ := mg_pre hE h0
      have hlen := clP_len H.1 hS.1 hS.2.2 (nw := i) (ol := i + 1) (by omega)
      refine wb (CLS_g r1).2.2.1 ?_
      refine wpb (X3_mergeRuns_is r1.2.1 (CLS_S r1) H.1 (by dsimp only; omega) (by omega) h0 hlen (by dsimp only; omega)) ?_
      rintro ⟨y, h3⟩ ⟨t1, t2, t3, t4⟩
      dsimp only at t1 t2 t3 t4 ⊢
      subst t1
      refine wr ⟨rfl, CLS_st r1 t4 t3 t2, OFF_trans (OFF_wide q3 (by omega)) (OFF_trans (OFF_wide r2 (by omega)) (fun b hb => t4 b (by omega) (by omega)))⟩
    · have hF : mgF A.1 i = 2 := by
        have : mgF A.1 i ≠ 1 := by
          unfold mgF
          rw [if_neg (by omega)]
          split
          · omega
          · split <;> omega
        omega
      rw [tB_0 c, if_pos c, hF]
      refine wt rfl ?_
      exact wr ⟨rfl, e1, OFF_wide q3 (by omega)⟩
  · have hF : mgF A.1 i = 1 := by
      unfold mgF
      rw [if_pos c1]
    rw [tB_0 c1, hF]
    refine wt rfl ?_
    exact wr ⟨rfl, e, OFF_refl _ _ _⟩
theorem R_merge {h : HP} {m : Nat} {v0 : Nat → Int32} {A : AB} (e : RFV h m v0 A) {M : Int} (H : GOK A.1 M) {i : Int} (hi : -2147483648 ≤ i ∧ i < 2147483648) : WP (f_X8_merge h m (zI i)) (RFR m (xMerge A i).2.2 (xMerge A i).1 (xMerge A i).2.1 h) := by
  have hr := mgF_rng A.1 i
  unfold f_X8_merge b_X8_merge_0 xMerge
  refine wb (kO_e e.1) ?_
  refine wpb (X8_mergeFault_is e.2.1 e.1 e.2.2.1 H.1 hi) ?_
  rintro ⟨z, h1⟩ ⟨q1, ⟨y, q2, q3⟩, q4, q5, q6⟩
  dsimp only at q1 q2 q3 q4 q5 q6 ⊢
  subst q1
  have e1 : RFV h1 m (upd v0 10 y) A := RFV_4 e (OF4_c q6) q2 (upd_ne (by omega)) (upd_ne (by omega)) q4 q5
  have o1 : OFF m 9 h h1 := OF4_f (OF4_c q6)
  by_cases c : mgF A.1 i = 0
  · obtain ⟨D, q7⟩ := q3 c
    rw [c, if_neg (by omega)]
    refine wpb (X8_holds_is e1 (c := 0) (by omega)) ?_
    rintro ⟨z, h2⟩ ⟨r1, r2, r3⟩
    dsimp only at r1 r2 r3 ⊢
    subst r1
    rw [tB_1 rfl]
    refine wf (by decide) ?_
    refine wpb (R_rem r2) ?_
    rintro h3 ⟨w, t1, t2, t3, t4⟩
    have q8 := CLR_mv q7 (h' := h3) t1.1 ((t2 10 (by omega)).trans (upd_ne (by omega))) (t4.trans (r3 _ (by omega))) (fun b hb => (t3 b (by omega)).trans (r3 b (by omega)))
    refine wpb (X8_merges_is q8 H.1 c) ?_
    rintro ⟨y, h4⟩ ⟨p1, p2, p3, p4⟩
    refine wr ⟨⟨w, RFV_w t1 p4 p2, (t2 0 (by omega)).trans (upd_eq rfl)⟩, fun _ => p1, OFF_trans o1 (OFF_trans (OFF_wide r3 (by omega)) (OFF_trans (OFF_wide t3 (by omega)) (OFF_wide p4 (by omega))))⟩
  · rw [if_pos c]
    exact act_no e1 o1 (by omega) rfl
