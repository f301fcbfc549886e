theorem lim_m1 (S : SG) : lim S (-1) = S.2.2.2.1 := by
  unfold lim
  rw [if_neg (by omega)]
theorem look_at {h : HP} {x a cap : Nat} {S : SG} {f : Nat → Int} (v : VIEW h (x + 309) f) (s : STO h (x + 1) a cap S) {M : Int} (H : SOK S M) (hd : x + 311 ≤ a ∨ a + 8 ≤ x + 309) (e : Int) : WP (f_X5_look h (x + 309) a (zI (lim S e))) (fun h' => VIEW h' (x + 309) (fun k => vw S k e) ∧ OFF (x + 309) 2 h h') := by
  have hr := lim_rng (SOK_Y H) (show 0 ≤ S.2.2.2.1 ∧ S.2.2.2.1 ≤ M from ⟨H.2.2.2.2.2.1.1, H.2.2.2.2.2.1.2.1⟩) e
  have hM := H.2.2.2.2.2.1
  exact X5_look_is v s H.1 (ORD_N H.2.1) (by omega) (by omega)
theorem vw_rng {S : SG} {M : Int} (H : SOK S M) (k e : Int) : 0 ≤ vw S k e ∧ vw S k e < 1000 := wat_v H.1 _
theorem C_look {h : HP} {x : Nat} {A : AB} (e : CLS h x A) {M : Int} (H : GOK A.1 M) (i : Int) : WP (f_X5_look h (x + 309) (x + 161) (zI (lim A.1 i))) (fun h' => CLS h' x A ∧ VIEW h' (x + 309) (fun k => vw A.1 k i) ∧ OFF (x + 309) 2 h h') := by
  obtain ⟨f, hf⟩ := e.2.2.2.2.2.2.2
  refine wm (look_at hf (CLS_S e) H.1 (by omega) i) ?_
  rintro h1 ⟨q1, q2⟩
  exact ⟨CLS_vw e q2 q1, q1, q2⟩
def tld (S : SG) (w : Int) : Int := if w = 0 then S.2.2.2.1 else if w = 1 then eOf S (-1) - sOf S (-1) else if w = 2 then S.2.1.length else if w = 3 then S.2.2.1.length else if w = 4 then S.1.length else if w = 5 then cnt (fun i => 0 < (wat S.1 i).2.2.2) 0 S.1.length else if w = 6 then cnt (fun k => vw S k (-1) ≠ 0) 0 100 else if w = 7 then smf (fun k => vw S k (-1)) 0 100 else S.2.2.2.2
def xAbout (A : AB) (w : Int) : Int × Int × AB := if ¬ (0 ≤ w ∧ w ≤ 8) then (1, 0, A) else (0, tld A.1 w, A)
theorem C_seenNow {h : HP} {x a cap : Nat} {A : AB} (e : CLS h x A) {S : SG} (s : STO h (x + 1) a cap S) {M : Int} (H : SOK S M) (hd : a + 8 ≤ x + 309) : WP (f_X7_seenNow h x a) (fun r => r.1 = zI (cnt (fun k => vw S k (-1) ≠ 0) 0 100) ∧ CLS r.2 x A ∧ OFF (x + 309) 2 h r.2) := by
  have g := CLS_g e
  obtain ⟨f, hf⟩ := e.2.2.2.2.2.2.2
  unfold f_X7_seenNow b_X7_seenNow_0
  refine wb g.1 ?_
  refine wb g.2.2.2.2.2.2.2 ?_
  refine wb (X3_latest_is s) ?_
  rw [← lim_m1 S]
  refine wpb (look_at hf s H (by omega) (-1)) ?_
  rintro h1 ⟨q1, q2⟩
  have e1 := CLS_vw e q2 q1
  refine wb (CLS_g e1).2.2.2.2.2.2.2 ?_
  have h5 := X5_seenIn_is q1 (fun k _ => vw_rng H k (-1)) (s := 0) (t := 99) (by omega) (by omega)
  refine wb h5 ?_
  exact wr ⟨rfl, e1, q2⟩
theorem C_about {h : HP} {x : Nat} {A : AB} (e : CLS h x A) {M : Int} (H : GOK A.1 M) {w : Int} (hw : -2147483648 ≤ w ∧ w < 2147483648) : WP (f_X7_about h x (zI w)) (CLR7 x (xAbout A w).2.2 [IAE] (xAbout A w).1 (xAbout A w).2.1 h) := by
  have g := CLS_g e
  have s := CLS_S e
  have hL := WRS_len (STO_w s).2.1
  unfold f_X7_about b_X7_about_0 xAbout tld
  simp only [zl0, zl1, zI_neg, show (2 : Int32) = zI 2 by decide, show (3 : Int32) = zI 3 by decide, show (4 : Int32) = zI 4 by decide, show (5 : Int32) = zI 5 by decide, show (6 : Int32) = zI 6 by decide, show (7 : Int32) = zI 7 by decide, show (8 : Int32) = zI 8 by decide]
  refine wb g.1 ?_
  by_cases c0 : w = 0
  · refine wt ((zI_inj (by omega)).mpr c0) ?_
    rw [if_neg (show ¬ ¬ (0 ≤ w ∧ w ≤ 8) by omega), if_pos c0]
    refine wb g.2.2.1 ?_
    refine wb (X3_latest_is s) ?_
    exact wr ⟨rfl, e, OFF_refl _ _ _⟩
  · refine wf (fun d => c0 ((zI_inj (by omega)).mp d)) ?_
    rw [if_neg c0]
    by_cases c1 : w = 1
    · refine wt ((zI_inj (by omega)).mpr c1) ?_
      rw [if_neg (show ¬ ¬ (0 ≤ w ∧ w ≤ 8) by omega), if_pos c1]
      refine wb g.2.2.1 ?_
      refine wb (X3_sizeOf_is s (i := -1) (by omega)) ?_
      exact wr ⟨rfl, e, OFF_refl _ _ _⟩
    · refine wf (fun d => c1 ((zI_inj (by omega)).mp d)) ?_
      rw [if_neg c1]
      by_cases c2 : w = 2
      · refine wt ((zI_inj (by omega)).mpr c2) ?_
        rw [if_neg (show ¬ ¬ (0 ≤ w ∧ w ≤ 8) by omega), if_pos c2]
        refine wb g.2.2.1 ?_
        refine wb (X3_runs_is s) ?_
        exact wr ⟨rfl, e, OFF_refl _ _ _⟩
      · refine wf (fun d => c2 ((zI_inj (by omega)).mp d)) ?_
        rw [if_neg c2]
        by_cases c3 : w = 3
        · refine wt ((zI_inj (by omega)).mpr c3) ?_
          rw [if_neg (show ¬ ¬ (0 ≤ w ∧ w ≤ 8) by omega), if_pos c3]
          refine wb g.2.2.1 ?_
          refine wb (X3_eyes_is s) ?_
          exact wr ⟨rfl, e, OFF_refl _ _ _⟩
        · refine wf (fun d => c3 ((zI_inj (by omega)).mp d)) ?_
          rw [if_neg c3]
          by_cases c4 : w = 4
          · refine wt ((zI_inj (by omega)).mpr c4) ?_
            rw [if_neg (show ¬ ¬ (0 ≤ w ∧ w ≤ 8) by omega), if_pos c4]
            refine wb g.2.2.1 ?_
            refine wb (X3_size_is s) ?_
            exact wr ⟨rfl, e, OFF_refl _ _ _⟩
          · refine wf (fun d => c4 ((zI_inj (by omega)).mp d)) ?_
            rw [if_neg c4]
            by_cases c5 : w = 5
            · refine wt ((zI_inj (by omega)).mpr c5) ?_
              rw [if_neg (show ¬ ¬ (0 ≤ w ∧ w ≤ 8) by omega), if_pos c5]
              refine wb g.2.2.1 ?_
              refine wb g.2.2.1 ?_
              refine wb (X3_size_is s) ?_
              have h5 := X3_entriesIn_is s H.1.1 (p := 0) (m := A.1.1.length) (by omega)
              rw [show 0 + A.1.1.length = A.1.1.length by omega] at h5
              refine wb h5 ?_
              exact wr ⟨rfl, e, OFF_refl _ _ _⟩
            · refine wf (fun d => c5 ((zI_inj (by omega)).mp d)) ?_
              rw [if_neg c5]
              by_cases c6 : w = 6
              · refine wt ((zI_inj (by omega)).mpr c6) ?_
                rw [if_neg (show ¬ ¬ (0 ≤ w ∧ w ≤ 8) by omega), if_pos c6]
                refine wb g.2.2.1 ?_
                refine wpb (C_seenNow e s H.1 (by omega)) ?_
                rintro ⟨y, h1⟩ ⟨q1, q2, q3⟩
                dsimp only at q1 q2 q3 ⊢
                subst q1
                exact wr ⟨rfl, q2, OFF_wide q3 (by omega)⟩
              · refine wf (fun d => c6 ((zI_inj (by omega)).mp d)) ?_
                rw [if_neg c6]
                by_cases c7 : w = 7
                · refine wt ((zI_inj (by omega)).mpr c7) ?_
                  rw [if_neg (show ¬ ¬ (0 ≤ w ∧ w ≤ 8) by omega), if_pos c7]
                  refine wb g.2.2.2.2.2.2.2 ?_
                  refine wb g.2.2.1 ?_
                  refine wb g.2.2.1 ?_
                  refine wb (X3_latest_is s) ?_
                  rw [← lim_m1 A.1]
                  refine wpb (C_look e H (-1)) ?_
                  rintro h1 ⟨q1, q2, q3⟩
                  refine wb (CLS_g q1).2.2.2.2.2.2.2 ?_
                  refine wb (X5_sum_is q2) ?_
                  exact wr ⟨rfl, q1, OFF_wide q3 (by omega)⟩
                · refine wf (fun d => c7 ((zI_inj (by omega)).mp d)) ?_
                  rw [if_neg c7]
                  by_cases c8 : w = 8
                  · refine wt ((zI_inj (by omega)).mpr c8) ?_
                    rw [if_neg (show ¬ ¬ (0 ≤ w ∧ w ≤ 8) by omega)]
                    refine wb g.2.2.1 ?_
                    refine wb (X3_fewer_is s) ?_
                    exact wr ⟨rfl, e, OFF_refl _ _ _⟩
                  · refine wf (fun d => c8 ((zI_inj (by omega)).mp d)) ?_
                    rw [if_pos (show ¬ (0 ≤ w ∧ w ≤ 8) by omega)]
                    exact wr ⟨rfl, e, OFF_refl _ _ _⟩
def xGet (A : AB) (k e : Int) : Int × Int × AB := if ¬ ((0 ≤ k ∧ k ≤ 99) ∧ -1 ≤ e ∧ e < A.1.2.2.1.length) then (1, 0, A) else (0, (if vw A.1 k e = 0 then -1 else vw A.1 k e), A)
theorem C_get {h : HP} {x : Nat} {A : AB} (e : CLS h x A) {M : Int} (H : GOK A.1 M) {k i : Int} (hk : -2147483648 ≤ k ∧ k < 2147483648) (hi : -2147483648 ≤ i ∧ i < 2147483648) : f_X7_get h x (zI k) (zI i) = some (EXC [IOB] (xGet A k i).1 (xGet A k i).2.1) := by
  have g := CLS_g e
  have s := CLS_S e
  have hM := H.1.2.2.2.2.2.1
  have hr := lim_rng (SOK_Y H.1) ⟨hM.1, hM.2.1⟩ i
  unfold f_X7_get b_X7_get_0 b_X7_get_18 xGet
  rw [g.1, Option.bind_some, X7_isKey_is h hk, Option.bind_some]
  by_cases c1 : 0 ≤ k ∧ k ≤ 99
  · rw [tB_1 c1, if_neg (by decide), g.2.2.1, Option.bind_some, X3_isView_is s hi, Option.bind_some]
    by_cases c2 : -1 ≤ i ∧ i < A.1.2.2.1.length
    · have hv := vw_rng H.1 k i
      have hvf : f_X3_valueFor h (x + 161) (zI k) (zI (lim A.1 i)) = some (zI (vw A.1 k i)) := X3_valueFor_is s H.1.1 (by omega) (by omega)
      rw [tB_1 c2, if_neg (by decide), if_neg (show ¬ ¬ ((0 ≤ k ∧ k ≤ 99) ∧ -1 ≤ i ∧ i < A.1.2.2.1.length) by omega), Option.bind_some, Option.bind_some, X3_limitOf_is s hi, Option.bind_some, hvf, Option.bind_some, zl0, zm1]
      by_cases c3 : vw A.1 k i = 0
      · rw [if_pos ((zI_inj (by omega)).mpr c3), if_pos c3]
        rfl
      · rw [if_neg (fun d => c3 ((zI_inj (by omega)).mp d)), if_neg c3]
        rfl
    · rw [tB_0 c2, if_pos rfl, if_pos (show ¬ ((0 ≤ k ∧ k ≤ 99) ∧ -1 ≤ i ∧ i < A.1.2.2.1.length) by omega)]
      rfl
  · rw [tB_0 c1, if_pos rfl, if_pos (show ¬ ((0 ≤ k ∧ k ≤ 99) ∧ -1 ≤ i ∧ i < A.1.2.2.1.length) by omega)]
    rfl
def xNext (A : AB) (k e : Int) : Int × Int × AB := if ¬ ((0 ≤ k ∧ k ≤ 99) ∧ -1 ≤ e ∧ e < A.1.2.2.1.length) then (1, 0, A) else (0, fst1 (fun q => vw A.1 q e ≠ 0) k.toNat (100 - k.toNat), A)
theorem C_next {h : HP} {x : Nat} {A : AB} (e : CLS h x A) {M : Int} (H : GOK A.1 M) {k i : Int} (hk : -2147483648 ≤ k ∧ k < 2147483648) (hi : -2147483648 ≤ i ∧ i < 2147483648) : WP (f_X7_next h x (zI k) (zI i)) (CLR7 x (xNext A k i).2.2 [IOB] (xNext A k i).1 (xNext A k i).2.1 h) := by
  have g := CLS_g e
  have s := CLS_S e
  unfold f_X7_next b_X7_next_0 b_X7_next_18 xNext
  refine wb g.1 ?_
  refine wb (X7_isKey_is h hk) ?_
  by_cases c1 : 0 ≤ k ∧ k ≤ 99
  · rw [tB_1 c1]
    refine wf (by decide) ?_
    refine wb g.2.2.1 ?_
    refine wb (X3_isView_is s hi) ?_
    by_cases c2 : -1 ≤ i ∧ i < A.1.2.2.1.length
    · rw [tB_1 c2, if_neg (show ¬ ¬ ((0 ≤ k ∧ k ≤ 99) ∧ -1 ≤ i ∧ i < A.1.2.2.1.length) by omega)]
      refine wf (by decide) ?_
      refine wb g.2.2.2.2.2.2.2 ?_
      refine wb g.2.2.1 ?_
      refine wb g.2.2.1 ?_
      refine wb (X3_limitOf_is s hi) ?_
      refine wpb (C_look e H i) ?_
      rintro h1 ⟨q1, q2, q3⟩
      refine wb (CLS_g q1).2.2.2.2.2.2.2 ?_
      refine wb (X5_firstSeen_is q2 (fun k _ => vw_rng H.1 k i) (s := k) (by omega)) ?_
      exact wr ⟨rfl, q1, OFF_wide q3 (by omega)⟩
    · rw [tB_0 c2, if_pos (show ¬ ((0 ≤ k ∧ k ≤ 99) ∧ -1 ≤ i ∧ i < A.1.2.2.1.length) by omega)]
      refine wt rfl ?_
      exact wr ⟨rfl, e, OFF_refl _ _ _⟩
  · rw [tB_0 c1, if_pos (show ¬ ((0 ≤ k ∧ k ≤ 99) ∧ -1 ≤ i ∧ i < A.1.2.2.1.length) by omega)]
    refine wt rfl ?_
    exact wr ⟨rfl, e, OFF_refl _ _ _⟩
def xCount (A : AB) (p q e : Int) : Int × Int × AB := if ¬ ((0 ≤ p ∧ p ≤ 99) ∧ (0 ≤ q ∧ q ≤ 99) ∧ -1 ≤ e ∧ e < A.1.2.2.1.length) then (1, 0, A) else if q < p then (2, 0, A) else (0, cnt (fun k => vw A.1 k e ≠ 0) p.toNat (q + 1 - p).toNat, A)
theorem C_count {h : HP} {x : Nat} {A : AB} (e : CLS h x A) {M : Int} (H : GOK A.1 M) {p q i : Int} (hp : -2147483648 ≤ p ∧ p < 2147483648) (hq : -2147483648 ≤ q ∧ q < 2147483648) (hi : -2147483648 ≤ i ∧ i < 2147483648) : WP (f_X7_count h x (zI p) (zI q) (zI i)) (CLR7 x (xCount A p q i).2.2 [IOB, IAE] (xCount A p q i).1 (xCount A p q i).2.1 h) := by
  have g := CLS_g e
  have s := CLS_S e
  unfold f_X7_count b_X7_count_0 b_X7_count_25 xCount
  refine wb g.1 ?_
  refine wb (X7_isKey_is h hp) ?_
  by_cases c1 : 0 ≤ p ∧ p ≤ 99
  · rw [tB_1 c1]
    refine wf (by decide) ?_
    refine wb (X7_isKey_is h hq) ?_
    by_cases c3 : 0 ≤ q ∧ q ≤ 99
    · rw [tB_1 c3]
      refine wf (by decide) ?_
      refine wb g.2.2.1 ?_
      refine wb (X3_isView_is s hi) ?_
      by_cases c2 : -1 ≤ i ∧ i < A.1.2.2.1.length
      · rw [tB_1 c2, if_neg (show ¬ ¬ ((0 ≤ p ∧ p ≤ 99) ∧ (0 ≤ q ∧ q ≤ 99) ∧ -1 ≤ i ∧ i < A.1.2.2.1.length) by omega)]
        refine wf (by decide) ?_
        by_cases c4 : p ≤ q
        · refine wt ((zI_le (by omega)).mpr c4) ?_
          rw [if_neg (show ¬ q < p by omega)]
          refine wb g.2.2.2.2.2.2.2 ?_
          refine wb g.2.2.1 ?_
          refine wb g.2.2.1 ?_
          refine wb (X3_limitOf_is s hi) ?_
          refine wpb (C_look e H i) ?_
          rintro h1 ⟨q1, q2, q3⟩
          refine wb (CLS_g q1).2.2.2.2.2.2.2 ?_
          refine wb (X5_seenIn_is q2 (fun k _ => vw_rng H.1 k i) (s := p) (t := q) (by omega) (by omega)) ?_
          exact wr ⟨rfl, q1, OFF_wide q3 (by omega)⟩
        · refine wf (fun d => c4 ((zI_le (by omega)).mp d)) ?_
          rw [if_pos (show q < p by omega)]
          exact wr ⟨rfl, e, OFF_refl _ _ _⟩
      · rw [tB_0 c2, if_pos (show ¬ ((0 ≤ p ∧ p ≤ 99) ∧ (0 ≤ q ∧ q ≤ 99) ∧ -1 ≤ i ∧ i < A.1.2.2.1.length) by omega)]
        refine wt rfl ?_
        exact wr ⟨rfl, e, OFF_refl _ _ _⟩
    · rw [tB_0 c3, if_pos (show ¬ ((0 ≤ p ∧ p ≤ 99) ∧ (0 ≤ q ∧ q ≤ 99) ∧ -1 ≤ i ∧ i < A.1.2.2.1.length) by omega)]
      refine wt rfl ?_
      exact wr ⟨rfl, e, OFF_refl _ _ _⟩
  · rw [tB_0 c1, if_pos (show ¬ ((0 ≤ p ∧ p ≤ 99) ∧ (0 ≤ q ∧ q ≤ 99) ∧ -1 ≤ i ∧ i < A.1.2.2.1.length) by omega)]
    refine wt rfl ?_
    exact wr ⟨rfl, e, OFF_refl _ _ _⟩
def kyB (ws : List WR) (p r : Nat) (k : Nat) : Bool := exB (fun i => wcB (wat ws i) k) p r
def rnV (S : SG) (i w : Int) : Int := if w = 0 then cnt (fun j => 0 < (wat S.1 j).2.2.2) (sOf S i).toNat (eOf S i - sOf S i).toNat else if w = 1 then (eOf S i - sOf S i) - cnt (fun j => 0 < (wat S.1 j).2.2.2) (sOf S i).toNat (eOf S i - sOf S i).toNat else if w = 2 then (if eOf S i - sOf S i = 0 then -1 else (wat S.1 (sOf S i)).1) else if w = 3 then (if eOf S i - sOf S i = 0 then -1 else (wat S.1 (eOf S i - 1)).1) else cnt (fun k => kyB S.1 (sOf S i).toNat (eOf S i - sOf S i).toNat k = true) 0 100
def fld (w : WR) (k : Int) : Int := if k = 0 then w.1 else if k = 1 then w.2.1 else if k = 2 then w.2.2.1 else w.2.2.2
def xWrite (A : AB) (i j w : Int) : Int × Int × AB := if ¬ (-1 ≤ i ∧ i < A.1.2.1.length) then (1, 0, A) else if j < 0 ∨ ¬ (0 ≤ w ∧ w ≤ 3) then (2, 0, A) else (0, (if j < eOf A.1 i - sOf A.1 i then fld (wat A.1.1 (sOf A.1 i + j)) w else -1), A)
theorem C_write {h : HP} {x : Nat} {A : AB} (e : CLS h x A) {M : Int} (H : GOK A.1 M) {i j w : Int} (hi : -2147483648 ≤ i ∧ i < 2147483648) (hj : -2147483648 ≤ j ∧ j < 2147483648) (hw : -2147483648 ≤ w ∧ w < 2147483648) : f_X7_write h x (zI i) (zI j) (zI w) = some (EXC [IOB, IAE] (xWrite A i j w).1 (xWrite A i j w).2.1) := by
  have g := CLS_g e
  have s := CLS_S e
  have hS := H.2
  unfold SML at hS
  have hE := H.1.2.2.2.2.2.2
  unfold f_X7_write b_X7_write_0 b_X7_write_34 xWrite
  rw [g.1, Option.bind_some, g.2.2.1, Option.bind_some, X3_isPlace_is s hi, Option.bind_some]
  by_cases c1 : -1 ≤ i ∧ i < A.1.2.1.length
  · have hp := plc hE (i := i) c1
    have h1 := X3_startOf_is s (i := i) (by omega)
    have h3 := X3_sizeOf_is s (i := i) (by omega)
    rw [tB_1 c1, if_neg (by decide), if_neg (show ¬ ¬ (-1 ≤ i ∧ i < A.1.2.1.length) by omega)]
    simp only [show (2 : Int32) = zI 2 by decide, show (3 : Int32) = zI 3 by decide, zl0, zl1, zI_neg]
    by_cases c2 : j < 0
    · rw [if_pos ((zI_lt (by omega)).mpr c2), if_pos (Or.inl c2)]
      rfl
    · rw [if_neg (fun d => c2 ((zI_lt (by omega)).mp d))]
      by_cases c3 : w < 0
      · rw [if_pos ((zI_lt (by omega)).mpr c3), if_pos (show j < 0 ∨ ¬ (0 ≤ w ∧ w ≤ 3) by omega)]
        rfl
      · rw [if_neg (fun d => c3 ((zI_lt (by omega)).mp d))]
        by_cases c4 : w ≤ 3
        · rw [if_pos ((zI_le (by omega)).mpr c4), if_neg (show ¬ (j < 0 ∨ ¬ (0 ≤ w ∧ w ≤ 3)) by omega), Option.bind_some, h3, Option.bind_some]
          by_cases c5 : j < eOf A.1 i - sOf A.1 i
          · rw [if_pos ((zI_lt (by omega)).mpr c5), if_pos c5, Option.bind_some, h1, Option.bind_some]
            unfold fld
            by_cases w0 : w = 0
            · rw [if_pos ((zI_inj (by omega)).mpr w0), if_pos w0, Option.bind_some, (STO_w s).1, Option.bind_some, zI_add, X6_numberAt_is (STO_w s).2.1 (by omega)]
              rfl
            · rw [if_neg (fun d => w0 ((zI_inj (by omega)).mp d)), if_neg w0]
              by_cases w1 : w = 1
              · rw [if_pos ((zI_inj (by omega)).mpr w1), if_pos w1, Option.bind_some, (STO_w s).1, Option.bind_some, zI_add, X6_firstAt_is (STO_w s).2.1 (by omega)]
                rfl
              · rw [if_neg (fun d => w1 ((zI_inj (by omega)).mp d)), if_neg w1]
                by_cases w2 : w = 2
                · rw [if_pos ((zI_inj (by omega)).mpr w2), if_pos w2, Option.bind_some, (STO_w s).1, Option.bind_some, zI_add, X6_lastAt_is (STO_w s).2.1 (by omega)]
                  rfl
                · rw [if_neg (fun d => w2 ((zI_inj (by omega)).mp d)), if_neg w2, Option.bind_some, (STO_w s).1, Option.bind_some, zI_add, X6_valueAt_is (STO_w s).2.1 (by omega)]
                  rfl
          · rw [if_neg (fun d => c5 ((zI_lt (by omega)).mp d)), if_neg c5]
            rfl
        · rw [if_neg (fun d => c4 ((zI_le (by omega)).mp d)), if_pos (show j < 0 ∨ ¬ (0 ≤ w ∧ w ≤ 3) by omega)]
          rfl
  · rw [tB_0 c1, if_pos rfl, if_pos c1]
    rfl
def lk (S : SG) (k i acc : Int) : Nat → Int
  | 0 => acc
  | n + 1 => if nfI S.1 k S.2.2.2.1 ≠ -1 ∧ sOf S i ≤ nfI S.1 k S.2.2.2.1 then acc + (if 0 < eOf S i - sOf S i then 1 else 0) else lk S k (i + 1) (acc + (if 0 < eOf S i - sOf S i then 1 else 0)) n
theorem lk_succ (S : SG) (k i acc : Int) (n : Nat) : lk S k i acc (n + 1) = if nfI S.1 k S.2.2.2.1 ≠ -1 ∧ sOf S i ≤ nfI S.1 k S.2.2.2.1 then acc + (if 0 < eOf S i - sOf S i then 1 else 0) else lk S k (i + 1) (acc + (if 0 < eOf S i - sOf S i then 1 else 0)) n := rfl
def xLooks (A : AB) (k : Int) : Int × Int × AB := if ¬ (0 ≤ k ∧ k ≤ 99) then (1, 0, A) else (0, lk A.1 k (-1) 0 (A.1.2.1.length + 1), A)
theorem looks_loop {h : HP} {x : Nat} {A : AB} (e : CLS h x A) {M : Int} (H : GOK A.1 M) (k : Int) : ∀ (d n : Nat) (i acc : Int), d < n → i + d = A.1.2.1.length → -1 ≤ i → b_X7_looks_38 h x n (zI (nfI A.1.1 k A.1.2.2.2.1)) (zI acc) (zI i) = some (.inl (zI (lk A.1 k i acc d))) := by
  have g := CLS_g e
  have s := CLS_S e
  have hS := H.2
  unfold SML at hS
  have hE := H.1.2.2.2.2.2.2
  have hn := nfI_rng A.1.1 k A.1.2.2.2.1
  intro d
  induction d with
  | zero =>
    intro n i acc hn hi hi1
    obtain ⟨n, rfl⟩ : ∃ k, n = k + 1 := ⟨n - 1, by omega⟩
    unfold b_X7_looks_38 c_X7_looks_38
    rw [g.2.2.1, Option.bind_some, X3_runs_is s, Option.bind_some, if_pos ((zI_le (by omega)).mpr (by omega))]
    rfl
  | succ d ih =>
    intro n i acc hn' hi hi1
    obtain ⟨n, rfl⟩ : ∃ k, n = k + 1 := ⟨n - 1, by omega⟩
    have hp := plc hE (i := i) (by omega)
    have hI := fun acc' => ih n (i + 1) acc' (by omega) (by omega) (by omega)
    have f65 : ∀ acc' : Int, b_X7_looks_65 h x (b_X7_looks_38 h x n) (zI (nfI A.1.1 k A.1.2.2.2.1)) (zI acc') (zI i) = some (.inl (zI (if nfI A.1.1 k A.1.2.2.2.1 ≠ -1 ∧ sOf A.1 i ≤ nfI A.1.1 k A.1.2.2.2.1 then acc' else lk A.1 k (i + 1) acc' d))) := by
      intro acc'
      unfold b_X7_looks_65
      rw [show zI i + 1 = zI (i + 1) by rw [zl1, zI_add], hI acc', zm1]
      by_cases c1 : nfI A.1.1 k A.1.2.2.2.1 = -1
      · rw [if_pos ((zI_inj (by omega)).mpr c1), if_neg (fun d => d.1 c1)]
      · rw [if_neg (fun d => c1 ((zI_inj (by omega)).mp d)), g.2.2.1, Option.bind_some, X3_startOf_is s (i := i) (by omega), Option.bind_some]
        by_cases c2 : nfI A.1.1 k A.1.2.2.2.1 < sOf A.1 i
        · rw [if_pos ((zI_lt (by omega)).mpr c2), if_neg (fun d => absurd d.2 (by omega))]
        · rw [if_neg (fun d => c2 ((zI_lt (by omega)).mp d)), if_pos ⟨c1, by omega⟩]
    unfold b_X7_looks_38 c_X7_looks_38
    rw [g.2.2.1, Option.bind_some, X3_runs_is s, Option.bind_some, if_neg (fun d => absurd ((zI_le (by omega)).mp d) (by omega)), Option.bind_some, X3_sizeOf_is s (i := i) (by omega), Option.bind_some, zl0, zl1, zI_add, f65, f65, lk_succ]
    by_cases c : 0 < eOf A.1 i - sOf A.1 i
    · rw [if_neg (fun d => absurd ((zI_le (by omega)).mp d) (by omega)), if_pos c]
    · rw [if_pos ((zI_le (by omega)).mpr (by omega)), if_neg c, Int.add_zero]
theorem C_looks {h : HP} {x : Nat} {A : AB} (e : CLS h x A) {M : Int} (H : GOK A.1 M) {k : Int} (hk : -2147483648 ≤ k ∧ k < 2147483648) : f_X7_looks h x (zI k) = some (EXC [IOB] (xLooks A k).1 (xLooks A k).2.1) := by
  have g := CLS_g e
  have s := CLS_S e
  have hS := H.2
  unfold SML at hS
  have hM := H.1.2.2.2.2.2.1
  unfold f_X7_looks b_X7_looks_0 xLooks
  rw [g.1, Option.bind_some, X7_isKey_is h hk, Option.bind_some]
  by_cases c1 : 0 ≤ k ∧ k ≤ 99
  · rw [tB_1 c1, if_neg (by decide), if_neg (show ¬ ¬ (0 ≤ k ∧ k ≤ 99) by omega), g.2.2.1, Option.bind_some, Option.bind_some, X3_latest_is s, Option.bind_some, X3_newestFor_is s H.1.1 (by omega) (by omega), Option.bind_some, zm1, zl0, looks_loop e H k (A.1.2.1.length + 1) FU (-1) 0 (by unfold FU; omega) (by omega) (by omega)]
    rfl
  · rw [tB_0 c1, if_pos rfl, if_pos c1]
    rfl
def hidN (S : SG) : Int := cnt (fun j => 0 < (wat S.1 j).2.2.2 ∧ ¬ ∃ q : Nat, q < S.2.2.1.length + 1 ∧ nfI S.1 (wat S.1 j).2.1 (lim S ((q : Int) - 1)) = j) 0 S.1.length
theorem hidden_loop {h : HP} {x : Nat} {A : AB} (e : CLS h x A) {M : Int} (H : GOK A.1 M) : ∀ (r n : Nat) (acc : Int) (j : Nat), r < n → j + r = A.1.1.length → b_X7_hidden_4 h x n (zI acc) (zI j) = some (zI (acc + cnt (fun j => 0 < (wat A.1.1 j).2.2.2 ∧ ¬ ∃ q : Nat, q < A.1.2.2.1.length + 1 ∧ nfI A.1.1 (wat A.1.1 j).2.1 (lim A.1 ((q : Int) - 1)) = j) j r)) := by
  have g := CLS_g e
  have s := CLS_S e
  have hS := H.2
  unfold SML at hS
  have hM := H.1.2.2.2.2.2.1
  intro r
  induction r with
  | zero =>
    intro n acc j hn hj
    obtain ⟨n, rfl⟩ : ∃ k, n = k + 1 := ⟨n - 1, by omega⟩
    unfold b_X7_hidden_4 c_X7_hidden_4
    rw [g.2.2.1, Option.bind_some, X3_size_is s, Option.bind_some, if_pos ((zI_le (by omega)).mpr (by omega))]
    unfold cnt
    rw [Int.add_zero]
  | succ r ih =>
    intro n acc j hn hj
    obtain ⟨n, rfl⟩ : ∃ k, n = k + 1 := ⟨n - 1, by omega⟩
    have h1 := ih n (acc + 1) (j + 1) (by omega) (by omega)
    have h0 := ih n acc (j + 1) (by omega) (by omega)
    rw [cast1] at h1 h0
    unfold b_X7_hidden_4 c_X7_hidden_4
    rw [g.2.2.1, Option.bind_some, X3_size_is s, Option.bind_some, if_neg (fun d => absurd ((zI_le (by omega)).mp d) (by omega)), Option.bind_some, (STO_w s).1, Option.bind_some, X6_isEntry_is (STO_w s).2.1 (by omega) (WSOK_v H.1.1), Option.bind_some, zl1, zI_add, zI_add, h1, h0, cnt_succ]
    by_cases c1 : 0 < (wat A.1.1 j).2.2.2
    · rw [tB_1 c1, if_neg (by decide), Option.bind_some, X3_isSeen_is s H.1.1 (SOK_Y H.1) ⟨hM.1, hM.2.1⟩ hM.2.2 (j := j) (by omega), Option.bind_some]
      by_cases c2 : ∃ q : Nat, q < A.1.2.2.1.length + 1 ∧ nfI A.1.1 (wat A.1.1 j).2.1 (lim A.1 ((q : Int) - 1)) = j
      · rw [tB_1 c2, if_neg (by decide), if_neg (fun d => d.2 c2), Int.zero_add]
      · rw [tB_0 c2, if_pos rfl, if_pos ⟨c1, c2⟩, Int.add_assoc]
    · rw [tB_0 c1, if_pos rfl, if_neg (fun d => c1 d.1), Int.zero_add]
theorem C_hidden {h : HP} {x : Nat} {A : AB} (e : CLS h x A) {M : Int} (H : GOK A.1 M) : f_X7_hidden h x = some (zI (hidN A.1)) := by
  have g := CLS_g e
  have hS := H.2
  unfold SML at hS
  unfold f_X7_hidden b_X7_hidden_0 hidN
  rw [g.1, Option.bind_some, zl0]
  have h1 := hidden_loop e H A.1.1.length FU 0 0 (by unfold FU; omega) (by omega)
  rw [Int.zero_add] at h1
  exact h1
theorem C_rem {h : HP} {x : Nat} {A : AB} (e : CLS h x A) (h48 : A.1.1.length ≤ 48) : WP (f_X1_remember h (x + 177) (x + 161)) (fun h' => CLS h' x (A.1, push A.2.1 A.1, A.2.2) ∧ OFF (x + 177) 114 h h') := by
  refine wm (X1_remember_is e.2.2.2.2.2.1 (CLS_S e) h48 (by omega)) ?_
  rintro h1 ⟨q1, q2⟩
  exact ⟨CLS_hi e q2 q1, q2⟩
def xPut (A : AB) (k v : Int) : Int × Int × AB := if putF A.1 k v ≠ 0 then (putF A.1 k v, 0, A) else (0, A.1.2.2.2.1 + 1, wadd A.1 k k v, push A.2.1 A.1, A.2.2)
theorem putF_rng (S : SG) (k v : Int) : 0 ≤ putF S k v ∧ putF S k v ≤ 3 := by
  unfold putF
  split
  · omega
  · split
    · omega
    · split <;> omega
theorem buryF_rng (S : SG) (k v : Int) : 0 ≤ buryF S k v ∧ buryF S k v ≤ 3 := by
  unfold buryF
  split
  · omega
  · split
    · omega
    · split <;> omega
theorem flF_rng (S : SG) : 0 ≤ flF S ∧ flF S ≤ 1 := by
  unfold flF
  split
  · omega
  · split <;> omega
theorem mgF_rng (S : SG) (i : Int) : 0 ≤ mgF S i ∧ mgF S i ≤ 2 := by
  unfold mgF
  split
  · omega
  · split
    · omega
    · split <;> omega
theorem C_put {h : HP} {x : Nat} {A : AB} (e : CLS h x A) {M : Int} (H : GOK A.1 M) {k v : Int} (hk : -2147483648 ≤ k ∧ k < 2147483648) (hv : -2147483648 ≤ v ∧ v < 2147483648) : WP (f_X7_put h x (zI k) (zI v)) (CLR7 x (xPut A k v).2.2 [IOB, IAE, ISE] (xPut A k v).1 (xPut A k v).2.1 h) := by
  have g := CLS_g e
  have s := CLS_S e
  have hS := H.2
  unfold SML at hS
  unfold f_X7_put b_X7_put_0 xPut
  refine wb g.1 ?_
  refine wb (X7_isKey_is h hk) ?_
  by_cases c1 : 0 ≤ k ∧ k ≤ 99
  · rw [tB_1 c1]
    refine wf (by decide) ?_
    refine wb (X7_isValue_is h hv) ?_
    by_cases c2 : 1 ≤ v ∧ v ≤ 999
    · rw [tB_1 c2]
      refine wf (by decide) ?_
      refine wb g.2.2.1 ?_
      refine wb (X3_isFull_is s) ?_
      by_cases c3 : 48 ≤ A.1.1.length
      · have hF : putF A.1 k v = 3 := by
          unfold putF
          rw [if_neg (show ¬ ¬ (0 ≤ k ∧ k ≤ 99) by omega), if_neg (show ¬ ¬ (1 ≤ v ∧ v ≤ 999) by omega), if_pos (by omega)]
        rw [tB_1 c3, hF]
        refine wf (by decide) ?_
        exact wr ⟨rfl, e, OFF_refl _ _ _⟩
      · have hF : putF A.1 k v = 0 := by
          unfold putF
          rw [if_neg (show ¬ ¬ (0 ≤ k ∧ k ≤ 99) by omega), if_neg (show ¬ ¬ (1 ≤ v ∧ v ≤ 999) by omega), if_neg (by omega)]
        rw [tB_0 c3, hF, if_neg (show ¬ ((0 : Int) ≠ 0) by omega)]
        refine wt rfl ?_
        refine wb g.2.2.2.2.1 ?_
        refine wb g.2.2.1 ?_
        refine wpb (C_rem e hS.1) ?_
        rintro h1 ⟨q1, q2⟩
        refine wb (CLS_g q1).2.2.1 ?_
        refine wpb (X3_addWrite_is (CLS_S q1) k k v (by dsimp only; omega)) ?_
        rintro h2 ⟨q3, q4⟩
        have e2 := CLS_st q1 (FR_c q4 (by omega)) (CLN_off q1.2.1 q4 (by omega)) q3
        refine wb (CLS_g e2).2.2.1 ?_
        refine wb (X3_latest_is q3) ?_
        exact wr ⟨rfl, e2, OFF_trans (OFF_wide q2 (by omega)) (OFF_wide q4 (by omega))⟩
    · have hF : putF A.1 k v = 2 := by
        unfold putF
        rw [if_neg (show ¬ ¬ (0 ≤ k ∧ k ≤ 99) by omega), if_pos c2]
      rw [tB_0 c2, hF]
      refine wt rfl ?_
      exact wr ⟨rfl, e, OFF_refl _ _ _⟩
  · have hF : putF A.1 k v = 1 := by
      unfold putF
      rw [if_pos c1]
    rw [tB_0 c1, hF]
    refine wt rfl ?_
    exact wr ⟨rfl, e, OFF_refl _ _ _⟩
