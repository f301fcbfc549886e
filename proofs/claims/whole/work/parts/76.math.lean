/-! the calls that tell what there is: about, get, eye, write, next, count, grave -/
theorem hold_fail {h : HP} {m : Nat} {v : Nat → Int32} {A : AB} (e : RFV h m v A) {c y : Int} (hc : c ≠ 0 ∧ -1000 < c ∧ c < 1000) {F : Int32 × HP → Option (Int32 × HP)} {x : Int32} (hx : x = zI c) : WP ((f_X8_holds h m x).bind fun y1 => if y1.1 = 0 then some ((0 : Int32), y1.2) else F y1) (RFR m A c y h) := by
  subst hx
  refine wpb (X8_holds_is e hc.2) ?_
  rintro ⟨z, h1⟩ ⟨q1, q2, q3⟩
  dsimp only at q1 q2 q3 ⊢
  subst q1
  rw [tB_0 hc.1]
  refine wt rfl ?_
  exact wr ⟨⟨_, q2, upd_eq rfl⟩, fun d => absurd d hc.1, OFF_wide q3 (by omega)⟩
theorem lim_m1 (S : SG) : lim S (-1) = S.2.2.2.1 := by
  unfold lim
  rw [if_neg (by omega)]
theorem look_at {h : HP} {x a cap : Nat} {S : SG} {f : Nat → Int} (v : VIEW h (x + 309) f) (s : STO h (x + 1) a cap S) {M : Int} (H : SOK S M) (hd : x + 311 ≤ a ∨ a + 8 ≤ x + 309) (e : Int) : WP (f_X5_look h (x + 309) a (zI (lim S e))) (fun h' => VIEW h' (x + 309) (fun k => vw S k e) ∧ OFF (x + 309) 2 h h') := by
  have hr := lim_rng (SOK_Y H) (show 0 ≤ S.2.2.2.1 ∧ S.2.2.2.1 ≤ M from ⟨H.2.2.2.2.2.1.1, H.2.2.2.2.2.1.2.1⟩) e
  have hM := H.2.2.2.2.2.1
  exact X5_look_is v s H.1 (ORD_N H.2.1) (by omega) (by omega)
theorem vw_rng {S : SG} {M : Int} (H : SOK S M) (k e : Int) : 0 ≤ vw S k e ∧ vw S k e < 1000 := wat_v H.1 _
theorem C_look {h : HP} {x : Nat} {A : AB} (e : CLS h x A) {M : Int} (H : GOK A.1 M) (i : Int) : WP (f_X5_look h (x + 309) (x + 161) (zI (lim A.1 i))) (fun h' => CLS h' x A ∧ VIEW h' (x + 309) (fun k => vw A.1 k i) ∧ OFF (x + 309) 2 h h') := by
  obtain ⟨f, hf⟩ := e.2.2.2.2.2.2.2
  refine wm (look_at hf (CLS_S e) H.1 (by omega) i) ?_
  rintro h1 ⟨q1, q2⟩
  exact ⟨CLS_vw e q2 q1, q1, q2⟩
def tld (S : SG) (w : Int) : Int := if w = 0 then S.2.2.2.1 else if w = 1 then eOf S (-1) - sOf S (-1) else if w = 2 then S.2.1.length else if w = 3 then S.2.2.1.length else if w = 4 then S.1.length else if w = 5 then cnt (fun i => 0 < (wat S.1 i).2.2.2) 0 S.1.length else if w = 6 then cnt (fun k => vw S k (-1) ≠ 0) 0 100 else if w = 7 then smf (fun k => vw S k (-1)) 0 100 else S.2.2.2.2
def xAbout (A : AB) (w : Int) : Int × Int × AB := if ¬ (0 ≤ w ∧ w ≤ 8) then (1, 0, A) else (0, tld A.1 w, A)
theorem C_seenNow {h : HP} {x a cap : Nat} {A : AB} (e : CLS h x A) {S : SG} (s : STO h (x + 1) a cap S) {M : Int} (H : SOK S M) (hd : a + 8 ≤ x + 309) : WP (f_X7_seenNow h x a) (fun r => r.1 = zI (cnt (fun k => vw S k (-1) ≠ 0) 0 100) ∧ CLS r.2 x A ∧ OFF (x + 309) 2 h r.2) := by
  have g := CLS_g e
  obtain ⟨f, hf⟩ := e.2.2.2.2.2.2.2
  unfold f_X7_seenNow b_X7_seenNow_0
  refine wb g.1 ?_
  refine wb g.2.2.2.2.2.2.2 ?_
  refine wb (X3_latest_is s) ?_
  rw [← lim_m1 S]
  refine wpb (look_at hf s H (by omega) (-1)) ?_
  rintro h1 ⟨q1, q2⟩
  have e1 := CLS_vw e q2 q1
  refine wb (CLS_g e1).2.2.2.2.2.2.2 ?_
  have h5 := X5_seenIn_is q1 (fun k _ => vw_rng H k (-1)) (s := 0) (t := 99) (by omega) (by omega)
  refine wb h5 ?_
  exact wr ⟨rfl, e1, q2⟩
theorem C_about {h : HP} {x : Nat} {A : AB} (e : CLS h x A) {M : Int} (H : GOK A.1 M) {w : Int} (hw : -2147483648 ≤ w ∧ w < 2147483648) : WP (f_X7_about h x (zI w)) (CLR7 x (xAbout A w).2.2 [IAE] (xAbout A w).1 (xAbout A w).2.1 h) := by
  have g := CLS_g e
  have s := CLS_S e
  have hL := WRS_len (STO_w s).2.1
  unfold f_X7_about b_X7_about_0 xAbout tld
  simp only [zl0, zl1, zI_neg, show (2 : Int32) = zI 2 by decide, show (3 : Int32) = zI 3 by decide, show (4 : Int32) = zI 4 by decide, show (5 : Int32) = zI 5 by decide, show (6 : Int32) = zI 6 by decide, show (7 : Int32) = zI 7 by decide, show (8 : Int32) = zI 8 by decide]
  refine wb g.1 ?_
  by_cases c0 : w = 0
  · refine wt ((zI_inj (by omega)).mpr c0) ?_
    rw [if_neg (show ¬ ¬ (0 ≤ w ∧ w ≤ 8) by omega), if_pos c0]
    refine wb g.2.2.1 ?_
    refine wb (X3_latest_is s) ?_
    exact wr ⟨rfl, e, OFF_refl _ _ _⟩
  · refine wf (fun d => c0 ((zI_inj (by omega)).mp d)) ?_
    rw [if_neg c0]
    by_cases c1 : w = 1
    · refine wt ((zI_inj (by omega)).mpr c1) ?_
      rw [if_neg (show ¬ ¬ (0 ≤ w ∧ w ≤ 8) by omega), if_pos c1]
      refine wb g.2.2.1 ?_
      refine wb (X3_sizeOf_is s (i := -1) (by omega)) ?_
      exact wr ⟨rfl, e, OFF_refl _ _ _⟩
    · refine wf (fun d => c1 ((zI_inj (by omega)).mp d)) ?_
      rw [if_neg c1]
      by_cases c2 : w = 2
      · refine wt ((zI_inj (by omega)).mpr c2) ?_
        rw [if_neg (show ¬ ¬ (0 ≤ w ∧ w ≤ 8) by omega), if_pos c2]
        refine wb g.2.2.1 ?_
        refine wb (X3_runs_is s) ?_
        exact wr ⟨rfl, e, OFF_refl _ _ _⟩
      · refine wf (fun d => c2 ((zI_inj (by omega)).mp d)) ?_
        rw [if_neg c2]
        by_cases c3 : w = 3
        · refine wt ((zI_inj (by omega)).mpr c3) ?_
          rw [if_neg (show ¬ ¬ (0 ≤ w ∧ w ≤ 8) by omega), if_pos c3]
          refine wb g.2.2.1 ?_
          refine wb (X3_eyes_is s) ?_
          exact wr ⟨rfl, e, OFF_refl _ _ _⟩
        · refine wf (fun d => c3 ((zI_inj (by omega)).mp d)) ?_
          rw [if_neg c3]
          by_cases c4 : w = 4
          · refine wt ((zI_inj (by omega)).mpr c4) ?_
            rw [if_neg (show ¬ ¬ (0 ≤ w ∧ w ≤ 8) by omega), if_pos c4]
            refine wb g.2.2.1 ?_
            refine wb (X3_size_is s) ?_
            exact wr ⟨rfl, e, OFF_refl _ _ _⟩
          · refine wf (fun d => c4 ((zI_inj (by omega)).mp d)) ?_
            rw [if_neg c4]
            by_cases c5 : w = 5
            · refine wt ((zI_inj (by omega)).mpr c5) ?_
              rw [if_neg (show ¬ ¬ (0 ≤ w ∧ w ≤ 8) by omega), if_pos c5]
              refine wb g.2.2.1 ?_
              refine wb g.2.2.1 ?_
              refine wb (X3_size_is s) ?_
              have h5 := X3_entriesIn_is s H.1.1 (p := 0) (m := A.1.1.length) (by omega)
              rw [show 0 + A.1.1.length = A.1.1.length by omega] at h5
              refine wb h5 ?_
              exact wr ⟨rfl, e, OFF_refl _ _ _⟩
            · refine wf (fun d => c5 ((zI_inj (by omega)).mp d)) ?_
              rw [if_neg c5]
              by_cases c6 : w = 6
              · refine wt ((zI_inj (by omega)).mpr c6) ?_
                rw [if_neg (show ¬ ¬ (0 ≤ w ∧ w ≤ 8) by omega), if_pos c6]
                refine wb g.2.2.1 ?_
                refine wpb (C_seenNow e s H.1 (by omega)) ?_
                rintro ⟨y, h1⟩ ⟨q1, q2, q3⟩
                dsimp only at q1 q2 q3 ⊢
                subst q1
                exact wr ⟨rfl, q2, OFF_wide q3 (by omega)⟩
              · refine wf (fun d => c6 ((zI_inj (by omega)).mp d)) ?_
                rw [if_neg c6]
                by_cases c7 : w = 7
                · refine wt ((zI_inj (by omega)).mpr c7) ?_
                  rw [if_neg (show ¬ ¬ (0 ≤ w ∧ w ≤ 8) by omega), if_pos c7]
                  refine wb g.2.2.2.2.2.2.2 ?_
                  refine wb g.2.2.1 ?_
                  refine wb g.2.2.1 ?_
                  refine wb (X3_latest_is s) ?_
                  rw [← lim_m1 A.1]
                  refine wpb (C_look e H (-1)) ?_
                  rintro h1 ⟨q1, q2, q3⟩
                  refine wb (CLS_g q1).2.2.2.2.2.2.2 ?_
                  refine wb (X5_sum_is q2) ?_
                  exact wr ⟨rfl, q1, OFF_wide q3 (by omega)⟩
                · refine wf (fun d => c7 ((zI_inj (by omega)).mp d)) ?_
                  rw [if_neg c7]
                  by_cases c8 : w = 8
                  · refine wt ((zI_inj (by omega)).mpr c8) ?_
                    rw [if_neg (show ¬ ¬ (0 ≤ w ∧ w ≤ 8) by omega)]
                    refine wb g.2.2.1 ?_
                    refine wb (X3_fewer_is s) ?_
                    exact wr ⟨rfl, e, OFF_refl _ _ _⟩
                  · refine wf (fun d => c8 ((zI_inj (by omega)).mp d)) ?_
                    rw [if_pos (show ¬ (0 ≤ w ∧ w ≤ 8) by omega)]
                    exact wr ⟨rfl, e, OFF_refl _ _ _⟩
theorem X8_told_is {h : HP} {m : Nat} {S : SG} (e : REF h m S) {M : Int} (H : GOK S M) {w : Int} (hw : -2147483648 ≤ w ∧ w < 2147483648) : f_X8_told h m (zI w) = some (zI (tld S w)) := by
  have hM := H.1.2.2.2.2.2.1
  have e2 := e
  obtain ⟨v, f, k0, k1, ⟨b, u0, u1, u2, u3, u4, u5, u6, u7⟩⟩ := e2
  unfold f_X8_told b_X8_told_0 tld
  simp only [zl0, zl1, zI_neg, show (2 : Int32) = zI 2 by decide, show (3 : Int32) = zI 3 by decide, show (4 : Int32) = zI 4 by decide, show (5 : Int32) = zI 5 by decide, show (6 : Int32) = zI 6 by decide, show (7 : Int32) = zI 7 by decide, show (10 : Int32) = zI 10 by decide, show (11 : Int32) = zI 11 by decide, show (99 : Int32) = zI 99 by decide]
  rw [kO_e k0, Option.bind_some]
  by_cases c0 : w = 0
  · rw [if_pos ((zI_inj (by omega)).mpr c0), if_pos c0, gR_e k0 rfl, Option.bind_some, aI_v k1 (z := 10) (by omega) u5]
    rfl
  · rw [if_neg (fun d => c0 ((zI_inj (by omega)).mp d)), if_neg c0]
    by_cases c1 : w = 1
    · rw [if_pos ((zI_inj (by omega)).mpr c1), if_pos c1, gR_e k0 rfl, Option.bind_some, aI_v k1 (z := 6) (by omega) u2]
      rfl
    · rw [if_neg (fun d => c1 ((zI_inj (by omega)).mp d)), if_neg c1]
      by_cases c2 : w = 2
      · rw [if_pos ((zI_inj (by omega)).mpr c2), if_pos c2, gR_e k0 rfl, Option.bind_some, aI_v k1 (z := 0) (by omega) u0]
        rfl
      · rw [if_neg (fun d => c2 ((zI_inj (by omega)).mp d)), if_neg c2]
        by_cases c3 : w = 3
        · rw [if_pos ((zI_inj (by omega)).mpr c3), if_pos c3, gR_e k0 rfl, Option.bind_some, aI_v k1 (z := 7) (by omega) u3]
          rfl
        · rw [if_neg (fun d => c3 ((zI_inj (by omega)).mp d)), if_neg c3]
          by_cases c4 : w = 4
          · rw [if_pos ((zI_inj (by omega)).mpr c4), if_pos c4, X8_all_is e]
            rfl
          · rw [if_neg (fun d => c4 ((zI_inj (by omega)).mp d)), if_neg c4]
            by_cases c5 : w = 5
            · have h5 := X8_kinds_is e H.1.1 (p := 0) (r := S.1.length) (by omega) true
              rw [tB_1 (p := true = true) rfl, show 0 + S.1.length = S.1.length by omega] at h5
              rw [if_pos ((zI_inj (by omega)).mpr c5), if_pos c5, X8_all_is e, Option.bind_some, show f_X8_kinds h m (zI 0) (zI S.1.length) (zI 1) = f_X8_kinds h m (zI (0 : Nat)) (zI S.1.length) 1 from rfl, h5, Option.bind_some]
              exact congrArg some (congrArg zI (cnt_c fun i _ _ => ⟨fun d => d.mpr rfl, fun d => ⟨fun _ => rfl, fun _ => d⟩⟩))
            · rw [if_neg (fun d => c5 ((zI_inj (by omega)).mp d)), if_neg c5]
              by_cases c6 : w = 6
              · rw [if_pos ((zI_inj (by omega)).mpr c6), if_pos c6, X8_countSeen_is e H.1.1 H.1.2.1 (SOK_Y H.1) ⟨hM.1, hM.2.1⟩ hM.2.2 (by omega) (by omega) (by omega)]
                rfl
              · rw [if_neg (fun d => c6 ((zI_inj (by omega)).mp d)), if_neg c6]
                by_cases c7 : w = 7
                · rw [if_pos ((zI_inj (by omega)).mpr c7), if_pos c7, X8_sumSeen_is e H.1.1 H.1.2.1 (SOK_Y H.1) ⟨hM.1, hM.2.1⟩ hM.2.2]
                  rfl
                · rw [if_neg (fun d => c7 ((zI_inj (by omega)).mp d)), if_neg c7, gR_e k0 rfl, Option.bind_some, aI_v k1 (z := 11) (by omega) u6]
                  rfl
theorem R_about {h : HP} {m : Nat} {v : Nat → Int32} {A : AB} (e : RFV h m v A) {M : Int} (H : GOK A.1 M) {w : Int} (hw : -2147483648 ≤ w ∧ w < 2147483648) : WP (f_X8_about h m (zI w)) (RFR m (xAbout A w).2.2 (xAbout A w).1 (xAbout A w).2.1 h) := by
  unfold f_X8_about b_X8_about_0 b_X8_about_16 xAbout
  refine wb (kO_e e.1) ?_
  rw [show f_X8_in h (zI w) 0 8 = f_X8_in h (zI w) (zI 0) (zI 8) from rfl]
  refine wb (X8_in_is h hw (by omega) (by omega)) ?_
  by_cases c : 0 ≤ w ∧ w ≤ 8
  · rw [tB_1 c, if_neg (show ¬ ¬ (0 ≤ w ∧ w ≤ 8) by omega)]
    refine wf (by decide) ?_
    exact hold_read e (c := 0) (by omega) (fun _ h' w' e' => X8_told_is e'.2.1 H hw) rfl
  · rw [tB_0 c, if_pos c]
    refine wt rfl ?_
    exact hold_fail e (c := 1) (by omega) rfl
def xGet (A : AB) (k e : Int) : Int × Int × AB := if ¬ ((0 ≤ k ∧ k ≤ 99) ∧ -1 ≤ e ∧ e < A.1.2.2.1.length) then (1, 0, A) else (0, (if vw A.1 k e = 0 then -1 else vw A.1 k e), A)
theorem C_get {h : HP} {x : Nat} {A : AB} (e : CLS h x A) {M : Int} (H : GOK A.1 M) {k i : Int} (hk : -2147483648 ≤ k ∧ k < 2147483648) (hi : -2147483648 ≤ i ∧ i < 2147483648) : f_X7_get h x (zI k) (zI i) = some (EXC [IOB] (xGet A k i).1 (xGet A k i).2.1) := by
  have g := CLS_g e
  have s := CLS_S e
  have hM := H.1.2.2.2.2.2.1
  have hr := lim_rng (SOK_Y H.1) ⟨hM.1, hM.2.1⟩ i
  unfold f_X7_get b_X7_get_0 b_X7_get_18 xGet
  rw [g.1, Option.bind_some, X7_isKey_is h hk, Option.bind_some]
  by_cases c1 : 0 ≤ k ∧ k ≤ 99
  · rw [tB_1 c1, if_neg (by decide), g.2.2.1, Option.bind_some, X3_isView_is s hi, Option.bind_some]
    by_cases c2 : -1 ≤ i ∧ i < A.1.2.2.1.length
    · have hv := vw_rng H.1 k i
      have hvf : f_X3_valueFor h (x + 161) (zI k) (zI (lim A.1 i)) = some (zI (vw A.1 k i)) := X3_valueFor_is s H.1.1 (by omega) (by omega)
      rw [tB_1 c2, if_neg (by decide), if_neg (show ¬ ¬ ((0 ≤ k ∧ k ≤ 99) ∧ -1 ≤ i ∧ i < A.1.2.2.1.length) by omega), Option.bind_some, Option.bind_some, X3_limitOf_is s hi, Option.bind_some, hvf, Option.bind_some, zl0, zm1]
      by_cases c3 : vw A.1 k i = 0
      · rw [if_pos ((zI_inj (by omega)).mpr c3), if_pos c3]
        rfl
      · rw [if_neg (fun d => c3 ((zI_inj (by omega)).mp d)), if_neg c3]
        rfl
    · rw [tB_0 c2, if_pos rfl, if_pos (show ¬ ((0 ≤ k ∧ k ≤ 99) ∧ -1 ≤ i ∧ i < A.1.2.2.1.length) by omega)]
      rfl
  · rw [tB_0 c1, if_pos rfl, if_pos (show ¬ ((0 ≤ k ∧ k ≤ 99) ∧ -1 ≤ i ∧ i < A.1.2.2.1.length) by omega)]
    rfl
theorem R_get {h : HP} {m : Nat} {v : Nat → Int32} {A : AB} (e : RFV h m v A) {M : Int} (H : GOK A.1 M) {k i : Int} (hk : -2147483648 ≤ k ∧ k < 2147483648) (hi : -2147483648 ≤ i ∧ i < 2147483648) : WP (f_X8_get h m (zI k) (zI i)) (RFR m (xGet A k i).2.2 (xGet A k i).1 (xGet A k i).2.1 h) := by
  have hM := H.1.2.2.2.2.2.1
  unfold f_X8_get b_X8_get_0 b_X8_get_21 xGet
  refine wb (kO_e e.1) ?_
  refine wb (X8_isKey_is h hk) ?_
  by_cases c1 : 0 ≤ k ∧ k ≤ 99
  · rw [tB_1 c1]
    refine wf (by decide) ?_
    refine wb (X8_isView_is e.2.1 hi) ?_
    by_cases c2 : -1 ≤ i ∧ i < A.1.2.2.1.length
    · rw [tB_1 c2, if_neg (show ¬ ¬ ((0 ≤ k ∧ k ≤ 99) ∧ -1 ≤ i ∧ i < A.1.2.2.1.length) by omega)]
      refine wf (by decide) ?_
      exact hold_read e (c := 0) (by omega) (fun _ h' w' e' => X8_seen_is e'.2.1 H.1.1 H.1.2.1 (SOK_Y H.1) ⟨hM.1, hM.2.1⟩ hM.2.2 (by omega) c2) rfl
    · rw [tB_0 c2, if_pos (show ¬ ((0 ≤ k ∧ k ≤ 99) ∧ -1 ≤ i ∧ i < A.1.2.2.1.length) by omega)]
      refine wt rfl ?_
      exact hold_fail e (c := 1) (by omega) rfl
  · rw [tB_0 c1, if_pos (show ¬ ((0 ≤ k ∧ k ≤ 99) ∧ -1 ≤ i ∧ i < A.1.2.2.1.length) by omega)]
    refine wt rfl ?_
    exact hold_fail e (c := 1) (by omega) rfl
def xEye (A : AB) (e : Int) : Int × Int × AB := if ¬ (0 ≤ e ∧ e < A.1.2.2.1.length) then (1, 0, A) else (0, iat A.1.2.2.1 e, A)
theorem C_eye {h : HP} {x : Nat} {A : AB} (e : CLS h x A) {i : Int} (hi : -2147483648 ≤ i ∧ i < 2147483648) : f_X7_eye h x (zI i) = some (EXC [IOB] (xEye A i).1 (xEye A i).2.1) := by
  have g := CLS_g e
  have s := CLS_S e
  unfold f_X7_eye b_X7_eye_0 xEye
  rw [g.1, Option.bind_some, g.2.2.1, Option.bind_some, X3_isEye_is s hi, Option.bind_some]
  by_cases c1 : 0 ≤ i ∧ i < A.1.2.2.1.length
  · rw [tB_1 c1, if_neg (by decide), if_neg (show ¬ ¬ (0 ≤ i ∧ i < A.1.2.2.1.length) by omega), Option.bind_some, X3_limitOf_is s hi, Option.bind_some]
    unfold lim
    rw [if_pos c1]
    rfl
  · rw [tB_0 c1, if_pos rfl, if_pos c1]
    rfl
theorem R_eye {h : HP} {m : Nat} {v : Nat → Int32} {A : AB} (e : RFV h m v A) {i : Int} (hi : -2147483648 ≤ i ∧ i < 2147483648) : WP (f_X8_eye h m (zI i)) (RFR m (xEye A i).2.2 (xEye A i).1 (xEye A i).2.1 h) := by
  unfold f_X8_eye b_X8_eye_0 b_X8_eye_14 xEye
  refine wb (kO_e e.1) ?_
  refine wb (X8_isEye_is e.2.1 hi) ?_
  by_cases c1 : 0 ≤ i ∧ i < A.1.2.2.1.length
  · rw [tB_1 c1, if_neg (show ¬ ¬ (0 ≤ i ∧ i < A.1.2.2.1.length) by omega)]
    refine wf (by decide) ?_
    refine wpb (X8_holds_is e (c := 0) (by omega)) ?_
    rintro ⟨z, h1⟩ ⟨q1, q2, q3⟩
    dsimp only at q1 q2 q3 ⊢
    subst q1
    rw [tB_1 rfl]
    refine wf (by decide) ?_
    obtain ⟨f, -, k1, ⟨b, u0, u1, u2, u3, u4, u5, u6, u7⟩⟩ := REF_MOB q2.2.1 q2.1
    have hu := u4 i.toNat (by omega)
    rw [show ((i.toNat : Nat) : Int) = i by omega] at hu
    refine wb (gR_e q2.1 rfl) ?_
    rw [show (8 : Int32) = zI 8 by decide, zI_add]
    refine wb (aI_v k1 (z := 8 + i) (x := zI (iat A.1.2.2.1 i)) (by omega) (by rw [show (8 + i).toNat = 8 + i.toNat by omega]; exact hu)) ?_
    exact wr ⟨⟨_, q2, upd_eq rfl⟩, fun _ => rfl, OFF_wide q3 (by omega)⟩
  · rw [tB_0 c1, if_pos c1]
    refine wt rfl ?_
    refine wpb (X8_holds_is e (c := 1) (by omega)) ?_
    rintro ⟨z, h1⟩ ⟨q1, q2, q3⟩
    dsimp only at q1 q2 q3 ⊢
    subst q1
    rw [tB_0 (by omega)]
    refine wt rfl ?_
    exact wr ⟨⟨_, q2, upd_eq rfl⟩, fun d => absurd d (by omega), OFF_wide q3 (by omega)⟩
