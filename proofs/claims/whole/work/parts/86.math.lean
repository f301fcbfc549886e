/-! simulate -/
def rnd (x : Int64) : Int64 := x * 6364136223846793005 + 1442695040888963407
def dr (x : Int64) : Nat := x.toUInt64.toNat / 8589934592
theorem dr_is (x : Int64) : Int64.toInt32 (jlushr x 33) = zI (dr x) ∧ dr x < 2147483648 := by
  have h0 := UInt64.toNat_lt x.toUInt64
  have h1 : dr x < 2147483648 := by
    unfold dr
    omega
  refine ⟨?_, h1⟩
  have h2 : (x.toUInt64 >>> ((33 : Int32).toInt64.toUInt64 &&& Int64.toUInt64 63)).toNat = dr x := by
    rw [UInt64.toNat_shiftRight, show ((33 : Int32).toInt64.toUInt64 &&& Int64.toUInt64 63).toNat % 64 = 33 from rfl, Nat.shiftRight_eq_div_pow]
    rfl
  have h3 : jlushr x 33 = zJ (dr x) := by
    unfold jlushr
    apply Int64.toInt_inj.mp
    rw [zJ_int (by omega)]
    show BitVec.toInt (x.toUInt64 >>> ((33 : Int32).toInt64.toUInt64 &&& Int64.toUInt64 63)).toBitVec = _
    rw [BitVec.toInt_eq_toNat_of_lt]
    · show (((x.toUInt64 >>> ((33 : Int32).toInt64.toUInt64 &&& Int64.toUInt64 63)).toNat : Nat) : Int) = _
      rw [h2]
    · show 2 * (x.toUInt64 >>> ((33 : Int32).toInt64.toUInt64 &&& Int64.toUInt64 63)).toNat < _
      rw [h2]
      omega
  rw [h3, zJ_32 h1]
def rC (S : SG) (r : Nat) : Int := if r % 8 = 4 then 120 else if r % 8 = 5 then 102 else if r % 8 = 6 then 109 else if r % 8 = 7 then (if 2 ≤ S.2.2.1.length then 99 else 111) else 112
def r1 (r : Nat) : Nat := if 5 ≤ r % 8 then (if r % 8 = 6 then r / 8 % 5 else r / 8 % 2) else r / 8 % 100
def r2 (r : Nat) : Nat := if 4 ≤ r % 8 then (if r / 8 % 100 + r / 8 / 128 % 20 ≤ 99 then r / 8 % 100 + r / 8 / 128 % 20 else 99) else 1 + r / 8 / 128 % 999
def doR (S : SG) (r : Nat) : SG := (cmdS (rC S r) (r1 r) (r2 r) S).getD S
theorem C_turn {h : HP} {x : Nat} {A : AB} (e : CLS h x A) {S : SG} (s : STO h (x + 1) (x + 169) 148 S) {M : Int} (H : GOK S M) {r : Nat} (hr : r < 2147483648) : WP (f_X7_doTurn h x (zI r)) (fun h' => CLS h' x A ∧ STO h' (x + 1) (x + 169) 148 (doR S r) ∧ OFF x 311 h h') := by
  have gg := CLS_g e
  have hS := H.2
  unfold SML at hS
  have tr : ∀ {f : Option (Int32 × HP)} {o : Option SG}, WP f (TRY (x + 1) (x + 169) 148 S h o) → WP (f.bind fun y3 => some y3.2) (fun h' => CLS h' x A ∧ STO h' (x + 1) (x + 169) 148 (o.getD S) ∧ OFF x 311 h h') := by
    intro f o hf
    refine wpb hf ?_
    rintro ⟨z, h1⟩ ⟨q1, q2, q3⟩
    exact wr ⟨CLS_tr e (FR_c q3 (by omega)) (CLN_off e.2.1 q3 (by omega)) q2, q2, OFF_wide q3 (by omega)⟩
  have tr2 : ∀ {f : Option (Int32 × HP)} {o : Option SG}, WP f (TRY2 (x + 1) (x + 169) 148 S h o) → WP (f.bind fun y3 => some y3.2) (fun h' => CLS h' x A ∧ STO h' (x + 1) (x + 169) 148 (o.getD S) ∧ OFF x 311 h h') := by
    intro f o hf
    refine wpb hf ?_
    rintro ⟨z, h1⟩ ⟨q1, q2, q3, q4⟩
    exact wr ⟨CLS_tr e q4 q3 q2, q2, fun b hb => q4 b (by omega) (by omega)⟩
  have a1 := Nat.mod_lt r (show 0 < 8 by omega)
  have a2 := Nat.mod_lt (r / 8) (show 0 < 100 by omega)
  have a3 := Nat.mod_lt (r / 8 / 128) (show 0 < 20 by omega)
  have a4 := Nat.mod_lt (r / 8 / 128) (show 0 < 999 by omega)
  unfold f_X7_doTurn b_X7_doTurn_0 doR rC
  simp only [show (8 : Int32) = zI (8 : Nat) by decide, show (100 : Int32) = zI (100 : Nat) by decide, show (128 : Int32) = zI (128 : Nat) by decide, show (20 : Int32) = zI (20 : Nat) by decide, show (999 : Int32) = zI (999 : Nat) by decide, show (5 : Int32) = zI (5 : Nat) by decide, show (2 : Int32) = zI (2 : Nat) by decide, show (4 : Int32) = zI (4 : Nat) by decide, show (6 : Int32) = zI (6 : Nat) by decide, show (7 : Int32) = zI (7 : Nat) by decide]
  refine wb gg.1 ?_
  rw [zI_div (a := r) (b := 8) (by omega) (by omega), zI_jrem (a := r) (b := 8) (by omega) (by omega), zI_div (a := r / 8) (b := 128) (by omega) (by omega), zI_jrem (a := r / 8) (b := 100) (by omega) (by omega), zI_jrem (a := r / 8 / 128) (b := 20) (by omega) (by omega), zI_jrem (a := r / 8 / 128) (b := 999) (by omega) (by omega), zI_jrem (a := r / 8) (b := 5) (by omega) (by omega), zI_jrem (a := r / 8) (b := 2) (by omega) (by omega)]
  by_cases c4 : r % 8 = 4
  · rw [if_pos c4]
    refine wt ((zIn (b := 4) (by omega) (by omega)).mpr c4) ?_
    refine wb gg.2.2.2.1 ?_
    have hj : jmin 99 (zI (r / 8 % 100 : Nat) + zI (r / 8 / 128 % 20 : Nat)) = zI (r2 r) := by
      unfold jmin r2
      rw [zI_add, if_pos (show 4 ≤ r % 8 by omega), show (99 : Int32) = zI 99 by decide]
      by_cases d : r / 8 % 100 + r / 8 / 128 % 20 < 99
      · rw [if_pos ((zI_lt (by omega)).mpr (by omega)), if_pos (by omega)]
        exact congrArg zI (by omega)
      · rw [if_neg (fun b => d (by have := (zI_lt (by omega)).mp b; omega))]
        by_cases d2 : r / 8 % 100 + r / 8 / 128 % 20 ≤ 99
        · rw [if_pos d2]
          exact congrArg zI (by omega)
        · rw [if_neg d2]
          rfl
    have b2 : r2 r ≤ 999 := by
      unfold r2
      split
      · split <;> omega
      · omega
    rw [hj, show r / 8 % 100 = r1 r by unfold r1; rw [if_neg (by omega)]]
    have b1 : r1 r ≤ 99 := by
      unfold r1
      rw [if_neg (by omega)]
      omega
    exact tr (X3_tryBury_is s (by omega) hS.1 (by omega) (by omega))
  · rw [if_neg c4]
    refine wf (fun b => c4 ((zIn (b := 4) (by omega) (by omega)).mp b)) ?_
    by_cases c5 : r % 8 = 5
    · rw [if_pos c5]
      refine wt ((zIn (b := 5) (by omega) (by omega)).mpr c5) ?_
      refine wb gg.2.2.2.1 ?_
      exact tr2 (X3_tryFlush_is e.2.1 s H (by omega) (by omega))
    · rw [if_neg c5]
      refine wf (fun b => c5 ((zIn (b := 5) (by omega) (by omega)).mp b)) ?_
      by_cases c6 : r % 8 = 6
      · rw [if_pos c6]
        refine wt ((zIn (b := 6) (by omega) (by omega)).mpr c6) ?_
        refine wb gg.2.2.2.1 ?_
        rw [show r / 8 % 5 = r1 r by unfold r1; rw [if_pos (by omega), if_pos c6]]
        have b1 : r1 r ≤ 99 := by
          unfold r1
          rw [if_pos (by omega), if_pos c6]
          omega
        exact tr2 (X3_tryMerge_is e.2.1 s H (by omega) (by omega) (by omega))
      · rw [if_neg c6]
        refine wf (fun b => c6 ((zIn (b := 6) (by omega) (by omega)).mp b)) ?_
        by_cases c7 : r % 8 = 7
        · rw [if_pos c7]
          refine wt ((zIn (b := 7) (by omega) (by omega)).mpr c7) ?_
          refine wb gg.2.2.2.1 ?_
          refine wpb (X3_tryOpen_is s) ?_
          rintro ⟨z, h1⟩ ⟨q1, q2, q3⟩
          dsimp only at q1 q2 q3 ⊢
          subst q1
          have e1 := CLS_tr e (FR_c q3 (by omega)) (CLN_off e.2.1 q3 (by omega)) q2
          by_cases d : 2 ≤ S.2.2.1.length
          · have hc : cOpen S = none := by
              unfold cOpen
              rw [if_neg (by omega)]
            rw [hc] at q2
            rw [if_pos d, hc, tB_0 (by simp)]
            refine wt rfl ?_
            refine wb (CLS_g e1).2.2.2.1 ?_
            rw [show r / 8 % 2 = r1 r by unfold r1; rw [if_pos (by omega), if_neg c6]]
            have b1 : r1 r ≤ 99 := by
              unfold r1
              rw [if_pos (by omega), if_neg c6]
              omega
            refine wpb (X3_tryClose_is q2 (i := r1 r) (by omega)) ?_
            rintro ⟨z, h2⟩ ⟨t1, t2, t3⟩
            exact wr ⟨CLS_tr e1 (FR_c t3 (by omega)) (CLN_off e1.2.1 t3 (by omega)) t2, t2, OFF_trans (OFF_wide q3 (by omega)) (OFF_wide t3 (by omega))⟩
          · have hc : (cOpen S).isSome = true := by
              unfold cOpen
              rw [if_pos (by omega)]
              rfl
            rw [if_neg d, tB_1 hc]
            refine wf (by decide) ?_
            exact wr ⟨e1, q2, OFF_wide q3 (by omega)⟩
        · rw [if_neg c7]
          refine wf (fun b => c7 ((zIn (b := 7) (by omega) (by omega)).mp b)) ?_
          refine wb gg.2.2.2.1 ?_
          rw [zl1, zI_add, show (1 : Int) + ((r / 8 / 128 % 999 : Nat) : Int) = (r2 r : Nat) by unfold r2; rw [if_neg (by omega)]; omega, show r / 8 % 100 = r1 r by unfold r1; rw [if_neg (by omega)]]
          have b1 : r1 r ≤ 99 := by
            unfold r1
            rw [if_neg (by omega)]
            omega
          have b2 : r2 r ≤ 999 := by
            unfold r2
            rw [if_neg (by omega)]
            omega
          exact tr (X3_tryPut_is s (by omega) hS.1 (by omega) (by omega))
theorem R_turn {h : HP} {m : Nat} {v : Nat → Int32} {S : SG} {R : List SG × (Option SG × Option SG) × List Int} (e : RFV h m v (S, R)) {M : Int} (H : GOK S M) {r : Nat} (hr : r < 2147483648) : WP (f_X8_turn h m (zI r)) (fun h' => (∃ w, RFV h' m w (doR S r, R) ∧ ∀ i : Nat, i < 10 → w i = v i) ∧ OF4 m h h') := by
  have hS := H.2
  unfold SML at hS
  have a1 := Nat.mod_lt r (show 0 < 8 by omega)
  have a2 := Nat.mod_lt (r / 8) (show 0 < 100 by omega)
  have a3 := Nat.mod_lt (r / 8 / 128) (show 0 < 20 by omega)
  have a4 := Nat.mod_lt (r / 8 / 128) (show 0 < 999 by omega)
  have b1 : r1 r ≤ 99 := by
    unfold r1
    split
    · split <;> omega
    · omega
  have b2 : r2 r ≤ 999 := by
    unfold r2
    split
    · split <;> omega
    · omega
  have hc : 0 ≤ rC S r ∧ rC S r < 200 := by
    unfold rC
    split
    · omega
    · split
      · omega
      · split
        · omega
        · split
          · split <;> omega
          · omega
  have f158 : ∀ (h1 : HP) (w : Nat → Int32), RFV h1 m w (S, R) → (∀ i : Nat, i < 10 → w i = v i) → OF4 m h h1 → w 14 = zI (rC S r) → w 15 = zI (r1 r) → WP (b_X8_turn_158 m h1 m (zI (r2 r))) (fun h' => (∃ w, RFV h' m w (doR S r, R) ∧ ∀ i : Nat, i < 10 → w i = v i) ∧ OF4 m h h') := by
    intro h1 w e1 hw o h14 h15
    unfold b_X8_turn_158
    refine wpb (pI_M e1.1 (by omega)) ?_
    rintro h2 ⟨q1, q2⟩
    have e2 : RFV h2 m (upd w 16 (zI (r2 r))) (S, R) := RFV_0 e1 q2 q1 (upd_ne (by omega)) (upd_ne (by omega))
    refine wpb (X8_does_is e2.1 e2.2.1 e2.2.2.1 H ((upd_ne (by omega)).trans h14) ((upd_ne (by omega)).trans h15) (upd_eq rfl) (by omega)) ?_
    rintro ⟨y, h3⟩ ⟨g1, ⟨z, g2⟩, g3, g4, g5⟩
    dsimp only at g1 g2 g3 g4 g5 ⊢
    have e3 : RFV h3 m (upd (upd w 16 (zI (r2 r))) 10 z) (doR S r, R) := RFV_4 e2 g5 g2 (upd_ne (by omega)) (upd_ne (by omega)) g3 g4
    exact wr ⟨⟨_, e3, fun i hi => (upd_ne (by omega)).trans ((upd_ne (by omega)).trans (hw i hi))⟩, OF4_trans o (OF4_trans (OF4_0 q2) g5)⟩
  have f122 : ∀ (h1 : HP) (w : Nat → Int32), RFV h1 m w (S, R) → (∀ i : Nat, i < 10 → w i = v i) → OF4 m h h1 → w 14 = zI (rC S r) → WP (b_X8_turn_122 m h1 (zI (r / 8 : Nat)) (zI ((r / 8 % 100 : Nat) + (r / 8 / 128 % 20 : Nat))) (zI (r % 8 : Nat)) m (zI (r1 r))) (fun h' => (∃ w, RFV h' m w (doR S r, R) ∧ ∀ i : Nat, i < 10 → w i = v i) ∧ OF4 m h h') := by
    intro h1 w e1 hw o h14
    unfold b_X8_turn_122
    refine wpb (pI_M e1.1 (by omega)) ?_
    rintro h2 ⟨q1, q2⟩
    have e2 : RFV h2 m (upd w 15 (zI (r1 r))) (S, R) := RFV_0 e1 q2 q1 (upd_ne (by omega)) (upd_ne (by omega))
    have fin := f158 h2 _ e2 (fun i hi => (upd_ne (by omega)).trans (hw i hi)) (OF4_trans o (OF4_0 q2)) ((upd_ne (by omega)).trans h14) (upd_eq rfl)
    simp only [show (4 : Int32) = zI (4 : Nat) by decide, show (99 : Int32) = zI (99 : Nat) by decide, show (128 : Int32) = zI (128 : Nat) by decide, show (999 : Int32) = zI (999 : Nat) by decide]
    rw [zI_div (a := r / 8) (b := 128) (by omega) (by omega), zI_jrem (a := r / 8 / 128) (b := 999) (by omega) (by omega)]
    by_cases c4 : 4 ≤ r % 8
    · refine wt ((zI_le (by omega)).mpr (by omega)) ?_
      by_cases c5 : r / 8 % 100 + r / 8 / 128 % 20 ≤ 99
      · refine wt ((zI_le (by omega)).mpr (by omega)) ?_
        have : ((r / 8 % 100 : Nat) : Int) + (r / 8 / 128 % 20 : Nat) = (r2 r : Nat) := by
          unfold r2
          rw [if_pos c4, if_pos c5]
          omega
        rw [this]
        exact fin
      · refine wf (fun b => c5 (by have := (zI_le (by omega)).mp b; omega)) ?_
        have : 99 = r2 r := by
          unfold r2
          rw [if_pos c4, if_neg c5]
        rw [this]
        exact fin
    · refine wf (fun b => c4 (by have := (zI_le (by omega)).mp b; omega)) ?_
      have : (1 : Int) + ((r / 8 / 128 % 999 : Nat) : Int) = (r2 r : Nat) := by
        unfold r2
        rw [if_neg c4]
        omega
      rw [zl1, zI_add, this]
      exact fin
  have f89 : WP (b_X8_turn_89 m h (zI (r / 8 : Nat)) (zI ((r / 8 % 100 : Nat) + (r / 8 / 128 % 20 : Nat))) (zI (r % 8 : Nat)) m (zI (rC S r))) (fun h' => (∃ w, RFV h' m w (doR S r, R) ∧ ∀ i : Nat, i < 10 → w i = v i) ∧ OF4 m h h') := by
    unfold b_X8_turn_89
    refine wpb (RFV_14 e (zI (rC S r))) ?_
    rintro h1 ⟨q1, q2, q3⟩
    have fin := f122 h1 _ q1 q2 q3 (upd_eq rfl)
    simp only [show (5 : Int32) = zI (5 : Nat) by decide, show (6 : Int32) = zI (6 : Nat) by decide, show (2 : Int32) = zI (2 : Nat) by decide, show (100 : Int32) = zI (100 : Nat) by decide]
    rw [zI_jrem (a := r / 8) (b := 5) (by omega) (by omega), zI_jrem (a := r / 8) (b := 2) (by omega) (by omega), zI_jrem (a := r / 8) (b := 100) (by omega) (by omega)]
    by_cases c5 : 5 ≤ r % 8
    · refine wt ((zI_le (by omega)).mpr (by omega)) ?_
      by_cases c6 : r % 8 = 6
      · refine wt ((zIn (b := 6) (by omega) (by omega)).mpr c6) ?_
        rw [show r / 8 % 5 = r1 r by unfold r1; rw [if_pos c5, if_pos c6]]
        exact fin
      · refine wf (fun b => c6 ((zIn (b := 6) (by omega) (by omega)).mp b)) ?_
        rw [show r / 8 % 2 = r1 r by unfold r1; rw [if_pos c5, if_neg c6]]
        exact fin
    · refine wf (fun b => c5 (by have := (zI_le (by omega)).mp b; omega)) ?_
      have hr1 : r / 8 % 100 = r1 r := by
        unfold r1
        rw [if_neg c5]
      rw [hr1] at fin ⊢
      exact fin
  unfold f_X8_turn b_X8_turn_0
  refine wb (kO_e e.1) ?_
  simp only [show (8 : Int32) = zI (8 : Nat) by decide, show (100 : Int32) = zI (100 : Nat) by decide, show (128 : Int32) = zI (128 : Nat) by decide, show (20 : Int32) = zI (20 : Nat) by decide, show (4 : Int32) = zI (4 : Nat) by decide, show (5 : Int32) = zI (5 : Nat) by decide, show (6 : Int32) = zI (6 : Nat) by decide, show (2 : Int32) = zI (2 : Nat) by decide, show (7 : Int32) = zI (7 : Nat) by decide, show (120 : Int32) = zI 120 by decide, show (102 : Int32) = zI 102 by decide, show (109 : Int32) = zI 109 by decide, show (99 : Int32) = zI 99 by decide, show (111 : Int32) = zI 111 by decide, show (112 : Int32) = zI 112 by decide]
  rw [zI_div (a := r) (b := 8) (by omega) (by omega), zI_jrem (a := r) (b := 8) (by omega) (by omega), zI_div (a := r / 8) (b := 128) (by omega) (by omega), zI_jrem (a := r / 8) (b := 100) (by omega) (by omega), zI_jrem (a := r / 8 / 128) (b := 20) (by omega) (by omega), zI_add]
  unfold rC at f89
  by_cases c0 : 4 ≤ r % 8
  · refine wt ((zI_le (by omega)).mpr (by omega)) ?_
    by_cases c4 : r % 8 = 4
    · rw [if_pos c4] at f89
      exact wt ((zIn (b := 4) (by omega) (by omega)).mpr c4) f89
    · rw [if_neg c4] at f89
      refine wf (fun b => c4 ((zIn (b := 4) (by omega) (by omega)).mp b)) ?_
      by_cases c5 : r % 8 = 5
      · rw [if_pos c5] at f89
        exact wt ((zIn (b := 5) (by omega) (by omega)).mpr c5) f89
      · rw [if_neg c5] at f89
        refine wf (fun b => c5 ((zIn (b := 5) (by omega) (by omega)).mp b)) ?_
        by_cases c6 : r % 8 = 6
        · rw [if_pos c6] at f89
          exact wt ((zIn (b := 6) (by omega) (by omega)).mpr c6) f89
        · rw [if_neg c6, if_pos (show r % 8 = 7 by omega)] at f89
          refine wf (fun b => c6 ((zIn (b := 6) (by omega) (by omega)).mp b)) ?_
          obtain ⟨f, -, k1, ⟨b, u0, u1, u2, u3, u4, u5, u6, u7⟩⟩ := REF_MOB (S := S) e.2.1 e.1
          refine wb (gR_e e.1 rfl) ?_
          refine wb (aI_v k1 (z := 7) (by omega) u3) ?_
          by_cases d : 2 ≤ S.2.2.1.length
          · rw [if_pos d] at f89
            exact wt ((zI_le (by omega)).mpr (by omega)) f89
          · rw [if_neg d] at f89
            exact wf (fun b => d (by have := (zI_le (by omega)).mp b; omega)) f89
  · rw [if_neg (by omega), if_neg (by omega), if_neg (by omega), if_neg (by omega)] at f89
    exact wf (fun b => c0 (by have := (zI_le (by omega)).mp b; omega)) f89
theorem doR_ok {S : SG} {M : Int} (H : GOK S M) (hM : M + 1 < 1000000) (r : Nat) : GOK (doR S r) (M + 1) := getD_ok H hM _ _ _
def simG (f : Int64 → Int64) (g : SG → Int64 → SG) : Nat → Int64 → SG → SG
  | 0, _, S => S
  | k + 1, x, S => simG f g k (f x) (g S (f x))
theorem simG_succ (f : Int64 → Int64) (g : SG → Int64 → SG) (k : Nat) (x : Int64) (S : SG) : simG f g (k + 1) x S = simG f g k (f x) (g S (f x)) := rfl
def simS (k : Nat) (x : Int64) (S : SG) : SG := simG rnd (fun S y => doR S (dr y)) k x S
theorem simS_succ (k : Nat) (x : Int64) (S : SG) : simS (k + 1) x S = simS k (rnd x) (doR S (dr (rnd x))) := simG_succ rnd (fun S y => doR S (dr y)) k x S
theorem rnd_eq (w : Int64) : w * 6364136223846793005 + 1442695040888963407 = rnd w := by unfold rnd; rfl
def simV (S : SG) : Int := 1000 * cnt (fun k => vw S k (-1) ≠ 0) 0 100 + S.1.length
def xSim (A : AB) (w : Int64) (n : Int) : Int × Int × AB := if ¬ (1 ≤ n ∧ n ≤ 60) then (1, 0, A) else (0, simV (simS n.toNat w A.1), A)
theorem xSim_0 {A : AB} {w : Int64} {n : Int} (h : ¬ (1 ≤ n ∧ n ≤ 60)) : xSim A w n = (1, 0, A) := if_pos h
theorem xSim_1 {A : AB} {w : Int64} {n : Int} (h : 1 ≤ n ∧ n ≤ 60) : xSim A w n = (0, simV (simS n.toNat w A.1), A) := if_neg (fun d => d h)
theorem C_simL {x : Nat} {A : AB} {Mz : Int} (hMz : Mz < 1000000) {k : Nat} (hk : k ≤ 60) {h0 : HP} : ∀ (r n : Nat) (h : HP) (w : Int64) (t : Nat) (S : SG), r < n → t + r = k → CLS h x A → STO h (x + 1) (x + 169) 148 S → GOK S (Mz - r) → OFF x 311 h0 h → WP (b_X7_simulate_39 x (zI k) n h w (zI t)) (fun r' => r'.1 = .inl (zI (simV (simS r w S))) ∧ CLS r'.2 x A ∧ OFF x 311 h0 r'.2) := by
  intro r
  induction r with
  | zero =>
    intro n h w t S hn ht e s H o
    obtain ⟨n, rfl⟩ : ∃ k, n = k + 1 := ⟨n - 1, by omega⟩
    unfold b_X7_simulate_39 c_X7_simulate_39
    refine wt ((zI_le (by omega)).mpr (by omega)) ?_
    refine wb (CLS_g e).2.2.2.1 ?_
    refine wpb (C_seenNow e s H.1 (by omega)) ?_
    rintro ⟨y, h1⟩ ⟨q1, q2, q3⟩
    dsimp only at q1 q2 q3 ⊢
    subst q1
    refine wb (CLS_g q2).2.2.2.1 ?_
    refine wb (X3_size_is (STO_off s q3 (by omega))) ?_
    rw [show (1000 : Int32) = zI 1000 by decide, zI_mul, zI_add]
    exact wr ⟨rfl, q2, OFF_trans o (OFF_wide q3 (by omega))⟩
  | succ r ih =>
    intro n h w t S hn ht e s H o
    obtain ⟨n, rfl⟩ : ∃ k, n = k + 1 := ⟨n - 1, by omega⟩
    have hd := dr_is (rnd w)
    unfold b_X7_simulate_39 c_X7_simulate_39
    refine wf (fun d => absurd ((zI_le (by omega)).mp d) (by omega)) ?_
    rw [rnd_eq, hd.1, simS_succ]
    refine wpb (C_turn e s H hd.2) ?_
    rintro h1 ⟨q1, q2, q3⟩
    have := ih n h1 (rnd w) (t + 1) _ (by omega) (by omega) q1 q2 (GOK_up (doR_ok H (by omega) _) (by omega)) (OFF_trans o q3)
    rw [cast1] at this
    rw [zl1, zI_add]
    exact this
theorem C_sim {h : HP} {x : Nat} {A : AB} (e : CLS h x A) {M : Int} (H : GOK A.1 M) (hM : M + 60 < 1000000) {n : Int} (hn : -2147483648 ≤ n ∧ n < 2147483648) (w : Int64) : WP (f_X7_simulate h x w (zI n)) (CLR7 x (xSim A w n).2.2 [IAE] (xSim A w n).1 (xSim A w n).2.1 h) := by
  have g := CLS_g e
  have hS := H.2
  unfold SML at hS
  unfold f_X7_simulate b_X7_simulate_0 b_X7_simulate_11
  simp only [zl1, show (60 : Int32) = zI 60 by decide]
  refine wb g.1 ?_
  by_cases c1 : n < 1
  · refine wt ((zI_lt (by omega)).mpr c1) ?_
    rw [xSim_0 (by omega)]
    exact wr ⟨rfl, e, OFF_refl _ _ _⟩
  · refine wf (fun d => c1 ((zI_lt (by omega)).mp d)) ?_
    by_cases c2 : n ≤ 60
    · refine wt ((zI_le (by omega)).mpr c2) ?_
      rw [xSim_1 (by omega)]
      obtain ⟨k, rfl⟩ : ∃ k : Nat, n = (k : Int) := ⟨n.toNat, by omega⟩
      refine wb g.2.2.2.1 ?_
      refine wb g.2.2.1 ?_
      obtain ⟨T, hT⟩ := e.2.2.2.2.1
      refine wpb (X3_become_is hT (CLS_S e) (by omega) (by omega)) ?_
      rintro h1 ⟨q1, q2⟩
      have e1 := CLS_tr e (FR_c q2 (by omega)) (CLN_off e.2.1 q2 (by omega)) q1
      have := C_simL (Mz := M + k) (by omega) (k := k) (by omega) (h0 := h) k FU h1 w 0 A.1 (by unfold FU; omega) (by omega) e1 q1 (by rw [show M + k - (k : Int) = M by omega]; exact H) (OFF_wide q2 (by omega))
      exact this
    · refine wf (fun d => c2 ((zI_le (by omega)).mp d)) ?_
      rw [xSim_0 (by omega)]
      exact wr ⟨rfl, e, OFF_refl _ _ _⟩
theorem R_simL {m : Nat} {A : AB} {v0 : Nat → Int32} {Mz : Int} (hMz : Mz < 1000000) {k : Nat} (hk : k ≤ 60) {h0 : HP} {g : Nat → Int32} (q : RW g A.1) : ∀ (r n : Nat) (h : HP) (w : Int64) (t : Nat) (S : SG) (v : Nat → Int32), r < n → t + r = k → RFV h m v (S, A.2) → (∀ i : Nat, i < 10 → v i = v0 i) → ARR h (m + 2) 204 g → GOK S (Mz - r) → OFF m 9 h0 h → WP (b_X8_simulated_10 m (zI k) n h w (zI t)) (fun r' => r'.1 = zI (simV (simS r w S)) ∧ (∃ w, RFV r'.2 m w A ∧ ∀ i : Nat, i < 10 → w i = v0 i) ∧ OFF m 9 h0 r'.2) := by
  intro r
  induction r with
  | zero =>
    intro n h w t S v hn ht e hv ka H o
    obtain ⟨n, rfl⟩ : ∃ k, n = k + 1 := ⟨n - 1, by omega⟩
    have hMM := H.1.2.2.2.2.2.1
    have eS : REF h m S := e.2.1
    unfold b_X8_simulated_10 c_X8_simulated_10
    refine wt ((zI_le (by omega)).mpr (by omega)) ?_
    rw [show f_X8_countSeen h m 0 99 (-1) = f_X8_countSeen h m (zI 0) (zI 99) (zI (-1)) from rfl]
    refine wb (X8_countSeen_is eS H.1.1 H.1.2.1 (SOK_Y H.1) ⟨hMM.1, hMM.2.1⟩ hMM.2.2 (by omega) (by omega) (by omega)) ?_
    refine wb (X8_all_is eS) ?_
    obtain ⟨f, -, k1, -⟩ := REF_MOB e.2.1 e.1
    refine wpb (X8_putBack_is e.1 k1 ka q) ?_
    rintro h1 ⟨q1, q2⟩
    have e1 : RFV h1 m v A := RFV_w (A := (S, A.2)) e q2 q1
    rw [show (1000 : Int32) = zI 1000 by decide, zI_mul, zI_add]
    exact wr ⟨rfl, ⟨v, e1, hv⟩, OFF_trans o (OFF_wide q2 (by omega))⟩
  | succ r ih =>
    intro n h w t S v hn ht e hv ka H o
    obtain ⟨n, rfl⟩ : ∃ k, n = k + 1 := ⟨n - 1, by omega⟩
    have hd := dr_is (rnd w)
    unfold b_X8_simulated_10 c_X8_simulated_10
    refine wf (fun d => absurd ((zI_le (by omega)).mp d) (by omega)) ?_
    rw [rnd_eq, hd.1, simS_succ]
    refine wpb (R_turn e H hd.2) ?_
    rintro h1 ⟨⟨v1, q1, q2⟩, q3⟩
    have := ih n h1 (rnd w) (t + 1) _ v1 (by omega) (by omega) q1 (fun i hi => (q2 i hi).trans (hv i hi)) ((q3 _ (by omega) (by omega) (by omega) (by omega)).trans ka) (GOK_up (doR_ok H (by omega) _) (by omega)) (OFF_trans o (OF4_f q3))
    rw [cast1] at this
    rw [zl1, zI_add]
    exact this
theorem RFV_aside {h h' : HP} {m : Nat} {v : Nat → Int32} {A : AB} (e : RFV h m v A) (k : OFF (m + 2) 1 h h') {g : Nat → Int32} (r1 : ARR h' (m + 2) 204 g) : RFV h' m v A := by
  obtain ⟨e0, ⟨v', f, s0, s1, s2⟩, ⟨⟨gb, e20⟩, d', D, e21, e22⟩, -, ⟨w, f', t0, t1, t2⟩, ⟨sl, z, e5, e6, e7⟩, e8⟩ := e
  exact ⟨(k _ (by omega)).trans e0, ⟨v', f, (k _ (by omega)).trans s0, (k _ (by omega)).trans s1, s2⟩, ⟨⟨gb, (k _ (by omega)).trans e20⟩, d', D, (k _ (by omega)).trans e21, e22⟩, ⟨g, r1⟩, ⟨w, f', (k _ (by omega)).trans t0, (k _ (by omega)).trans t1, t2⟩, ⟨sl, z, (k _ (by omega)).trans e5, (k _ (by omega)).trans e6, e7⟩, RTX_mv e8 (k _ (by omega)) rfl⟩
theorem R_sim {h : HP} {m : Nat} {v : Nat → Int32} {A : AB} (e : RFV h m v A) {M : Int} (H : GOK A.1 M) (hM : M + 60 < 1000000) {n : Int} (hn : -2147483648 ≤ n ∧ n < 2147483648) (w : Int64) : WP (f_X8_simulate h m w (zI n)) (RFR m (xSim A w n).2.2 (xSim A w n).1 (xSim A w n).2.1 h) := by
  unfold f_X8_simulate b_X8_simulate_0 b_X8_simulate_16
  refine wb (kO_e e.1) ?_
  rw [show f_X8_in h (zI n) 1 60 = f_X8_in h (zI n) (zI 1) (zI 60) from rfl]
  refine wb (X8_in_is h hn (by omega) (by omega)) ?_
  by_cases c1 : 1 ≤ n ∧ n ≤ 60
  · rw [tB_1 c1, xSim_1 c1]
    refine wf (by decide) ?_
    obtain ⟨k, rfl⟩ : ∃ k : Nat, n = (k : Int) := ⟨n.toNat, by omega⟩
    rw [zl0]
    refine wpb (X8_holds_is e (c := 0) (by omega)) ?_
    rintro ⟨y, h1⟩ ⟨q1, q2, q3⟩
    dsimp only at q1 q2 q3 ⊢
    subst q1
    rw [tB_1 rfl]
    refine wf (by decide) ?_
    obtain ⟨ga, hga⟩ := q2.2.2.2.1
    have fin : WP (f_X8_simulated h1 m w (zI k)) (fun r' => r'.1 = zI (simV (simS k w A.1)) ∧ (∃ w, RFV r'.2 m w A ∧ ∀ i : Nat, i < 10 → w i = upd v 0 (zI 0) i) ∧ OFF m 9 h1 r'.2) := by
      unfold f_X8_simulated b_X8_simulated_0
      refine wb (kO_e q2.1) ?_
      refine wpb (X8_putAside_is q2.2.1 hga) ?_
      rintro h2 ⟨⟨g', r1, r2⟩, r3⟩
      exact R_simL (Mz := M + k) (by omega) (k := k) (by omega) (h0 := h1) r2 k FU h2 w 0 A.1 _ (by unfold FU; omega) (by omega) (RFV_aside q2 r3 r1) (fun _ _ => rfl) r1 (by rw [show M + k - (k : Int) = M by omega]; exact H) (OFF_wide r3 (by omega))
    refine wpb fin ?_
    rintro ⟨y, h2⟩ ⟨r1, ⟨w2, r2, r3⟩, r4⟩
    exact wr ⟨⟨w2, r2, (r3 0 (by omega)).trans (upd_eq rfl)⟩, fun _ => r1, OFF_trans (OFF_wide q3 (by omega)) r4⟩
  · rw [tB_0 c1, xSim_0 c1]
    refine wt rfl ?_
    exact act_no e (OFF_refl _ _ _) (c := 1) (by omega) rfl
