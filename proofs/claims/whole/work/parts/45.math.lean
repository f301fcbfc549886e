theorem dropEye_end {h : HP} {cl a : Nat} {r l f : Int32} {y b : Int} (n : Nat) (e0 : h a = some (.inr (3, [.ref cl, .ref (a + 3), .ref (a + 1), .ref (a + 2), .int r, .int (zI y), .int l, .int f]))) (hy : 0 ≤ y ∧ y ≤ b ∧ b < 1000) : b_X3_dropEye_13 a (n + 1) h (zI b) = some (hup h a (.inr (3, [.ref cl, .ref (a + 3), .ref (a + 1), .ref (a + 2), .int r, .int (zI (y - 1)), .int l, .int f]))) := by
  unfold b_X3_dropEye_13 c_X3_dropEye_13
  rw [gI_e e0 rfl, Option.bind_some, if_pos ((zI_le (by omega)).mpr (by omega)), Option.bind_some, zl1, zI_sub, pI_e2 (fs2 := [.ref cl, .ref (a + 3), .ref (a + 1), .ref (a + 2), .int r, .int (zI (y - 1)), .int l, .int f]) e0 (show 5 < 8 by omega) rfl]
  rfl
theorem X3_dropEye_is {h : HP} {cl a cap : Nat} {S : SG} (e : STO h cl a cap S) {i : Int} (hi : 0 ≤ i ∧ i < S.2.2.1.length) : WP (f_X3_dropEye h a (zI i)) (fun h' => STO h' cl a cap (S.1, S.2.1, S.2.2.1.eraseIdx i.toNat, S.2.2.2.1, S.2.2.2.2) ∧ OFF a 8 h h') := by
  have h1 := X3_isEye_is e (i := i) (by have : S.2.2.1.length ≤ 2 := by (obtain ⟨fe, fy, e0, e1, e2, e3, r1, r2, c1, c2⟩ := e; exact r2)
                                        omega)
  obtain ⟨fe, fy, e0, e1, e2, e3, r1, r2, c1, c2⟩ := e
  have hF : FU = 4094 + 1 + 1 := rfl
  unfold f_X3_dropEye b_X3_dropEye_0
  refine wb (kO_e e0) ?_
  refine wb h1 ?_
  rw [tB_1 hi]
  refine wf (by decide) ?_
  rw [zl1, zI_add, hF]
  obtain ⟨ws, es, ys, lat, few⟩ := S
  dsimp only at *
  by_cases c : (ys.length : Int) ≤ i + 1
  · refine weq (dropEye_end _ e0 (by omega)) ?_
    refine ⟨⟨fe, fy, (hup_same _ _ _).trans ?_, ARR_ne e1 (by omega), ARR_ne e2 (by omega), WRS_off e3 (OFF_up (OFF_refl a 1 h) (by omega)) (by omega), r1, ?_, c1, fun j hj => ?_⟩, OFF_up (OFF_refl _ _ _) (by omega)⟩
    · dsimp only
      rw [List.length_eraseIdx_of_lt (by omega), show ((ys.length - 1 : Nat) : Int) = (ys.length : Int) - 1 by omega]
    · dsimp only
      rw [List.length_eraseIdx_of_lt (by omega)]
      omega
    · dsimp only at hj ⊢
      rw [List.length_eraseIdx_of_lt (by omega)] at hj
      rw [c2 j (by omega), iat_get (by omega), iat_get (by rw [List.length_eraseIdx_of_lt (by omega)]; omega), List.getElem_eraseIdx, dif_pos (by omega)]
  · have hy : ys.length = 2 ∧ i = 0 := by omega
    obtain ⟨y2, rfl⟩ := hy
    have h5 := CLU_at c2 (j := 1) (by omega)
    unfold b_X3_dropEye_13 c_X3_dropEye_13
    rw [zl1]
    simp only [zI_add, zI_sub]
    refine wb (gI_e e0 rfl) ?_
    refine wf (fun d => absurd ((zI_le (by omega)).mp d) (by omega)) ?_
    refine wb (gR_e e0 rfl) ?_
    refine wb (gR_e e0 rfl) ?_
    refine wb (aI_v e2 (by omega) h5) ?_
    refine wb (wI_e e2 (by omega)) ?_
    have e0' := (hup_ne h (e := .inl (0, 2, .inl (upd fy ((0 : Int) + 1 - 1).toNat (zI (iat ys 1))))) (show a ≠ a + 2 by omega)).trans e0
    refine weq (dropEye_end _ e0' (by omega)) ?_
    refine ⟨⟨fe, _, (hup_same _ _ _).trans ?_, ARR_ne (ARR_ne e1 (by omega)) (by omega), ARR_ne (ARR_eq _ _ _ _) (by omega), WRS_off e3 (OFF_up (OFF_up (OFF_refl a 3 h) (by omega)) (by omega)) (by omega), r1, ?_, c1, fun j hj => ?_⟩, OFF_up (OFF_up (OFF_refl _ _ _) (by omega)) (by omega)⟩
    · dsimp only
      rw [List.length_eraseIdx_of_lt (by omega), show ((ys.length - 1 : Nat) : Int) = (ys.length : Int) - 1 by omega]
    · dsimp only
      rw [List.length_eraseIdx_of_lt (by omega)]
      omega
    · dsimp only at hj ⊢
      rw [List.length_eraseIdx_of_lt (by omega)] at hj
      rw [upd_eq (by omega), iat_get (by rw [List.length_eraseIdx_of_lt (by omega)]; omega), List.getElem_eraseIdx, dif_neg (by omega), show (1 : Int) = ((j + 1 : Nat) : Int) by omega, iat_get (by omega)]
theorem X3_isSeen_is {h : HP} {cl a cap : Nat} {S : SG} (e : STO h cl a cap S) (hw : WSOK S.1) {M : Int} (hy : YOK S.2.2.1 M) (hl : 0 ≤ S.2.2.2.1 ∧ S.2.2.2.1 ≤ M) (hM : M < 1000000) {j : Nat} (hj : j < S.1.length) : f_X3_isSeen h a (zI j) = some (tB (∃ q : Nat, q < S.2.2.1.length + 1 ∧ nfI S.1 (wat S.1 j).2.1 (lim S ((q : Int) - 1)) = j)) := by
  have hL : S.1.length < 1000 ∧ S.2.2.1.length ≤ 2 := by
    obtain ⟨fe, fy, e0, e1, e2, e3, r1, r2, c1, c2⟩ := e
    have := WRS_len e3
    omega
  have hwj := WOK_at hw (j := j) (by omega)
  unfold WOK at hwj
  have h1 := isSeen_loop e hw hy hl hM (j := j) (k := (wat S.1 j).2.1) (by omega) (by omega) (S.2.2.1.length + 1) FU 0 (by unfold FU; omega) (by omega)
  obtain ⟨fe, fy, e0, e1, e2, e3, r1, r2, c1, c2⟩ := e
  unfold f_X3_isSeen b_X3_isSeen_0
  rw [kO_e e0, Option.bind_some, gR_e e0 rfl, Option.bind_some, X6_firstAt_is e3 (by omega), Option.bind_some, zl1, zI_neg]
  refine h1.trans (congrArg some (tB_c ⟨?_, ?_⟩))
  · rintro ⟨q, h5, h6⟩
    refine ⟨q, h5, ?_⟩
    rw [show ((0 : Nat) : Int) + (q : Int) - 1 = (q : Int) - 1 by omega] at h6
    exact h6
  · rintro ⟨q, h5, h6⟩
    refine ⟨q, h5, ?_⟩
    rw [show ((0 : Nat) : Int) + (q : Int) - 1 = (q : Int) - 1 by omega]
    exact h6
