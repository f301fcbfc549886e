theorem X3_empty_is {h : HP} {cl a cap : Nat} {S : SG} (e : STO h cl a cap S) : WP (f_X3_empty h a) (fun h' => STO h' cl a cap ([], [], [], 0, 0) ∧ OFF a 8 h h') := by
  obtain ⟨fe, fy, e0, e1, e2, e3, r1, r2, c1, c2⟩ := e
  have hL := WRS_len e3
  unfold f_X3_empty b_X3_empty_0
  have g0 := OFF_refl a 8 h
  refine wb (kO_e e0) ?_
  refine wb (gR_e e0 rfl) ?_
  refine wpb (X6_empty_is e3) ?_
  rintro h11 ⟨e3, k0⟩
  have e0 := (k0 (a) (by omega)).trans e0
  have e1 := (k0 (a + 1) (by omega)).trans e1
  have e2 := (k0 (a + 2) (by omega)).trans e2
  have g1 := OFF_trans g0 (OFF_wide k0 (by omega) : OFF a 8 _ _)
  simp only [zl0]
  refine wb (pI_e2 (fs2 := [.ref cl, .ref (a + 3), .ref (a + 1), .ref (a + 2), .int (zI 0), .int (zI S.2.2.1.length), .int (zI S.2.2.2.1), .int (zI S.2.2.2.2)]) e0 (show 4 < 8 by omega) rfl) ?_
  have e1 := ARR_ne (e := .inr (3, [.ref cl, .ref (a + 3), .ref (a + 1), .ref (a + 2), .int (zI 0), .int (zI S.2.2.1.length), .int (zI S.2.2.2.1), .int (zI S.2.2.2.2)])) e1 (show a + 1 ≠ a by omega)
  have e2 := ARR_ne (e := .inr (3, [.ref cl, .ref (a + 3), .ref (a + 1), .ref (a + 2), .int (zI 0), .int (zI S.2.2.1.length), .int (zI S.2.2.2.1), .int (zI S.2.2.2.2)])) e2 (show a + 2 ≠ a by omega)
  have e3 := WRS_off e3 (OFF_up (OFF_refl (a) 1 h11) (c := a) (e := .inr (3, [.ref cl, .ref (a + 3), .ref (a + 1), .ref (a + 2), .int (zI 0), .int (zI S.2.2.1.length), .int (zI S.2.2.2.1), .int (zI S.2.2.2.2)])) (by omega)) (by omega)
  have e0 := hup_same h11 (a) (.inr (3, [.ref cl, .ref (a + 3), .ref (a + 1), .ref (a + 2), .int (zI 0), .int (zI S.2.2.1.length), .int (zI S.2.2.2.1), .int (zI S.2.2.2.2)]))
  have g2 := OFF_up g1 (c := a) (e := .inr (3, [.ref cl, .ref (a + 3), .ref (a + 1), .ref (a + 2), .int (zI 0), .int (zI S.2.2.1.length), .int (zI S.2.2.2.1), .int (zI S.2.2.2.2)])) (by omega)
  generalize hup h11 (a) _ = h12 at *
  refine wb (pI_e2 (fs2 := [.ref cl, .ref (a + 3), .ref (a + 1), .ref (a + 2), .int (zI 0), .int (zI 0), .int (zI S.2.2.2.1), .int (zI S.2.2.2.2)]) e0 (show 5 < 8 by omega) rfl) ?_
  have e1 := ARR_ne (e := .inr (3, [.ref cl, .ref (a + 3), .ref (a + 1), .ref (a + 2), .int (zI 0), .int (zI 0), .int (zI S.2.2.2.1), .int (zI S.2.2.2.2)])) e1 (show a + 1 ≠ a by omega)
  have e2 := ARR_ne (e := .inr (3, [.ref cl, .ref (a + 3), .ref (a + 1), .ref (a + 2), .int (zI 0), .int (zI 0), .int (zI S.2.2.2.1), .int (zI S.2.2.2.2)])) e2 (show a + 2 ≠ a by omega)
  have e3 := WRS_off e3 (OFF_up (OFF_refl (a) 1 h12) (c := a) (e := .inr (3, [.ref cl, .ref (a + 3), .ref (a + 1), .ref (a + 2), .int (zI 0), .int (zI 0), .int (zI S.2.2.2.1), .int (zI S.2.2.2.2)])) (by omega)) (by omega)
  have e0 := hup_same h12 (a) (.inr (3, [.ref cl, .ref (a + 3), .ref (a + 1), .ref (a + 2), .int (zI 0), .int (zI 0), .int (zI S.2.2.2.1), .int (zI S.2.2.2.2)]))
  have g3 := OFF_up g2 (c := a) (e := .inr (3, [.ref cl, .ref (a + 3), .ref (a + 1), .ref (a + 2), .int (zI 0), .int (zI 0), .int (zI S.2.2.2.1), .int (zI S.2.2.2.2)])) (by omega)
  generalize hup h12 (a) _ = h13 at *
  refine wb (pI_e2 (fs2 := [.ref cl, .ref (a + 3), .ref (a + 1), .ref (a + 2), .int (zI 0), .int (zI 0), .int (zI 0), .int (zI S.2.2.2.2)]) e0 (show 6 < 8 by omega) rfl) ?_
  have e1 := ARR_ne (e := .inr (3, [.ref cl, .ref (a + 3), .ref (a + 1), .ref (a + 2), .int (zI 0), .int (zI 0), .int (zI 0), .int (zI S.2.2.2.2)])) e1 (show a + 1 ≠ a by omega)
  have e2 := ARR_ne (e := .inr (3, [.ref cl, .ref (a + 3), .ref (a + 1), .ref (a + 2), .int (zI 0), .int (zI 0), .int (zI 0), .int (zI S.2.2.2.2)])) e2 (show a + 2 ≠ a by omega)
  have e3 := WRS_off e3 (OFF_up (OFF_refl (a) 1 h13) (c := a) (e := .inr (3, [.ref cl, .ref (a + 3), .ref (a + 1), .ref (a + 2), .int (zI 0), .int (zI 0), .int (zI 0), .int (zI S.2.2.2.2)])) (by omega)) (by omega)
  have e0 := hup_same h13 (a) (.inr (3, [.ref cl, .ref (a + 3), .ref (a + 1), .ref (a + 2), .int (zI 0), .int (zI 0), .int (zI 0), .int (zI S.2.2.2.2)]))
  have g4 := OFF_up g3 (c := a) (e := .inr (3, [.ref cl, .ref (a + 3), .ref (a + 1), .ref (a + 2), .int (zI 0), .int (zI 0), .int (zI 0), .int (zI S.2.2.2.2)])) (by omega)
  generalize hup h13 (a) _ = h14 at *
  refine wb (pI_e2 (fs2 := [.ref cl, .ref (a + 3), .ref (a + 1), .ref (a + 2), .int (zI 0), .int (zI 0), .int (zI 0), .int (zI 0)]) e0 (show 7 < 8 by omega) rfl) ?_
  have e1 := ARR_ne (e := .inr (3, [.ref cl, .ref (a + 3), .ref (a + 1), .ref (a + 2), .int (zI 0), .int (zI 0), .int (zI 0), .int (zI 0)])) e1 (show a + 1 ≠ a by omega)
  have e2 := ARR_ne (e := .inr (3, [.ref cl, .ref (a + 3), .ref (a + 1), .ref (a + 2), .int (zI 0), .int (zI 0), .int (zI 0), .int (zI 0)])) e2 (show a + 2 ≠ a by omega)
  have e3 := WRS_off e3 (OFF_up (OFF_refl (a) 1 h14) (c := a) (e := .inr (3, [.ref cl, .ref (a + 3), .ref (a + 1), .ref (a + 2), .int (zI 0), .int (zI 0), .int (zI 0), .int (zI 0)])) (by omega)) (by omega)
  have e0 := hup_same h14 (a) (.inr (3, [.ref cl, .ref (a + 3), .ref (a + 1), .ref (a + 2), .int (zI 0), .int (zI 0), .int (zI 0), .int (zI 0)]))
  have g5 := OFF_up g4 (c := a) (e := .inr (3, [.ref cl, .ref (a + 3), .ref (a + 1), .ref (a + 2), .int (zI 0), .int (zI 0), .int (zI 0), .int (zI 0)])) (by omega)
  generalize hup h14 (a) _ = h15 at *
  exact wr ⟨⟨fe, fy, e0, e1, e2, e3, Nat.zero_le _, Nat.zero_le _, fun j hj => absurd hj (Nat.not_lt_zero _), fun j hj => absurd hj (Nat.not_lt_zero _)⟩, g5⟩
theorem X3_dropAllEyes_is {h : HP} {cl a cap : Nat} {S : SG} (e : STO h cl a cap S) : WP (f_X3_dropAllEyes h a) (fun h' => STO h' cl a cap (S.1, S.2.1, [], S.2.2.2.1, S.2.2.2.2) ∧ OFF a 8 h h') := by
  obtain ⟨fe, fy, e0, e1, e2, e3, r1, r2, c1, c2⟩ := e
  have hL := WRS_len e3
  unfold f_X3_dropAllEyes b_X3_dropAllEyes_0
  have g0 := OFF_refl a 8 h
  refine wb (kO_e e0) ?_
  simp only [zl0]
  refine wb (pI_e2 (fs2 := [.ref cl, .ref (a + 3), .ref (a + 1), .ref (a + 2), .int (zI S.2.1.length), .int (zI 0), .int (zI S.2.2.2.1), .int (zI S.2.2.2.2)]) e0 (show 5 < 8 by omega) rfl) ?_
  have e1 := ARR_ne (e := .inr (3, [.ref cl, .ref (a + 3), .ref (a + 1), .ref (a + 2), .int (zI S.2.1.length), .int (zI 0), .int (zI S.2.2.2.1), .int (zI S.2.2.2.2)])) e1 (show a + 1 ≠ a by omega)
  have e2 := ARR_ne (e := .inr (3, [.ref cl, .ref (a + 3), .ref (a + 1), .ref (a + 2), .int (zI S.2.1.length), .int (zI 0), .int (zI S.2.2.2.1), .int (zI S.2.2.2.2)])) e2 (show a + 2 ≠ a by omega)
  have e3 := WRS_off e3 (OFF_up (OFF_refl (a) 1 h) (c := a) (e := .inr (3, [.ref cl, .ref (a + 3), .ref (a + 1), .ref (a + 2), .int (zI S.2.1.length), .int (zI 0), .int (zI S.2.2.2.1), .int (zI S.2.2.2.2)])) (by omega)) (by omega)
  have e0 := hup_same h (a) (.inr (3, [.ref cl, .ref (a + 3), .ref (a + 1), .ref (a + 2), .int (zI S.2.1.length), .int (zI 0), .int (zI S.2.2.2.1), .int (zI S.2.2.2.2)]))
  have g1 := OFF_up g0 (c := a) (e := .inr (3, [.ref cl, .ref (a + 3), .ref (a + 1), .ref (a + 2), .int (zI S.2.1.length), .int (zI 0), .int (zI S.2.2.2.1), .int (zI S.2.2.2.2)])) (by omega)
  generalize hup h (a) _ = h11 at *
  exact wr ⟨⟨fe, fy, e0, e1, e2, e3, r1, Nat.zero_le _, c1, fun j hj => absurd hj (Nat.not_lt_zero _)⟩, g1⟩
theorem X3_addWrite_is {h : HP} {cl a cap : Nat} {S : SG} (e : STO h cl a cap S) (p q v : Int) (hl : S.1.length < cap) : WP (f_X3_addWrite h a (zI p) (zI q) (zI v)) (fun h' => STO h' cl a cap (S.1 ++ [(S.2.2.2.1 + 1, p, q, v)], S.2.1, S.2.2.1, S.2.2.2.1 + 1, S.2.2.2.2) ∧ OFF a 8 h h') := by
  obtain ⟨fe, fy, e0, e1, e2, e3, r1, r2, c1, c2⟩ := e
  have hL := WRS_len e3
  unfold f_X3_addWrite b_X3_addWrite_0
  have g0 := OFF_refl a 8 h
  refine wb (kO_e e0) ?_
  refine wb (gI_e e0 rfl) ?_
  simp only [zl1, zI_add]
  refine wb (pI_e2 (fs2 := [.ref cl, .ref (a + 3), .ref (a + 1), .ref (a + 2), .int (zI S.2.1.length), .int (zI S.2.2.1.length), .int (zI (S.2.2.2.1 + 1)), .int (zI S.2.2.2.2)]) e0 (show 6 < 8 by omega) rfl) ?_
  have e1 := ARR_ne (e := .inr (3, [.ref cl, .ref (a + 3), .ref (a + 1), .ref (a + 2), .int (zI S.2.1.length), .int (zI S.2.2.1.length), .int (zI (S.2.2.2.1 + 1)), .int (zI S.2.2.2.2)])) e1 (show a + 1 ≠ a by omega)
  have e2 := ARR_ne (e := .inr (3, [.ref cl, .ref (a + 3), .ref (a + 1), .ref (a + 2), .int (zI S.2.1.length), .int (zI S.2.2.1.length), .int (zI (S.2.2.2.1 + 1)), .int (zI S.2.2.2.2)])) e2 (show a + 2 ≠ a by omega)
  have e3 := WRS_off e3 (OFF_up (OFF_refl (a) 1 h) (c := a) (e := .inr (3, [.ref cl, .ref (a + 3), .ref (a + 1), .ref (a + 2), .int (zI S.2.1.length), .int (zI S.2.2.1.length), .int (zI (S.2.2.2.1 + 1)), .int (zI S.2.2.2.2)])) (by omega)) (by omega)
  have e0 := hup_same h (a) (.inr (3, [.ref cl, .ref (a + 3), .ref (a + 1), .ref (a + 2), .int (zI S.2.1.length), .int (zI S.2.2.1.length), .int (zI (S.2.2.2.1 + 1)), .int (zI S.2.2.2.2)]))
  have g1 := OFF_up g0 (c := a) (e := .inr (3, [.ref cl, .ref (a + 3), .ref (a + 1), .ref (a + 2), .int (zI S.2.1.length), .int (zI S.2.2.1.length), .int (zI (S.2.2.2.1 + 1)), .int (zI S.2.2.2.2)])) (by omega)
  generalize hup h (a) _ = h11 at *
  refine wb (gR_e e0 rfl) ?_
  refine wb (gI_e e0 rfl) ?_
  refine wpb (X6_add_is e3 (S.2.2.2.1 + 1) p q v hl) ?_
  rintro h12 ⟨e3, k0⟩
  have e0 := (k0 (a) (by omega)).trans e0
  have e1 := (k0 (a + 1) (by omega)).trans e1
  have e2 := (k0 (a + 2) (by omega)).trans e2
  have g2 := OFF_trans g1 (OFF_wide k0 (by omega) : OFF a 8 _ _)
  exact wr ⟨⟨fe, fy, e0, e1, e2, e3, r1, r2, c1, c2⟩, g2⟩
theorem CLU_app {f : Nat → Int32} {l : List Int} (H : CLU f l) (x : Int) : CLU (upd f l.length (zI x)) (l ++ [x]) := by
  intro j hj
  rw [List.length_append, List.length_singleton] at hj
  by_cases c : j = l.length
  · subst c
    rw [iat_get (by rw [List.length_append, List.length_singleton]; omega)]
    unfold upd
    rw [if_pos rfl, List.getElem_append_right (Nat.le_refl _)]
    simp
  · unfold upd
    rw [if_neg c, H j (by omega), iat_get (by omega), iat_get (by rw [List.length_append, List.length_singleton]; omega), List.getElem_append_left (by omega)]
theorem X3_addEye_is {h : HP} {cl a cap : Nat} {S : SG} (e : STO h cl a cap S) (hl : S.2.2.1.length < 2) : WP (f_X3_addEye h a) (fun h' => STO h' cl a cap (S.1, S.2.1, S.2.2.1 ++ [S.2.2.2.1], S.2.2.2.1, S.2.2.2.2) ∧ OFF a 8 h h') := by
  obtain ⟨fe, fy, e0, e1, e2, e3, r1, r2, c1, c2⟩ := e
  have hL := WRS_len e3
  unfold f_X3_addEye b_X3_addEye_0
  have g0 := OFF_refl a 8 h
  refine wb (kO_e e0) ?_
  refine wb (gI_e e0 rfl) ?_
  refine wb (gR_e e0 rfl) ?_
  refine wb (aN_e e2) ?_
  refine wf (fun d => absurd ((zI_le (by omega)).mp d) (by omega)) ?_
  refine wb (gR_e e0 rfl) ?_
  refine wb (gI_e e0 rfl) ?_
  refine wb (gI_e e0 rfl) ?_
  refine wb (wI_e e2 (by omega)) ?_
  simp only [Int.toNat_natCast]
  have e0 := (hup_ne h (e := .inl (0, 2, .inl (upd fy S.2.2.1.length (zI S.2.2.2.1)))) (show a ≠ a + 2 by omega)).trans e0
  have e1 := ARR_ne (e := .inl (0, 2, .inl (upd fy S.2.2.1.length (zI S.2.2.2.1)))) e1 (show a + 1 ≠ a + 2 by omega)
  have e3 := WRS_off e3 (OFF_up (OFF_refl (a + 2) 1 h) (c := a + 2) (e := .inl (0, 2, .inl (upd fy S.2.2.1.length (zI S.2.2.2.1)))) (by omega)) (by omega)
  have e2 := ARR_eq h (a + 2) 2 (upd fy S.2.2.1.length (zI S.2.2.2.1))
  have g1 := OFF_up g0 (c := a + 2) (e := .inl (0, 2, .inl (upd fy S.2.2.1.length (zI S.2.2.2.1)))) (by omega)
  generalize hup h (a + 2) _ = h11 at *
  refine wb (gI_e e0 rfl) ?_
  simp only [zl1, zI_add]
  refine wb (pI_e2 (fs2 := [.ref cl, .ref (a + 3), .ref (a + 1), .ref (a + 2), .int (zI S.2.1.length), .int (zI (S.2.2.1.length + 1)), .int (zI S.2.2.2.1), .int (zI S.2.2.2.2)]) e0 (show 5 < 8 by omega) rfl) ?_
  have e1 := ARR_ne (e := .inr (3, [.ref cl, .ref (a + 3), .ref (a + 1), .ref (a + 2), .int (zI S.2.1.length), .int (zI (S.2.2.1.length + 1)), .int (zI S.2.2.2.1), .int (zI S.2.2.2.2)])) e1 (show a + 1 ≠ a by omega)
  have e2 := ARR_ne (e := .inr (3, [.ref cl, .ref (a + 3), .ref (a + 1), .ref (a + 2), .int (zI S.2.1.length), .int (zI (S.2.2.1.length + 1)), .int (zI S.2.2.2.1), .int (zI S.2.2.2.2)])) e2 (show a + 2 ≠ a by omega)
  have e3 := WRS_off e3 (OFF_up (OFF_refl (a) 1 h11) (c := a) (e := .inr (3, [.ref cl, .ref (a + 3), .ref (a + 1), .ref (a + 2), .int (zI S.2.1.length), .int (zI (S.2.2.1.length + 1)), .int (zI S.2.2.2.1), .int (zI S.2.2.2.2)])) (by omega)) (by omega)
  have e0 := hup_same h11 (a) (.inr (3, [.ref cl, .ref (a + 3), .ref (a + 1), .ref (a + 2), .int (zI S.2.1.length), .int (zI (S.2.2.1.length + 1)), .int (zI S.2.2.2.1), .int (zI S.2.2.2.2)]))
  have g2 := OFF_up g1 (c := a) (e := .inr (3, [.ref cl, .ref (a + 3), .ref (a + 1), .ref (a + 2), .int (zI S.2.1.length), .int (zI (S.2.2.1.length + 1)), .int (zI S.2.2.2.1), .int (zI S.2.2.2.2)])) (by omega)
  generalize hup h11 (a) _ = h12 at *
  refine wr ⟨⟨fe, _, ?_, e1, e2, e3, r1, ?_, c1, CLU_app c2 _⟩, g2⟩
  · rw [e0]
    simp
  · simp only [List.length_append, List.length_singleton]
    omega
theorem X3_become_is {h : HP} {cl a cap : Nat} {S : SG} (e : STO h cl a cap S) {dl b capb : Nat} {T : SG} (k : STO h dl b capb T) (hd : a + 8 ≤ b ∨ b + 8 ≤ a) (hl : T.1.length ≤ cap) : WP (f_X3_become h a b) (fun h' => STO h' cl a cap T ∧ OFF a 8 h h') := by
  obtain ⟨fe, fy, e0, e1, e2, e3, r1, r2, c1, c2⟩ := e
  have hL := WRS_len e3
  unfold f_X3_become b_X3_become_0
  obtain ⟨pe, py, k0, k1, k2, k3, s1, s2, d1, d2⟩ := k
  have hM := WRS_len k3
  have g0 := OFF_refl a 8 h
  refine wb (kO_e e0) ?_
  refine wb (gR_e e0 rfl) ?_
  refine wb (gR_e e0 rfl) ?_
  refine wb (X6_size_is e3) ?_
  refine wb (gR_e k0 rfl) ?_
  rw [show (0 : Int32) = zI ((0 : Nat) : Int) by decide]
  refine wpb (X6_replace_is e3 k3 (by omega) (Nat.zero_le _) (Nat.le_refl _) (by omega)) ?_
  rintro h11 ⟨e3, k9⟩
  have e0 := (k9 (a) (by omega)).trans e0
  have e1 := (k9 (a + 1) (by omega)).trans e1
  have e2 := (k9 (a + 2) (by omega)).trans e2
  have k0 := (k9 (b) (by omega)).trans k0
  have k1 := (k9 (b + 1) (by omega)).trans k1
  have k2 := (k9 (b + 2) (by omega)).trans k2
  have k3 := WRS_off k3 k9 (by omega)
  have g1 := OFF_trans g0 (OFF_wide k9 (by omega) : OFF a 8 _ _)
  refine wb (gR_e k0 rfl) ?_
  refine wb (gR_e e0 rfl) ?_
  refine wb (gR_e e0 rfl) ?_
  refine wb (aN_e e1) ?_
  refine wb (cI_e k1 e1 (by omega)) ?_
  have e0 := (hup_ne h11 (e := .inl (0, 6, .inl (va_cpy pe fe ((0 : Nat) : Int).toNat ((0 : Nat) : Int).toNat ((6 : Nat) : Int).toNat))) (show a ≠ a + 1 by omega)).trans e0
  have e2 := ARR_ne (e := .inl (0, 6, .inl (va_cpy pe fe ((0 : Nat) : Int).toNat ((0 : Nat) : Int).toNat ((6 : Nat) : Int).toNat))) e2 (show a + 2 ≠ a + 1 by omega)
  have k0 := (hup_ne h11 (e := .inl (0, 6, .inl (va_cpy pe fe ((0 : Nat) : Int).toNat ((0 : Nat) : Int).toNat ((6 : Nat) : Int).toNat))) (show b ≠ a + 1 by omega)).trans k0
  have k1 := ARR_ne (e := .inl (0, 6, .inl (va_cpy pe fe ((0 : Nat) : Int).toNat ((0 : Nat) : Int).toNat ((6 : Nat) : Int).toNat))) k1 (show b + 1 ≠ a + 1 by omega)
  have k2 := ARR_ne (e := .inl (0, 6, .inl (va_cpy pe fe ((0 : Nat) : Int).toNat ((0 : Nat) : Int).toNat ((6 : Nat) : Int).toNat))) k2 (show b + 2 ≠ a + 1 by omega)
  have k3 := WRS_off k3 (OFF_up (OFF_refl (a + 1) 1 h11) (c := a + 1) (e := .inl (0, 6, .inl (va_cpy pe fe ((0 : Nat) : Int).toNat ((0 : Nat) : Int).toNat ((6 : Nat) : Int).toNat))) (by omega)) (by omega)
  have e3 := WRS_off e3 (OFF_up (OFF_refl (a + 1) 1 h11) (c := a + 1) (e := .inl (0, 6, .inl (va_cpy pe fe ((0 : Nat) : Int).toNat ((0 : Nat) : Int).toNat ((6 : Nat) : Int).toNat))) (by omega)) (by omega)
  have e1 := ARR_eq h11 (a + 1) 6 (va_cpy pe fe ((0 : Nat) : Int).toNat ((0 : Nat) : Int).toNat ((6 : Nat) : Int).toNat)
  have g2 := OFF_up g1 (c := a + 1) (e := .inl (0, 6, .inl (va_cpy pe fe ((0 : Nat) : Int).toNat ((0 : Nat) : Int).toNat ((6 : Nat) : Int).toNat))) (by omega)
  generalize hup h11 (a + 1) _ = h12 at *
  refine wb (gR_e k0 rfl) ?_
  refine wb (gR_e e0 rfl) ?_
  refine wb (gR_e e0 rfl) ?_
  refine wb (aN_e e2) ?_
  refine wb (cI_e k2 e2 (by omega)) ?_
  have e0 := (hup_ne h12 (e := .inl (0, 2, .inl (va_cpy py fy ((0 : Nat) : Int).toNat ((0 : Nat) : Int).toNat ((2 : Nat) : Int).toNat))) (show a ≠ a + 2 by omega)).trans e0
  have e1 := ARR_ne (e := .inl (0, 2, .inl (va_cpy py fy ((0 : Nat) : Int).toNat ((0 : Nat) : Int).toNat ((2 : Nat) : Int).toNat))) e1 (show a + 1 ≠ a + 2 by omega)
  have k0 := (hup_ne h12 (e := .inl (0, 2, .inl (va_cpy py fy ((0 : Nat) : Int).toNat ((0 : Nat) : Int).toNat ((2 : Nat) : Int).toNat))) (show b ≠ a + 2 by omega)).trans k0
  have k1 := ARR_ne (e := .inl (0, 2, .inl (va_cpy py fy ((0 : Nat) : Int).toNat ((0 : Nat) : Int).toNat ((2 : Nat) : Int).toNat))) k1 (show b + 1 ≠ a + 2 by omega)
  have k2 := ARR_ne (e := .inl (0, 2, .inl (va_cpy py fy ((0 : Nat) : Int).toNat ((0 : Nat) : Int).toNat ((2 : Nat) : Int).toNat))) k2 (show b + 2 ≠ a + 2 by omega)
  have k3 := WRS_off k3 (OFF_up (OFF_refl (a + 2) 1 h12) (c := a + 2) (e := .inl (0, 2, .inl (va_cpy py fy ((0 : Nat) : Int).toNat ((0 : Nat) : Int).toNat ((2 : Nat) : Int).toNat))) (by omega)) (by omega)
  have e3 := WRS_off e3 (OFF_up (OFF_refl (a + 2) 1 h12) (c := a + 2) (e := .inl (0, 2, .inl (va_cpy py fy ((0 : Nat) : Int).toNat ((0 : Nat) : Int).toNat ((2 : Nat) : Int).toNat))) (by omega)) (by omega)
  have e2 := ARR_eq h12 (a + 2) 2 (va_cpy py fy ((0 : Nat) : Int).toNat ((0 : Nat) : Int).toNat ((2 : Nat) : Int).toNat)
  have g3 := OFF_up g2 (c := a + 2) (e := .inl (0, 2, .inl (va_cpy py fy ((0 : Nat) : Int).toNat ((0 : Nat) : Int).toNat ((2 : Nat) : Int).toNat))) (by omega)
  generalize hup h12 (a + 2) _ = h13 at *
  refine wb (gI_e k0 rfl) ?_
  refine wb (pI_e2 (fs2 := [.ref cl, .ref (a + 3), .ref (a + 1), .ref (a + 2), .int (zI T.2.1.length), .int (zI S.2.2.1.length), .int (zI S.2.2.2.1), .int (zI S.2.2.2.2)]) e0 (show 4 < 8 by omega) rfl) ?_
  have e1 := ARR_ne (e := .inr (3, [.ref cl, .ref (a + 3), .ref (a + 1), .ref (a + 2), .int (zI T.2.1.length), .int (zI S.2.2.1.length), .int (zI S.2.2.2.1), .int (zI S.2.2.2.2)])) e1 (show a + 1 ≠ a by omega)
  have e2 := ARR_ne (e := .inr (3, [.ref cl, .ref (a + 3), .ref (a + 1), .ref (a + 2), .int (zI T.2.1.length), .int (zI S.2.2.1.length), .int (zI S.2.2.2.1), .int (zI S.2.2.2.2)])) e2 (show a + 2 ≠ a by omega)
  have k0 := (hup_ne h13 (e := .inr (3, [.ref cl, .ref (a + 3), .ref (a + 1), .ref (a + 2), .int (zI T.2.1.length), .int (zI S.2.2.1.length), .int (zI S.2.2.2.1), .int (zI S.2.2.2.2)])) (show b ≠ a by omega)).trans k0
  have k1 := ARR_ne (e := .inr (3, [.ref cl, .ref (a + 3), .ref (a + 1), .ref (a + 2), .int (zI T.2.1.length), .int (zI S.2.2.1.length), .int (zI S.2.2.2.1), .int (zI S.2.2.2.2)])) k1 (show b + 1 ≠ a by omega)
  have k2 := ARR_ne (e := .inr (3, [.ref cl, .ref (a + 3), .ref (a + 1), .ref (a + 2), .int (zI T.2.1.length), .int (zI S.2.2.1.length), .int (zI S.2.2.2.1), .int (zI S.2.2.2.2)])) k2 (show b + 2 ≠ a by omega)
  have k3 := WRS_off k3 (OFF_up (OFF_refl (a) 1 h13) (c := a) (e := .inr (3, [.ref cl, .ref (a + 3), .ref (a + 1), .ref (a + 2), .int (zI T.2.1.length), .int (zI S.2.2.1.length), .int (zI S.2.2.2.1), .int (zI S.2.2.2.2)])) (by omega)) (by omega)
  have e3 := WRS_off e3 (OFF_up (OFF_refl (a) 1 h13) (c := a) (e := .inr (3, [.ref cl, .ref (a + 3), .ref (a + 1), .ref (a + 2), .int (zI T.2.1.length), .int (zI S.2.2.1.length), .int (zI S.2.2.2.1), .int (zI S.2.2.2.2)])) (by omega)) (by omega)
  have e0 := hup_same h13 (a) (.inr (3, [.ref cl, .ref (a + 3), .ref (a + 1), .ref (a + 2), .int (zI T.2.1.length), .int (zI S.2.2.1.length), .int (zI S.2.2.2.1), .int (zI S.2.2.2.2)]))
  have g4 := OFF_up g3 (c := a) (e := .inr (3, [.ref cl, .ref (a + 3), .ref (a + 1), .ref (a + 2), .int (zI T.2.1.length), .int (zI S.2.2.1.length), .int (zI S.2.2.2.1), .int (zI S.2.2.2.2)])) (by omega)
  generalize hup h13 (a) _ = h14 at *
  refine wb (gI_e k0 rfl) ?_
  refine wb (pI_e2 (fs2 := [.ref cl, .ref (a + 3), .ref (a + 1), .ref (a + 2), .int (zI T.2.1.length), .int (zI T.2.2.1.length), .int (zI S.2.2.2.1), .int (zI S.2.2.2.2)]) e0 (show 5 < 8 by omega) rfl) ?_
  have e1 := ARR_ne (e := .inr (3, [.ref cl, .ref (a + 3), .ref (a + 1), .ref (a + 2), .int (zI T.2.1.length), .int (zI T.2.2.1.length), .int (zI S.2.2.2.1), .int (zI S.2.2.2.2)])) e1 (show a + 1 ≠ a by omega)
  have e2 := ARR_ne (e := .inr (3, [.ref cl, .ref (a + 3), .ref (a + 1), .ref (a + 2), .int (zI T.2.1.length), .int (zI T.2.2.1.length), .int (zI S.2.2.2.1), .int (zI S.2.2.2.2)])) e2 (show a + 2 ≠ a by omega)
  have k0 := (hup_ne h14 (e := .inr (3, [.ref cl, .ref (a + 3), .ref (a + 1), .ref (a + 2), .int (zI T.2.1.length), .int (zI T.2.2.1.length), .int (zI S.2.2.2.1), .int (zI S.2.2.2.2)])) (show b ≠ a by omega)).trans k0
  have k1 := ARR_ne (e := .inr (3, [.ref cl, .ref (a + 3), .ref (a + 1), .ref (a + 2), .int (zI T.2.1.length), .int (zI T.2.2.1.length), .int (zI S.2.2.2.1), .int (zI S.2.2.2.2)])) k1 (show b + 1 ≠ a by omega)
  have k2 := ARR_ne (e := .inr (3, [.ref cl, .ref (a + 3), .ref (a + 1), .ref (a + 2), .int (zI T.2.1.length), .int (zI T.2.2.1.length), .int (zI S.2.2.2.1), .int (zI S.2.2.2.2)])) k2 (show b + 2 ≠ a by omega)
  have k3 := WRS_off k3 (OFF_up (OFF_refl (a) 1 h14) (c := a) (e := .inr (3, [.ref cl, .ref (a + 3), .ref (a + 1), .ref (a + 2), .int (zI T.2.1.length), .int (zI T.2.2.1.length), .int (zI S.2.2.2.1), .int (zI S.2.2.2.2)])) (by omega)) (by omega)
  have e3 := WRS_off e3 (OFF_up (OFF_refl (a) 1 h14) (c := a) (e := .inr (3, [.ref cl, .ref (a + 3), .ref (a + 1), .ref (a + 2), .int (zI T.2.1.length), .int (zI T.2.2.1.length), .int (zI S.2.2.2.1), .int (zI S.2.2.2.2)])) (by omega)) (by omega)
  have e0 := hup_same h14 (a) (.inr (3, [.ref cl, .ref (a + 3), .ref (a + 1), .ref (a + 2), .int (zI T.2.1.length), .int (zI T.2.2.1.length), .int (zI S.2.2.2.1), .int (zI S.2.2.2.2)]))
  have g5 := OFF_up g4 (c := a) (e := .inr (3, [.ref cl, .ref (a + 3), .ref (a + 1), .ref (a + 2), .int (zI T.2.1.length), .int (zI T.2.2.1.length), .int (zI S.2.2.2.1), .int (zI S.2.2.2.2)])) (by omega)
  generalize hup h14 (a) _ = h15 at *
  refine wb (gI_e k0 rfl) ?_
  refine wb (pI_e2 (fs2 := [.ref cl, .ref (a + 3), .ref (a + 1), .ref (a + 2), .int (zI T.2.1.length), .int (zI T.2.2.1.length), .int (zI T.2.2.2.1), .int (zI S.2.2.2.2)]) e0 (show 6 < 8 by omega) rfl) ?_
  have e1 := ARR_ne (e := .inr (3, [.ref cl, .ref (a + 3), .ref (a + 1), .ref (a + 2), .int (zI T.2.1.length), .int (zI T.2.2.1.length), .int (zI T.2.2.2.1), .int (zI S.2.2.2.2)])) e1 (show a + 1 ≠ a by omega)
  have e2 := ARR_ne (e := .inr (3, [.ref cl, .ref (a + 3), .ref (a + 1), .ref (a + 2), .int (zI T.2.1.length), .int (zI T.2.2.1.length), .int (zI T.2.2.2.1), .int (zI S.2.2.2.2)])) e2 (show a + 2 ≠ a by omega)
  have k0 := (hup_ne h15 (e := .inr (3, [.ref cl, .ref (a + 3), .ref (a + 1), .ref (a + 2), .int (zI T.2.1.length), .int (zI T.2.2.1.length), .int (zI T.2.2.2.1), .int (zI S.2.2.2.2)])) (show b ≠ a by omega)).trans k0
  have k1 := ARR_ne (e := .inr (3, [.ref cl, .ref (a + 3), .ref (a + 1), .ref (a + 2), .int (zI T.2.1.length), .int (zI T.2.2.1.length), .int (zI T.2.2.2.1), .int (zI S.2.2.2.2)])) k1 (show b + 1 ≠ a by omega)
  have k2 := ARR_ne (e := .inr (3, [.ref cl, .ref (a + 3), .ref (a + 1), .ref (a + 2), .int (zI T.2.1.length), .int (zI T.2.2.1.length), .int (zI T.2.2.2.1), .int (zI S.2.2.2.2)])) k2 (show b + 2 ≠ a by omega)
  have k3 := WRS_off k3 (OFF_up (OFF_refl (a) 1 h15) (c := a) (e := .inr (3, [.ref cl, .ref (a + 3), .ref (a + 1), .ref (a + 2), .int (zI T.2.1.length), .int (zI T.2.2.1.length), .int (zI T.2.2.2.1), .int (zI S.2.2.2.2)])) (by omega)) (by omega)
  have e3 := WRS_off e3 (OFF_up (OFF_refl (a) 1 h15) (c := a) (e := .inr (3, [.ref cl, .ref (a + 3), .ref (a + 1), .ref (a + 2), .int (zI T.2.1.length), .int (zI T.2.2.1.length), .int (zI T.2.2.2.1), .int (zI S.2.2.2.2)])) (by omega)) (by omega)
  have e0 := hup_same h15 (a) (.inr (3, [.ref cl, .ref (a + 3), .ref (a + 1), .ref (a + 2), .int (zI T.2.1.length), .int (zI T.2.2.1.length), .int (zI T.2.2.2.1), .int (zI S.2.2.2.2)]))
  have g6 := OFF_up g5 (c := a) (e := .inr (3, [.ref cl, .ref (a + 3), .ref (a + 1), .ref (a + 2), .int (zI T.2.1.length), .int (zI T.2.2.1.length), .int (zI T.2.2.2.1), .int (zI S.2.2.2.2)])) (by omega)
  generalize hup h15 (a) _ = h16 at *
  refine wb (gI_e k0 rfl) ?_
  refine wb (pI_e2 (fs2 := [.ref cl, .ref (a + 3), .ref (a + 1), .ref (a + 2), .int (zI T.2.1.length), .int (zI T.2.2.1.length), .int (zI T.2.2.2.1), .int (zI T.2.2.2.2)]) e0 (show 7 < 8 by omega) rfl) ?_
  have e1 := ARR_ne (e := .inr (3, [.ref cl, .ref (a + 3), .ref (a + 1), .ref (a + 2), .int (zI T.2.1.length), .int (zI T.2.2.1.length), .int (zI T.2.2.2.1), .int (zI T.2.2.2.2)])) e1 (show a + 1 ≠ a by omega)
  have e2 := ARR_ne (e := .inr (3, [.ref cl, .ref (a + 3), .ref (a + 1), .ref (a + 2), .int (zI T.2.1.length), .int (zI T.2.2.1.length), .int (zI T.2.2.2.1), .int (zI T.2.2.2.2)])) e2 (show a + 2 ≠ a by omega)
  have k0 := (hup_ne h16 (e := .inr (3, [.ref cl, .ref (a + 3), .ref (a + 1), .ref (a + 2), .int (zI T.2.1.length), .int (zI T.2.2.1.length), .int (zI T.2.2.2.1), .int (zI T.2.2.2.2)])) (show b ≠ a by omega)).trans k0
  have k1 := ARR_ne (e := .inr (3, [.ref cl, .ref (a + 3), .ref (a + 1), .ref (a + 2), .int (zI T.2.1.length), .int (zI T.2.2.1.length), .int (zI T.2.2.2.1), .int (zI T.2.2.2.2)])) k1 (show b + 1 ≠ a by omega)
  have k2 := ARR_ne (e := .inr (3, [.ref cl, .ref (a + 3), .ref (a + 1), .ref (a + 2), .int (zI T.2.1.length), .int (zI T.2.2.1.length), .int (zI T.2.2.2.1), .int (zI T.2.2.2.2)])) k2 (show b + 2 ≠ a by omega)
  have k3 := WRS_off k3 (OFF_up (OFF_refl (a) 1 h16) (c := a) (e := .inr (3, [.ref cl, .ref (a + 3), .ref (a + 1), .ref (a + 2), .int (zI T.2.1.length), .int (zI T.2.2.1.length), .int (zI T.2.2.2.1), .int (zI T.2.2.2.2)])) (by omega)) (by omega)
  have e3 := WRS_off e3 (OFF_up (OFF_refl (a) 1 h16) (c := a) (e := .inr (3, [.ref cl, .ref (a + 3), .ref (a + 1), .ref (a + 2), .int (zI T.2.1.length), .int (zI T.2.2.1.length), .int (zI T.2.2.2.1), .int (zI T.2.2.2.2)])) (by omega)) (by omega)
  have e0 := hup_same h16 (a) (.inr (3, [.ref cl, .ref (a + 3), .ref (a + 1), .ref (a + 2), .int (zI T.2.1.length), .int (zI T.2.2.1.length), .int (zI T.2.2.2.1), .int (zI T.2.2.2.2)]))
  have g7 := OFF_up g6 (c := a) (e := .inr (3, [.ref cl, .ref (a + 3), .ref (a + 1), .ref (a + 2), .int (zI T.2.1.length), .int (zI T.2.2.1.length), .int (zI T.2.2.2.1), .int (zI T.2.2.2.2)])) (by omega)
  generalize hup h16 (a) _ = h17 at *
  have hz : S.1.take 0 ++ T.1 ++ S.1.drop S.1.length = T.1 := by simp
  rw [hz] at e3
  refine wr ⟨⟨_, _, e0, e1, e2, e3, s1, s2, fun j hj => ?_, fun j hj => ?_⟩, g7⟩
  · rw [← d1 j hj]
    unfold va_cpy
    simp only [Int.toNat_natCast]
    rw [if_pos (by omega)]
    congr 1
    omega
  · rw [← d2 j hj]
    unfold va_cpy
    simp only [Int.toNat_natCast]
    rw [if_pos (by omega)]
    congr 1
    omega
