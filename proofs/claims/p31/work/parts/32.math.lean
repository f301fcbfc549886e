theorem X3_become_is {h : HP} {cl a cap : Nat} {S : SG} (e : STO h cl a cap S) {dl b capb : Nat} {T : SG} (k : STO h dl b capb T) (hd : a + 8 ≤ b ∨ b + 8 ≤ a) (hl : T.1.length ≤ cap) : WP (f_X3_become h a b) (fun h' => STO h' cl a cap T ∧ OFF a 8 h h') := by
  obtain ⟨fe, fy, e0, e1, e2, e3, r1, r2, c1, c2⟩ := e
  have hL := WRS_len e3
  unfold f_X3_become b_X3_become_0
  obtain ⟨pe, py, k0, k1, k2, k3, s1, s2, d1, d2⟩ := k
  have hM := WRS_len k3
  have g0 := OFF_refl a 8 h
  refine wb (kO_e e0) ?_
  refine wb (gR_e e0 rfl) ?_
  refine wb (gR_e e0 rfl) ?_
  refine wb (X6_size_is e3) ?_
  refine wb (gR_e k0 rfl) ?_
  rw [show (0 : Int32) = zI ((0 : Nat) : Int) by decide]
  refine wpb (X6_replace_is e3 k3 (by omega) (Nat.zero_le _) (Nat.le_refl _) (by omega)) ?_
  rintro h11 ⟨e3, k9⟩
  have e0 := (k9 (a) (by omega)).trans e0
  have e1 := (k9 (a + 1) (by omega)).trans e1
  have e2 := (k9 (a + 2) (by omega)).trans e2
  have k0 := (k9 (b) (by omega)).trans k0
  have k1 := (k9 (b + 1) (by omega)).trans k1
  have k2 := (k9 (b + 2) (by omega)).trans k2
  have k3 := WRS_off k3 k9 (by omega)
  have g1 := OFF_trans g0 (OFF_wide k9 (by omega) : OFF a 8 _ _)
  refine wb (gR_e k0 rfl) ?_
  refine wb (gR_e e0 rfl) ?_
  refine wb (gR_e e0 rfl) ?_
  refine wb (aN_e e1) ?_
  refine wb (cI_e k1 e1 (by omega)) ?_
  have e0 := (hup_ne h11 (e := .inl (0, 6, .inl (va_cpy pe fe ((0 : Nat) : Int).toNat ((0 : Nat) : Int).toNat ((6 : Nat) : Int).toNat))) (show a ≠ a + 1 by omega)).trans e0
  have e2 := ARR_ne (e := .inl (0, 6, .inl (va_cpy pe fe ((0 : Nat) : Int).toNat ((0 : Nat) : Int).toNat ((6 : Nat) : Int).toNat))) e2 (show a + 2 ≠ a + 1 by omega)
  have k0 := (hup_ne h11 (e := .inl (0, 6, .inl (va_cpy pe fe ((0 : Nat) : Int).toNat ((0 : Nat) : Int).toNat ((6 : Nat) : Int).toNat))) (show b ≠ a + 1 by omega)).trans k0
  have k1 := ARR_ne (e := .inl (0, 6, .inl (va_cpy pe fe ((0 : Nat) : Int).toNat ((0 : Nat) : Int).toNat ((6 : Nat) : Int).toNat))) k1 (show b + 1 ≠ a + 1 by omega)
  have k2 := ARR_ne (e := .inl (0, 6, .inl (va_cpy pe fe ((0 : Nat) : Int).toNat ((0 : Nat) : Int).toNat ((6 : Nat) : Int).toNat))) k2 (show b + 2 ≠ a + 1 by omega)
  have k3 := WRS_off k3 (OFF_up (OFF_refl (a + 1) 1 h11) (c := a + 1) (e := .inl (0, 6, .inl (va_cpy pe fe ((0 : Nat) : Int).toNat ((0 : Nat) : Int).toNat ((6 : Nat) : Int).toNat))) (by omega)) (by omega)
  have e3 := WRS_off e3 (OFF_up (OFF_refl (a + 1) 1 h11) (c := a + 1) (e := .inl (0, 6, .inl (va_cpy pe fe ((0 : Nat) : Int).toNat ((0 : Nat) : Int).toNat ((6 : Nat) : Int).toNat))) (by omega)) (by omega)
  have e1 := ARR_eq h11 (a + 1) 6 (va_cpy pe fe ((0 : Nat) : Int).toNat ((0 : Nat) : Int).toNat ((6 : Nat) : Int).toNat)
  have g2 := OFF_up g1 (c := a + 1) (e := .inl (0, 6, .inl (va_cpy pe fe ((0 : Nat) : Int).toNat ((0 : Nat) : Int).toNat ((6 : Nat) : Int).toNat))) (by omega)
  generalize hup h11 (a + 1) _ = h12 at *
  refine wb (gR_e k0 rfl) ?_
  refine wb (gR_e e0 rfl) ?_
  refine wb (gR_e e0 rfl) ?_
  refine wb (aN_e e2) ?_
  refine wb (cI_e k2 e2 (by omega)) ?_
  have e0 := (hup_ne h12 (e := .inl (0, 2, .inl (va_cpy py fy ((0 : Nat) : Int).toNat ((0 : Nat) : Int).toNat ((2 : Nat) : Int).toNat))) (show a ≠ a + 2 by omega)).trans e0
  have e1 := ARR_ne (e := .inl (0, 2, .inl (va_cpy py fy ((0 : Nat) : Int).toNat ((0 : Nat) : Int).toNat ((2 : Nat) : Int).toNat))) e1 (show a + 1 ≠ a + 2 by omega)
  have k0 := (hup_ne h12 (e := .inl (0, 2, .inl (va_cpy py fy ((0 : Nat) : Int).toNat ((0 : Nat) : Int).toNat ((2 : Nat) : Int).toNat))) (show b ≠ a + 2 by omega)).trans k0
  have k1 := ARR_ne (e := .inl (0, 2, .inl (va_cpy py fy ((0 : Nat) : Int).toNat ((0 : Nat) : Int).toNat ((2 : Nat) : Int).toNat))) k1 (show b + 1 ≠ a + 2 by omega)
  have k2 := ARR_ne (e := .inl (0, 2, .inl (va_cpy py fy ((0 : Nat) : Int).toNat ((0 : Nat) : Int).toNat ((2 : Nat) : Int).toNat))) k2 (show b + 2 ≠ a + 2 by omega)
  have k3 := WRS_off k3 (OFF_up (OFF_refl (a + 2) 1 h12) (c := a + 2) (e := .inl (0, 2, .inl (va_cpy py fy ((0 : Nat) : Int).toNat ((0 : Nat) : Int).toNat ((2 : Nat) : Int).toNat))) (by omega)) (by omega)
  have e3 := WRS_off e3 (OFF_up (OFF_refl (a + 2) 1 h12) (c := a + 2) (e := .inl (0, 2, .inl (va_cpy py fy ((0 : Nat) : Int).toNat ((0 : Nat) : Int).toNat ((2 : Nat) : Int).toNat))) (by omega)) (by omega)
  have e2 := ARR_eq h12 (a + 2) 2 (va_cpy py fy ((0 : Nat) : Int).toNat ((0 : Nat) : Int).toNat ((2 : Nat) : Int).toNat)
  have g3 := OFF_up g2 (c := a + 2) (e := .inl (0, 2, .inl (va_cpy py fy ((0 : Nat) : Int).toNat ((0 : Nat) : Int).toNat ((2 : Nat) : Int).toNat))) (by omega)
  generalize hup h12 (a + 2) _ = h13 at *
  refine wb (gI_e k0 rfl) ?_
  refine wb (pI_e2 (fs2 := [.ref cl, .ref (a + 3), .ref (a + 1), .ref (a + 2), .int (zI T.2.1.length), .int (zI S.2.2.1.length), .int (zI S.2.2.2.1), .int (zI S.2.2.2.2)]) e0 (show 4 < 8 by omega) rfl) ?_
  have e1 := ARR_ne (e := .inr (3, [.ref cl, .ref (a + 3), .ref (a + 1), .ref (a + 2), .int (zI T.2.1.length), .int (zI S.2.2.1.length), .int (zI S.2.2.2.1), .int (zI S.2.2.2.2)])) e1 (show a + 1 ≠ a by omega)
  have e2 := ARR_ne (e := .inr (3, [.ref cl, .ref (a + 3), .ref (a + 1), .ref (a + 2), .int (zI T.2.1.length), .int (zI S.2.2.1.length), .int (zI S.2.2.2.1), .int (zI S.2.2.2.2)])) e2 (show a + 2 ≠ a by omega)
  have k0 := (hup_ne h13 (e := .inr (3, [.ref cl, .ref (a + 3), .ref (a + 1), .ref (a + 2), .int (zI T.2.1.length), .int (zI S.2.2.1.length), .int (zI S.2.2.2.1), .int (zI S.2.2.2.2)])) (show b ≠ a by omega)).trans k0
  have k1 := ARR_ne (e := .inr (3, [.ref cl, .ref (a + 3), .ref (a + 1), .ref (a + 2), .int (zI T.2.1.length), .int (zI S.2.2.1.length), .int (zI S.2.2.2.1), .int (zI S.2.2.2.2)])) k1 (show b + 1 ≠ a by omega)
  have k2 := ARR_ne (e := .inr (3, [.ref cl, .ref (a + 3), .ref (a + 1), .ref (a + 2), .int (zI T.2.1.length), .int (zI S.2.2.1.length), .int (zI S.2.2.2.1), .int (zI S.2.2.2.2)])) k2 (show b + 2 ≠ a by omega)
  have k3 := WRS_off k3 (OFF_up (OFF_refl (a) 1 h13) (c := a) (e := .inr (3, [.ref cl, .ref (a + 3), .ref (a + 1), .ref (a + 2), .int (zI T.2.1.length), .int (zI S.2.2.1.length), .int (zI S.2.2.2.1), .int (zI S.2.2.2.2)])) (by omega)) (by omega)
  have e3 := WRS_off e3 (OFF_up (OFF_refl (a) 1 h13) (c := a) (e := .inr (3, [.ref cl, .ref (a + 3), .ref (a + 1), .ref (a + 2), .int (zI T.2.1.length), .int (zI S.2.2.1.length), .int (zI S.2.2.2.1), .int (zI S.2.2.2.2)])) (by omega)) (by omega)
  have e0 := hup_same h13 (a) (.inr (3, [.ref cl, .ref (a + 3), .ref (a + 1), .ref (a + 2), .int (zI T.2.1.length), .int (zI S.2.2.1.length), .int (zI S.2.2.2.1), .int (zI S.2.2.2.2)]))
  have g4 := OFF_up g3 (c := a) (e := .inr (3, [.ref cl, .ref (a + 3), .ref (a + 1), .ref (a + 2), .int (zI T.2.1.length), .int (zI S.2.2.1.length), .int (zI S.2.2.2.1), .int (zI S.2.2.2.2)])) (by omega)
  generalize hup h13 (a) _ = h14 at *
  refine wb (gI_e k0 rfl) ?_
  refine wb (pI_e2 (fs2 := [.ref cl, .ref (a + 3), .ref (a + 1), .ref (a + 2), .int (zI T.2.1.length), .int (zI T.2.2.1.length), .int (zI S.2.2.2.1), .int (zI S.2.2.2.2)]) e0 (show 5 < 8 by omega) rfl) ?_
  have e1 := ARR_ne (e := .inr (3, [.ref cl, .ref (a + 3), .ref (a + 1), .ref (a + 2), .int (zI T.2.1.length), .int (zI T.2.2.1.length), .int (zI S.2.2.2.1), .int (zI S.2.2.2.2)])) e1 (show a + 1 ≠ a by omega)
  have e2 := ARR_ne (e := .inr (3, [.ref cl, .ref (a + 3), .ref (a + 1), .ref (a + 2), .int (zI T.2.1.length), .int (zI T.2.2.1.length), .int (zI S.2.2.2.1), .int (zI S.2.2.2.2)])) e2 (show a + 2 ≠ a by omega)
  have k0 := (hup_ne h14 (e := .inr (3, [.ref cl, .ref (a + 3), .ref (a + 1), .ref (a + 2), .int (zI T.2.1.length), .int (zI T.2.2.1.length), .int (zI S.2.2.2.1), .int (zI S.2.2.2.2)])) (show b ≠ a by omega)).trans k0
  have k1 := ARR_ne (e := .inr (3, [.ref cl, .ref (a + 3), .ref (a + 1), .ref (a + 2), .int (zI T.2.1.length), .int (zI T.2.2.1.length), .int (zI S.2.2.2.1), .int (zI S.2.2.2.2)])) k1 (show b + 1 ≠ a by omega)
  have k2 := ARR_ne (e := .inr (3, [.ref cl, .ref (a + 3), .ref (a + 1), .ref (a + 2), .int (zI T.2.1.length), .int (zI T.2.2.1.length), .int (zI S.2.2.2.1), .int (zI S.2.2.2.2)])) k2 (show b + 2 ≠ a by omega)
  have k3 := WRS_off k3 (OFF_up (OFF_refl (a) 1 h14) (c := a) (e := .inr (3, [.ref cl, .ref (a + 3), .ref (a + 1), .ref (a + 2), .int (zI T.2.1.length), .int (zI T.2.2.1.length), .int (zI S.2.2.2.1), .int (zI S.2.2.2.2)])) (by omega)) (by omega)
  have e3 := WRS_off e3 (OFF_up (OFF_refl (a) 1 h14) (c := a) (e := .inr (3, [.ref cl, .ref (a + 3), .ref (a + 1), .ref (a + 2), .int (zI T.2.1.length), .int (zI T.2.2.1.length), .int (zI S.2.2.2.1), .int (zI S.2.2.2.2)])) (by omega)) (by omega)
  have e0 := hup_same h14 (a) (.inr (3, [.ref cl, .ref (a + 3), .ref (a + 1), .ref (a + 2), .int (zI T.2.1.length), .int (zI T.2.2.1.length), .int (zI S.2.2.2.1), .int (zI S.2.2.2.2)]))
  have g5 := OFF_up g4 (c := a) (e := .inr (3, [.ref cl, .ref (a + 3), .ref (a + 1), .ref (a + 2), .int (zI T.2.1.length), .int (zI T.2.2.1.length), .int (zI S.2.2.2.1), .int (zI S.2.2.2.2)])) (by omega)
  generalize hup h14 (a) _ = h15 at *
  refine wb (gI_e k0 rfl) ?_
  refine wb (pI_e2 (fs2 := [.ref cl, .ref (a + 3), .ref (a + 1), .ref (a + 2), .int (zI T.2.1.length), .int (zI T.2.2.1.length), .int (zI T.2.2.2.1), .int (zI S.2.2.2.2)]) e0 (show 6 < 8 by omega) rfl) ?_
  have e1 := ARR_ne (e := .inr (3, [.ref cl, .ref (a + 3), .ref (a + 1), .ref (a + 2), .int (zI T.2.1.length), .int (zI T.2.2.1.length), .int (zI T.2.2.2.1), .int (zI S.2.2.2.2)])) e1 (show a + 1 ≠ a by omega)
  have e2 := ARR_ne (e := .inr (3, [.ref cl, .ref (a + 3), .ref (a + 1), .ref (a + 2), .int (zI T.2.1.length), .int (zI T.2.2.1.length), .int (zI T.2.2.2.1), .int (zI S.2.2.2.2)])) e2 (show a + 2 ≠ a by omega)
  have k0 := (hup_ne h15 (e := .inr (3, [.ref cl, .ref (a + 3), .ref (a + 1), .ref (a + 2), .int (zI T.2.1.length), .int (zI T.2.2.1.length), .int (zI T.2.2.2.1), .int (zI S.2.2.2.2)])) (show b ≠ a by omega)).trans k0
  have k1 := ARR_ne (e := .inr (3, [.ref cl, .ref (a + 3), .ref (a + 1), .ref (a + 2), .int (zI T.2.1.length), .int (zI T.2.2.1.length), .int (zI T.2.2.2.1), .int (zI S.2.2.2.2)])) k1 (show b + 1 ≠ a by omega)
  have k2 := ARR_ne (e := .inr (3, [.ref cl, .ref (a + 3), .ref (a + 1), .ref (a + 2), .int (zI T.2.1.length), .int (zI T.2.2.1.length), .int (zI T.2.2.2.1), .int (zI S.2.2.2.2)])) k2 (show b + 2 ≠ a by omega)
  have k3 := WRS_off k3 (OFF_up (OFF_refl (a) 1 h15) (c := a) (e := .inr (3, [.ref cl, .ref (a + 3), .ref (a + 1), .ref (a + 2), .int (zI T.2.1.length), .int (zI T.2.2.1.length), .int (zI T.2.2.2.1), .int (zI S.2.2.2.2)])) (by omega)) (by omega)
  have e3 := WRS_off e3 (OFF_up (OFF_refl (a) 1 h15) (c := a) (e := .inr (3, [.ref cl, .ref (a + 3), .ref (a + 1), .ref (a + 2), .int (zI T.2.1.length), .int (zI T.2.2.1.length), .int (zI T.2.2.2.1), .int (zI S.2.2.2.2)])) (by omega)) (by omega)
  have e0 := hup_same h15 (a) (.inr (3, [.ref cl, .ref (a + 3), .ref (a + 1), .ref (a + 2), .int (zI T.2.1.length), .int (zI T.2.2.1.length), .int (zI T.2.2.2.1), .int (zI S.2.2.2.2)]))
  have g6 := OFF_up g5 (c := a) (e := .inr (3, [.ref cl, .ref (a + 3), .ref (a + 1), .ref (a + 2), .int (zI T.2.1.length), .int (zI T.2.2.1.length), .int (zI T.2.2.2.1), .int (zI S.2.2.2.2)])) (by omega)
  generalize hup h15 (a) _ = h16 at *
  refine wb (gI_e k0 rfl) ?_
  refine wb (pI_e2 (fs2 := [.ref cl, .ref (a + 3), .ref (a + 1), .ref (a + 2), .int (zI T.2.1.length), .int (zI T.2.2.1.length), .int (zI T.2.2.2.1), .int (zI T.2.2.2.2)]) e0 (show 7 < 8 by omega) rfl) ?_
  have e1 := ARR_ne (e := .inr (3, [.ref cl, .ref (a + 3), .ref (a + 1), .ref (a + 2), .int (zI T.2.1.length), .int (zI T.2.2.1.length), .int (zI T.2.2.2.1), .int (zI T.2.2.2.2)])) e1 (show a + 1 ≠ a by omega)
  have e2 := ARR_ne (e := .inr (3, [.ref cl, .ref (a + 3), .ref (a + 1), .ref (a + 2), .int (zI T.2.1.length), .int (zI T.2.2.1.length), .int (zI T.2.2.2.1), .int (zI T.2.2.2.2)])) e2 (show a + 2 ≠ a by omega)
  have k0 := (hup_ne h16 (e := .inr (3, [.ref cl, .ref (a + 3), .ref (a + 1), .ref (a + 2), .int (zI T.2.1.length), .int (zI T.2.2.1.length), .int (zI T.2.2.2.1), .int (zI T.2.2.2.2)])) (show b ≠ a by omega)).trans k0
  have k1 := ARR_ne (e := .inr (3, [.ref cl, .ref (a + 3), .ref (a + 1), .ref (a + 2), .int (zI T.2.1.length), .int (zI T.2.2.1.length), .int (zI T.2.2.2.1), .int (zI T.2.2.2.2)])) k1 (show b + 1 ≠ a by omega)
  have k2 := ARR_ne (e := .inr (3, [.ref cl, .ref (a + 3), .ref (a + 1), .ref (a + 2), .int (zI T.2.1.length), .int (zI T.2.2.1.length), .int (zI T.2.2.2.1), .int (zI T.2.2.2.2)])) k2 (show b + 2 ≠ a by omega)
  have k3 := WRS_off k3 (OFF_up (OFF_refl (a) 1 h16) (c := a) (e := .inr (3, [.ref cl, .ref (a + 3), .ref (a + 1), .ref (a + 2), .int (zI T.2.1.length), .int (zI T.2.2.1.length), .int (zI T.2.2.2.1), .int (zI T.2.2.2.2)])) (by omega)) (by omega)
  have e3 := WRS_off e3 (OFF_up (OFF_refl (a) 1 h16) (c := a) (e := .inr (3, [.ref cl, .ref (a + 3), .ref (a + 1), .ref (a + 2), .int (zI T.2.1.length), .int (zI T.2.2.1.length), .int (zI T.2.2.2.1), .int (zI T.2.2.2.2)])) (by omega)) (by omega)
  have e0 := hup_same h16 (a) (.inr (3, [.ref cl, .ref (a + 3), .ref (a + 1), .ref (a + 2), .int (zI T.2.1.length), .int (zI T.2.2.1.length), .int (zI T.2.2.2.1), .int (zI T.2.2.2.2)]))
  have g7 := OFF_up g6 (c := a) (e := .inr (3, [.ref cl, .ref (a + 3), .ref (a + 1), .ref (a + 2), .int (zI T.2.1.length), .int (zI T.2.2.1.length), .int (zI T.2.2.2.1), .int (zI T.2.2.2.2)])) (by omega)
  generalize hup h16 (a) _ = h17 at *
  have hz : S.1.take 0 ++ T.1 ++ S.1.drop S.1.length = T.1 := by simp
  rw [hz] at e3
  refine wr ⟨⟨_, _, e0, e1, e2, e3, s1, s2, fun j hj => ?_, fun j hj => ?_⟩, g7⟩
  · rw [← d1 j hj]
    unfold va_cpy
    simp only [Int.toNat_natCast]
    rw [if_pos (by omega)]
    congr 1
    omega
  · rw [← d2 j hj]
    unfold va_cpy
    simp only [Int.toNat_natCast]
    rw [if_pos (by omega)]
    congr 1
    omega
def VIEW (h : HP) (v : Nat) (f : Nat → Int) : Prop := ∃ F, h v = some (.inr (5, [.ref (v + 1)])) ∧ ARR h (v + 1) 100 F ∧ ∀ k : Nat, k < 100 → F k = zI (f k)
theorem VIEW_off {h h' : HP} {v a' n' : Nat} {f : Nat → Int} (e : VIEW h v f) (k : OFF a' n' h h') (d : v + 2 ≤ a' ∨ a' + n' ≤ v) : VIEW h' v f := by
  obtain ⟨F, e0, e1, e2⟩ := e
  exact ⟨F, (k _ (by omega)).trans e0, (k _ (by omega)).trans e1, e2⟩
def NSRT (ws : List WR) : Prop := ∀ i j : Nat, i < j → j < ws.length → (wat ws i).1 ≤ (wat ws j).1
theorem nfD_succ (ws : List WR) (k m : Int) (n : Nat) : nfD ws k m (n + 1) = if (wat ws n).1 ≤ m ∧ (wat ws n).2.1 ≤ k ∧ k ≤ (wat ws n).2.2.1 then (n : Int) else nfD ws k m n := rfl
theorem nfD_stop {ws : List WR} (H : NSRT ws) {k m : Int} {j : Nat} (hj : m < (wat ws j).1) : ∀ r, j + r ≤ ws.length → nfD ws k m (j + r) = nfD ws k m j := by
  intro r
  induction r with
  | zero => exact fun _ => rfl
  | succ r ih =>
    intro hr
    rw [show j + (r + 1) = (j + r) + 1 by omega, nfD_succ]
    have h1 : (wat ws j).1 ≤ (wat ws (j + r : Nat)).1 := by
      by_cases c : r = 0
      · subst c
        exact Int.le_refl _
      · exact H j (j + r) (by omega) (by omega)
    rw [if_neg (by omega)]
    exact ih (by omega)
theorem fill_loop {v : Nat} : ∀ (m n : Nat) (h : HP) (F : Nat → Int32) (j : Nat), m < n → j + m = 100 → ARR h v 100 F → (∀ i : Nat, i < j → F i = zI 0) → WP (b_J7_fill_53178_5 v (zI 0) n h (zI j) (zI 100)) (fun h' => (∃ F', ARR h' v 100 F' ∧ ∀ i : Nat, i < 100 → F' i = zI 0) ∧ OFF v 1 h h') := by
  intro m
  induction m with
  | zero =>
    intro n h F j hn hj e hF
    obtain ⟨n, rfl⟩ : ∃ k, n = k + 1 := ⟨n - 1, by omega⟩
    unfold b_J7_fill_53178_5 c_J7_fill_53178_5
    refine wt ((zI_le (by omega)).mpr (by omega)) ?_
    exact wr ⟨⟨F, e, fun i hi => hF i (by omega)⟩, OFF_refl _ _ _⟩
  | succ m ih =>
    intro n h F j hn hj e hF
    obtain ⟨n, rfl⟩ : ∃ k, n = k + 1 := ⟨n - 1, by omega⟩
    unfold b_J7_fill_53178_5 c_J7_fill_53178_5
    refine wf (fun d => absurd ((zI_le (by omega)).mp d) (by omega)) ?_
    refine wb (wI_e e (by omega)) ?_
    simp only [zl1, zI_add]
    have h1 := ih n _ (upd F j (zI 0)) (j + 1) (by omega) (by omega) (ARR_eq h v 100 _) (fun i hi => by
      unfold upd
      by_cases c : i = j
      · rw [if_pos c]
      · rw [if_neg c, hF i (by omega)])
    rw [show (((j + 1 : Nat)) : Int) = (j : Int) + 1 by omega] at h1
    refine wm h1 fun h' hh => ⟨hh.1, OFF_trans (OFF_up (OFF_refl _ _ _) (by omega)) hh.2⟩
theorem fill_is {h : HP} {v : Nat} {F : Nat → Int32} (e : ARR h v 100 F) : WP (f_J7_fill_53178 h v (zI 0)) (fun h' => (∃ F', ARR h' v 100 F' ∧ ∀ i : Nat, i < 100 → F' i = zI 0) ∧ OFF v 1 h h') := by
  unfold f_J7_fill_53178 b_J7_fill_53178_0
  refine wb (aN_e e) ?_
  have := fill_loop (v := v) 100 FU h F 0 (by unfold FU; omega) (by omega) e (fun i hi => absurd hi (by omega))
  rw [zl0]
  exact this
theorem look_in {v wa cap : Nat} {ws : List WR} (hw : WSOK ws) (hd : v + 2 ≤ wa ∨ wa + 5 ≤ v) {M : Int32} {k16 : HP → Nat → Int32 → Option HP} {P : HP → Prop} {j : Nat} (hj : j < ws.length) {F0 : Nat → Int32} {h0 : HP} (hk : ∀ h' F', h' v = some (.inr (5, [.ref (v + 1)])) → ARR h' (v + 1) 100 F' → WRS h' wa cap ws → OFF v 2 h0 h' → (∀ i : Nat, i < 100 → F' i = if (wat ws j).2.1 ≤ i ∧ i ≤ (wat ws j).2.2.1 then zI (wat ws j).2.2.2 else F0 i) → WP (k16 h' wa (zI (j + 1))) P) : ∀ (m n : Nat) (h : HP) (F : Nat → Int32) (k : Nat), m < n → (wat ws j).2.1 ≤ k → (k : Int) + m = (wat ws j).2.2.1 + 1 → h v = some (.inr (5, [.ref (v + 1)])) → ARR h (v + 1) 100 F → WRS h wa cap ws → OFF v 2 h0 h → (∀ i : Nat, i < 100 → F i = if (wat ws j).2.1 ≤ i ∧ (i : Int) < k then zI (wat ws j).2.2.2 else F0 i) → WP (b_X5_look_47 v M k16 n h wa (zI j) (zI k)) P := by
  have hwj := WOK_at hw (j := j) (by omega)
  unfold WOK at hwj
  intro m
  induction m with
  | zero =>
    intro n h F k hn hfk hm e0 e1 e2 g hF
    have hL := WRS_len e2
    obtain ⟨n, rfl⟩ : ∃ k, n = k + 1 := ⟨n - 1, by omega⟩
    unfold b_X5_look_47 c_X5_look_47
    refine wb (X6_lastAt_is e2 (by omega)) ?_
    simp only [zl1, zI_add]
    refine wt ((zI_lt (by omega)).mpr (by omega)) ?_
    refine hk h F e0 e1 e2 g fun i hi => ?_
    rw [hF i hi]
    by_cases c : (wat ws j).2.1 ≤ i ∧ (i : Int) < k
    · rw [if_pos c, if_pos (by omega)]
    · rw [if_neg c, if_neg (by omega)]
  | succ m ih =>
    intro n h F k hn hfk hm e0 e1 e2 g hF
    have hL := WRS_len e2
    obtain ⟨n, rfl⟩ : ∃ k, n = k + 1 := ⟨n - 1, by omega⟩
    unfold b_X5_look_47 c_X5_look_47
    refine wb (X6_lastAt_is e2 (by omega)) ?_
    simp only [zl1, zI_add, show (100 : Int32) = zI 100 by decide]
    refine wf (fun d => absurd ((zI_lt (by omega)).mp d) (by omega)) ?_
    refine wf (fun d => absurd ((zI_le (by omega)).mp d) (by omega)) ?_
    refine wb (gR_e e0 rfl) ?_
    refine wb (X6_valueAt_is e2 (by omega)) ?_
    refine wb (wI_e e1 (by omega)) ?_
    have h1 := ih n (hup h (v + 1) (.inl (0, 100, .inl (upd F (k : Int).toNat (zI (wat ws j).2.2.2))))) (upd F (k : Int).toNat (zI (wat ws j).2.2.2)) (k + 1) (by omega) (by omega) (by omega) ((hup_ne _ _ (by omega)).trans e0) (ARR_eq _ _ _ _) (WRS_off e2 (OFF_up (OFF_refl (v + 1) 1 h) (by omega)) (by omega)) (OFF_up g (by omega)) (fun i hi => by
      unfold upd
      by_cases c : i = (k : Int).toNat
      · rw [if_pos c, if_pos (by omega)]
      · rw [if_neg c, hF i hi]
        by_cases c2 : (wat ws j).2.1 ≤ i ∧ (i : Int) < k
        · rw [if_pos c2, if_pos (by omega)]
        · rw [if_neg c2, if_neg (by omega)])
    rw [show (((k + 1 : Nat)) : Int) = (k : Int) + 1 by omega] at h1
    exact h1
theorem look_out {v wa cap : Nat} {ws : List WR} (hw : WSOK ws) (hs : NSRT ws) (hd : v + 2 ≤ wa ∨ wa + 5 ≤ v) {M : Int} (hM : -1000000 < M ∧ M < 1000000) {h0 : HP} : ∀ (r n : Nat) (h : HP) (F : Nat → Int32) (j : Nat), r < n → j + r = ws.length → h v = some (.inr (5, [.ref (v + 1)])) → ARR h (v + 1) 100 F → WRS h wa cap ws → OFF v 2 h0 h → (∀ i : Nat, i < 100 → F i = zI (wat ws (nfD ws i M j)).2.2.2) → WP (b_X5_look_16 v (zI M) n h wa (zI j)) (fun h' => VIEW h' v (fun k => (wat ws (nfI ws k M)).2.2.2) ∧ OFF v 2 h0 h') := by
  intro r
  induction r with
  | zero =>
    intro n h F j hn hr e0 e1 e2 g hF
    have hL := WRS_len e2
    obtain ⟨n, rfl⟩ : ∃ k, n = k + 1 := ⟨n - 1, by omega⟩
    unfold b_X5_look_16 c_X5_look_16
    refine wb (X6_size_is e2) ?_
    refine wt ((zI_le (by omega)).mpr (by omega)) ?_
    refine wr ⟨⟨F, e0, e1, fun k hk => ?_⟩, g⟩
    rw [hF k hk]
    unfold nfI
    rw [show ws.length = j by omega]
  | succ r ih =>
    intro n h F j hn hr e0 e1 e2 g hF
    have hL := WRS_len e2
    have hwj := WOK_at hw (j := j) (by omega)
    unfold WOK at hwj
    obtain ⟨n, rfl⟩ : ∃ k, n = k + 1 := ⟨n - 1, by omega⟩
    unfold b_X5_look_16 c_X5_look_16
    refine wb (X6_size_is e2) ?_
    refine wf (fun d => absurd ((zI_le (by omega)).mp d) (by omega)) ?_
    refine wb (X6_numberAt_is e2 (by omega)) ?_
    by_cases c1 : M < (wat ws j).1
    · refine wt ((zI_lt (by omega)).mpr c1) ?_
      refine wr ⟨⟨F, e0, e1, fun k hk => ?_⟩, g⟩
      rw [hF k hk]
      unfold nfI
      dsimp only
      rw [show ws.length = j + (r + 1) by omega, nfD_stop hs c1 (r + 1) (by omega)]
    · refine wf (fun d => c1 ((zI_lt (by omega)).mp d)) ?_
      refine wb (X6_firstAt_is e2 (by omega)) ?_
      rw [zl0, zI_jmax (by omega), show max (wat ws j).2.1 0 = (((wat ws j).2.1.toNat : Nat) : Int) by omega]
      refine look_in hw hd (by omega) (F0 := F) (h0 := h0) (fun h' F' q0 q1 q2 q3 q4 => ?_) ((wat ws j).2.2.1 + 1 - (wat ws j).2.1).toNat FU h F (wat ws j).2.1.toNat (by unfold FU; omega) (by omega) (by omega) e0 e1 e2 g (fun i hi => by rw [if_neg (by omega)])
      have h1 := ih n h' F' (j + 1) (by omega) (by omega) q0 q1 q2 q3 (fun i hi => by
        rw [q4 i hi, nfD_succ]
        by_cases c : (wat ws j).2.1 ≤ i ∧ (i : Int) ≤ (wat ws j).2.2.1
        · rw [if_pos c, if_pos (by omega)]
        · rw [if_neg c, if_neg (by omega), hF i hi])
      rw [show (((j + 1 : Nat)) : Int) = (j : Int) + 1 by omega] at h1
      exact h1
theorem X5_look_is {h : HP} {v cl a cap : Nat} {S : SG} {f : Nat → Int} (k : VIEW h v f) (e : STO h cl a cap S) (hw : WSOK S.1) (hs : NSRT S.1) (hd : v + 2 ≤ a ∨ a + 8 ≤ v) {M : Int} (hM : -1000000 < M ∧ M < 1000000) : WP (f_X5_look h v a (zI M)) (fun h' => VIEW h' v (fun k => (wat S.1 (nfI S.1 k M)).2.2.2) ∧ OFF v 2 h h') := by
  obtain ⟨F, k0, k1, k2⟩ := k
  unfold f_X5_look b_X5_look_0
  refine wb (kO_e k0) ?_
  refine wb (gR_e k0 rfl) ?_
  simp only [zl0]
  refine wpb (fill_is k1) ?_
  rintro h1 ⟨⟨F', q1, q2⟩, g⟩
  have e' := STO_off e g (by omega)
  obtain ⟨fe, fy, e0, e1, e2, e3, r1, r2, c1, c2⟩ := e'
  have hL := WRS_len e3
  refine wb (gR_e e0 rfl) ?_
  refine look_out hw hs (by omega) hM S.1.length FU h1 F' 0 (by unfold FU; omega) (by omega) ((g _ (by omega)).trans k0) q1 e3 (OFF_wide g (by omega)) (fun i hi => ?_)
  rw [q2 i hi]
  unfold nfD
  rw [wat_out (Or.inl (by omega))]
  rfl
def smf (f : Nat → Int) (p : Nat) : Nat → Int
  | 0 => 0
  | n + 1 => f p + smf f (p + 1) n
theorem smf_succ (f : Nat → Int) (p n : Nat) : smf f p (n + 1) = f p + smf f (p + 1) n := rfl
def fst1 (P : Nat → Prop) [DecidablePred P] (p : Nat) : Nat → Int
  | 0 => -1
  | n + 1 => if P p then p else fst1 P (p + 1) n
theorem sum_loop {h : HP} {v : Nat} {f : Nat → Int} (e : VIEW h v f) : ∀ (m n : Nat) (acc : Int) (j : Nat), m < n → j + m = 100 → b_X5_sum_4 h v n (zI acc) (zI j) = some (zI (acc + smf f j m)) := by
  obtain ⟨F, e0, e1, e2⟩ := e
  intro m
  induction m with
  | zero =>
    intro n acc j hn hj
    obtain ⟨n, rfl⟩ : ∃ k, n = k + 1 := ⟨n - 1, by omega⟩
    unfold b_X5_sum_4 c_X5_sum_4
    rw [show (100 : Int32) = zI 100 by decide, if_pos ((zI_le (by omega)).mpr (by omega))]
    unfold smf
    rw [Int.add_zero]
  | succ m ih =>
    intro n acc j hn hj
    obtain ⟨n, rfl⟩ : ∃ k, n = k + 1 := ⟨n - 1, by omega⟩
    unfold b_X5_sum_4 c_X5_sum_4
    rw [show (100 : Int32) = zI 100 by decide, if_neg (fun d => absurd ((zI_le (by omega)).mp d) (by omega)), gR_e e0 rfl, Option.bind_some, aI_e e1 (by omega), Option.bind_some, Int.toNat_natCast, e2 j (by omega)]
    simp only [zl1, zI_add]
    have := ih n (acc + f j) (j + 1) (by omega) (by omega)
    rw [show (((j + 1 : Nat)) : Int) = (j : Int) + 1 by omega] at this
    rw [this, smf_succ, Int.add_assoc]
theorem X5_sum_is {h : HP} {v : Nat} {f : Nat → Int} (e : VIEW h v f) : f_X5_sum h v = some (zI (smf f 0 100)) := by
  have h1 := sum_loop e 100 FU 0 0 (by unfold FU; omega) (by omega)
  obtain ⟨F, e0, e1, e2⟩ := e
  unfold f_X5_sum b_X5_sum_0
  rw [Int.zero_add] at h1
  rw [kO_e e0, Option.bind_some, zl0]
  exact h1
theorem seenIn_loop {h : HP} {v : Nat} {f : Nat → Int} (e : VIEW h v f) (hf : ∀ k : Nat, k < 100 → 0 ≤ f k ∧ f k < 1000) {t : Int} (ht : 0 ≤ t ∧ t < 100) : ∀ (m n : Nat) (acc : Int) (j : Nat), m < n → (j : Int) + m = t + 1 → b_X5_seenIn_9 h v (zI t) n (zI acc) (zI j) = some (zI (acc + cnt (fun k => f k ≠ 0) j m)) := by
  obtain ⟨F, e0, e1, e2⟩ := e
  intro m
  induction m with
  | zero =>
    intro n acc j hn hj
    obtain ⟨n, rfl⟩ : ∃ k, n = k + 1 := ⟨n - 1, by omega⟩
    unfold b_X5_seenIn_9 c_X5_seenIn_9
    rw [if_pos ((zI_lt (by omega)).mpr (by omega))]
    unfold cnt
    rw [Int.add_zero]
  | succ m ih =>
    intro n acc j hn hj
    obtain ⟨n, rfl⟩ : ∃ k, n = k + 1 := ⟨n - 1, by omega⟩
    unfold b_X5_seenIn_9 c_X5_seenIn_9
    have hb := hf j (by omega)
    rw [show (100 : Int32) = zI 100 by decide, if_neg (fun d => absurd ((zI_lt (by omega)).mp d) (by omega)), if_neg (fun d => absurd ((zI_le (by omega)).mp d) (by omega)), gR_e e0 rfl, Option.bind_some, aI_e e1 (by omega), Option.bind_some, Int.toNat_natCast, e2 j (by omega)]
    simp only [zl0, zl1, zI_add]
    unfold cnt
    by_cases c : f j = 0
    · rw [if_pos ((zI_inj (by omega)).mpr c), if_neg (by omega)]
      have := ih n acc (j + 1) (by omega) (by omega)
      rw [show (((j + 1 : Nat)) : Int) = (j : Int) + 1 by omega] at this
      rw [this, Int.zero_add]
    · rw [if_neg (fun d => c ((zI_inj (by omega)).mp d)), if_pos c]
      have := ih n (acc + 1) (j + 1) (by omega) (by omega)
      rw [show (((j + 1 : Nat)) : Int) = (j : Int) + 1 by omega] at this
      rw [this, Int.add_assoc]
