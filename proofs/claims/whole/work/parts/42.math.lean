/-! the reference: small writings -/
theorem aI_v {h : HP} {a n : Nat} {f : Nat → Int32} {z : Int} {x : Int32} (e : ARR h a n f) (hz : 0 ≤ z ∧ z < n ∧ (n : Int) < 2147483648) (hv : f z.toNat = x) : aI h a (zI z) = some x := by
  rw [aI_e e hz, hv]
theorem upd_ne {f : Nat → Int32} {k j : Nat} {x : Int32} (h : j ≠ k) : upd f k x j = f j := by
  unfold upd
  rw [if_neg h]
theorem upd_eq {f : Nat → Int32} {k j : Nat} {x : Int32} (h : j = k) : upd f k x j = x := by
  unfold upd
  rw [if_pos h]
theorem eOf_m1 (S : SG) : eOf S (-1) = S.1.length := by
  unfold eOf
  rw [if_neg (by omega)]
theorem wat_app {ws : List WR} {w : WR} {j : Nat} (h : j < ws.length) : wat (ws ++ [w]) j = wat ws j := by
  rw [wat_get (by rw [List.length_append]; omega), wat_get h, List.getElem_append_left h]
theorem wat_last {ws : List WR} {w : WR} {j : Nat} (h : j = ws.length) : wat (ws ++ [w]) j = w := by
  subst h
  rw [wat_get (by rw [List.length_append, List.length_singleton]; omega), List.getElem_append_right (Nat.le_refl _)]
  simp
theorem iat_app {l : List Int} {w : Int} {j : Nat} (h : j < l.length) : iat (l ++ [w]) j = iat l j := by
  rw [iat_get (by rw [List.length_append]; omega), iat_get h, List.getElem_append_left h]
theorem iat_last {l : List Int} {w : Int} {j : Nat} (h : j = l.length) : iat (l ++ [w]) j = w := by
  subst h
  rw [iat_get (by rw [List.length_append, List.length_singleton]; omega), List.getElem_append_right (Nat.le_refl _)]
  simp

theorem X8_writes_is {h : HP} {m : Nat} {S : SG} (e : REF h m S) (hl : S.1.length < 48) (p q x : Int) : WP (f_X8_writes h m (zI p) (zI q) (zI x)) (fun r => r.1 = zI (S.2.2.2.1 + 1) ∧ REF r.2 m (S.1 ++ [(S.2.2.2.1 + 1, p, q, x)], S.2.1, S.2.2.1, S.2.2.2.1 + 1, S.2.2.2.2) ∧ OFF (m + 1) 1 h r.2) := by
  have ha := X8_all_is e
  obtain ⟨v, f, e0, e1, ⟨b1, b2, b3⟩, q0, q1, q2, q3, q4, q5, q6, q7⟩ := e
  unfold f_X8_writes b_X8_writes_0
  have g0 := OFF_refl (m + 1) 1 h
  simp only [zl0, zl1, show (2 : Int32) = zI 2 by decide, show (3 : Int32) = zI 3 by decide, show (6 : Int32) = zI 6 by decide, show (7 : Int32) = zI 7 by decide, show (8 : Int32) = zI 8 by decide, show (10 : Int32) = zI 10 by decide]
  refine wb (kO_e e0) ?_
  refine wb ha ?_
  refine wb (gR_e e0 rfl) ?_
  refine wb (aI_v e1 (z := 10) (by omega) q5) ?_
  rw [zI_add]
  refine wb (wI_e e1 (z := 10) (by omega)) ?_
  have e0 := (hup_ne h (e := .inl (0, 204, .inl (upd (f) ((10 : Int)).toNat (zI (S.2.2.2.1 + 1))))) (show m ≠ m + 1 by omega)).trans e0
  have e1 := ARR_eq h (m + 1) 204 (upd (f) ((10 : Int)).toNat (zI (S.2.2.2.1 + 1)))
  have g1 := OFF_up g0 (c := m + 1) (e := .inl (0, 204, .inl (upd (f) ((10 : Int)).toNat (zI (S.2.2.2.1 + 1))))) (by omega)
  generalize hup h (m + 1) _ = h11 at *
  refine wb (gR_e e0 rfl) ?_
  refine wb (X8_of_is _ _ _) ?_
  refine wb (gR_e e0 rfl) ?_
  refine wb (aI_v e1 (z := 10) (by omega) (upd_eq rfl)) ?_
  refine wb (wI_e e1 (by omega)) ?_
  have e0 := (hup_ne h11 (e := .inl (0, 204, .inl (upd (upd (f) ((10 : Int)).toNat (zI (S.2.2.2.1 + 1))) (12 + 4 * (S.1.length : Int) + 0).toNat (zI (S.2.2.2.1 + 1))))) (show m ≠ m + 1 by omega)).trans e0
  have e1 := ARR_eq h11 (m + 1) 204 (upd (upd (f) ((10 : Int)).toNat (zI (S.2.2.2.1 + 1))) (12 + 4 * (S.1.length : Int) + 0).toNat (zI (S.2.2.2.1 + 1)))
  have g2 := OFF_up g1 (c := m + 1) (e := .inl (0, 204, .inl (upd (upd (f) ((10 : Int)).toNat (zI (S.2.2.2.1 + 1))) (12 + 4 * (S.1.length : Int) + 0).toNat (zI (S.2.2.2.1 + 1))))) (by omega)
  generalize hup h11 (m + 1) _ = h12 at *
  refine wb (gR_e e0 rfl) ?_
  refine wb (X8_of_is _ _ _) ?_
  refine wb (wI_e e1 (by omega)) ?_
  have e0 := (hup_ne h12 (e := .inl (0, 204, .inl (upd (upd (upd (f) ((10 : Int)).toNat (zI (S.2.2.2.1 + 1))) (12 + 4 * (S.1.length : Int) + 0).toNat (zI (S.2.2.2.1 + 1))) (12 + 4 * (S.1.length : Int) + 1).toNat (zI p)))) (show m ≠ m + 1 by omega)).trans e0
  have e1 := ARR_eq h12 (m + 1) 204 (upd (upd (upd (f) ((10 : Int)).toNat (zI (S.2.2.2.1 + 1))) (12 + 4 * (S.1.length : Int) + 0).toNat (zI (S.2.2.2.1 + 1))) (12 + 4 * (S.1.length : Int) + 1).toNat (zI p))
  have g3 := OFF_up g2 (c := m + 1) (e := .inl (0, 204, .inl (upd (upd (upd (f) ((10 : Int)).toNat (zI (S.2.2.2.1 + 1))) (12 + 4 * (S.1.length : Int) + 0).toNat (zI (S.2.2.2.1 + 1))) (12 + 4 * (S.1.length : Int) + 1).toNat (zI p)))) (by omega)
  generalize hup h12 (m + 1) _ = h13 at *
  refine wb (gR_e e0 rfl) ?_
  refine wb (X8_of_is _ _ _) ?_
  refine wb (wI_e e1 (by omega)) ?_
  have e0 := (hup_ne h13 (e := .inl (0, 204, .inl (upd (upd (upd (upd (f) ((10 : Int)).toNat (zI (S.2.2.2.1 + 1))) (12 + 4 * (S.1.length : Int) + 0).toNat (zI (S.2.2.2.1 + 1))) (12 + 4 * (S.1.length : Int) + 1).toNat (zI p)) (12 + 4 * (S.1.length : Int) + 2).toNat (zI q)))) (show m ≠ m + 1 by omega)).trans e0
  have e1 := ARR_eq h13 (m + 1) 204 (upd (upd (upd (upd (f) ((10 : Int)).toNat (zI (S.2.2.2.1 + 1))) (12 + 4 * (S.1.length : Int) + 0).toNat (zI (S.2.2.2.1 + 1))) (12 + 4 * (S.1.length : Int) + 1).toNat (zI p)) (12 + 4 * (S.1.length : Int) + 2).toNat (zI q))
  have g4 := OFF_up g3 (c := m + 1) (e := .inl (0, 204, .inl (upd (upd (upd (upd (f) ((10 : Int)).toNat (zI (S.2.2.2.1 + 1))) (12 + 4 * (S.1.length : Int) + 0).toNat (zI (S.2.2.2.1 + 1))) (12 + 4 * (S.1.length : Int) + 1).toNat (zI p)) (12 + 4 * (S.1.length : Int) + 2).toNat (zI q)))) (by omega)
  generalize hup h13 (m + 1) _ = h14 at *
  refine wb (gR_e e0 rfl) ?_
  refine wb (X8_of_is _ _ _) ?_
  refine wb (wI_e e1 (by omega)) ?_
  have e0 := (hup_ne h14 (e := .inl (0, 204, .inl (upd (upd (upd (upd (upd (f) ((10 : Int)).toNat (zI (S.2.2.2.1 + 1))) (12 + 4 * (S.1.length : Int) + 0).toNat (zI (S.2.2.2.1 + 1))) (12 + 4 * (S.1.length : Int) + 1).toNat (zI p)) (12 + 4 * (S.1.length : Int) + 2).toNat (zI q)) (12 + 4 * (S.1.length : Int) + 3).toNat (zI x)))) (show m ≠ m + 1 by omega)).trans e0
  have e1 := ARR_eq h14 (m + 1) 204 (upd (upd (upd (upd (upd (f) ((10 : Int)).toNat (zI (S.2.2.2.1 + 1))) (12 + 4 * (S.1.length : Int) + 0).toNat (zI (S.2.2.2.1 + 1))) (12 + 4 * (S.1.length : Int) + 1).toNat (zI p)) (12 + 4 * (S.1.length : Int) + 2).toNat (zI q)) (12 + 4 * (S.1.length : Int) + 3).toNat (zI x))
  have g5 := OFF_up g4 (c := m + 1) (e := .inl (0, 204, .inl (upd (upd (upd (upd (upd (f) ((10 : Int)).toNat (zI (S.2.2.2.1 + 1))) (12 + 4 * (S.1.length : Int) + 0).toNat (zI (S.2.2.2.1 + 1))) (12 + 4 * (S.1.length : Int) + 1).toNat (zI p)) (12 + 4 * (S.1.length : Int) + 2).toNat (zI q)) (12 + 4 * (S.1.length : Int) + 3).toNat (zI x)))) (by omega)
  generalize hup h14 (m + 1) _ = h15 at *
  refine wb (gR_e e0 rfl) ?_
  refine wb (aI_v e1 (z := 6) (by omega) ((upd_ne (by omega)).trans ((upd_ne (by omega)).trans ((upd_ne (by omega)).trans ((upd_ne (by omega)).trans ((upd_ne (by omega)).trans q2)))))) ?_
  rw [zI_add]
  refine wb (wI_e e1 (z := 6) (by omega)) ?_
  have e0 := (hup_ne h15 (e := .inl (0, 204, .inl (upd (upd (upd (upd (upd (upd (f) ((10 : Int)).toNat (zI (S.2.2.2.1 + 1))) (12 + 4 * (S.1.length : Int) + 0).toNat (zI (S.2.2.2.1 + 1))) (12 + 4 * (S.1.length : Int) + 1).toNat (zI p)) (12 + 4 * (S.1.length : Int) + 2).toNat (zI q)) (12 + 4 * (S.1.length : Int) + 3).toNat (zI x)) ((6 : Int)).toNat (zI (eOf S (-1) - sOf S (-1) + 1))))) (show m ≠ m + 1 by omega)).trans e0
  have e1 := ARR_eq h15 (m + 1) 204 (upd (upd (upd (upd (upd (upd (f) ((10 : Int)).toNat (zI (S.2.2.2.1 + 1))) (12 + 4 * (S.1.length : Int) + 0).toNat (zI (S.2.2.2.1 + 1))) (12 + 4 * (S.1.length : Int) + 1).toNat (zI p)) (12 + 4 * (S.1.length : Int) + 2).toNat (zI q)) (12 + 4 * (S.1.length : Int) + 3).toNat (zI x)) ((6 : Int)).toNat (zI (eOf S (-1) - sOf S (-1) + 1)))
  have g6 := OFF_up g5 (c := m + 1) (e := .inl (0, 204, .inl (upd (upd (upd (upd (upd (upd (f) ((10 : Int)).toNat (zI (S.2.2.2.1 + 1))) (12 + 4 * (S.1.length : Int) + 0).toNat (zI (S.2.2.2.1 + 1))) (12 + 4 * (S.1.length : Int) + 1).toNat (zI p)) (12 + 4 * (S.1.length : Int) + 2).toNat (zI q)) (12 + 4 * (S.1.length : Int) + 3).toNat (zI x)) ((6 : Int)).toNat (zI (eOf S (-1) - sOf S (-1) + 1))))) (by omega)
  generalize hup h15 (m + 1) _ = h16 at *
  refine wb (gR_e e0 rfl) ?_
  refine wb (aI_v e1 (z := 10) (by omega) ((upd_ne (by omega)).trans ((upd_ne (by omega)).trans ((upd_ne (by omega)).trans ((upd_ne (by omega)).trans ((upd_ne (by omega)).trans (upd_eq rfl))))))) ?_
  have hla : (S.1 ++ [(S.2.2.2.1 + 1, p, q, x)]).length = S.1.length + 1 := by
    rw [List.length_append, List.length_singleton]
  refine wr ⟨rfl, ⟨v, _, e0, e1, ⟨b1, ?_, b3⟩, (upd_ne (by omega)).trans ((upd_ne (by omega)).trans ((upd_ne (by omega)).trans ((upd_ne (by omega)).trans ((upd_ne (by omega)).trans ((upd_ne (by omega)).trans (q0)))))), fun i hi => ?_, (upd_eq rfl).trans ?_, (upd_ne (by omega)).trans ((upd_ne (by omega)).trans ((upd_ne (by omega)).trans ((upd_ne (by omega)).trans ((upd_ne (by omega)).trans ((upd_ne (by omega)).trans (q3)))))), fun i hi => ?_, (upd_ne (by omega)).trans ((upd_ne (by omega)).trans ((upd_ne (by omega)).trans ((upd_ne (by omega)).trans ((upd_ne (by omega)).trans (upd_eq rfl))))), (upd_ne (by omega)).trans ((upd_ne (by omega)).trans ((upd_ne (by omega)).trans ((upd_ne (by omega)).trans ((upd_ne (by omega)).trans ((upd_ne (by omega)).trans (q6)))))), fun j hj => ?_⟩, g6⟩
  · show (S.1 ++ [(S.2.2.2.1 + 1, p, q, x)]).length ≤ 48
    omega
  · have hi' : i < S.2.1.length := hi
    refine ((upd_ne (by omega)).trans ((upd_ne (by omega)).trans ((upd_ne (by omega)).trans ((upd_ne (by omega)).trans ((upd_ne (by omega)).trans ((upd_ne (by omega)).trans (q1 i hi))))))).trans ?_
    unfold eOf sOf
    dsimp only
    rw [if_pos (by omega), if_pos (by omega)]
  · rw [eOf_m1, eOf_m1]
    unfold sOf
    dsimp only
    rw [hla]
    exact congrArg zI (by omega)
  · have hi' : i < S.2.2.1.length := hi
    exact (upd_ne (by omega)).trans ((upd_ne (by omega)).trans ((upd_ne (by omega)).trans ((upd_ne (by omega)).trans ((upd_ne (by omega)).trans ((upd_ne (by omega)).trans (q4 i hi))))))
  · have hj' : j < S.1.length + 1 := by
      have : j < (S.1 ++ [(S.2.2.2.1 + 1, p, q, x)]).length := hj
      omega
    dsimp only
    by_cases c : j = S.1.length
    · rw [wat_last c]
      refine ⟨(upd_ne (by omega)).trans ((upd_ne (by omega)).trans ((upd_ne (by omega)).trans ((upd_ne (by omega)).trans (upd_eq (by omega))))), (upd_ne (by omega)).trans ((upd_ne (by omega)).trans ((upd_ne (by omega)).trans (upd_eq (by omega)))), (upd_ne (by omega)).trans ((upd_ne (by omega)).trans (upd_eq (by omega))), (upd_ne (by omega)).trans (upd_eq (by omega))⟩
    · rw [wat_app (by omega)]
      have hh := q7 j (by omega)
      exact ⟨(upd_ne (by omega)).trans ((upd_ne (by omega)).trans ((upd_ne (by omega)).trans ((upd_ne (by omega)).trans ((upd_ne (by omega)).trans ((upd_ne (by omega)).trans (hh.1)))))), (upd_ne (by omega)).trans ((upd_ne (by omega)).trans ((upd_ne (by omega)).trans ((upd_ne (by omega)).trans ((upd_ne (by omega)).trans ((upd_ne (by omega)).trans (hh.2.1)))))), (upd_ne (by omega)).trans ((upd_ne (by omega)).trans ((upd_ne (by omega)).trans ((upd_ne (by omega)).trans ((upd_ne (by omega)).trans ((upd_ne (by omega)).trans (hh.2.2.1)))))), (upd_ne (by omega)).trans ((upd_ne (by omega)).trans ((upd_ne (by omega)).trans ((upd_ne (by omega)).trans ((upd_ne (by omega)).trans ((upd_ne (by omega)).trans (hh.2.2.2))))))⟩
theorem X8_opens_is {h : HP} {m : Nat} {S : SG} (e : REF h m S) (hl : S.2.2.1.length < 2) : WP (f_X8_opens h m) (fun r => r.1 = zI S.2.2.1.length ∧ REF r.2 m (S.1, S.2.1, S.2.2.1 ++ [S.2.2.2.1], S.2.2.2.1, S.2.2.2.2) ∧ OFF (m + 1) 1 h r.2) := by
  obtain ⟨v, f, e0, e1, ⟨b1, b2, b3⟩, q0, q1, q2, q3, q4, q5, q6, q7⟩ := e
  unfold f_X8_opens b_X8_opens_0
  have g0 := OFF_refl (m + 1) 1 h
  simp only [zl1, show (2 : Int32) = zI 2 by decide, show (3 : Int32) = zI 3 by decide, show (6 : Int32) = zI 6 by decide, show (7 : Int32) = zI 7 by decide, show (8 : Int32) = zI 8 by decide, show (10 : Int32) = zI 10 by decide]
  refine wb (kO_e e0) ?_
  refine wb (gR_e e0 rfl) ?_
  refine wb (gR_e e0 rfl) ?_
  refine wb (aI_v e1 (z := 7) (by omega) q3) ?_
  refine wb (gR_e e0 rfl) ?_
  refine wb (aI_v e1 (z := 10) (by omega) q5) ?_
  rw [zI_add]
  refine wb (wI_e e1 (by omega)) ?_
  have e0 := (hup_ne h (e := .inl (0, 204, .inl (upd (f) (8 + (S.2.2.1.length : Int)).toNat (zI S.2.2.2.1)))) (show m ≠ m + 1 by omega)).trans e0
  have e1 := ARR_eq h (m + 1) 204 (upd (f) (8 + (S.2.2.1.length : Int)).toNat (zI S.2.2.2.1))
  have g1 := OFF_up g0 (c := m + 1) (e := .inl (0, 204, .inl (upd (f) (8 + (S.2.2.1.length : Int)).toNat (zI S.2.2.2.1)))) (by omega)
  generalize hup h (m + 1) _ = h11 at *
  refine wb (gR_e e0 rfl) ?_
  refine wb (aI_v e1 (z := 7) (by omega) ((upd_ne (by omega)).trans q3)) ?_
  rw [zI_add]
  refine wb (wI_e e1 (z := 7) (by omega)) ?_
  have e0 := (hup_ne h11 (e := .inl (0, 204, .inl (upd (upd (f) (8 + (S.2.2.1.length : Int)).toNat (zI S.2.2.2.1)) ((7 : Int)).toNat (zI (S.2.2.1.length + 1))))) (show m ≠ m + 1 by omega)).trans e0
  have e1 := ARR_eq h11 (m + 1) 204 (upd (upd (f) (8 + (S.2.2.1.length : Int)).toNat (zI S.2.2.2.1)) ((7 : Int)).toNat (zI (S.2.2.1.length + 1)))
  have g2 := OFF_up g1 (c := m + 1) (e := .inl (0, 204, .inl (upd (upd (f) (8 + (S.2.2.1.length : Int)).toNat (zI S.2.2.2.1)) ((7 : Int)).toNat (zI (S.2.2.1.length + 1))))) (by omega)
  generalize hup h11 (m + 1) _ = h12 at *
  refine wb (gR_e e0 rfl) ?_
  refine wb (aI_v e1 (z := 7) (by omega) (upd_eq rfl)) ?_
  have hla : (S.2.2.1 ++ [S.2.2.2.1]).length = S.2.2.1.length + 1 := by
    rw [List.length_append, List.length_singleton]
  refine wr ⟨?_, ⟨v, _, e0, e1, ⟨b1, b2, ?_⟩, (upd_ne (by omega)).trans ((upd_ne (by omega)).trans (q0)), fun i hi => ?_, (upd_ne (by omega)).trans ((upd_ne (by omega)).trans (q2)), (upd_eq rfl).trans ?_, fun i hi => ?_, (upd_ne (by omega)).trans ((upd_ne (by omega)).trans (q5)), (upd_ne (by omega)).trans ((upd_ne (by omega)).trans (q6)), fun j hj => ?_⟩, g2⟩
  · dsimp only
    rw [zI_sub]
    exact congrArg zI (by omega)
  · show (S.2.2.1 ++ [S.2.2.2.1]).length ≤ 2
    omega
  · have hi' : i < S.2.1.length := hi
    exact (upd_ne (by omega)).trans ((upd_ne (by omega)).trans (q1 i hi))
  · dsimp only
    rw [hla]
    rfl
  · have hi' : i < S.2.2.1.length + 1 := by
      have : i < (S.2.2.1 ++ [S.2.2.2.1]).length := hi
      omega
    dsimp only
    by_cases c : i = S.2.2.1.length
    · rw [iat_last c]
      exact (upd_ne (by omega)).trans (upd_eq (by omega))
    · rw [iat_app (by omega)]
      exact (upd_ne (by omega)).trans ((upd_ne (by omega)).trans (q4 i (by omega)))
  · have hh := q7 j hj
    exact ⟨(upd_ne (by omega)).trans ((upd_ne (by omega)).trans (hh.1)), (upd_ne (by omega)).trans ((upd_ne (by omega)).trans (hh.2.1)), (upd_ne (by omega)).trans ((upd_ne (by omega)).trans (hh.2.2.1)), (upd_ne (by omega)).trans ((upd_ne (by omega)).trans (hh.2.2.2))⟩
