theorem X8_closes_is {h : HP} {m : Nat} {S : SG} (e : REF h m S) {i : Int} (hi : 0 ≤ i ∧ i < S.2.2.1.length) : WP (f_X8_closes h m (zI i)) (fun r => r.1 = zI (S.2.2.1.length - 1) ∧ REF r.2 m (S.1, S.2.1, S.2.2.1.eraseIdx i.toNat, S.2.2.2.1, S.2.2.2.2) ∧ OFF (m + 1) 1 h r.2) := by
  obtain ⟨v, f, e0, e1, ⟨b1, b2, b3⟩, q0, q1, q2, q3, q4, q5, q6, q7⟩ := e
  have hle : (S.2.2.1.eraseIdx i.toNat).length = S.2.2.1.length - 1 := List.length_eraseIdx_of_lt (by omega)
  unfold f_X8_closes b_X8_closes_0
  have g0 := OFF_refl (m + 1) 1 h
  simp only [zl1, show (7 : Int32) = zI 7 by decide, show (8 : Int32) = zI 8 by decide]
  refine wb (kO_e e0) ?_
  refine wb (gR_e e0 rfl) ?_
  refine wb (aI_v e1 (z := 7) (by omega) q3) ?_
  rw [zI_sub]
  refine wb (wI_e e1 (z := 7) (by omega)) ?_
  have e0 := (hup_ne h (e := .inl (0, 204, .inl (upd (f) ((7 : Int)).toNat (zI (S.2.2.1.length - 1))))) (show m ≠ m + 1 by omega)).trans e0
  have e1 := ARR_eq h (m + 1) 204 (upd (f) ((7 : Int)).toNat (zI (S.2.2.1.length - 1)))
  have g1 := OFF_up g0 (c := m + 1) (e := .inl (0, 204, .inl (upd (f) ((7 : Int)).toNat (zI (S.2.2.1.length - 1))))) (by omega)
  generalize hup h (m + 1) _ = h11 at *
  refine wb (gR_e e0 rfl) ?_
  refine wb (gR_e e0 rfl) ?_
  refine wb (aI_v e1 (z := 7) (by omega) (upd_eq rfl)) ?_
  have fin : ∀ x : Int32, (∀ j : Nat, j = i.toNat → j < S.2.2.1.length - 1 → x = zI (iat S.2.2.1 (j + 1 : Nat))) → WP (b_X8_closes_53 m h11 (m + 1) (zI (8 + i)) x) (fun r => r.1 = zI (S.2.2.1.length - 1) ∧ REF r.2 m (S.1, S.2.1, S.2.2.1.eraseIdx i.toNat, S.2.2.2.1, S.2.2.2.2) ∧ OFF (m + 1) 1 h r.2) := by
    intro x hx
    unfold b_X8_closes_53
    simp only [show (7 : Int32) = zI 7 by decide, show (8 : Int32) = zI 8 by decide]
    refine wb (wI_e e1 (by omega)) ?_
    have e0' := (hup_ne h11 (e := .inl (0, 204, .inl (upd (upd (f) ((7 : Int)).toNat (zI (S.2.2.1.length - 1))) (8 + i).toNat x))) (show m ≠ m + 1 by omega)).trans e0
    have e1' := ARR_eq h11 (m + 1) 204 (upd (upd (f) ((7 : Int)).toNat (zI (S.2.2.1.length - 1))) (8 + i).toNat x)
    refine wb (gR_e e0' rfl) ?_
    refine wb (aI_v e1' (z := 7) (by omega) ((upd_ne (by omega)).trans (upd_eq rfl))) ?_
    refine wr ⟨rfl, ⟨v, _, e0', e1', ⟨b1, b2, ?_⟩, (upd_ne (by omega)).trans ((upd_ne (by omega)).trans (q0)), fun j hj => ?_, (upd_ne (by omega)).trans ((upd_ne (by omega)).trans (q2)), ((upd_ne (by omega)).trans (upd_eq rfl)).trans ?_, fun j hj => ?_, (upd_ne (by omega)).trans ((upd_ne (by omega)).trans (q5)), (upd_ne (by omega)).trans ((upd_ne (by omega)).trans (q6)), fun j hj => ?_⟩, OFF_up g1 (by omega)⟩
    · show (S.2.2.1.eraseIdx i.toNat).length ≤ 2
      omega
    · have hj' : j < S.2.1.length := hj
      exact (upd_ne (by omega)).trans ((upd_ne (by omega)).trans (q1 j hj))
    · show zI _ = zI (S.2.2.1.eraseIdx i.toNat).length
      rw [hle]
      exact congrArg zI (by omega)
    · have hj' : j < (S.2.2.1.eraseIdx i.toNat).length := hj
      show _ = zI (iat (S.2.2.1.eraseIdx i.toNat) j)
      rw [iat_get hj', List.getElem_eraseIdx]
      by_cases c : j < i.toNat
      · rw [dif_pos c, ← iat_get (by omega)]
        exact (upd_ne (by omega)).trans ((upd_ne (by omega)).trans (q4 j (by omega)))
      · rw [dif_neg c, ← iat_get (by omega)]
        have : j = i.toNat := by omega
        exact (upd_eq (by omega)).trans (hx j this (by omega))
    · have hh := q7 j hj
      exact ⟨(upd_ne (by omega)).trans ((upd_ne (by omega)).trans (hh.1)), (upd_ne (by omega)).trans ((upd_ne (by omega)).trans (hh.2.1)), (upd_ne (by omega)).trans ((upd_ne (by omega)).trans (hh.2.2.1)), (upd_ne (by omega)).trans ((upd_ne (by omega)).trans (hh.2.2.2))⟩
  by_cases c : (S.2.2.1.length : Int) - 1 ≤ i
  · refine wt ((zI_le (by omega)).mpr c) ?_
    refine wb (gR_e e0 rfl) ?_
    rw [zI_add]
    refine wb (aI_e e1 (by omega)) ?_
    exact fin _ (fun j h1 h2 => absurd h2 (by omega))
  · refine wf (fun d => c ((zI_le (by omega)).mp d)) ?_
    refine wb (gR_e e0 rfl) ?_
    rw [zI_add, zI_add]
    refine wb (aI_e e1 (by omega)) ?_
    refine fin _ (fun j h1 h2 => ?_)
    have := q4 (j + 1) (by omega)
    rw [← this, upd_ne (by omega)]
    exact congrArg f (by omega)
